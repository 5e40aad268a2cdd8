theorem dX7_init_0 : decode cX7_init 0 = .ok (.aload_n 0, 1) := by decide +kernel
theorem dX7_init_1 : decode cX7_init 1 = .ok (.invokespecial 1, 3) := by decide +kernel
theorem dX7_init_4 : decode cX7_init 4 = .ok (.aload_n 0, 1) := by decide +kernel
theorem dX7_init_5 : decode cX7_init 5 = .ok (.sipush 387, 3) := by decide +kernel
theorem dX7_init_8 : decode cX7_init 8 = .ok (.newarray .int, 2) := by decide +kernel
theorem dX7_init_10 : decode cX7_init 10 = .ok (.putfield 7, 3) := by decide +kernel
theorem dX7_init_13 : decode cX7_init 13 = .ok (.aload_n 0, 1) := by decide +kernel
theorem dX7_init_14 : decode cX7_init 14 = .ok (.sipush 387, 3) := by decide +kernel
theorem dX7_init_17 : decode cX7_init 17 = .ok (.newarray .int, 2) := by decide +kernel
theorem dX7_init_19 : decode cX7_init 19 = .ok (.putfield 13, 3) := by decide +kernel
theorem dX7_init_22 : decode cX7_init 22 = .ok (.aload_n 0, 1) := by decide +kernel
theorem dX7_init_23 : decode cX7_init 23 = .ok (.bipush 53, 2) := by decide +kernel
theorem dX7_init_25 : decode cX7_init 25 = .ok (.newarray .int, 2) := by decide +kernel
theorem dX7_init_27 : decode cX7_init 27 = .ok (.putfield 16, 3) := by decide +kernel
theorem dX7_init_30 : decode cX7_init 30 = .ok (.aload_n 0, 1) := by decide +kernel
theorem dX7_init_31 : decode cX7_init 31 = .ok (.bipush 7, 2) := by decide +kernel
theorem dX7_init_33 : decode cX7_init 33 = .ok (.newarray .int, 2) := by decide +kernel
theorem dX7_init_35 : decode cX7_init 35 = .ok (.putfield 19, 3) := by decide +kernel
theorem dX7_init_38 : decode cX7_init 38 = .ok (.aload_n 0, 1) := by decide +kernel
theorem dX7_init_39 : decode cX7_init 39 = .ok (.bipush 124, 2) := by decide +kernel
theorem dX7_init_41 : decode cX7_init 41 = .ok (.newarray .int, 2) := by decide +kernel
theorem dX7_init_43 : decode cX7_init 43 = .ok (.putfield 22, 3) := by decide +kernel
theorem dX7_init_46 : decode cX7_init 46 = .ok (.aload_n 0, 1) := by decide +kernel
theorem dX7_init_47 : decode cX7_init 47 = .ok (.sipush 128, 3) := by decide +kernel
theorem dX7_init_50 : decode cX7_init 50 = .ok (.newarray .int, 2) := by decide +kernel
theorem dX7_init_52 : decode cX7_init 52 = .ok (.putfield 25, 3) := by decide +kernel
theorem dX7_init_55 : decode cX7_init 55 = .ok (.aload_n 0, 1) := by decide +kernel
theorem dX7_init_56 : decode cX7_init 56 = .ok (.bipush 64, 2) := by decide +kernel
theorem dX7_init_58 : decode cX7_init 58 = .ok (.newarray .int, 2) := by decide +kernel
theorem dX7_init_60 : decode cX7_init 60 = .ok (.putfield 28, 3) := by decide +kernel
theorem dX7_init_63 : decode cX7_init 63 = .ok (.aload_n 0, 1) := by decide +kernel
theorem dX7_init_64 : decode cX7_init 64 = .ok (.bipush 9, 2) := by decide +kernel
theorem dX7_init_66 : decode cX7_init 66 = .ok (.newarray .int, 2) := by decide +kernel
theorem dX7_init_68 : decode cX7_init 68 = .ok (.putfield 31, 3) := by decide +kernel
theorem dX7_init_71 : decode cX7_init 71 = .ok (.aload_n 0, 1) := by decide +kernel
theorem dX7_init_72 : decode cX7_init 72 = .ok (.bipush 9, 2) := by decide +kernel
theorem dX7_init_74 : decode cX7_init 74 = .ok (.newarray .boolean, 2) := by decide +kernel
theorem dX7_init_76 : decode cX7_init 76 = .ok (.putfield 34, 3) := by decide +kernel
theorem dX7_init_79 : decode cX7_init 79 = .ok (.aload_n 0, 1) := by decide +kernel
theorem dX7_init_80 : decode cX7_init 80 = .ok (.bipush 30, 2) := by decide +kernel
theorem dX7_init_82 : decode cX7_init 82 = .ok (.newarray .int, 2) := by decide +kernel
theorem dX7_init_84 : decode cX7_init 84 = .ok (.putfield 38, 3) := by decide +kernel
theorem dX7_init_87 : decode cX7_init 87 = .ok (.aload_n 0, 1) := by decide +kernel
theorem dX7_init_88 : decode cX7_init 88 = .ok (.iconst 4, 1) := by decide +kernel
theorem dX7_init_89 : decode cX7_init 89 = .ok (.newarray .int, 2) := by decide +kernel
theorem dX7_init_91 : decode cX7_init 91 = .ok (.putfield 41, 3) := by decide +kernel
theorem dX7_init_94 : decode cX7_init 94 = .ok (.aload_n 0, 1) := by decide +kernel
theorem dX7_init_95 : decode cX7_init 95 = .ok (.iconst 4, 1) := by decide +kernel
theorem dX7_init_96 : decode cX7_init 96 = .ok (.newarray .int, 2) := by decide +kernel
theorem dX7_init_98 : decode cX7_init 98 = .ok (.putfield 44, 3) := by decide +kernel
theorem dX7_init_101 : decode cX7_init 101 = .ok (.aload_n 0, 1) := by decide +kernel
theorem dX7_init_102 : decode cX7_init 102 = .ok (.bipush 96, 2) := by decide +kernel
theorem dX7_init_104 : decode cX7_init 104 = .ok (.newarray .int, 2) := by decide +kernel
theorem dX7_init_106 : decode cX7_init 106 = .ok (.putfield 47, 3) := by decide +kernel
theorem dX7_init_109 : decode cX7_init 109 = .ok (.aload_n 0, 1) := by decide +kernel
theorem dX7_init_110 : decode cX7_init 110 = .ok (.bipush 24, 2) := by decide +kernel
theorem dX7_init_112 : decode cX7_init 112 = .ok (.newarray .int, 2) := by decide +kernel
theorem dX7_init_114 : decode cX7_init 114 = .ok (.putfield 50, 3) := by decide +kernel
theorem dX7_init_117 : decode cX7_init 117 = .ok (.aload_n 0, 1) := by decide +kernel
theorem dX7_init_118 : decode cX7_init 118 = .ok (.getfield 7, 3) := by decide +kernel
theorem dX7_init_121 : decode cX7_init 121 = .ok (.iconst 2, 1) := by decide +kernel
theorem dX7_init_122 : decode cX7_init 122 = .ok (.iconst 1, 1) := by decide +kernel
theorem dX7_init_123 : decode cX7_init 123 = .ok (.iastore, 1) := by decide +kernel
theorem dX7_init_124 : decode cX7_init 124 = .ok (.return_, 1) := by decide +kernel
theorem dX7_error_0 : decode cX7_error 0 = .ok (.aload_n 0, 1) := by decide +kernel
theorem dX7_error_1 : decode cX7_error 1 = .ok (.getfield 19, 3) := by decide +kernel
theorem dX7_error_4 : decode cX7_error 4 = .ok (.iload_n 1, 1) := by decide +kernel
theorem dX7_error_5 : decode cX7_error 5 = .ok (.dup2, 1) := by decide +kernel
theorem dX7_error_6 : decode cX7_error 6 = .ok (.iaload, 1) := by decide +kernel
theorem dX7_error_7 : decode cX7_error 7 = .ok (.iconst 1, 1) := by decide +kernel
theorem dX7_error_8 : decode cX7_error 8 = .ok (.iadd, 1) := by decide +kernel
theorem dX7_error_9 : decode cX7_error 9 = .ok (.iastore, 1) := by decide +kernel
theorem dX7_error_10 : decode cX7_error 10 = .ok (.ldc 53, 2) := by decide +kernel
theorem dX7_error_12 : decode cX7_error 12 = .ok (.iload_n 1, 1) := by decide +kernel
theorem dX7_error_13 : decode cX7_error 13 = .ok (.isub, 1) := by decide +kernel
theorem dX7_error_14 : decode cX7_error 14 = .ok (.ireturn, 1) := by decide +kernel
theorem dX7_in_0 : decode cX7_in 0 = .ok (.iload_n 0, 1) := by decide +kernel
theorem dX7_in_1 : decode cX7_in 1 = .ok (.iload_n 1, 1) := by decide +kernel
theorem dX7_in_2 : decode cX7_in 2 = .ok (.if_icmp .lt 12, 3) := by decide +kernel
theorem dX7_in_5 : decode cX7_in 5 = .ok (.iload_n 0, 1) := by decide +kernel
theorem dX7_in_6 : decode cX7_in 6 = .ok (.iload_n 2, 1) := by decide +kernel
theorem dX7_in_7 : decode cX7_in 7 = .ok (.if_icmp .gt 7, 3) := by decide +kernel
theorem dX7_in_10 : decode cX7_in 10 = .ok (.iconst 1, 1) := by decide +kernel
theorem dX7_in_11 : decode cX7_in 11 = .ok (.goto 4, 3) := by decide +kernel
theorem dX7_in_14 : decode cX7_in 14 = .ok (.iconst 0, 1) := by decide +kernel
theorem dX7_in_15 : decode cX7_in 15 = .ok (.ireturn, 1) := by decide +kernel
theorem dX7_held_0 : decode cX7_held 0 = .ok (.iload_n 0, 1) := by decide +kernel
theorem dX7_held_1 : decode cX7_held 1 = .ok (.iload_n 1, 1) := by decide +kernel
theorem dX7_held_2 : decode cX7_held 2 = .ok (.if_icmp .ge 7, 3) := by decide +kernel
theorem dX7_held_5 : decode cX7_held 5 = .ok (.iload_n 1, 1) := by decide +kernel
theorem dX7_held_6 : decode cX7_held 6 = .ok (.goto 13, 3) := by decide +kernel
theorem dX7_held_9 : decode cX7_held 9 = .ok (.iload_n 0, 1) := by decide +kernel
theorem dX7_held_10 : decode cX7_held 10 = .ok (.iload_n 2, 1) := by decide +kernel
theorem dX7_held_11 : decode cX7_held 11 = .ok (.if_icmp .le 7, 3) := by decide +kernel
theorem dX7_held_14 : decode cX7_held 14 = .ok (.iload_n 2, 1) := by decide +kernel
theorem dX7_held_15 : decode cX7_held 15 = .ok (.goto 4, 3) := by decide +kernel
theorem dX7_held_18 : decode cX7_held 18 = .ok (.iload_n 0, 1) := by decide +kernel
theorem dX7_held_19 : decode cX7_held 19 = .ok (.ireturn, 1) := by decide +kernel
theorem dX7_copyAll_0 : decode cX7_copyAll 0 = .ok (.iconst 0, 1) := by decide +kernel
theorem dX7_copyAll_1 : decode cX7_copyAll 1 = .ok (.istore_n 2, 1) := by decide +kernel
theorem dX7_copyAll_2 : decode cX7_copyAll 2 = .ok (.iload_n 2, 1) := by decide +kernel
theorem dX7_copyAll_3 : decode cX7_copyAll 3 = .ok (.sipush 387, 3) := by decide +kernel
theorem dX7_copyAll_6 : decode cX7_copyAll 6 = .ok (.if_icmp .ge 15, 3) := by decide +kernel
theorem dX7_copyAll_9 : decode cX7_copyAll 9 = .ok (.aload_n 1, 1) := by decide +kernel
theorem dX7_copyAll_10 : decode cX7_copyAll 10 = .ok (.iload_n 2, 1) := by decide +kernel
theorem dX7_copyAll_11 : decode cX7_copyAll 11 = .ok (.aload_n 0, 1) := by decide +kernel
theorem dX7_copyAll_12 : decode cX7_copyAll 12 = .ok (.iload_n 2, 1) := by decide +kernel
theorem dX7_copyAll_13 : decode cX7_copyAll 13 = .ok (.iaload, 1) := by decide +kernel
theorem dX7_copyAll_14 : decode cX7_copyAll 14 = .ok (.iastore, 1) := by decide +kernel
theorem dX7_copyAll_15 : decode cX7_copyAll 15 = .ok (.iinc 2 1, 3) := by decide +kernel
theorem dX7_copyAll_18 : decode cX7_copyAll 18 = .ok (.goto (-16), 3) := by decide +kernel
theorem dX7_copyAll_21 : decode cX7_copyAll 21 = .ok (.return_, 1) := by decide +kernel
theorem dX7_layDown_0 : decode cX7_layDown 0 = .ok (.iconst 0, 1) := by decide +kernel
theorem dX7_layDown_1 : decode cX7_layDown 1 = .ok (.istore_n 1, 1) := by decide +kernel
theorem dX7_layDown_2 : decode cX7_layDown 2 = .ok (.iload_n 1, 1) := by decide +kernel
theorem dX7_layDown_3 : decode cX7_layDown 3 = .ok (.bipush 53, 2) := by decide +kernel
theorem dX7_layDown_5 : decode cX7_layDown 5 = .ok (.if_icmp .ge 21, 3) := by decide +kernel
theorem dX7_layDown_8 : decode cX7_layDown 8 = .ok (.aload_n 0, 1) := by decide +kernel
theorem dX7_layDown_9 : decode cX7_layDown 9 = .ok (.getfield 16, 3) := by decide +kernel
theorem dX7_layDown_12 : decode cX7_layDown 12 = .ok (.iload_n 1, 1) := by decide +kernel
theorem dX7_layDown_13 : decode cX7_layDown 13 = .ok (.aload_n 0, 1) := by decide +kernel
theorem dX7_layDown_14 : decode cX7_layDown 14 = .ok (.getfield 7, 3) := by decide +kernel
theorem dX7_layDown_17 : decode cX7_layDown 17 = .ok (.iload_n 1, 1) := by decide +kernel
theorem dX7_layDown_18 : decode cX7_layDown 18 = .ok (.iaload, 1) := by decide +kernel
theorem dX7_layDown_19 : decode cX7_layDown 19 = .ok (.iastore, 1) := by decide +kernel
theorem dX7_layDown_20 : decode cX7_layDown 20 = .ok (.iinc 1 1, 3) := by decide +kernel
theorem dX7_layDown_23 : decode cX7_layDown 23 = .ok (.goto (-21), 3) := by decide +kernel
theorem dX7_layDown_26 : decode cX7_layDown 26 = .ok (.return_, 1) := by decide +kernel
theorem dX7_layBack_0 : decode cX7_layBack 0 = .ok (.iconst 0, 1) := by decide +kernel
theorem dX7_layBack_1 : decode cX7_layBack 1 = .ok (.istore_n 1, 1) := by decide +kernel
theorem dX7_layBack_2 : decode cX7_layBack 2 = .ok (.iload_n 1, 1) := by decide +kernel
theorem dX7_layBack_3 : decode cX7_layBack 3 = .ok (.bipush 53, 2) := by decide +kernel
theorem dX7_layBack_5 : decode cX7_layBack 5 = .ok (.if_icmp .ge 21, 3) := by decide +kernel
theorem dX7_layBack_8 : decode cX7_layBack 8 = .ok (.aload_n 0, 1) := by decide +kernel
theorem dX7_layBack_9 : decode cX7_layBack 9 = .ok (.getfield 7, 3) := by decide +kernel
theorem dX7_layBack_12 : decode cX7_layBack 12 = .ok (.iload_n 1, 1) := by decide +kernel
theorem dX7_layBack_13 : decode cX7_layBack 13 = .ok (.aload_n 0, 1) := by decide +kernel
theorem dX7_layBack_14 : decode cX7_layBack 14 = .ok (.getfield 16, 3) := by decide +kernel
theorem dX7_layBack_17 : decode cX7_layBack 17 = .ok (.iload_n 1, 1) := by decide +kernel
theorem dX7_layBack_18 : decode cX7_layBack 18 = .ok (.iaload, 1) := by decide +kernel
theorem dX7_layBack_19 : decode cX7_layBack 19 = .ok (.iastore, 1) := by decide +kernel
theorem dX7_layBack_20 : decode cX7_layBack 20 = .ok (.iinc 1 1, 3) := by decide +kernel
theorem dX7_layBack_23 : decode cX7_layBack 23 = .ok (.goto (-21), 3) := by decide +kernel
theorem dX7_layBack_26 : decode cX7_layBack 26 = .ok (.return_, 1) := by decide +kernel
theorem dX7_isDish_0 : decode cX7_isDish 0 = .ok (.iload_n 1, 1) := by decide +kernel
theorem dX7_isDish_1 : decode cX7_isDish 1 = .ok (.iconst 0, 1) := by decide +kernel
theorem dX7_isDish_2 : decode cX7_isDish 2 = .ok (.aload_n 0, 1) := by decide +kernel
theorem dX7_isDish_3 : decode cX7_isDish 3 = .ok (.getfield 7, 3) := by decide +kernel
theorem dX7_isDish_6 : decode cX7_isDish 6 = .ok (.iconst 5, 1) := by decide +kernel
theorem dX7_isDish_7 : decode cX7_isDish 7 = .ok (.iaload, 1) := by decide +kernel
theorem dX7_isDish_8 : decode cX7_isDish 8 = .ok (.iconst 1, 1) := by decide +kernel
theorem dX7_isDish_9 : decode cX7_isDish 9 = .ok (.isub, 1) := by decide +kernel
theorem dX7_isDish_10 : decode cX7_isDish 10 = .ok (.invokestatic 54, 3) := by decide +kernel
theorem dX7_isDish_13 : decode cX7_isDish 13 = .ok (.ireturn, 1) := by decide +kernel
theorem dX7_its_0 : decode cX7_its 0 = .ok (.aload_n 0, 1) := by decide +kernel
theorem dX7_its_1 : decode cX7_its 1 = .ok (.getfield 7, 3) := by decide +kernel
theorem dX7_its_4 : decode cX7_its 4 = .ok (.bipush 8, 2) := by decide +kernel
theorem dX7_its_6 : decode cX7_its 6 = .ok (.iconst 5, 1) := by decide +kernel
theorem dX7_its_7 : decode cX7_its 7 = .ok (.iload_n 1, 1) := by decide +kernel
theorem dX7_its_8 : decode cX7_its 8 = .ok (.imul, 1) := by decide +kernel
theorem dX7_its_9 : decode cX7_its 9 = .ok (.iadd, 1) := by decide +kernel
theorem dX7_its_10 : decode cX7_its 10 = .ok (.iload_n 2, 1) := by decide +kernel
theorem dX7_its_11 : decode cX7_its 11 = .ok (.iadd, 1) := by decide +kernel
theorem dX7_its_12 : decode cX7_its 12 = .ok (.iaload, 1) := by decide +kernel
theorem dX7_its_13 : decode cX7_its 13 = .ok (.ireturn, 1) := by decide +kernel
theorem dX7_lays1_0 : decode cX7_lays1 0 = .ok (.aload_n 0, 1) := by decide +kernel
theorem dX7_lays1_1 : decode cX7_lays1 1 = .ok (.getfield 7, 3) := by decide +kernel
theorem dX7_lays1_4 : decode cX7_lays1 4 = .ok (.bipush 8, 2) := by decide +kernel
theorem dX7_lays1_6 : decode cX7_lays1 6 = .ok (.iconst 5, 1) := by decide +kernel
theorem dX7_lays1_7 : decode cX7_lays1 7 = .ok (.iload_n 1, 1) := by decide +kernel
theorem dX7_lays1_8 : decode cX7_lays1 8 = .ok (.imul, 1) := by decide +kernel
theorem dX7_lays1_9 : decode cX7_lays1 9 = .ok (.iadd, 1) := by decide +kernel
theorem dX7_lays1_10 : decode cX7_lays1 10 = .ok (.iload_n 2, 1) := by decide +kernel
theorem dX7_lays1_11 : decode cX7_lays1 11 = .ok (.iadd, 1) := by decide +kernel
theorem dX7_lays1_12 : decode cX7_lays1 12 = .ok (.iload_n 3, 1) := by decide +kernel
theorem dX7_lays1_13 : decode cX7_lays1 13 = .ok (.iastore, 1) := by decide +kernel
theorem dX7_lays1_14 : decode cX7_lays1 14 = .ok (.return_, 1) := by decide +kernel
theorem dX7_change1_0 : decode cX7_change1 0 = .ok (.aload_n 0, 1) := by decide +kernel
theorem dX7_change1_1 : decode cX7_change1 1 = .ok (.getfield 7, 3) := by decide +kernel
theorem dX7_change1_4 : decode cX7_change1 4 = .ok (.iload_n 1, 1) := by decide +kernel
theorem dX7_change1_5 : decode cX7_change1 5 = .ok (.iaload, 1) := by decide +kernel
theorem dX7_change1_6 : decode cX7_change1 6 = .ok (.istore_n 3, 1) := by decide +kernel
theorem dX7_change1_7 : decode cX7_change1 7 = .ok (.aload_n 0, 1) := by decide +kernel
theorem dX7_change1_8 : decode cX7_change1 8 = .ok (.getfield 7, 3) := by decide +kernel
theorem dX7_change1_11 : decode cX7_change1 11 = .ok (.iload_n 1, 1) := by decide +kernel
theorem dX7_change1_12 : decode cX7_change1 12 = .ok (.iload_n 2, 1) := by decide +kernel
theorem dX7_change1_13 : decode cX7_change1 13 = .ok (.iastore, 1) := by decide +kernel
theorem dX7_change1_14 : decode cX7_change1 14 = .ok (.iload_n 3, 1) := by decide +kernel
theorem dX7_change1_15 : decode cX7_change1 15 = .ok (.ireturn, 1) := by decide +kernel
theorem dX7_feed_0 : decode cX7_feed 0 = .ok (.iload_n 3, 1) := by decide +kernel
theorem dX7_feed_1 : decode cX7_feed 1 = .ok (.iconst 1, 1) := by decide +kernel
theorem dX7_feed_2 : decode cX7_feed 2 = .ok (.bipush 8, 2) := by decide +kernel
theorem dX7_feed_4 : decode cX7_feed 4 = .ok (.invokestatic 54, 3) := by decide +kernel
theorem dX7_feed_7 : decode cX7_feed 7 = .ok (.ifCond .ne 9, 3) := by decide +kernel
theorem dX7_feed_10 : decode cX7_feed 10 = .ok (.aload_n 0, 1) := by decide +kernel
theorem dX7_feed_11 : decode cX7_feed 11 = .ok (.iconst 1, 1) := by decide +kernel
theorem dX7_feed_12 : decode cX7_feed 12 = .ok (.invokevirtual 58, 3) := by decide +kernel
theorem dX7_feed_15 : decode cX7_feed 15 = .ok (.ireturn, 1) := by decide +kernel
theorem dX7_feed_16 : decode cX7_feed 16 = .ok (.aload_n 0, 1) := by decide +kernel
theorem dX7_feed_17 : decode cX7_feed 17 = .ok (.getfield 7, 3) := by decide +kernel
theorem dX7_feed_20 : decode cX7_feed 20 = .ok (.iconst 3, 1) := by decide +kernel
theorem dX7_feed_21 : decode cX7_feed 21 = .ok (.iaload, 1) := by decide +kernel
theorem dX7_feed_22 : decode cX7_feed 22 = .ok (.iload_n 3, 1) := by decide +kernel
theorem dX7_feed_23 : decode cX7_feed 23 = .ok (.iadd, 1) := by decide +kernel
theorem dX7_feed_24 : decode cX7_feed 24 = .ok (.bipush 60, 2) := by decide +kernel
theorem dX7_feed_26 : decode cX7_feed 26 = .ok (.if_icmp .le 9, 3) := by decide +kernel
theorem dX7_feed_29 : decode cX7_feed 29 = .ok (.aload_n 0, 1) := by decide +kernel
theorem dX7_feed_30 : decode cX7_feed 30 = .ok (.iconst 4, 1) := by decide +kernel
theorem dX7_feed_31 : decode cX7_feed 31 = .ok (.invokevirtual 58, 3) := by decide +kernel
theorem dX7_feed_34 : decode cX7_feed 34 = .ok (.ireturn, 1) := by decide +kernel
theorem dX7_feed_35 : decode cX7_feed 35 = .ok (.iconst 0, 1) := by decide +kernel
theorem dX7_feed_36 : decode cX7_feed 36 = .ok (.istore 4, 2) := by decide +kernel
theorem dX7_feed_38 : decode cX7_feed 38 = .ok (.iload 4, 2) := by decide +kernel
theorem dX7_feed_40 : decode cX7_feed 40 = .ok (.iload_n 3, 1) := by decide +kernel
theorem dX7_feed_41 : decode cX7_feed 41 = .ok (.if_icmp .ge 46, 3) := by decide +kernel
theorem dX7_feed_44 : decode cX7_feed 44 = .ok (.aload_n 0, 1) := by decide +kernel
theorem dX7_feed_45 : decode cX7_feed 45 = .ok (.getfield 7, 3) := by decide +kernel
theorem dX7_feed_48 : decode cX7_feed 48 = .ok (.sipush 303, 3) := by decide +kernel
theorem dX7_feed_51 : decode cX7_feed 51 = .ok (.aload_n 0, 1) := by decide +kernel
theorem dX7_feed_52 : decode cX7_feed 52 = .ok (.getfield 7, 3) := by decide +kernel
theorem dX7_feed_55 : decode cX7_feed 55 = .ok (.iconst 3, 1) := by decide +kernel
theorem dX7_feed_56 : decode cX7_feed 56 = .ok (.iaload, 1) := by decide +kernel
theorem dX7_feed_57 : decode cX7_feed 57 = .ok (.iadd, 1) := by decide +kernel
theorem dX7_feed_58 : decode cX7_feed 58 = .ok (.lload_n 1, 1) := by decide +kernel
theorem dX7_feed_59 : decode cX7_feed 59 = .ok (.bipush 8, 2) := by decide +kernel
theorem dX7_feed_61 : decode cX7_feed 61 = .ok (.iload 4, 2) := by decide +kernel
theorem dX7_feed_63 : decode cX7_feed 63 = .ok (.imul, 1) := by decide +kernel
theorem dX7_feed_64 : decode cX7_feed 64 = .ok (.lshr, 1) := by decide +kernel
theorem dX7_feed_65 : decode cX7_feed 65 = .ok (.ldc2_w 62, 3) := by decide +kernel
theorem dX7_feed_68 : decode cX7_feed 68 = .ok (.land, 1) := by decide +kernel
theorem dX7_feed_69 : decode cX7_feed 69 = .ok (.l2i, 1) := by decide +kernel
theorem dX7_feed_70 : decode cX7_feed 70 = .ok (.iastore, 1) := by decide +kernel
theorem dX7_feed_71 : decode cX7_feed 71 = .ok (.aload_n 0, 1) := by decide +kernel
theorem dX7_feed_72 : decode cX7_feed 72 = .ok (.getfield 7, 3) := by decide +kernel
theorem dX7_feed_75 : decode cX7_feed 75 = .ok (.iconst 3, 1) := by decide +kernel
theorem dX7_feed_76 : decode cX7_feed 76 = .ok (.dup2, 1) := by decide +kernel
theorem dX7_feed_77 : decode cX7_feed 77 = .ok (.iaload, 1) := by decide +kernel
theorem dX7_feed_78 : decode cX7_feed 78 = .ok (.iconst 1, 1) := by decide +kernel
theorem dX7_feed_79 : decode cX7_feed 79 = .ok (.iadd, 1) := by decide +kernel
theorem dX7_feed_80 : decode cX7_feed 80 = .ok (.iastore, 1) := by decide +kernel
theorem dX7_feed_81 : decode cX7_feed 81 = .ok (.iinc 4 1, 3) := by decide +kernel
theorem dX7_feed_84 : decode cX7_feed 84 = .ok (.goto (-46), 3) := by decide +kernel
theorem dX7_feed_87 : decode cX7_feed 87 = .ok (.aload_n 0, 1) := by decide +kernel
theorem dX7_feed_88 : decode cX7_feed 88 = .ok (.getfield 7, 3) := by decide +kernel
theorem dX7_feed_91 : decode cX7_feed 91 = .ok (.iconst 3, 1) := by decide +kernel
theorem dX7_feed_92 : decode cX7_feed 92 = .ok (.iaload, 1) := by decide +kernel
theorem dX7_feed_93 : decode cX7_feed 93 = .ok (.ireturn, 1) := by decide +kernel
theorem dX7_look_0 : decode cX7_look 0 = .ok (.aload_n 0, 1) := by decide +kernel
theorem dX7_look_1 : decode cX7_look 1 = .ok (.getfield 64, 3) := by decide +kernel
theorem dX7_look_4 : decode cX7_look 4 = .ok (.aload_n 0, 1) := by decide +kernel
theorem dX7_look_5 : decode cX7_look 5 = .ok (.getfield 7, 3) := by decide +kernel
theorem dX7_look_8 : decode cX7_look 8 = .ok (.iconst 3, 1) := by decide +kernel
theorem dX7_look_9 : decode cX7_look 9 = .ok (.iaload, 1) := by decide +kernel
theorem dX7_look_10 : decode cX7_look 10 = .ok (.if_icmp .ge 19, 3) := by decide +kernel
theorem dX7_look_13 : decode cX7_look 13 = .ok (.aload_n 0, 1) := by decide +kernel
theorem dX7_look_14 : decode cX7_look 14 = .ok (.getfield 7, 3) := by decide +kernel
theorem dX7_look_17 : decode cX7_look 17 = .ok (.sipush 303, 3) := by decide +kernel
theorem dX7_look_20 : decode cX7_look 20 = .ok (.aload_n 0, 1) := by decide +kernel
theorem dX7_look_21 : decode cX7_look 21 = .ok (.getfield 64, 3) := by decide +kernel
theorem dX7_look_24 : decode cX7_look 24 = .ok (.iadd, 1) := by decide +kernel
theorem dX7_look_25 : decode cX7_look 25 = .ok (.iaload, 1) := by decide +kernel
theorem dX7_look_26 : decode cX7_look 26 = .ok (.goto 4, 3) := by decide +kernel
theorem dX7_look_29 : decode cX7_look 29 = .ok (.iconst (-1), 1) := by decide +kernel
theorem dX7_look_30 : decode cX7_look 30 = .ok (.ireturn, 1) := by decide +kernel
theorem dX7_isName_0 : decode cX7_isName 0 = .ok (.iload_n 1, 1) := by decide +kernel
theorem dX7_isName_1 : decode cX7_isName 1 = .ok (.aload_n 0, 1) := by decide +kernel
theorem dX7_isName_2 : decode cX7_isName 2 = .ok (.getfield 68, 3) := by decide +kernel
theorem dX7_isName_5 : decode cX7_isName 5 = .ok (.ifCond .ne 8, 3) := by decide +kernel
theorem dX7_isName_8 : decode cX7_isName 8 = .ok (.bipush 99, 2) := by decide +kernel
theorem dX7_isName_10 : decode cX7_isName 10 = .ok (.goto 5, 3) := by decide +kernel
theorem dX7_isName_13 : decode cX7_isName 13 = .ok (.bipush 102, 2) := by decide +kernel
theorem dX7_isName_15 : decode cX7_isName 15 = .ok (.if_icmp .ne 5, 3) := by decide +kernel
theorem dX7_isName_18 : decode cX7_isName 18 = .ok (.iconst 1, 1) := by decide +kernel
theorem dX7_isName_19 : decode cX7_isName 19 = .ok (.ireturn, 1) := by decide +kernel
theorem dX7_isName_20 : decode cX7_isName 20 = .ok (.aload_n 0, 1) := by decide +kernel
theorem dX7_isName_21 : decode cX7_isName 21 = .ok (.getfield 68, 3) := by decide +kernel
theorem dX7_isName_24 : decode cX7_isName 24 = .ok (.ifCond .ne 23, 3) := by decide +kernel
theorem dX7_isName_27 : decode cX7_isName 27 = .ok (.iload_n 1, 1) := by decide +kernel
theorem dX7_isName_28 : decode cX7_isName 28 = .ok (.bipush 97, 2) := by decide +kernel
theorem dX7_isName_30 : decode cX7_isName 30 = .ok (.if_icmp .eq 9, 3) := by decide +kernel
theorem dX7_isName_33 : decode cX7_isName 33 = .ok (.iload_n 1, 1) := by decide +kernel
theorem dX7_isName_34 : decode cX7_isName 34 = .ok (.bipush 115, 2) := by decide +kernel
theorem dX7_isName_36 : decode cX7_isName 36 = .ok (.if_icmp .ne 7, 3) := by decide +kernel
theorem dX7_isName_39 : decode cX7_isName 39 = .ok (.iconst 1, 1) := by decide +kernel
theorem dX7_isName_40 : decode cX7_isName 40 = .ok (.goto 24, 3) := by decide +kernel
theorem dX7_isName_43 : decode cX7_isName 43 = .ok (.iconst 0, 1) := by decide +kernel
theorem dX7_isName_44 : decode cX7_isName 44 = .ok (.goto 20, 3) := by decide +kernel
theorem dX7_isName_47 : decode cX7_isName 47 = .ok (.iload_n 1, 1) := by decide +kernel
theorem dX7_isName_48 : decode cX7_isName 48 = .ok (.bipush 114, 2) := by decide +kernel
theorem dX7_isName_50 : decode cX7_isName 50 = .ok (.if_icmp .eq 9, 3) := by decide +kernel
theorem dX7_isName_53 : decode cX7_isName 53 = .ok (.iload_n 1, 1) := by decide +kernel
theorem dX7_isName_54 : decode cX7_isName 54 = .ok (.bipush 100, 2) := by decide +kernel
theorem dX7_isName_56 : decode cX7_isName 56 = .ok (.if_icmp .ne 7, 3) := by decide +kernel
theorem dX7_isName_59 : decode cX7_isName 59 = .ok (.iconst 1, 1) := by decide +kernel
theorem dX7_isName_60 : decode cX7_isName 60 = .ok (.goto 4, 3) := by decide +kernel
theorem dX7_isName_63 : decode cX7_isName 63 = .ok (.iconst 0, 1) := by decide +kernel
theorem dX7_isName_64 : decode cX7_isName 64 = .ok (.ireturn, 1) := by decide +kernel
theorem dX7_step1_0 : decode cX7_step1 0 = .ok (.aload_n 0, 1) := by decide +kernel
theorem dX7_step1_1 : decode cX7_step1 1 = .ok (.getfield 22, 3) := by decide +kernel
theorem dX7_step1_4 : decode cX7_step1 4 = .ok (.iconst 2, 1) := by decide +kernel
theorem dX7_step1_5 : decode cX7_step1 5 = .ok (.aload_n 0, 1) := by decide +kernel
theorem dX7_step1_6 : decode cX7_step1 6 = .ok (.getfield 71, 3) := by decide +kernel
theorem dX7_step1_9 : decode cX7_step1 9 = .ok (.imul, 1) := by decide +kernel
theorem dX7_step1_10 : decode cX7_step1 10 = .ok (.iload_n 1, 1) := by decide +kernel
theorem dX7_step1_11 : decode cX7_step1 11 = .ok (.iastore, 1) := by decide +kernel
theorem dX7_step1_12 : decode cX7_step1 12 = .ok (.aload_n 0, 1) := by decide +kernel
theorem dX7_step1_13 : decode cX7_step1 13 = .ok (.getfield 22, 3) := by decide +kernel
theorem dX7_step1_16 : decode cX7_step1 16 = .ok (.iconst 2, 1) := by decide +kernel
theorem dX7_step1_17 : decode cX7_step1 17 = .ok (.aload_n 0, 1) := by decide +kernel
theorem dX7_step1_18 : decode cX7_step1 18 = .ok (.getfield 71, 3) := by decide +kernel
theorem dX7_step1_21 : decode cX7_step1 21 = .ok (.imul, 1) := by decide +kernel
theorem dX7_step1_22 : decode cX7_step1 22 = .ok (.iconst 1, 1) := by decide +kernel
theorem dX7_step1_23 : decode cX7_step1 23 = .ok (.iadd, 1) := by decide +kernel
theorem dX7_step1_24 : decode cX7_step1 24 = .ok (.iload_n 2, 1) := by decide +kernel
theorem dX7_step1_25 : decode cX7_step1 25 = .ok (.iastore, 1) := by decide +kernel
theorem dX7_step1_26 : decode cX7_step1 26 = .ok (.aload_n 0, 1) := by decide +kernel
theorem dX7_step1_27 : decode cX7_step1 27 = .ok (.dup, 1) := by decide +kernel
theorem dX7_step1_28 : decode cX7_step1 28 = .ok (.getfield 71, 3) := by decide +kernel
theorem dX7_step1_31 : decode cX7_step1 31 = .ok (.iconst 1, 1) := by decide +kernel
theorem dX7_step1_32 : decode cX7_step1 32 = .ok (.iadd, 1) := by decide +kernel
theorem dX7_step1_33 : decode cX7_step1 33 = .ok (.putfield 71, 3) := by decide +kernel
theorem dX7_step1_36 : decode cX7_step1 36 = .ok (.return_, 1) := by decide +kernel
theorem dX7_whole_0 : decode cX7_whole 0 = .ok (.aload_n 0, 1) := by decide +kernel
theorem dX7_whole_1 : decode cX7_whole 1 = .ok (.invokevirtual 74, 3) := by decide +kernel
theorem dX7_whole_4 : decode cX7_whole 4 = .ok (.ifCond .ne 5, 3) := by decide +kernel
theorem dX7_whole_7 : decode cX7_whole 7 = .ok (.iconst 0, 1) := by decide +kernel
theorem dX7_whole_8 : decode cX7_whole 8 = .ok (.ireturn, 1) := by decide +kernel
theorem dX7_whole_9 : decode cX7_whole 9 = .ok (.aload_n 0, 1) := by decide +kernel
theorem dX7_whole_10 : decode cX7_whole 10 = .ok (.invokevirtual 78, 3) := by decide +kernel
theorem dX7_whole_13 : decode cX7_whole 13 = .ok (.bipush 124, 2) := by decide +kernel
theorem dX7_whole_15 : decode cX7_whole 15 = .ok (.if_icmp .ne 32, 3) := by decide +kernel
theorem dX7_whole_18 : decode cX7_whole 18 = .ok (.aload_n 0, 1) := by decide +kernel
theorem dX7_whole_19 : decode cX7_whole 19 = .ok (.dup, 1) := by decide +kernel
theorem dX7_whole_20 : decode cX7_whole 20 = .ok (.getfield 64, 3) := by decide +kernel
theorem dX7_whole_23 : decode cX7_whole 23 = .ok (.iconst 1, 1) := by decide +kernel
theorem dX7_whole_24 : decode cX7_whole 24 = .ok (.iadd, 1) := by decide +kernel
theorem dX7_whole_25 : decode cX7_whole 25 = .ok (.putfield 64, 3) := by decide +kernel
theorem dX7_whole_28 : decode cX7_whole 28 = .ok (.aload_n 0, 1) := by decide +kernel
theorem dX7_whole_29 : decode cX7_whole 29 = .ok (.invokevirtual 74, 3) := by decide +kernel
theorem dX7_whole_32 : decode cX7_whole 32 = .ok (.ifCond .ne 5, 3) := by decide +kernel
theorem dX7_whole_35 : decode cX7_whole 35 = .ok (.iconst 0, 1) := by decide +kernel
theorem dX7_whole_36 : decode cX7_whole 36 = .ok (.ireturn, 1) := by decide +kernel
theorem dX7_whole_37 : decode cX7_whole 37 = .ok (.aload_n 0, 1) := by decide +kernel
theorem dX7_whole_38 : decode cX7_whole 38 = .ok (.iconst 3, 1) := by decide +kernel
theorem dX7_whole_39 : decode cX7_whole 39 = .ok (.bipush 124, 2) := by decide +kernel
theorem dX7_whole_41 : decode cX7_whole 41 = .ok (.invokevirtual 82, 3) := by decide +kernel
theorem dX7_whole_44 : decode cX7_whole 44 = .ok (.goto (-35), 3) := by decide +kernel
theorem dX7_whole_47 : decode cX7_whole 47 = .ok (.iconst 1, 1) := by decide +kernel
theorem dX7_whole_48 : decode cX7_whole 48 = .ok (.ireturn, 1) := by decide +kernel
theorem dX7_both_0 : decode cX7_both 0 = .ok (.aload_n 0, 1) := by decide +kernel
theorem dX7_both_1 : decode cX7_both 1 = .ok (.invokevirtual 86, 3) := by decide +kernel
theorem dX7_both_4 : decode cX7_both 4 = .ok (.ifCond .ne 5, 3) := by decide +kernel
theorem dX7_both_7 : decode cX7_both 7 = .ok (.iconst 0, 1) := by decide +kernel
theorem dX7_both_8 : decode cX7_both 8 = .ok (.ireturn, 1) := by decide +kernel
theorem dX7_both_9 : decode cX7_both 9 = .ok (.aload_n 0, 1) := by decide +kernel
theorem dX7_both_10 : decode cX7_both 10 = .ok (.invokevirtual 78, 3) := by decide +kernel
theorem dX7_both_13 : decode cX7_both 13 = .ok (.bipush 38, 2) := by decide +kernel
theorem dX7_both_15 : decode cX7_both 15 = .ok (.if_icmp .ne 32, 3) := by decide +kernel
theorem dX7_both_18 : decode cX7_both 18 = .ok (.aload_n 0, 1) := by decide +kernel
theorem dX7_both_19 : decode cX7_both 19 = .ok (.dup, 1) := by decide +kernel
theorem dX7_both_20 : decode cX7_both 20 = .ok (.getfield 64, 3) := by decide +kernel
theorem dX7_both_23 : decode cX7_both 23 = .ok (.iconst 1, 1) := by decide +kernel
theorem dX7_both_24 : decode cX7_both 24 = .ok (.iadd, 1) := by decide +kernel
theorem dX7_both_25 : decode cX7_both 25 = .ok (.putfield 64, 3) := by decide +kernel
theorem dX7_both_28 : decode cX7_both 28 = .ok (.aload_n 0, 1) := by decide +kernel
theorem dX7_both_29 : decode cX7_both 29 = .ok (.invokevirtual 86, 3) := by decide +kernel
theorem dX7_both_32 : decode cX7_both 32 = .ok (.ifCond .ne 5, 3) := by decide +kernel
theorem dX7_both_35 : decode cX7_both 35 = .ok (.iconst 0, 1) := by decide +kernel
theorem dX7_both_36 : decode cX7_both 36 = .ok (.ireturn, 1) := by decide +kernel
theorem dX7_both_37 : decode cX7_both 37 = .ok (.aload_n 0, 1) := by decide +kernel
theorem dX7_both_38 : decode cX7_both 38 = .ok (.iconst 3, 1) := by decide +kernel
theorem dX7_both_39 : decode cX7_both 39 = .ok (.bipush 38, 2) := by decide +kernel
theorem dX7_both_41 : decode cX7_both 41 = .ok (.invokevirtual 82, 3) := by decide +kernel
theorem dX7_both_44 : decode cX7_both 44 = .ok (.goto (-35), 3) := by decide +kernel
theorem dX7_both_47 : decode cX7_both 47 = .ok (.iconst 1, 1) := by decide +kernel
theorem dX7_both_48 : decode cX7_both 48 = .ok (.ireturn, 1) := by decide +kernel
theorem dX7_compared_0 : decode cX7_compared 0 = .ok (.aload_n 0, 1) := by decide +kernel
theorem dX7_compared_1 : decode cX7_compared 1 = .ok (.invokevirtual 89, 3) := by decide +kernel
theorem dX7_compared_4 : decode cX7_compared 4 = .ok (.ifCond .ne 5, 3) := by decide +kernel
theorem dX7_compared_7 : decode cX7_compared 7 = .ok (.iconst 0, 1) := by decide +kernel
theorem dX7_compared_8 : decode cX7_compared 8 = .ok (.ireturn, 1) := by decide +kernel
theorem dX7_compared_9 : decode cX7_compared 9 = .ok (.aload_n 0, 1) := by decide +kernel
theorem dX7_compared_10 : decode cX7_compared 10 = .ok (.invokevirtual 78, 3) := by decide +kernel
theorem dX7_compared_13 : decode cX7_compared 13 = .ok (.istore_n 1, 1) := by decide +kernel
theorem dX7_compared_14 : decode cX7_compared 14 = .ok (.iload_n 1, 1) := by decide +kernel
theorem dX7_compared_15 : decode cX7_compared 15 = .ok (.bipush 60, 2) := by decide +kernel
theorem dX7_compared_17 : decode cX7_compared 17 = .ok (.if_icmp .eq 17, 3) := by decide +kernel
theorem dX7_compared_20 : decode cX7_compared 20 = .ok (.iload_n 1, 1) := by decide +kernel
theorem dX7_compared_21 : decode cX7_compared 21 = .ok (.bipush 61, 2) := by decide +kernel
theorem dX7_compared_23 : decode cX7_compared 23 = .ok (.if_icmp .eq 11, 3) := by decide +kernel
theorem dX7_compared_26 : decode cX7_compared 26 = .ok (.iload_n 1, 1) := by decide +kernel
theorem dX7_compared_27 : decode cX7_compared 27 = .ok (.bipush 62, 2) := by decide +kernel
theorem dX7_compared_29 : decode cX7_compared 29 = .ok (.if_icmp .eq 5, 3) := by decide +kernel
theorem dX7_compared_32 : decode cX7_compared 32 = .ok (.iconst 1, 1) := by decide +kernel
theorem dX7_compared_33 : decode cX7_compared 33 = .ok (.ireturn, 1) := by decide +kernel
theorem dX7_compared_34 : decode cX7_compared 34 = .ok (.aload_n 0, 1) := by decide +kernel
theorem dX7_compared_35 : decode cX7_compared 35 = .ok (.dup, 1) := by decide +kernel
theorem dX7_compared_36 : decode cX7_compared 36 = .ok (.getfield 64, 3) := by decide +kernel
theorem dX7_compared_39 : decode cX7_compared 39 = .ok (.iconst 1, 1) := by decide +kernel
theorem dX7_compared_40 : decode cX7_compared 40 = .ok (.iadd, 1) := by decide +kernel
theorem dX7_compared_41 : decode cX7_compared 41 = .ok (.putfield 64, 3) := by decide +kernel
theorem dX7_compared_44 : decode cX7_compared 44 = .ok (.aload_n 0, 1) := by decide +kernel
theorem dX7_compared_45 : decode cX7_compared 45 = .ok (.invokevirtual 89, 3) := by decide +kernel
theorem dX7_compared_48 : decode cX7_compared 48 = .ok (.ifCond .ne 5, 3) := by decide +kernel
theorem dX7_compared_51 : decode cX7_compared 51 = .ok (.iconst 0, 1) := by decide +kernel
theorem dX7_compared_52 : decode cX7_compared 52 = .ok (.ireturn, 1) := by decide +kernel
theorem dX7_compared_53 : decode cX7_compared 53 = .ok (.aload_n 0, 1) := by decide +kernel
theorem dX7_compared_54 : decode cX7_compared 54 = .ok (.iconst 3, 1) := by decide +kernel
theorem dX7_compared_55 : decode cX7_compared 55 = .ok (.iload_n 1, 1) := by decide +kernel
theorem dX7_compared_56 : decode cX7_compared 56 = .ok (.invokevirtual 82, 3) := by decide +kernel
theorem dX7_compared_59 : decode cX7_compared 59 = .ok (.iconst 1, 1) := by decide +kernel
theorem dX7_compared_60 : decode cX7_compared 60 = .ok (.ireturn, 1) := by decide +kernel
theorem dX7_sum_0 : decode cX7_sum 0 = .ok (.aload_n 0, 1) := by decide +kernel
theorem dX7_sum_1 : decode cX7_sum 1 = .ok (.invokevirtual 92, 3) := by decide +kernel
theorem dX7_sum_4 : decode cX7_sum 4 = .ok (.ifCond .ne 5, 3) := by decide +kernel
theorem dX7_sum_7 : decode cX7_sum 7 = .ok (.iconst 0, 1) := by decide +kernel
theorem dX7_sum_8 : decode cX7_sum 8 = .ok (.ireturn, 1) := by decide +kernel
theorem dX7_sum_9 : decode cX7_sum 9 = .ok (.aload_n 0, 1) := by decide +kernel
theorem dX7_sum_10 : decode cX7_sum 10 = .ok (.invokevirtual 78, 3) := by decide +kernel
theorem dX7_sum_13 : decode cX7_sum 13 = .ok (.bipush 43, 2) := by decide +kernel
theorem dX7_sum_15 : decode cX7_sum 15 = .ok (.if_icmp .eq 12, 3) := by decide +kernel
theorem dX7_sum_18 : decode cX7_sum 18 = .ok (.aload_n 0, 1) := by decide +kernel
theorem dX7_sum_19 : decode cX7_sum 19 = .ok (.invokevirtual 78, 3) := by decide +kernel
theorem dX7_sum_22 : decode cX7_sum 22 = .ok (.bipush 45, 2) := by decide +kernel
theorem dX7_sum_24 : decode cX7_sum 24 = .ok (.if_icmp .ne 36, 3) := by decide +kernel
theorem dX7_sum_27 : decode cX7_sum 27 = .ok (.aload_n 0, 1) := by decide +kernel
theorem dX7_sum_28 : decode cX7_sum 28 = .ok (.invokevirtual 78, 3) := by decide +kernel
theorem dX7_sum_31 : decode cX7_sum 31 = .ok (.istore_n 1, 1) := by decide +kernel
theorem dX7_sum_32 : decode cX7_sum 32 = .ok (.aload_n 0, 1) := by decide +kernel
theorem dX7_sum_33 : decode cX7_sum 33 = .ok (.dup, 1) := by decide +kernel
theorem dX7_sum_34 : decode cX7_sum 34 = .ok (.getfield 64, 3) := by decide +kernel
theorem dX7_sum_37 : decode cX7_sum 37 = .ok (.iconst 1, 1) := by decide +kernel
theorem dX7_sum_38 : decode cX7_sum 38 = .ok (.iadd, 1) := by decide +kernel
theorem dX7_sum_39 : decode cX7_sum 39 = .ok (.putfield 64, 3) := by decide +kernel
theorem dX7_sum_42 : decode cX7_sum 42 = .ok (.aload_n 0, 1) := by decide +kernel
theorem dX7_sum_43 : decode cX7_sum 43 = .ok (.invokevirtual 92, 3) := by decide +kernel
theorem dX7_sum_46 : decode cX7_sum 46 = .ok (.ifCond .ne 5, 3) := by decide +kernel
theorem dX7_sum_49 : decode cX7_sum 49 = .ok (.iconst 0, 1) := by decide +kernel
theorem dX7_sum_50 : decode cX7_sum 50 = .ok (.ireturn, 1) := by decide +kernel
theorem dX7_sum_51 : decode cX7_sum 51 = .ok (.aload_n 0, 1) := by decide +kernel
theorem dX7_sum_52 : decode cX7_sum 52 = .ok (.iconst 3, 1) := by decide +kernel
theorem dX7_sum_53 : decode cX7_sum 53 = .ok (.iload_n 1, 1) := by decide +kernel
theorem dX7_sum_54 : decode cX7_sum 54 = .ok (.invokevirtual 82, 3) := by decide +kernel
theorem dX7_sum_57 : decode cX7_sum 57 = .ok (.goto (-48), 3) := by decide +kernel
theorem dX7_sum_60 : decode cX7_sum 60 = .ok (.iconst 1, 1) := by decide +kernel
theorem dX7_sum_61 : decode cX7_sum 61 = .ok (.ireturn, 1) := by decide +kernel
theorem dX7_product_0 : decode cX7_product 0 = .ok (.aload_n 0, 1) := by decide +kernel
theorem dX7_product_1 : decode cX7_product 1 = .ok (.invokevirtual 95, 3) := by decide +kernel
theorem dX7_product_4 : decode cX7_product 4 = .ok (.ifCond .ne 5, 3) := by decide +kernel
theorem dX7_product_7 : decode cX7_product 7 = .ok (.iconst 0, 1) := by decide +kernel
theorem dX7_product_8 : decode cX7_product 8 = .ok (.ireturn, 1) := by decide +kernel
theorem dX7_product_9 : decode cX7_product 9 = .ok (.aload_n 0, 1) := by decide +kernel
theorem dX7_product_10 : decode cX7_product 10 = .ok (.invokevirtual 78, 3) := by decide +kernel
theorem dX7_product_13 : decode cX7_product 13 = .ok (.bipush 42, 2) := by decide +kernel
theorem dX7_product_15 : decode cX7_product 15 = .ok (.if_icmp .eq 21, 3) := by decide +kernel
theorem dX7_product_18 : decode cX7_product 18 = .ok (.aload_n 0, 1) := by decide +kernel
theorem dX7_product_19 : decode cX7_product 19 = .ok (.invokevirtual 78, 3) := by decide +kernel
theorem dX7_product_22 : decode cX7_product 22 = .ok (.bipush 47, 2) := by decide +kernel
theorem dX7_product_24 : decode cX7_product 24 = .ok (.if_icmp .eq 12, 3) := by decide +kernel
theorem dX7_product_27 : decode cX7_product 27 = .ok (.aload_n 0, 1) := by decide +kernel
theorem dX7_product_28 : decode cX7_product 28 = .ok (.invokevirtual 78, 3) := by decide +kernel
theorem dX7_product_31 : decode cX7_product 31 = .ok (.bipush 37, 2) := by decide +kernel
theorem dX7_product_33 : decode cX7_product 33 = .ok (.if_icmp .ne 36, 3) := by decide +kernel
theorem dX7_product_36 : decode cX7_product 36 = .ok (.aload_n 0, 1) := by decide +kernel
theorem dX7_product_37 : decode cX7_product 37 = .ok (.invokevirtual 78, 3) := by decide +kernel
theorem dX7_product_40 : decode cX7_product 40 = .ok (.istore_n 1, 1) := by decide +kernel
theorem dX7_product_41 : decode cX7_product 41 = .ok (.aload_n 0, 1) := by decide +kernel
theorem dX7_product_42 : decode cX7_product 42 = .ok (.dup, 1) := by decide +kernel
theorem dX7_product_43 : decode cX7_product 43 = .ok (.getfield 64, 3) := by decide +kernel
theorem dX7_product_46 : decode cX7_product 46 = .ok (.iconst 1, 1) := by decide +kernel
theorem dX7_product_47 : decode cX7_product 47 = .ok (.iadd, 1) := by decide +kernel
theorem dX7_product_48 : decode cX7_product 48 = .ok (.putfield 64, 3) := by decide +kernel
theorem dX7_product_51 : decode cX7_product 51 = .ok (.aload_n 0, 1) := by decide +kernel
theorem dX7_product_52 : decode cX7_product 52 = .ok (.invokevirtual 95, 3) := by decide +kernel
theorem dX7_product_55 : decode cX7_product 55 = .ok (.ifCond .ne 5, 3) := by decide +kernel
theorem dX7_product_58 : decode cX7_product 58 = .ok (.iconst 0, 1) := by decide +kernel
theorem dX7_product_59 : decode cX7_product 59 = .ok (.ireturn, 1) := by decide +kernel
theorem dX7_product_60 : decode cX7_product 60 = .ok (.aload_n 0, 1) := by decide +kernel
theorem dX7_product_61 : decode cX7_product 61 = .ok (.iconst 3, 1) := by decide +kernel
theorem dX7_product_62 : decode cX7_product 62 = .ok (.iload_n 1, 1) := by decide +kernel
theorem dX7_product_63 : decode cX7_product 63 = .ok (.invokevirtual 82, 3) := by decide +kernel
theorem dX7_product_66 : decode cX7_product 66 = .ok (.goto (-57), 3) := by decide +kernel
theorem dX7_product_69 : decode cX7_product 69 = .ok (.iconst 1, 1) := by decide +kernel
theorem dX7_product_70 : decode cX7_product 70 = .ok (.ireturn, 1) := by decide +kernel
theorem dX7_opens_0 : decode cX7_opens 0 = .ok (.aload_n 0, 1) := by decide +kernel
theorem dX7_opens_1 : decode cX7_opens 1 = .ok (.getfield 98, 3) := by decide +kernel
theorem dX7_opens_4 : decode cX7_opens 4 = .ok (.iconst 5, 1) := by decide +kernel
theorem dX7_opens_5 : decode cX7_opens 5 = .ok (.if_icmp .ne 5, 3) := by decide +kernel
theorem dX7_opens_8 : decode cX7_opens 8 = .ok (.iconst 0, 1) := by decide +kernel
theorem dX7_opens_9 : decode cX7_opens 9 = .ok (.ireturn, 1) := by decide +kernel
theorem dX7_opens_10 : decode cX7_opens 10 = .ok (.aload_n 0, 1) := by decide +kernel
theorem dX7_opens_11 : decode cX7_opens 11 = .ok (.dup, 1) := by decide +kernel
theorem dX7_opens_12 : decode cX7_opens 12 = .ok (.getfield 98, 3) := by decide +kernel
theorem dX7_opens_15 : decode cX7_opens 15 = .ok (.iconst 1, 1) := by decide +kernel
theorem dX7_opens_16 : decode cX7_opens 16 = .ok (.iadd, 1) := by decide +kernel
theorem dX7_opens_17 : decode cX7_opens 17 = .ok (.putfield 98, 3) := by decide +kernel
theorem dX7_opens_20 : decode cX7_opens 20 = .ok (.aload_n 0, 1) := by decide +kernel
theorem dX7_opens_21 : decode cX7_opens 21 = .ok (.dup, 1) := by decide +kernel
theorem dX7_opens_22 : decode cX7_opens 22 = .ok (.getfield 64, 3) := by decide +kernel
theorem dX7_opens_25 : decode cX7_opens 25 = .ok (.iconst 1, 1) := by decide +kernel
theorem dX7_opens_26 : decode cX7_opens 26 = .ok (.iadd, 1) := by decide +kernel
theorem dX7_opens_27 : decode cX7_opens 27 = .ok (.putfield 64, 3) := by decide +kernel
theorem dX7_opens_30 : decode cX7_opens 30 = .ok (.iconst 1, 1) := by decide +kernel
theorem dX7_opens_31 : decode cX7_opens 31 = .ok (.ireturn, 1) := by decide +kernel
theorem dX7_one_0 : decode cX7_one 0 = .ok (.aload_n 0, 1) := by decide +kernel
theorem dX7_one_1 : decode cX7_one 1 = .ok (.invokevirtual 78, 3) := by decide +kernel
theorem dX7_one_4 : decode cX7_one 4 = .ok (.istore_n 1, 1) := by decide +kernel
theorem dX7_one_5 : decode cX7_one 5 = .ok (.aload_n 0, 1) := by decide +kernel
theorem dX7_one_6 : decode cX7_one 6 = .ok (.iload_n 1, 1) := by decide +kernel
theorem dX7_one_7 : decode cX7_one 7 = .ok (.invokevirtual 101, 3) := by decide +kernel
theorem dX7_one_10 : decode cX7_one 10 = .ok (.ifCond .eq 21, 3) := by decide +kernel
theorem dX7_one_13 : decode cX7_one 13 = .ok (.aload_n 0, 1) := by decide +kernel
theorem dX7_one_14 : decode cX7_one 14 = .ok (.dup, 1) := by decide +kernel
theorem dX7_one_15 : decode cX7_one 15 = .ok (.getfield 64, 3) := by decide +kernel
theorem dX7_one_18 : decode cX7_one 18 = .ok (.iconst 1, 1) := by decide +kernel
theorem dX7_one_19 : decode cX7_one 19 = .ok (.iadd, 1) := by decide +kernel
theorem dX7_one_20 : decode cX7_one 20 = .ok (.putfield 64, 3) := by decide +kernel
theorem dX7_one_23 : decode cX7_one 23 = .ok (.aload_n 0, 1) := by decide +kernel
theorem dX7_one_24 : decode cX7_one 24 = .ok (.iconst 1, 1) := by decide +kernel
theorem dX7_one_25 : decode cX7_one 25 = .ok (.iload_n 1, 1) := by decide +kernel
theorem dX7_one_26 : decode cX7_one 26 = .ok (.invokevirtual 82, 3) := by decide +kernel
theorem dX7_one_29 : decode cX7_one 29 = .ok (.iconst 1, 1) := by decide +kernel
theorem dX7_one_30 : decode cX7_one 30 = .ok (.ireturn, 1) := by decide +kernel
theorem dX7_one_31 : decode cX7_one 31 = .ok (.iload_n 1, 1) := by decide +kernel
theorem dX7_one_32 : decode cX7_one 32 = .ok (.bipush 48, 2) := by decide +kernel
theorem dX7_one_34 : decode cX7_one 34 = .ok (.bipush 57, 2) := by decide +kernel
theorem dX7_one_36 : decode cX7_one 36 = .ok (.invokestatic 54, 3) := by decide +kernel
theorem dX7_one_39 : decode cX7_one 39 = .ok (.ifCond .eq 63, 3) := by decide +kernel
theorem dX7_one_42 : decode cX7_one 42 = .ok (.iconst 0, 1) := by decide +kernel
theorem dX7_one_43 : decode cX7_one 43 = .ok (.istore_n 2, 1) := by decide +kernel
theorem dX7_one_44 : decode cX7_one 44 = .ok (.iconst 0, 1) := by decide +kernel
theorem dX7_one_45 : decode cX7_one 45 = .ok (.istore_n 3, 1) := by decide +kernel
theorem dX7_one_46 : decode cX7_one 46 = .ok (.iload_n 3, 1) := by decide +kernel
theorem dX7_one_47 : decode cX7_one 47 = .ok (.iconst 4, 1) := by decide +kernel
theorem dX7_one_48 : decode cX7_one 48 = .ok (.if_icmp .ge 46, 3) := by decide +kernel
theorem dX7_one_51 : decode cX7_one 51 = .ok (.aload_n 0, 1) := by decide +kernel
theorem dX7_one_52 : decode cX7_one 52 = .ok (.invokevirtual 78, 3) := by decide +kernel
theorem dX7_one_55 : decode cX7_one 55 = .ok (.bipush 48, 2) := by decide +kernel
theorem dX7_one_57 : decode cX7_one 57 = .ok (.bipush 57, 2) := by decide +kernel
theorem dX7_one_59 : decode cX7_one 59 = .ok (.invokestatic 54, 3) := by decide +kernel
theorem dX7_one_62 : decode cX7_one 62 = .ok (.ifCond .eq 32, 3) := by decide +kernel
theorem dX7_one_65 : decode cX7_one 65 = .ok (.bipush 10, 2) := by decide +kernel
theorem dX7_one_67 : decode cX7_one 67 = .ok (.iload_n 2, 1) := by decide +kernel
theorem dX7_one_68 : decode cX7_one 68 = .ok (.imul, 1) := by decide +kernel
theorem dX7_one_69 : decode cX7_one 69 = .ok (.aload_n 0, 1) := by decide +kernel
theorem dX7_one_70 : decode cX7_one 70 = .ok (.invokevirtual 78, 3) := by decide +kernel
theorem dX7_one_73 : decode cX7_one 73 = .ok (.iadd, 1) := by decide +kernel
theorem dX7_one_74 : decode cX7_one 74 = .ok (.bipush 48, 2) := by decide +kernel
theorem dX7_one_76 : decode cX7_one 76 = .ok (.isub, 1) := by decide +kernel
theorem dX7_one_77 : decode cX7_one 77 = .ok (.istore_n 2, 1) := by decide +kernel
theorem dX7_one_78 : decode cX7_one 78 = .ok (.aload_n 0, 1) := by decide +kernel
theorem dX7_one_79 : decode cX7_one 79 = .ok (.dup, 1) := by decide +kernel
theorem dX7_one_80 : decode cX7_one 80 = .ok (.getfield 64, 3) := by decide +kernel
theorem dX7_one_83 : decode cX7_one 83 = .ok (.iconst 1, 1) := by decide +kernel
theorem dX7_one_84 : decode cX7_one 84 = .ok (.iadd, 1) := by decide +kernel
theorem dX7_one_85 : decode cX7_one 85 = .ok (.putfield 64, 3) := by decide +kernel
theorem dX7_one_88 : decode cX7_one 88 = .ok (.iinc 3 1, 3) := by decide +kernel
theorem dX7_one_91 : decode cX7_one 91 = .ok (.goto (-45), 3) := by decide +kernel
theorem dX7_one_94 : decode cX7_one 94 = .ok (.aload_n 0, 1) := by decide +kernel
theorem dX7_one_95 : decode cX7_one 95 = .ok (.iconst 0, 1) := by decide +kernel
theorem dX7_one_96 : decode cX7_one 96 = .ok (.iload_n 2, 1) := by decide +kernel
theorem dX7_one_97 : decode cX7_one 97 = .ok (.invokevirtual 82, 3) := by decide +kernel
theorem dX7_one_100 : decode cX7_one 100 = .ok (.iconst 1, 1) := by decide +kernel
theorem dX7_one_101 : decode cX7_one 101 = .ok (.ireturn, 1) := by decide +kernel
theorem dX7_one_102 : decode cX7_one 102 = .ok (.iload_n 1, 1) := by decide +kernel
theorem dX7_one_103 : decode cX7_one 103 = .ok (.bipush 33, 2) := by decide +kernel
theorem dX7_one_105 : decode cX7_one 105 = .ok (.if_icmp .ne 37, 3) := by decide +kernel
theorem dX7_one_108 : decode cX7_one 108 = .ok (.aload_n 0, 1) := by decide +kernel
theorem dX7_one_109 : decode cX7_one 109 = .ok (.invokevirtual 105, 3) := by decide +kernel
theorem dX7_one_112 : decode cX7_one 112 = .ok (.ifCond .eq 10, 3) := by decide +kernel
theorem dX7_one_115 : decode cX7_one 115 = .ok (.aload_n 0, 1) := by decide +kernel
theorem dX7_one_116 : decode cX7_one 116 = .ok (.invokevirtual 95, 3) := by decide +kernel
theorem dX7_one_119 : decode cX7_one 119 = .ok (.ifCond .ne 5, 3) := by decide +kernel
theorem dX7_one_122 : decode cX7_one 122 = .ok (.iconst 0, 1) := by decide +kernel
theorem dX7_one_123 : decode cX7_one 123 = .ok (.ireturn, 1) := by decide +kernel
theorem dX7_one_124 : decode cX7_one 124 = .ok (.aload_n 0, 1) := by decide +kernel
theorem dX7_one_125 : decode cX7_one 125 = .ok (.dup, 1) := by decide +kernel
theorem dX7_one_126 : decode cX7_one 126 = .ok (.getfield 98, 3) := by decide +kernel
theorem dX7_one_129 : decode cX7_one 129 = .ok (.iconst 1, 1) := by decide +kernel
theorem dX7_one_130 : decode cX7_one 130 = .ok (.isub, 1) := by decide +kernel
theorem dX7_one_131 : decode cX7_one 131 = .ok (.putfield 98, 3) := by decide +kernel
theorem dX7_one_134 : decode cX7_one 134 = .ok (.aload_n 0, 1) := by decide +kernel
theorem dX7_one_135 : decode cX7_one 135 = .ok (.iconst 2, 1) := by decide +kernel
theorem dX7_one_136 : decode cX7_one 136 = .ok (.iconst 0, 1) := by decide +kernel
theorem dX7_one_137 : decode cX7_one 137 = .ok (.invokevirtual 82, 3) := by decide +kernel
theorem dX7_one_140 : decode cX7_one 140 = .ok (.iconst 1, 1) := by decide +kernel
theorem dX7_one_141 : decode cX7_one 141 = .ok (.ireturn, 1) := by decide +kernel
theorem dX7_one_142 : decode cX7_one 142 = .ok (.iload_n 1, 1) := by decide +kernel
theorem dX7_one_143 : decode cX7_one 143 = .ok (.bipush 40, 2) := by decide +kernel
theorem dX7_one_145 : decode cX7_one 145 = .ok (.if_icmp .ne 26, 3) := by decide +kernel
theorem dX7_one_148 : decode cX7_one 148 = .ok (.aload_n 0, 1) := by decide +kernel
theorem dX7_one_149 : decode cX7_one 149 = .ok (.invokevirtual 105, 3) := by decide +kernel
theorem dX7_one_152 : decode cX7_one 152 = .ok (.ifCond .eq 19, 3) := by decide +kernel
theorem dX7_one_155 : decode cX7_one 155 = .ok (.aload_n 0, 1) := by decide +kernel
theorem dX7_one_156 : decode cX7_one 156 = .ok (.invokevirtual 108, 3) := by decide +kernel
theorem dX7_one_159 : decode cX7_one 159 = .ok (.ifCond .eq 12, 3) := by decide +kernel
theorem dX7_one_162 : decode cX7_one 162 = .ok (.aload_n 0, 1) := by decide +kernel
theorem dX7_one_163 : decode cX7_one 163 = .ok (.invokevirtual 78, 3) := by decide +kernel
theorem dX7_one_166 : decode cX7_one 166 = .ok (.bipush 41, 2) := by decide +kernel
theorem dX7_one_168 : decode cX7_one 168 = .ok (.if_icmp .eq 5, 3) := by decide +kernel
theorem dX7_one_171 : decode cX7_one 171 = .ok (.iconst 0, 1) := by decide +kernel
theorem dX7_one_172 : decode cX7_one 172 = .ok (.ireturn, 1) := by decide +kernel
theorem dX7_one_173 : decode cX7_one 173 = .ok (.aload_n 0, 1) := by decide +kernel
theorem dX7_one_174 : decode cX7_one 174 = .ok (.dup, 1) := by decide +kernel
theorem dX7_one_175 : decode cX7_one 175 = .ok (.getfield 64, 3) := by decide +kernel
theorem dX7_one_178 : decode cX7_one 178 = .ok (.iconst 1, 1) := by decide +kernel
theorem dX7_one_179 : decode cX7_one 179 = .ok (.iadd, 1) := by decide +kernel
theorem dX7_one_180 : decode cX7_one 180 = .ok (.putfield 64, 3) := by decide +kernel
theorem dX7_one_183 : decode cX7_one 183 = .ok (.aload_n 0, 1) := by decide +kernel
theorem dX7_one_184 : decode cX7_one 184 = .ok (.dup, 1) := by decide +kernel
theorem dX7_one_185 : decode cX7_one 185 = .ok (.getfield 98, 3) := by decide +kernel
theorem dX7_one_188 : decode cX7_one 188 = .ok (.iconst 1, 1) := by decide +kernel
theorem dX7_one_189 : decode cX7_one 189 = .ok (.isub, 1) := by decide +kernel
theorem dX7_one_190 : decode cX7_one 190 = .ok (.putfield 98, 3) := by decide +kernel
theorem dX7_one_193 : decode cX7_one 193 = .ok (.iconst 1, 1) := by decide +kernel
theorem dX7_one_194 : decode cX7_one 194 = .ok (.ireturn, 1) := by decide +kernel
theorem dX7_hasText_0 : decode cX7_hasText 0 = .ok (.aload_n 0, 1) := by decide +kernel
theorem dX7_hasText_1 : decode cX7_hasText 1 = .ok (.getfield 7, 3) := by decide +kernel
theorem dX7_hasText_4 : decode cX7_hasText 4 = .ok (.bipush 53, 2) := by decide +kernel
theorem dX7_hasText_6 : decode cX7_hasText 6 = .ok (.bipush 125, 2) := by decide +kernel
theorem dX7_hasText_8 : decode cX7_hasText 8 = .ok (.iload_n 1, 1) := by decide +kernel
theorem dX7_hasText_9 : decode cX7_hasText 9 = .ok (.imul, 1) := by decide +kernel
theorem dX7_hasText_10 : decode cX7_hasText 10 = .ok (.iadd, 1) := by decide +kernel
theorem dX7_hasText_11 : decode cX7_hasText 11 = .ok (.iaload, 1) := by decide +kernel
theorem dX7_hasText_12 : decode cX7_hasText 12 = .ok (.ifCond .le 7, 3) := by decide +kernel
theorem dX7_hasText_15 : decode cX7_hasText 15 = .ok (.iconst 1, 1) := by decide +kernel
theorem dX7_hasText_16 : decode cX7_hasText 16 = .ok (.goto 4, 3) := by decide +kernel
theorem dX7_hasText_19 : decode cX7_hasText 19 = .ok (.iconst 0, 1) := by decide +kernel
theorem dX7_hasText_20 : decode cX7_hasText 20 = .ok (.ireturn, 1) := by decide +kernel
theorem dX7_text_0 : decode cX7_text 0 = .ok (.iload_n 1, 1) := by decide +kernel
theorem dX7_text_1 : decode cX7_text 1 = .ok (.iconst 0, 1) := by decide +kernel
theorem dX7_text_2 : decode cX7_text 2 = .ok (.iconst 1, 1) := by decide +kernel
theorem dX7_text_3 : decode cX7_text 3 = .ok (.invokestatic 54, 3) := by decide +kernel
theorem dX7_text_6 : decode cX7_text 6 = .ok (.ifCond .ne 9, 3) := by decide +kernel
theorem dX7_text_9 : decode cX7_text 9 = .ok (.aload_n 0, 1) := by decide +kernel
theorem dX7_text_10 : decode cX7_text 10 = .ok (.iconst 1, 1) := by decide +kernel
theorem dX7_text_11 : decode cX7_text 11 = .ok (.invokevirtual 58, 3) := by decide +kernel
theorem dX7_text_14 : decode cX7_text 14 = .ok (.ireturn, 1) := by decide +kernel
theorem dX7_text_15 : decode cX7_text 15 = .ok (.aload_n 0, 1) := by decide +kernel
theorem dX7_text_16 : decode cX7_text 16 = .ok (.iload_n 1, 1) := by decide +kernel
theorem dX7_text_17 : decode cX7_text 17 = .ok (.putfield 68, 3) := by decide +kernel
theorem dX7_text_20 : decode cX7_text 20 = .ok (.aload_n 0, 1) := by decide +kernel
theorem dX7_text_21 : decode cX7_text 21 = .ok (.iconst 0, 1) := by decide +kernel
theorem dX7_text_22 : decode cX7_text 22 = .ok (.putfield 64, 3) := by decide +kernel
theorem dX7_text_25 : decode cX7_text 25 = .ok (.aload_n 0, 1) := by decide +kernel
theorem dX7_text_26 : decode cX7_text 26 = .ok (.iconst 0, 1) := by decide +kernel
theorem dX7_text_27 : decode cX7_text 27 = .ok (.putfield 98, 3) := by decide +kernel
theorem dX7_text_30 : decode cX7_text 30 = .ok (.aload_n 0, 1) := by decide +kernel
theorem dX7_text_31 : decode cX7_text 31 = .ok (.iconst 0, 1) := by decide +kernel
theorem dX7_text_32 : decode cX7_text 32 = .ok (.putfield 71, 3) := by decide +kernel
theorem dX7_text_35 : decode cX7_text 35 = .ok (.aload_n 0, 1) := by decide +kernel
theorem dX7_text_36 : decode cX7_text 36 = .ok (.invokevirtual 108, 3) := by decide +kernel
theorem dX7_text_39 : decode cX7_text 39 = .ok (.ifCond .eq 20, 3) := by decide +kernel
theorem dX7_text_42 : decode cX7_text 42 = .ok (.aload_n 0, 1) := by decide +kernel
theorem dX7_text_43 : decode cX7_text 43 = .ok (.getfield 64, 3) := by decide +kernel
theorem dX7_text_46 : decode cX7_text 46 = .ok (.aload_n 0, 1) := by decide +kernel
theorem dX7_text_47 : decode cX7_text 47 = .ok (.getfield 7, 3) := by decide +kernel
theorem dX7_text_50 : decode cX7_text 50 = .ok (.iconst 3, 1) := by decide +kernel
theorem dX7_text_51 : decode cX7_text 51 = .ok (.iaload, 1) := by decide +kernel
theorem dX7_text_52 : decode cX7_text 52 = .ok (.if_icmp .ne 7, 3) := by decide +kernel
theorem dX7_text_55 : decode cX7_text 55 = .ok (.iconst 1, 1) := by decide +kernel
theorem dX7_text_56 : decode cX7_text 56 = .ok (.goto 4, 3) := by decide +kernel
theorem dX7_text_59 : decode cX7_text 59 = .ok (.iconst 0, 1) := by decide +kernel
theorem dX7_text_60 : decode cX7_text 60 = .ok (.istore_n 2, 1) := by decide +kernel
theorem dX7_text_61 : decode cX7_text 61 = .ok (.aload_n 0, 1) := by decide +kernel
theorem dX7_text_62 : decode cX7_text 62 = .ok (.getfield 7, 3) := by decide +kernel
theorem dX7_text_65 : decode cX7_text 65 = .ok (.iconst 3, 1) := by decide +kernel
theorem dX7_text_66 : decode cX7_text 66 = .ok (.iconst 0, 1) := by decide +kernel
theorem dX7_text_67 : decode cX7_text 67 = .ok (.iastore, 1) := by decide +kernel
theorem dX7_text_68 : decode cX7_text 68 = .ok (.iload_n 2, 1) := by decide +kernel
theorem dX7_text_69 : decode cX7_text 69 = .ok (.ifCond .ne 11, 3) := by decide +kernel
theorem dX7_text_72 : decode cX7_text 72 = .ok (.bipush (-10), 2) := by decide +kernel
theorem dX7_text_74 : decode cX7_text 74 = .ok (.aload_n 0, 1) := by decide +kernel
theorem dX7_text_75 : decode cX7_text 75 = .ok (.getfield 64, 3) := by decide +kernel
theorem dX7_text_78 : decode cX7_text 78 = .ok (.isub, 1) := by decide +kernel
theorem dX7_text_79 : decode cX7_text 79 = .ok (.ireturn, 1) := by decide +kernel
theorem dX7_text_80 : decode cX7_text 80 = .ok (.bipush 53, 2) := by decide +kernel
theorem dX7_text_82 : decode cX7_text 82 = .ok (.bipush 125, 2) := by decide +kernel
theorem dX7_text_84 : decode cX7_text 84 = .ok (.iload_n 1, 1) := by decide +kernel
theorem dX7_text_85 : decode cX7_text 85 = .ok (.imul, 1) := by decide +kernel
theorem dX7_text_86 : decode cX7_text 86 = .ok (.iadd, 1) := by decide +kernel
theorem dX7_text_87 : decode cX7_text 87 = .ok (.istore_n 3, 1) := by decide +kernel
theorem dX7_text_88 : decode cX7_text 88 = .ok (.aload_n 0, 1) := by decide +kernel
theorem dX7_text_89 : decode cX7_text 89 = .ok (.getfield 7, 3) := by decide +kernel
theorem dX7_text_92 : decode cX7_text 92 = .ok (.iload_n 3, 1) := by decide +kernel
theorem dX7_text_93 : decode cX7_text 93 = .ok (.aload_n 0, 1) := by decide +kernel
theorem dX7_text_94 : decode cX7_text 94 = .ok (.getfield 71, 3) := by decide +kernel
theorem dX7_text_97 : decode cX7_text 97 = .ok (.iastore, 1) := by decide +kernel
theorem dX7_text_98 : decode cX7_text 98 = .ok (.iconst 0, 1) := by decide +kernel
theorem dX7_text_99 : decode cX7_text 99 = .ok (.istore 4, 2) := by decide +kernel
theorem dX7_text_101 : decode cX7_text 101 = .ok (.iload 4, 2) := by decide +kernel
theorem dX7_text_103 : decode cX7_text 103 = .ok (.iconst 2, 1) := by decide +kernel
theorem dX7_text_104 : decode cX7_text 104 = .ok (.aload_n 0, 1) := by decide +kernel
theorem dX7_text_105 : decode cX7_text 105 = .ok (.getfield 71, 3) := by decide +kernel
theorem dX7_text_108 : decode cX7_text 108 = .ok (.imul, 1) := by decide +kernel
theorem dX7_text_109 : decode cX7_text 109 = .ok (.if_icmp .ge 27, 3) := by decide +kernel
theorem dX7_text_112 : decode cX7_text 112 = .ok (.aload_n 0, 1) := by decide +kernel
theorem dX7_text_113 : decode cX7_text 113 = .ok (.getfield 7, 3) := by decide +kernel
theorem dX7_text_116 : decode cX7_text 116 = .ok (.iload_n 3, 1) := by decide +kernel
theorem dX7_text_117 : decode cX7_text 117 = .ok (.iconst 1, 1) := by decide +kernel
theorem dX7_text_118 : decode cX7_text 118 = .ok (.iadd, 1) := by decide +kernel
theorem dX7_text_119 : decode cX7_text 119 = .ok (.iload 4, 2) := by decide +kernel
theorem dX7_text_121 : decode cX7_text 121 = .ok (.iadd, 1) := by decide +kernel
theorem dX7_text_122 : decode cX7_text 122 = .ok (.aload_n 0, 1) := by decide +kernel
theorem dX7_text_123 : decode cX7_text 123 = .ok (.getfield 22, 3) := by decide +kernel
theorem dX7_text_126 : decode cX7_text 126 = .ok (.iload 4, 2) := by decide +kernel
theorem dX7_text_128 : decode cX7_text 128 = .ok (.iaload, 1) := by decide +kernel
theorem dX7_text_129 : decode cX7_text 129 = .ok (.iastore, 1) := by decide +kernel
theorem dX7_text_130 : decode cX7_text 130 = .ok (.iinc 4 1, 3) := by decide +kernel
theorem dX7_text_133 : decode cX7_text 133 = .ok (.goto (-32), 3) := by decide +kernel
theorem dX7_text_136 : decode cX7_text 136 = .ok (.iconst 1, 1) := by decide +kernel
theorem dX7_text_137 : decode cX7_text 137 = .ok (.ireturn, 1) := by decide +kernel
theorem dX7_untell_0 : decode cX7_untell 0 = .ok (.iload_n 1, 1) := by decide +kernel
theorem dX7_untell_1 : decode cX7_untell 1 = .ok (.iconst 0, 1) := by decide +kernel
theorem dX7_untell_2 : decode cX7_untell 2 = .ok (.iconst 1, 1) := by decide +kernel
theorem dX7_untell_3 : decode cX7_untell 3 = .ok (.invokestatic 54, 3) := by decide +kernel
theorem dX7_untell_6 : decode cX7_untell 6 = .ok (.ifCond .ne 9, 3) := by decide +kernel
theorem dX7_untell_9 : decode cX7_untell 9 = .ok (.aload_n 0, 1) := by decide +kernel
theorem dX7_untell_10 : decode cX7_untell 10 = .ok (.iconst 1, 1) := by decide +kernel
theorem dX7_untell_11 : decode cX7_untell 11 = .ok (.invokevirtual 58, 3) := by decide +kernel
theorem dX7_untell_14 : decode cX7_untell 14 = .ok (.ireturn, 1) := by decide +kernel
theorem dX7_untell_15 : decode cX7_untell 15 = .ok (.aload_n 0, 1) := by decide +kernel
theorem dX7_untell_16 : decode cX7_untell 16 = .ok (.iload_n 1, 1) := by decide +kernel
theorem dX7_untell_17 : decode cX7_untell 17 = .ok (.invokevirtual 111, 3) := by decide +kernel
theorem dX7_untell_20 : decode cX7_untell 20 = .ok (.ifCond .eq 7, 3) := by decide +kernel
theorem dX7_untell_23 : decode cX7_untell 23 = .ok (.iconst 1, 1) := by decide +kernel
theorem dX7_untell_24 : decode cX7_untell 24 = .ok (.goto 4, 3) := by decide +kernel
theorem dX7_untell_27 : decode cX7_untell 27 = .ok (.iconst 0, 1) := by decide +kernel
theorem dX7_untell_28 : decode cX7_untell 28 = .ok (.istore_n 2, 1) := by decide +kernel
theorem dX7_untell_29 : decode cX7_untell 29 = .ok (.aload_n 0, 1) := by decide +kernel
theorem dX7_untell_30 : decode cX7_untell 30 = .ok (.getfield 7, 3) := by decide +kernel
theorem dX7_untell_33 : decode cX7_untell 33 = .ok (.bipush 53, 2) := by decide +kernel
theorem dX7_untell_35 : decode cX7_untell 35 = .ok (.bipush 125, 2) := by decide +kernel
theorem dX7_untell_37 : decode cX7_untell 37 = .ok (.iload_n 1, 1) := by decide +kernel
theorem dX7_untell_38 : decode cX7_untell 38 = .ok (.imul, 1) := by decide +kernel
theorem dX7_untell_39 : decode cX7_untell 39 = .ok (.iadd, 1) := by decide +kernel
theorem dX7_untell_40 : decode cX7_untell 40 = .ok (.iconst 0, 1) := by decide +kernel
theorem dX7_untell_41 : decode cX7_untell 41 = .ok (.iastore, 1) := by decide +kernel
theorem dX7_untell_42 : decode cX7_untell 42 = .ok (.iload_n 2, 1) := by decide +kernel
theorem dX7_untell_43 : decode cX7_untell 43 = .ok (.ireturn, 1) := by decide +kernel
theorem dX7_joined_0 : decode cX7_joined 0 = .ok (.iload_n 0, 1) := by decide +kernel
theorem dX7_joined_1 : decode cX7_joined 1 = .ok (.tableswitch 217 37 62 #[153, 203, 217, 217, 217, 127, 119, 217, 123, 217, 131, 217, 217, 217, 217, 217, 217, 217, 217, 217, 217, 217, 217, 170, 192, 181], 119) := by decide +kernel
theorem dX7_joined_120 : decode cX7_joined 120 = .ok (.iload_n 1, 1) := by decide +kernel
theorem dX7_joined_121 : decode cX7_joined 121 = .ok (.iload_n 2, 1) := by decide +kernel
theorem dX7_joined_122 : decode cX7_joined 122 = .ok (.iadd, 1) := by decide +kernel
theorem dX7_joined_123 : decode cX7_joined 123 = .ok (.ireturn, 1) := by decide +kernel
theorem dX7_joined_124 : decode cX7_joined 124 = .ok (.iload_n 1, 1) := by decide +kernel
theorem dX7_joined_125 : decode cX7_joined 125 = .ok (.iload_n 2, 1) := by decide +kernel
theorem dX7_joined_126 : decode cX7_joined 126 = .ok (.isub, 1) := by decide +kernel
theorem dX7_joined_127 : decode cX7_joined 127 = .ok (.ireturn, 1) := by decide +kernel
theorem dX7_joined_128 : decode cX7_joined 128 = .ok (.iload_n 1, 1) := by decide +kernel
theorem dX7_joined_129 : decode cX7_joined 129 = .ok (.iload_n 2, 1) := by decide +kernel
theorem dX7_joined_130 : decode cX7_joined 130 = .ok (.imul, 1) := by decide +kernel
theorem dX7_joined_131 : decode cX7_joined 131 = .ok (.ireturn, 1) := by decide +kernel
theorem dX7_joined_132 : decode cX7_joined 132 = .ok (.iload_n 2, 1) := by decide +kernel
theorem dX7_joined_133 : decode cX7_joined 133 = .ok (.ifCond .ne 7, 3) := by decide +kernel
theorem dX7_joined_136 : decode cX7_joined 136 = .ok (.iconst 0, 1) := by decide +kernel
theorem dX7_joined_137 : decode cX7_joined 137 = .ok (.goto 16, 3) := by decide +kernel
theorem dX7_joined_140 : decode cX7_joined 140 = .ok (.iload_n 2, 1) := by decide +kernel
theorem dX7_joined_141 : decode cX7_joined 141 = .ok (.iconst (-1), 1) := by decide +kernel
theorem dX7_joined_142 : decode cX7_joined 142 = .ok (.if_icmp .ne 8, 3) := by decide +kernel
theorem dX7_joined_145 : decode cX7_joined 145 = .ok (.iload_n 1, 1) := by decide +kernel
theorem dX7_joined_146 : decode cX7_joined 146 = .ok (.ineg, 1) := by decide +kernel
theorem dX7_joined_147 : decode cX7_joined 147 = .ok (.goto 6, 3) := by decide +kernel
theorem dX7_joined_150 : decode cX7_joined 150 = .ok (.iload_n 1, 1) := by decide +kernel
theorem dX7_joined_151 : decode cX7_joined 151 = .ok (.iload_n 2, 1) := by decide +kernel
theorem dX7_joined_152 : decode cX7_joined 152 = .ok (.idiv, 1) := by decide +kernel
theorem dX7_joined_153 : decode cX7_joined 153 = .ok (.ireturn, 1) := by decide +kernel
theorem dX7_joined_154 : decode cX7_joined 154 = .ok (.iload_n 2, 1) := by decide +kernel
theorem dX7_joined_155 : decode cX7_joined 155 = .ok (.ifCond .eq 8, 3) := by decide +kernel
theorem dX7_joined_158 : decode cX7_joined 158 = .ok (.iload_n 2, 1) := by decide +kernel
theorem dX7_joined_159 : decode cX7_joined 159 = .ok (.iconst (-1), 1) := by decide +kernel
theorem dX7_joined_160 : decode cX7_joined 160 = .ok (.if_icmp .ne 7, 3) := by decide +kernel
theorem dX7_joined_163 : decode cX7_joined 163 = .ok (.iconst 0, 1) := by decide +kernel
theorem dX7_joined_164 : decode cX7_joined 164 = .ok (.goto 6, 3) := by decide +kernel
theorem dX7_joined_167 : decode cX7_joined 167 = .ok (.iload_n 1, 1) := by decide +kernel
theorem dX7_joined_168 : decode cX7_joined 168 = .ok (.iload_n 2, 1) := by decide +kernel
theorem dX7_joined_169 : decode cX7_joined 169 = .ok (.irem, 1) := by decide +kernel
theorem dX7_joined_170 : decode cX7_joined 170 = .ok (.ireturn, 1) := by decide +kernel
theorem dX7_joined_171 : decode cX7_joined 171 = .ok (.iload_n 1, 1) := by decide +kernel
theorem dX7_joined_172 : decode cX7_joined 172 = .ok (.iload_n 2, 1) := by decide +kernel
theorem dX7_joined_173 : decode cX7_joined 173 = .ok (.if_icmp .ge 7, 3) := by decide +kernel
theorem dX7_joined_176 : decode cX7_joined 176 = .ok (.iconst 1, 1) := by decide +kernel
theorem dX7_joined_177 : decode cX7_joined 177 = .ok (.goto 4, 3) := by decide +kernel
theorem dX7_joined_180 : decode cX7_joined 180 = .ok (.iconst 0, 1) := by decide +kernel
theorem dX7_joined_181 : decode cX7_joined 181 = .ok (.ireturn, 1) := by decide +kernel
theorem dX7_joined_182 : decode cX7_joined 182 = .ok (.iload_n 1, 1) := by decide +kernel
theorem dX7_joined_183 : decode cX7_joined 183 = .ok (.iload_n 2, 1) := by decide +kernel
theorem dX7_joined_184 : decode cX7_joined 184 = .ok (.if_icmp .le 7, 3) := by decide +kernel
theorem dX7_joined_187 : decode cX7_joined 187 = .ok (.iconst 1, 1) := by decide +kernel
theorem dX7_joined_188 : decode cX7_joined 188 = .ok (.goto 4, 3) := by decide +kernel
theorem dX7_joined_191 : decode cX7_joined 191 = .ok (.iconst 0, 1) := by decide +kernel
theorem dX7_joined_192 : decode cX7_joined 192 = .ok (.ireturn, 1) := by decide +kernel
theorem dX7_joined_193 : decode cX7_joined 193 = .ok (.iload_n 1, 1) := by decide +kernel
theorem dX7_joined_194 : decode cX7_joined 194 = .ok (.iload_n 2, 1) := by decide +kernel
theorem dX7_joined_195 : decode cX7_joined 195 = .ok (.if_icmp .ne 7, 3) := by decide +kernel
theorem dX7_joined_198 : decode cX7_joined 198 = .ok (.iconst 1, 1) := by decide +kernel
theorem dX7_joined_199 : decode cX7_joined 199 = .ok (.goto 4, 3) := by decide +kernel
theorem dX7_joined_202 : decode cX7_joined 202 = .ok (.iconst 0, 1) := by decide +kernel
theorem dX7_joined_203 : decode cX7_joined 203 = .ok (.ireturn, 1) := by decide +kernel
theorem dX7_joined_204 : decode cX7_joined 204 = .ok (.iload_n 1, 1) := by decide +kernel
theorem dX7_joined_205 : decode cX7_joined 205 = .ok (.ifCond .eq 11, 3) := by decide +kernel
theorem dX7_joined_208 : decode cX7_joined 208 = .ok (.iload_n 2, 1) := by decide +kernel
theorem dX7_joined_209 : decode cX7_joined 209 = .ok (.ifCond .eq 7, 3) := by decide +kernel
theorem dX7_joined_212 : decode cX7_joined 212 = .ok (.iconst 1, 1) := by decide +kernel
theorem dX7_joined_213 : decode cX7_joined 213 = .ok (.goto 4, 3) := by decide +kernel
theorem dX7_joined_216 : decode cX7_joined 216 = .ok (.iconst 0, 1) := by decide +kernel
theorem dX7_joined_217 : decode cX7_joined 217 = .ok (.ireturn, 1) := by decide +kernel
theorem dX7_joined_218 : decode cX7_joined 218 = .ok (.iload_n 1, 1) := by decide +kernel
theorem dX7_joined_219 : decode cX7_joined 219 = .ok (.ifCond .ne 7, 3) := by decide +kernel
theorem dX7_joined_222 : decode cX7_joined 222 = .ok (.iload_n 2, 1) := by decide +kernel
theorem dX7_joined_223 : decode cX7_joined 223 = .ok (.ifCond .eq 7, 3) := by decide +kernel
theorem dX7_joined_226 : decode cX7_joined 226 = .ok (.iconst 1, 1) := by decide +kernel
theorem dX7_joined_227 : decode cX7_joined 227 = .ok (.goto 4, 3) := by decide +kernel
theorem dX7_joined_230 : decode cX7_joined 230 = .ok (.iconst 0, 1) := by decide +kernel
theorem dX7_joined_231 : decode cX7_joined 231 = .ok (.ireturn, 1) := by decide +kernel
theorem dX7_worked_0 : decode cX7_worked 0 = .ok (.bipush 53, 2) := by decide +kernel
theorem dX7_worked_2 : decode cX7_worked 2 = .ok (.bipush 125, 2) := by decide +kernel
theorem dX7_worked_4 : decode cX7_worked 4 = .ok (.iload_n 1, 1) := by decide +kernel
theorem dX7_worked_5 : decode cX7_worked 5 = .ok (.imul, 1) := by decide +kernel
theorem dX7_worked_6 : decode cX7_worked 6 = .ok (.iadd, 1) := by decide +kernel
theorem dX7_worked_7 : decode cX7_worked 7 = .ok (.istore_n 2, 1) := by decide +kernel
theorem dX7_worked_8 : decode cX7_worked 8 = .ok (.iconst 0, 1) := by decide +kernel
theorem dX7_worked_9 : decode cX7_worked 9 = .ok (.istore_n 3, 1) := by decide +kernel
theorem dX7_worked_10 : decode cX7_worked 10 = .ok (.iconst 0, 1) := by decide +kernel
theorem dX7_worked_11 : decode cX7_worked 11 = .ok (.istore 4, 2) := by decide +kernel
theorem dX7_worked_13 : decode cX7_worked 13 = .ok (.iload 4, 2) := by decide +kernel
theorem dX7_worked_15 : decode cX7_worked 15 = .ok (.aload_n 0, 1) := by decide +kernel
theorem dX7_worked_16 : decode cX7_worked 16 = .ok (.getfield 7, 3) := by decide +kernel
theorem dX7_worked_19 : decode cX7_worked 19 = .ok (.iload_n 2, 1) := by decide +kernel
theorem dX7_worked_20 : decode cX7_worked 20 = .ok (.iaload, 1) := by decide +kernel
theorem dX7_worked_21 : decode cX7_worked 21 = .ok (.if_icmp .ge 142, 3) := by decide +kernel
theorem dX7_worked_24 : decode cX7_worked 24 = .ok (.aload_n 0, 1) := by decide +kernel
theorem dX7_worked_25 : decode cX7_worked 25 = .ok (.getfield 7, 3) := by decide +kernel
theorem dX7_worked_28 : decode cX7_worked 28 = .ok (.iload_n 2, 1) := by decide +kernel
theorem dX7_worked_29 : decode cX7_worked 29 = .ok (.iconst 1, 1) := by decide +kernel
theorem dX7_worked_30 : decode cX7_worked 30 = .ok (.iadd, 1) := by decide +kernel
theorem dX7_worked_31 : decode cX7_worked 31 = .ok (.iconst 2, 1) := by decide +kernel
theorem dX7_worked_32 : decode cX7_worked 32 = .ok (.iload 4, 2) := by decide +kernel
theorem dX7_worked_34 : decode cX7_worked 34 = .ok (.imul, 1) := by decide +kernel
theorem dX7_worked_35 : decode cX7_worked 35 = .ok (.iadd, 1) := by decide +kernel
theorem dX7_worked_36 : decode cX7_worked 36 = .ok (.iaload, 1) := by decide +kernel
theorem dX7_worked_37 : decode cX7_worked 37 = .ok (.istore 5, 2) := by decide +kernel
theorem dX7_worked_39 : decode cX7_worked 39 = .ok (.aload_n 0, 1) := by decide +kernel
theorem dX7_worked_40 : decode cX7_worked 40 = .ok (.getfield 7, 3) := by decide +kernel
theorem dX7_worked_43 : decode cX7_worked 43 = .ok (.iload_n 2, 1) := by decide +kernel
theorem dX7_worked_44 : decode cX7_worked 44 = .ok (.iconst 2, 1) := by decide +kernel
theorem dX7_worked_45 : decode cX7_worked 45 = .ok (.iadd, 1) := by decide +kernel
theorem dX7_worked_46 : decode cX7_worked 46 = .ok (.iconst 2, 1) := by decide +kernel
theorem dX7_worked_47 : decode cX7_worked 47 = .ok (.iload 4, 2) := by decide +kernel
theorem dX7_worked_49 : decode cX7_worked 49 = .ok (.imul, 1) := by decide +kernel
theorem dX7_worked_50 : decode cX7_worked 50 = .ok (.iadd, 1) := by decide +kernel
theorem dX7_worked_51 : decode cX7_worked 51 = .ok (.iaload, 1) := by decide +kernel
theorem dX7_worked_52 : decode cX7_worked 52 = .ok (.istore 6, 2) := by decide +kernel
theorem dX7_worked_54 : decode cX7_worked 54 = .ok (.iload 5, 2) := by decide +kernel
theorem dX7_worked_56 : decode cX7_worked 56 = .ok (.ifCond .eq 9, 3) := by decide +kernel
theorem dX7_worked_59 : decode cX7_worked 59 = .ok (.iload 5, 2) := by decide +kernel
theorem dX7_worked_61 : decode cX7_worked 61 = .ok (.iconst 1, 1) := by decide +kernel
theorem dX7_worked_62 : decode cX7_worked 62 = .ok (.if_icmp .ne 32, 3) := by decide +kernel
theorem dX7_worked_65 : decode cX7_worked 65 = .ok (.aload_n 0, 1) := by decide +kernel
theorem dX7_worked_66 : decode cX7_worked 66 = .ok (.getfield 28, 3) := by decide +kernel
theorem dX7_worked_69 : decode cX7_worked 69 = .ok (.iload_n 3, 1) := by decide +kernel
theorem dX7_worked_70 : decode cX7_worked 70 = .ok (.iload 5, 2) := by decide +kernel
theorem dX7_worked_72 : decode cX7_worked 72 = .ok (.ifCond .ne 8, 3) := by decide +kernel
theorem dX7_worked_75 : decode cX7_worked 75 = .ok (.iload 6, 2) := by decide +kernel
theorem dX7_worked_77 : decode cX7_worked 77 = .ok (.goto 10, 3) := by decide +kernel
theorem dX7_worked_80 : decode cX7_worked 80 = .ok (.aload_n 0, 1) := by decide +kernel
theorem dX7_worked_81 : decode cX7_worked 81 = .ok (.getfield 25, 3) := by decide +kernel
theorem dX7_worked_84 : decode cX7_worked 84 = .ok (.iload 6, 2) := by decide +kernel
theorem dX7_worked_86 : decode cX7_worked 86 = .ok (.iaload, 1) := by decide +kernel
theorem dX7_worked_87 : decode cX7_worked 87 = .ok (.iastore, 1) := by decide +kernel
theorem dX7_worked_88 : decode cX7_worked 88 = .ok (.iinc 3 1, 3) := by decide +kernel
theorem dX7_worked_91 : decode cX7_worked 91 = .ok (.goto 66, 3) := by decide +kernel
theorem dX7_worked_94 : decode cX7_worked 94 = .ok (.iload 5, 2) := by decide +kernel
theorem dX7_worked_96 : decode cX7_worked 96 = .ok (.iconst 2, 1) := by decide +kernel
theorem dX7_worked_97 : decode cX7_worked 97 = .ok (.if_icmp .ne 30, 3) := by decide +kernel
theorem dX7_worked_100 : decode cX7_worked 100 = .ok (.aload_n 0, 1) := by decide +kernel
theorem dX7_worked_101 : decode cX7_worked 101 = .ok (.getfield 28, 3) := by decide +kernel
theorem dX7_worked_104 : decode cX7_worked 104 = .ok (.iload_n 3, 1) := by decide +kernel
theorem dX7_worked_105 : decode cX7_worked 105 = .ok (.iconst 1, 1) := by decide +kernel
theorem dX7_worked_106 : decode cX7_worked 106 = .ok (.isub, 1) := by decide +kernel
theorem dX7_worked_107 : decode cX7_worked 107 = .ok (.aload_n 0, 1) := by decide +kernel
theorem dX7_worked_108 : decode cX7_worked 108 = .ok (.getfield 28, 3) := by decide +kernel
theorem dX7_worked_111 : decode cX7_worked 111 = .ok (.iload_n 3, 1) := by decide +kernel
theorem dX7_worked_112 : decode cX7_worked 112 = .ok (.iconst 1, 1) := by decide +kernel
theorem dX7_worked_113 : decode cX7_worked 113 = .ok (.isub, 1) := by decide +kernel
theorem dX7_worked_114 : decode cX7_worked 114 = .ok (.iaload, 1) := by decide +kernel
theorem dX7_worked_115 : decode cX7_worked 115 = .ok (.ifCond .ne 7, 3) := by decide +kernel
theorem dX7_worked_118 : decode cX7_worked 118 = .ok (.iconst 1, 1) := by decide +kernel
theorem dX7_worked_119 : decode cX7_worked 119 = .ok (.goto 4, 3) := by decide +kernel
theorem dX7_worked_122 : decode cX7_worked 122 = .ok (.iconst 0, 1) := by decide +kernel
theorem dX7_worked_123 : decode cX7_worked 123 = .ok (.iastore, 1) := by decide +kernel
theorem dX7_worked_124 : decode cX7_worked 124 = .ok (.goto 33, 3) := by decide +kernel
theorem dX7_worked_127 : decode cX7_worked 127 = .ok (.iinc 3 (-1), 3) := by decide +kernel
theorem dX7_worked_130 : decode cX7_worked 130 = .ok (.aload_n 0, 1) := by decide +kernel
theorem dX7_worked_131 : decode cX7_worked 131 = .ok (.getfield 28, 3) := by decide +kernel
theorem dX7_worked_134 : decode cX7_worked 134 = .ok (.iload_n 3, 1) := by decide +kernel
theorem dX7_worked_135 : decode cX7_worked 135 = .ok (.iconst 1, 1) := by decide +kernel
theorem dX7_worked_136 : decode cX7_worked 136 = .ok (.isub, 1) := by decide +kernel
theorem dX7_worked_137 : decode cX7_worked 137 = .ok (.iload 6, 2) := by decide +kernel
theorem dX7_worked_139 : decode cX7_worked 139 = .ok (.aload_n 0, 1) := by decide +kernel
theorem dX7_worked_140 : decode cX7_worked 140 = .ok (.getfield 28, 3) := by decide +kernel
theorem dX7_worked_143 : decode cX7_worked 143 = .ok (.iload_n 3, 1) := by decide +kernel
theorem dX7_worked_144 : decode cX7_worked 144 = .ok (.iconst 1, 1) := by decide +kernel
theorem dX7_worked_145 : decode cX7_worked 145 = .ok (.isub, 1) := by decide +kernel
theorem dX7_worked_146 : decode cX7_worked 146 = .ok (.iaload, 1) := by decide +kernel
theorem dX7_worked_147 : decode cX7_worked 147 = .ok (.aload_n 0, 1) := by decide +kernel
theorem dX7_worked_148 : decode cX7_worked 148 = .ok (.getfield 28, 3) := by decide +kernel
theorem dX7_worked_151 : decode cX7_worked 151 = .ok (.iload_n 3, 1) := by decide +kernel
theorem dX7_worked_152 : decode cX7_worked 152 = .ok (.iaload, 1) := by decide +kernel
theorem dX7_worked_153 : decode cX7_worked 153 = .ok (.invokestatic 114, 3) := by decide +kernel
theorem dX7_worked_156 : decode cX7_worked 156 = .ok (.iastore, 1) := by decide +kernel
theorem dX7_worked_157 : decode cX7_worked 157 = .ok (.iinc 4 1, 3) := by decide +kernel
theorem dX7_worked_160 : decode cX7_worked 160 = .ok (.goto (-147), 3) := by decide +kernel
theorem dX7_worked_163 : decode cX7_worked 163 = .ok (.aload_n 0, 1) := by decide +kernel
theorem dX7_worked_164 : decode cX7_worked 164 = .ok (.getfield 28, 3) := by decide +kernel
theorem dX7_worked_167 : decode cX7_worked 167 = .ok (.iconst 0, 1) := by decide +kernel
theorem dX7_worked_168 : decode cX7_worked 168 = .ok (.iaload, 1) := by decide +kernel
theorem dX7_worked_169 : decode cX7_worked 169 = .ok (.ireturn, 1) := by decide +kernel
theorem dX7_claimsOf_0 : decode cX7_claimsOf 0 = .ok (.aload_n 0, 1) := by decide +kernel
theorem dX7_claimsOf_1 : decode cX7_claimsOf 1 = .ok (.iload_n 1, 1) := by decide +kernel
theorem dX7_claimsOf_2 : decode cX7_claimsOf 2 = .ok (.iconst 3, 1) := by decide +kernel
theorem dX7_claimsOf_3 : decode cX7_claimsOf 3 = .ok (.invokevirtual 118, 3) := by decide +kernel
theorem dX7_claimsOf_6 : decode cX7_claimsOf 6 = .ok (.aload_n 0, 1) := by decide +kernel
theorem dX7_claimsOf_7 : decode cX7_claimsOf 7 = .ok (.iload_n 1, 1) := by decide +kernel
theorem dX7_claimsOf_8 : decode cX7_claimsOf 8 = .ok (.iconst 2, 1) := by decide +kernel
theorem dX7_claimsOf_9 : decode cX7_claimsOf 9 = .ok (.invokevirtual 118, 3) := by decide +kernel
theorem dX7_claimsOf_12 : decode cX7_claimsOf 12 = .ok (.bipush 10, 2) := by decide +kernel
theorem dX7_claimsOf_14 : decode cX7_claimsOf 14 = .ok (.idiv, 1) := by decide +kernel
theorem dX7_claimsOf_15 : decode cX7_claimsOf 15 = .ok (.iadd, 1) := by decide +kernel
theorem dX7_claimsOf_16 : decode cX7_claimsOf 16 = .ok (.istore_n 2, 1) := by decide +kernel
theorem dX7_claimsOf_17 : decode cX7_claimsOf 17 = .ok (.aload_n 0, 1) := by decide +kernel
theorem dX7_claimsOf_18 : decode cX7_claimsOf 18 = .ok (.iload_n 1, 1) := by decide +kernel
theorem dX7_claimsOf_19 : decode cX7_claimsOf 19 = .ok (.iconst 1, 1) := by decide +kernel
theorem dX7_claimsOf_20 : decode cX7_claimsOf 20 = .ok (.invokevirtual 118, 3) := by decide +kernel
theorem dX7_claimsOf_23 : decode cX7_claimsOf 23 = .ok (.istore_n 3, 1) := by decide +kernel
theorem dX7_claimsOf_24 : decode cX7_claimsOf 24 = .ok (.aload_n 0, 1) := by decide +kernel
theorem dX7_claimsOf_25 : decode cX7_claimsOf 25 = .ok (.iload_n 1, 1) := by decide +kernel
theorem dX7_claimsOf_26 : decode cX7_claimsOf 26 = .ok (.iconst 0, 1) := by decide +kernel
theorem dX7_claimsOf_27 : decode cX7_claimsOf 27 = .ok (.invokevirtual 118, 3) := by decide +kernel
theorem dX7_claimsOf_30 : decode cX7_claimsOf 30 = .ok (.tableswitch 98 1 6 #[38, 42, 46, 68, 82, 89], 38) := by decide +kernel
theorem dX7_claimsOf_68 : decode cX7_claimsOf 68 = .ok (.iload_n 2, 1) := by decide +kernel
theorem dX7_claimsOf_69 : decode cX7_claimsOf 69 = .ok (.iload_n 3, 1) := by decide +kernel
theorem dX7_claimsOf_70 : decode cX7_claimsOf 70 = .ok (.iadd, 1) := by decide +kernel
theorem dX7_claimsOf_71 : decode cX7_claimsOf 71 = .ok (.ireturn, 1) := by decide +kernel
theorem dX7_claimsOf_72 : decode cX7_claimsOf 72 = .ok (.iconst 2, 1) := by decide +kernel
theorem dX7_claimsOf_73 : decode cX7_claimsOf 73 = .ok (.iload_n 2, 1) := by decide +kernel
theorem dX7_claimsOf_74 : decode cX7_claimsOf 74 = .ok (.imul, 1) := by decide +kernel
theorem dX7_claimsOf_75 : decode cX7_claimsOf 75 = .ok (.ireturn, 1) := by decide +kernel
theorem dX7_claimsOf_76 : decode cX7_claimsOf 76 = .ok (.aload_n 0, 1) := by decide +kernel
theorem dX7_claimsOf_77 : decode cX7_claimsOf 77 = .ok (.getfield 7, 3) := by decide +kernel
theorem dX7_claimsOf_80 : decode cX7_claimsOf 80 = .ok (.iconst 0, 1) := by decide +kernel
theorem dX7_claimsOf_81 : decode cX7_claimsOf 81 = .ok (.iaload, 1) := by decide +kernel
theorem dX7_claimsOf_82 : decode cX7_claimsOf 82 = .ok (.bipush 7, 2) := by decide +kernel
theorem dX7_claimsOf_84 : decode cX7_claimsOf 84 = .ok (.irem, 1) := by decide +kernel
theorem dX7_claimsOf_85 : decode cX7_claimsOf 85 = .ok (.iconst 4, 1) := by decide +kernel
theorem dX7_claimsOf_86 : decode cX7_claimsOf 86 = .ok (.if_icmp .ne 10, 3) := by decide +kernel
theorem dX7_claimsOf_89 : decode cX7_claimsOf 89 = .ok (.bipush 50, 2) := by decide +kernel
theorem dX7_claimsOf_91 : decode cX7_claimsOf 91 = .ok (.iload_n 3, 1) := by decide +kernel
theorem dX7_claimsOf_92 : decode cX7_claimsOf 92 = .ok (.iadd, 1) := by decide +kernel
theorem dX7_claimsOf_93 : decode cX7_claimsOf 93 = .ok (.goto 4, 3) := by decide +kernel
theorem dX7_claimsOf_96 : decode cX7_claimsOf 96 = .ok (.iload_n 2, 1) := by decide +kernel
theorem dX7_claimsOf_97 : decode cX7_claimsOf 97 = .ok (.ireturn, 1) := by decide +kernel
theorem dX7_claimsOf_98 : decode cX7_claimsOf 98 = .ok (.iload_n 2, 1) := by decide +kernel
theorem dX7_claimsOf_99 : decode cX7_claimsOf 99 = .ok (.iload_n 3, 1) := by decide +kernel
theorem dX7_claimsOf_100 : decode cX7_claimsOf 100 = .ok (.iadd, 1) := by decide +kernel
theorem dX7_claimsOf_101 : decode cX7_claimsOf 101 = .ok (.aload_n 0, 1) := by decide +kernel
theorem dX7_claimsOf_102 : decode cX7_claimsOf 102 = .ok (.iload_n 1, 1) := by decide +kernel
theorem dX7_claimsOf_103 : decode cX7_claimsOf 103 = .ok (.iconst 2, 1) := by decide +kernel
theorem dX7_claimsOf_104 : decode cX7_claimsOf 104 = .ok (.invokevirtual 118, 3) := by decide +kernel
theorem dX7_claimsOf_107 : decode cX7_claimsOf 107 = .ok (.bipush 7, 2) := by decide +kernel
theorem dX7_claimsOf_109 : decode cX7_claimsOf 109 = .ok (.irem, 1) := by decide +kernel
theorem dX7_claimsOf_110 : decode cX7_claimsOf 110 = .ok (.iadd, 1) := by decide +kernel
theorem dX7_claimsOf_111 : decode cX7_claimsOf 111 = .ok (.ireturn, 1) := by decide +kernel
theorem dX7_claimsOf_112 : decode cX7_claimsOf 112 = .ok (.iconst 2, 1) := by decide +kernel
theorem dX7_claimsOf_113 : decode cX7_claimsOf 113 = .ok (.iload_n 2, 1) := by decide +kernel
theorem dX7_claimsOf_114 : decode cX7_claimsOf 114 = .ok (.imul, 1) := by decide +kernel
theorem dX7_claimsOf_115 : decode cX7_claimsOf 115 = .ok (.bipush 40, 2) := by decide +kernel
theorem dX7_claimsOf_117 : decode cX7_claimsOf 117 = .ok (.iadd, 1) := by decide +kernel
theorem dX7_claimsOf_118 : decode cX7_claimsOf 118 = .ok (.ireturn, 1) := by decide +kernel
theorem dX7_claimsOf_119 : decode cX7_claimsOf 119 = .ok (.iload_n 2, 1) := by decide +kernel
theorem dX7_claimsOf_120 : decode cX7_claimsOf 120 = .ok (.aload_n 0, 1) := by decide +kernel
theorem dX7_claimsOf_121 : decode cX7_claimsOf 121 = .ok (.iload_n 1, 1) := by decide +kernel
theorem dX7_claimsOf_122 : decode cX7_claimsOf 122 = .ok (.iconst 4, 1) := by decide +kernel
theorem dX7_claimsOf_123 : decode cX7_claimsOf 123 = .ok (.invokevirtual 118, 3) := by decide +kernel
theorem dX7_claimsOf_126 : decode cX7_claimsOf 126 = .ok (.isub, 1) := by decide +kernel
theorem dX7_claimsOf_127 : decode cX7_claimsOf 127 = .ok (.ireturn, 1) := by decide +kernel
theorem dX7_claimsOf_128 : decode cX7_claimsOf 128 = .ok (.iload_n 2, 1) := by decide +kernel
theorem dX7_claimsOf_129 : decode cX7_claimsOf 129 = .ok (.ireturn, 1) := by decide +kernel
theorem dX7_spoilsOf_0 : decode cX7_spoilsOf 0 = .ok (.aload_n 0, 1) := by decide +kernel
theorem dX7_spoilsOf_1 : decode cX7_spoilsOf 1 = .ok (.iload_n 1, 1) := by decide +kernel
theorem dX7_spoilsOf_2 : decode cX7_spoilsOf 2 = .ok (.iconst 3, 1) := by decide +kernel
theorem dX7_spoilsOf_3 : decode cX7_spoilsOf 3 = .ok (.invokevirtual 118, 3) := by decide +kernel
theorem dX7_spoilsOf_6 : decode cX7_spoilsOf 6 = .ok (.iconst 5, 1) := by decide +kernel
theorem dX7_spoilsOf_7 : decode cX7_spoilsOf 7 = .ok (.idiv, 1) := by decide +kernel
theorem dX7_spoilsOf_8 : decode cX7_spoilsOf 8 = .ok (.istore_n 2, 1) := by decide +kernel
theorem dX7_spoilsOf_9 : decode cX7_spoilsOf 9 = .ok (.aload_n 0, 1) := by decide +kernel
theorem dX7_spoilsOf_10 : decode cX7_spoilsOf 10 = .ok (.iload_n 1, 1) := by decide +kernel
theorem dX7_spoilsOf_11 : decode cX7_spoilsOf 11 = .ok (.iconst 1, 1) := by decide +kernel
theorem dX7_spoilsOf_12 : decode cX7_spoilsOf 12 = .ok (.invokevirtual 118, 3) := by decide +kernel
theorem dX7_spoilsOf_15 : decode cX7_spoilsOf 15 = .ok (.istore_n 3, 1) := by decide +kernel
theorem dX7_spoilsOf_16 : decode cX7_spoilsOf 16 = .ok (.aload_n 0, 1) := by decide +kernel
theorem dX7_spoilsOf_17 : decode cX7_spoilsOf 17 = .ok (.iload_n 1, 1) := by decide +kernel
theorem dX7_spoilsOf_18 : decode cX7_spoilsOf 18 = .ok (.iconst 0, 1) := by decide +kernel
theorem dX7_spoilsOf_19 : decode cX7_spoilsOf 19 = .ok (.invokevirtual 118, 3) := by decide +kernel
theorem dX7_spoilsOf_22 : decode cX7_spoilsOf 22 = .ok (.tableswitch 71 2 6 #[34, 38, 40, 52, 65], 34) := by decide +kernel
theorem dX7_spoilsOf_56 : decode cX7_spoilsOf 56 = .ok (.iload_n 2, 1) := by decide +kernel
theorem dX7_spoilsOf_57 : decode cX7_spoilsOf 57 = .ok (.iconst 1, 1) := by decide +kernel
theorem dX7_spoilsOf_58 : decode cX7_spoilsOf 58 = .ok (.iadd, 1) := by decide +kernel
theorem dX7_spoilsOf_59 : decode cX7_spoilsOf 59 = .ok (.ireturn, 1) := by decide +kernel
theorem dX7_spoilsOf_60 : decode cX7_spoilsOf 60 = .ok (.iconst 0, 1) := by decide +kernel
theorem dX7_spoilsOf_61 : decode cX7_spoilsOf 61 = .ok (.ireturn, 1) := by decide +kernel
theorem dX7_spoilsOf_62 : decode cX7_spoilsOf 62 = .ok (.iload_n 2, 1) := by decide +kernel
theorem dX7_spoilsOf_63 : decode cX7_spoilsOf 63 = .ok (.ifCond .le 9, 3) := by decide +kernel
theorem dX7_spoilsOf_66 : decode cX7_spoilsOf 66 = .ok (.iload_n 2, 1) := by decide +kernel
theorem dX7_spoilsOf_67 : decode cX7_spoilsOf 67 = .ok (.iconst 1, 1) := by decide +kernel
theorem dX7_spoilsOf_68 : decode cX7_spoilsOf 68 = .ok (.isub, 1) := by decide +kernel
theorem dX7_spoilsOf_69 : decode cX7_spoilsOf 69 = .ok (.goto 4, 3) := by decide +kernel
theorem dX7_spoilsOf_72 : decode cX7_spoilsOf 72 = .ok (.iconst 0, 1) := by decide +kernel
theorem dX7_spoilsOf_73 : decode cX7_spoilsOf 73 = .ok (.ireturn, 1) := by decide +kernel
theorem dX7_spoilsOf_74 : decode cX7_spoilsOf 74 = .ok (.iload_n 3, 1) := by decide +kernel
theorem dX7_spoilsOf_75 : decode cX7_spoilsOf 75 = .ok (.iconst 4, 1) := by decide +kernel
theorem dX7_spoilsOf_76 : decode cX7_spoilsOf 76 = .ok (.if_icmp .le 7, 3) := by decide +kernel
theorem dX7_spoilsOf_79 : decode cX7_spoilsOf 79 = .ok (.iconst 0, 1) := by decide +kernel
theorem dX7_spoilsOf_80 : decode cX7_spoilsOf 80 = .ok (.goto 6, 3) := by decide +kernel
theorem dX7_spoilsOf_83 : decode cX7_spoilsOf 83 = .ok (.iload_n 2, 1) := by decide +kernel
theorem dX7_spoilsOf_84 : decode cX7_spoilsOf 84 = .ok (.iconst 1, 1) := by decide +kernel
theorem dX7_spoilsOf_85 : decode cX7_spoilsOf 85 = .ok (.iadd, 1) := by decide +kernel
theorem dX7_spoilsOf_86 : decode cX7_spoilsOf 86 = .ok (.ireturn, 1) := by decide +kernel
theorem dX7_spoilsOf_87 : decode cX7_spoilsOf 87 = .ok (.iload_n 2, 1) := by decide +kernel
theorem dX7_spoilsOf_88 : decode cX7_spoilsOf 88 = .ok (.iload_n 3, 1) := by decide +kernel
theorem dX7_spoilsOf_89 : decode cX7_spoilsOf 89 = .ok (.imul, 1) := by decide +kernel
theorem dX7_spoilsOf_90 : decode cX7_spoilsOf 90 = .ok (.iconst 4, 1) := by decide +kernel
theorem dX7_spoilsOf_91 : decode cX7_spoilsOf 91 = .ok (.idiv, 1) := by decide +kernel
theorem dX7_spoilsOf_92 : decode cX7_spoilsOf 92 = .ok (.ireturn, 1) := by decide +kernel
theorem dX7_spoilsOf_93 : decode cX7_spoilsOf 93 = .ok (.iload_n 2, 1) := by decide +kernel
theorem dX7_spoilsOf_94 : decode cX7_spoilsOf 94 = .ok (.ireturn, 1) := by decide +kernel
theorem dX7_claimTold_0 : decode cX7_claimTold 0 = .ok (.aload_n 0, 1) := by decide +kernel
theorem dX7_claimTold_1 : decode cX7_claimTold 1 = .ok (.getfield 25, 3) := by decide +kernel
theorem dX7_claimTold_4 : decode cX7_claimTold 4 = .ok (.bipush 99, 2) := by decide +kernel
theorem dX7_claimTold_6 : decode cX7_claimTold 6 = .ok (.iload_n 1, 1) := by decide +kernel
theorem dX7_claimTold_7 : decode cX7_claimTold 7 = .ok (.iastore, 1) := by decide +kernel
theorem dX7_claimTold_8 : decode cX7_claimTold 8 = .ok (.aload_n 0, 1) := by decide +kernel
theorem dX7_claimTold_9 : decode cX7_claimTold 9 = .ok (.getfield 25, 3) := by decide +kernel
theorem dX7_claimTold_12 : decode cX7_claimTold 12 = .ok (.bipush 97, 2) := by decide +kernel
theorem dX7_claimTold_14 : decode cX7_claimTold 14 = .ok (.iload_n 2, 1) := by decide +kernel
theorem dX7_claimTold_15 : decode cX7_claimTold 15 = .ok (.iastore, 1) := by decide +kernel
theorem dX7_claimTold_16 : decode cX7_claimTold 16 = .ok (.aload_n 0, 1) := by decide +kernel
theorem dX7_claimTold_17 : decode cX7_claimTold 17 = .ok (.getfield 25, 3) := by decide +kernel
theorem dX7_claimTold_20 : decode cX7_claimTold 20 = .ok (.bipush 115, 2) := by decide +kernel
theorem dX7_claimTold_22 : decode cX7_claimTold 22 = .ok (.iload_n 3, 1) := by decide +kernel
theorem dX7_claimTold_23 : decode cX7_claimTold 23 = .ok (.iastore, 1) := by decide +kernel
theorem dX7_claimTold_24 : decode cX7_claimTold 24 = .ok (.aload_n 0, 1) := by decide +kernel
theorem dX7_claimTold_25 : decode cX7_claimTold 25 = .ok (.iconst 0, 1) := by decide +kernel
theorem dX7_claimTold_26 : decode cX7_claimTold 26 = .ok (.invokevirtual 111, 3) := by decide +kernel
theorem dX7_claimTold_29 : decode cX7_claimTold 29 = .ok (.ifCond .eq 11, 3) := by decide +kernel
theorem dX7_claimTold_32 : decode cX7_claimTold 32 = .ok (.aload_n 0, 1) := by decide +kernel
theorem dX7_claimTold_33 : decode cX7_claimTold 33 = .ok (.iconst 0, 1) := by decide +kernel
theorem dX7_claimTold_34 : decode cX7_claimTold 34 = .ok (.invokevirtual 122, 3) := by decide +kernel
theorem dX7_claimTold_37 : decode cX7_claimTold 37 = .ok (.goto 4, 3) := by decide +kernel
theorem dX7_claimTold_40 : decode cX7_claimTold 40 = .ok (.iload_n 1, 1) := by decide +kernel
theorem dX7_claimTold_41 : decode cX7_claimTold 41 = .ok (.iconst 0, 1) := by decide +kernel
theorem dX7_claimTold_42 : decode cX7_claimTold 42 = .ok (.sipush 999, 3) := by decide +kernel
theorem dX7_claimTold_45 : decode cX7_claimTold 45 = .ok (.invokestatic 125, 3) := by decide +kernel
theorem dX7_claimTold_48 : decode cX7_claimTold 48 = .ok (.ireturn, 1) := by decide +kernel
theorem dX7_keepingTold_0 : decode cX7_keepingTold 0 = .ok (.aload_n 0, 1) := by decide +kernel
theorem dX7_keepingTold_1 : decode cX7_keepingTold 1 = .ok (.iconst 1, 1) := by decide +kernel
theorem dX7_keepingTold_2 : decode cX7_keepingTold 2 = .ok (.invokevirtual 111, 3) := by decide +kernel
theorem dX7_keepingTold_5 : decode cX7_keepingTold 5 = .ok (.ifCond .ne 34, 3) := by decide +kernel
theorem dX7_keepingTold_8 : decode cX7_keepingTold 8 = .ok (.iload_n 1, 1) := by decide +kernel
theorem dX7_keepingTold_9 : decode cX7_keepingTold 9 = .ok (.i2l, 1) := by decide +kernel
theorem dX7_keepingTold_10 : decode cX7_keepingTold 10 = .ok (.iload_n 2, 1) := by decide +kernel
theorem dX7_keepingTold_11 : decode cX7_keepingTold 11 = .ok (.i2l, 1) := by decide +kernel
theorem dX7_keepingTold_12 : decode cX7_keepingTold 12 = .ok (.lsub, 1) := by decide +kernel
theorem dX7_keepingTold_13 : decode cX7_keepingTold 13 = .ok (.lstore 4, 2) := by decide +kernel
theorem dX7_keepingTold_15 : decode cX7_keepingTold 15 = .ok (.lload 4, 2) := by decide +kernel
theorem dX7_keepingTold_17 : decode cX7_keepingTold 17 = .ok (.ldc2_w 128, 3) := by decide +kernel
theorem dX7_keepingTold_20 : decode cX7_keepingTold 20 = .ok (.lcmp, 1) := by decide +kernel
theorem dX7_keepingTold_21 : decode cX7_keepingTold 21 = .ok (.ifCond .le 16, 3) := by decide +kernel
theorem dX7_keepingTold_24 : decode cX7_keepingTold 24 = .ok (.lload 4, 2) := by decide +kernel
theorem dX7_keepingTold_26 : decode cX7_keepingTold 26 = .ok (.ldc2_w 130, 3) := by decide +kernel
theorem dX7_keepingTold_29 : decode cX7_keepingTold 29 = .ok (.lcmp, 1) := by decide +kernel
theorem dX7_keepingTold_30 : decode cX7_keepingTold 30 = .ok (.ifCond .ge 7, 3) := by decide +kernel
theorem dX7_keepingTold_33 : decode cX7_keepingTold 33 = .ok (.iconst 1, 1) := by decide +kernel
theorem dX7_keepingTold_34 : decode cX7_keepingTold 34 = .ok (.goto 4, 3) := by decide +kernel
theorem dX7_keepingTold_37 : decode cX7_keepingTold 37 = .ok (.iconst 0, 1) := by decide +kernel
theorem dX7_keepingTold_38 : decode cX7_keepingTold 38 = .ok (.ireturn, 1) := by decide +kernel
theorem dX7_keepingTold_39 : decode cX7_keepingTold 39 = .ok (.aload_n 0, 1) := by decide +kernel
theorem dX7_keepingTold_40 : decode cX7_keepingTold 40 = .ok (.getfield 25, 3) := by decide +kernel
theorem dX7_keepingTold_43 : decode cX7_keepingTold 43 = .ok (.bipush 102, 2) := by decide +kernel
theorem dX7_keepingTold_45 : decode cX7_keepingTold 45 = .ok (.iload_n 1, 1) := by decide +kernel
theorem dX7_keepingTold_46 : decode cX7_keepingTold 46 = .ok (.iastore, 1) := by decide +kernel
theorem dX7_keepingTold_47 : decode cX7_keepingTold 47 = .ok (.aload_n 0, 1) := by decide +kernel
theorem dX7_keepingTold_48 : decode cX7_keepingTold 48 = .ok (.getfield 25, 3) := by decide +kernel
theorem dX7_keepingTold_51 : decode cX7_keepingTold 51 = .ok (.bipush 114, 2) := by decide +kernel
theorem dX7_keepingTold_53 : decode cX7_keepingTold 53 = .ok (.iload_n 2, 1) := by decide +kernel
theorem dX7_keepingTold_54 : decode cX7_keepingTold 54 = .ok (.iastore, 1) := by decide +kernel
theorem dX7_keepingTold_55 : decode cX7_keepingTold 55 = .ok (.aload_n 0, 1) := by decide +kernel
theorem dX7_keepingTold_56 : decode cX7_keepingTold 56 = .ok (.getfield 25, 3) := by decide +kernel
theorem dX7_keepingTold_59 : decode cX7_keepingTold 59 = .ok (.bipush 100, 2) := by decide +kernel
theorem dX7_keepingTold_61 : decode cX7_keepingTold 61 = .ok (.iload_n 3, 1) := by decide +kernel
theorem dX7_keepingTold_62 : decode cX7_keepingTold 62 = .ok (.iastore, 1) := by decide +kernel
theorem dX7_keepingTold_63 : decode cX7_keepingTold 63 = .ok (.aload_n 0, 1) := by decide +kernel
theorem dX7_keepingTold_64 : decode cX7_keepingTold 64 = .ok (.iconst 1, 1) := by decide +kernel
theorem dX7_keepingTold_65 : decode cX7_keepingTold 65 = .ok (.invokevirtual 122, 3) := by decide +kernel
theorem dX7_keepingTold_68 : decode cX7_keepingTold 68 = .ok (.iconst 0, 1) := by decide +kernel
theorem dX7_keepingTold_69 : decode cX7_keepingTold 69 = .ok (.iconst 1, 1) := by decide +kernel
theorem dX7_keepingTold_70 : decode cX7_keepingTold 70 = .ok (.invokestatic 125, 3) := by decide +kernel
theorem dX7_keepingTold_73 : decode cX7_keepingTold 73 = .ok (.ireturn, 1) := by decide +kernel
theorem dX7_claimOf_0 : decode cX7_claimOf 0 = .ok (.aload_n 0, 1) := by decide +kernel
theorem dX7_claimOf_1 : decode cX7_claimOf 1 = .ok (.aload_n 0, 1) := by decide +kernel
theorem dX7_claimOf_2 : decode cX7_claimOf 2 = .ok (.iload_n 1, 1) := by decide +kernel
theorem dX7_claimOf_3 : decode cX7_claimOf 3 = .ok (.invokevirtual 132, 3) := by decide +kernel
theorem dX7_claimOf_6 : decode cX7_claimOf 6 = .ok (.aload_n 0, 1) := by decide +kernel
theorem dX7_claimOf_7 : decode cX7_claimOf 7 = .ok (.iload_n 1, 1) := by decide +kernel
theorem dX7_claimOf_8 : decode cX7_claimOf 8 = .ok (.iconst 3, 1) := by decide +kernel
theorem dX7_claimOf_9 : decode cX7_claimOf 9 = .ok (.invokevirtual 118, 3) := by decide +kernel
theorem dX7_claimOf_12 : decode cX7_claimOf 12 = .ok (.aload_n 0, 1) := by decide +kernel
theorem dX7_claimOf_13 : decode cX7_claimOf 13 = .ok (.iload_n 1, 1) := by decide +kernel
theorem dX7_claimOf_14 : decode cX7_claimOf 14 = .ok (.iconst 2, 1) := by decide +kernel
theorem dX7_claimOf_15 : decode cX7_claimOf 15 = .ok (.invokevirtual 118, 3) := by decide +kernel
theorem dX7_claimOf_18 : decode cX7_claimOf 18 = .ok (.invokevirtual 135, 3) := by decide +kernel
theorem dX7_claimOf_21 : decode cX7_claimOf 21 = .ok (.ireturn, 1) := by decide +kernel
theorem dX7_findRuler_0 : decode cX7_findRuler 0 = .ok (.iconst (-1), 1) := by decide +kernel
theorem dX7_findRuler_1 : decode cX7_findRuler 1 = .ok (.istore_n 1, 1) := by decide +kernel
theorem dX7_findRuler_2 : decode cX7_findRuler 2 = .ok (.iconst 0, 1) := by decide +kernel
theorem dX7_findRuler_3 : decode cX7_findRuler 3 = .ok (.istore_n 2, 1) := by decide +kernel
theorem dX7_findRuler_4 : decode cX7_findRuler 4 = .ok (.iload_n 2, 1) := by decide +kernel
theorem dX7_findRuler_5 : decode cX7_findRuler 5 = .ok (.aload_n 0, 1) := by decide +kernel
theorem dX7_findRuler_6 : decode cX7_findRuler 6 = .ok (.getfield 7, 3) := by decide +kernel
theorem dX7_findRuler_9 : decode cX7_findRuler 9 = .ok (.iconst 5, 1) := by decide +kernel
theorem dX7_findRuler_10 : decode cX7_findRuler 10 = .ok (.iaload, 1) := by decide +kernel
theorem dX7_findRuler_11 : decode cX7_findRuler 11 = .ok (.if_icmp .ge 55, 3) := by decide +kernel
theorem dX7_findRuler_14 : decode cX7_findRuler 14 = .ok (.aload_n 0, 1) := by decide +kernel
theorem dX7_findRuler_15 : decode cX7_findRuler 15 = .ok (.getfield 31, 3) := by decide +kernel
theorem dX7_findRuler_18 : decode cX7_findRuler 18 = .ok (.iload_n 2, 1) := by decide +kernel
theorem dX7_findRuler_19 : decode cX7_findRuler 19 = .ok (.aload_n 0, 1) := by decide +kernel
theorem dX7_findRuler_20 : decode cX7_findRuler 20 = .ok (.iload_n 2, 1) := by decide +kernel
theorem dX7_findRuler_21 : decode cX7_findRuler 21 = .ok (.invokevirtual 138, 3) := by decide +kernel
theorem dX7_findRuler_24 : decode cX7_findRuler 24 = .ok (.iastore, 1) := by decide +kernel
theorem dX7_findRuler_25 : decode cX7_findRuler 25 = .ok (.aload_n 0, 1) := by decide +kernel
theorem dX7_findRuler_26 : decode cX7_findRuler 26 = .ok (.iload_n 2, 1) := by decide +kernel
theorem dX7_findRuler_27 : decode cX7_findRuler 27 = .ok (.iconst 2, 1) := by decide +kernel
theorem dX7_findRuler_28 : decode cX7_findRuler 28 = .ok (.invokevirtual 118, 3) := by decide +kernel
theorem dX7_findRuler_31 : decode cX7_findRuler 31 = .ok (.ifCond .le 27, 3) := by decide +kernel
theorem dX7_findRuler_34 : decode cX7_findRuler 34 = .ok (.iload_n 1, 1) := by decide +kernel
theorem dX7_findRuler_35 : decode cX7_findRuler 35 = .ok (.iconst (-1), 1) := by decide +kernel
theorem dX7_findRuler_36 : decode cX7_findRuler 36 = .ok (.if_icmp .eq 18, 3) := by decide +kernel
theorem dX7_findRuler_39 : decode cX7_findRuler 39 = .ok (.aload_n 0, 1) := by decide +kernel
theorem dX7_findRuler_40 : decode cX7_findRuler 40 = .ok (.getfield 31, 3) := by decide +kernel
theorem dX7_findRuler_43 : decode cX7_findRuler 43 = .ok (.iload_n 2, 1) := by decide +kernel
theorem dX7_findRuler_44 : decode cX7_findRuler 44 = .ok (.iaload, 1) := by decide +kernel
theorem dX7_findRuler_45 : decode cX7_findRuler 45 = .ok (.aload_n 0, 1) := by decide +kernel
theorem dX7_findRuler_46 : decode cX7_findRuler 46 = .ok (.getfield 31, 3) := by decide +kernel
theorem dX7_findRuler_49 : decode cX7_findRuler 49 = .ok (.iload_n 1, 1) := by decide +kernel
theorem dX7_findRuler_50 : decode cX7_findRuler 50 = .ok (.iaload, 1) := by decide +kernel
theorem dX7_findRuler_51 : decode cX7_findRuler 51 = .ok (.if_icmp .le 7, 3) := by decide +kernel
theorem dX7_findRuler_54 : decode cX7_findRuler 54 = .ok (.iload_n 2, 1) := by decide +kernel
theorem dX7_findRuler_55 : decode cX7_findRuler 55 = .ok (.goto 4, 3) := by decide +kernel
theorem dX7_findRuler_58 : decode cX7_findRuler 58 = .ok (.iload_n 1, 1) := by decide +kernel
theorem dX7_findRuler_59 : decode cX7_findRuler 59 = .ok (.istore_n 1, 1) := by decide +kernel
theorem dX7_findRuler_60 : decode cX7_findRuler 60 = .ok (.iinc 2 1, 3) := by decide +kernel
theorem dX7_findRuler_63 : decode cX7_findRuler 63 = .ok (.goto (-59), 3) := by decide +kernel
theorem dX7_findRuler_66 : decode cX7_findRuler 66 = .ok (.iload_n 1, 1) := by decide +kernel
theorem dX7_findRuler_67 : decode cX7_findRuler 67 = .ok (.ireturn, 1) := by decide +kernel
theorem dX7_isInKeeping_0 : decode cX7_isInKeeping 0 = .ok (.iload_n 2, 1) := by decide +kernel
theorem dX7_isInKeeping_1 : decode cX7_isInKeeping 1 = .ok (.iconst (-1), 1) := by decide +kernel
theorem dX7_isInKeeping_2 : decode cX7_isInKeeping 2 = .ok (.if_icmp .eq 36, 3) := by decide +kernel
theorem dX7_isInKeeping_5 : decode cX7_isInKeeping 5 = .ok (.aload_n 0, 1) := by decide +kernel
theorem dX7_isInKeeping_6 : decode cX7_isInKeeping 6 = .ok (.aload_n 0, 1) := by decide +kernel
theorem dX7_isInKeeping_7 : decode cX7_isInKeeping 7 = .ok (.iload_n 1, 1) := by decide +kernel
theorem dX7_isInKeeping_8 : decode cX7_isInKeeping 8 = .ok (.iconst 4, 1) := by decide +kernel
theorem dX7_isInKeeping_9 : decode cX7_isInKeeping 9 = .ok (.invokevirtual 118, 3) := by decide +kernel
theorem dX7_isInKeeping_12 : decode cX7_isInKeeping 12 = .ok (.aload_n 0, 1) := by decide +kernel
theorem dX7_isInKeeping_13 : decode cX7_isInKeeping 13 = .ok (.iload_n 2, 1) := by decide +kernel
theorem dX7_isInKeeping_14 : decode cX7_isInKeeping 14 = .ok (.iconst 4, 1) := by decide +kernel
theorem dX7_isInKeeping_15 : decode cX7_isInKeeping 15 = .ok (.invokevirtual 118, 3) := by decide +kernel
theorem dX7_isInKeeping_18 : decode cX7_isInKeeping 18 = .ok (.aload_n 0, 1) := by decide +kernel
theorem dX7_isInKeeping_19 : decode cX7_isInKeeping 19 = .ok (.getfield 7, 3) := by decide +kernel
theorem dX7_isInKeeping_22 : decode cX7_isInKeeping 22 = .ok (.iconst 0, 1) := by decide +kernel
theorem dX7_isInKeeping_23 : decode cX7_isInKeeping 23 = .ok (.iaload, 1) := by decide +kernel
theorem dX7_isInKeeping_24 : decode cX7_isInKeeping 24 = .ok (.bipush 7, 2) := by decide +kernel
theorem dX7_isInKeeping_26 : decode cX7_isInKeeping 26 = .ok (.irem, 1) := by decide +kernel
theorem dX7_isInKeeping_27 : decode cX7_isInKeeping 27 = .ok (.invokevirtual 141, 3) := by decide +kernel
theorem dX7_isInKeeping_30 : decode cX7_isInKeeping 30 = .ok (.iconst 1, 1) := by decide +kernel
theorem dX7_isInKeeping_31 : decode cX7_isInKeeping 31 = .ok (.if_icmp .ne 7, 3) := by decide +kernel
theorem dX7_isInKeeping_34 : decode cX7_isInKeeping 34 = .ok (.iconst 1, 1) := by decide +kernel
theorem dX7_isInKeeping_35 : decode cX7_isInKeeping 35 = .ok (.goto 4, 3) := by decide +kernel
theorem dX7_isInKeeping_38 : decode cX7_isInKeeping 38 = .ok (.iconst 0, 1) := by decide +kernel
theorem dX7_isInKeeping_39 : decode cX7_isInKeeping 39 = .ok (.ireturn, 1) := by decide +kernel
theorem dX7_allLeft_0 : decode cX7_allLeft 0 = .ok (.iconst 0, 1) := by decide +kernel
theorem dX7_allLeft_1 : decode cX7_allLeft 1 = .ok (.istore_n 1, 1) := by decide +kernel
theorem dX7_allLeft_2 : decode cX7_allLeft 2 = .ok (.iconst 0, 1) := by decide +kernel
theorem dX7_allLeft_3 : decode cX7_allLeft 3 = .ok (.istore_n 2, 1) := by decide +kernel
theorem dX7_allLeft_4 : decode cX7_allLeft 4 = .ok (.iload_n 2, 1) := by decide +kernel
theorem dX7_allLeft_5 : decode cX7_allLeft 5 = .ok (.aload_n 0, 1) := by decide +kernel
theorem dX7_allLeft_6 : decode cX7_allLeft 6 = .ok (.getfield 7, 3) := by decide +kernel
theorem dX7_allLeft_9 : decode cX7_allLeft 9 = .ok (.iconst 5, 1) := by decide +kernel
theorem dX7_allLeft_10 : decode cX7_allLeft 10 = .ok (.iaload, 1) := by decide +kernel
theorem dX7_allLeft_11 : decode cX7_allLeft 11 = .ok (.if_icmp .ge 18, 3) := by decide +kernel
theorem dX7_allLeft_14 : decode cX7_allLeft 14 = .ok (.iload_n 1, 1) := by decide +kernel
theorem dX7_allLeft_15 : decode cX7_allLeft 15 = .ok (.aload_n 0, 1) := by decide +kernel
theorem dX7_allLeft_16 : decode cX7_allLeft 16 = .ok (.iload_n 2, 1) := by decide +kernel
theorem dX7_allLeft_17 : decode cX7_allLeft 17 = .ok (.iconst 2, 1) := by decide +kernel
theorem dX7_allLeft_18 : decode cX7_allLeft 18 = .ok (.invokevirtual 118, 3) := by decide +kernel
theorem dX7_allLeft_21 : decode cX7_allLeft 21 = .ok (.iadd, 1) := by decide +kernel
theorem dX7_allLeft_22 : decode cX7_allLeft 22 = .ok (.istore_n 1, 1) := by decide +kernel
theorem dX7_allLeft_23 : decode cX7_allLeft 23 = .ok (.iinc 2 1, 3) := by decide +kernel
theorem dX7_allLeft_26 : decode cX7_allLeft 26 = .ok (.goto (-22), 3) := by decide +kernel
theorem dX7_allLeft_29 : decode cX7_allLeft 29 = .ok (.iload_n 1, 1) := by decide +kernel
theorem dX7_allLeft_30 : decode cX7_allLeft 30 = .ok (.ireturn, 1) := by decide +kernel
theorem dX7_leastClaim_0 : decode cX7_leastClaim 0 = .ok (.iconst (-1), 1) := by decide +kernel
theorem dX7_leastClaim_1 : decode cX7_leastClaim 1 = .ok (.istore_n 1, 1) := by decide +kernel
theorem dX7_leastClaim_2 : decode cX7_leastClaim 2 = .ok (.iconst 0, 1) := by decide +kernel
theorem dX7_leastClaim_3 : decode cX7_leastClaim 3 = .ok (.istore_n 2, 1) := by decide +kernel
theorem dX7_leastClaim_4 : decode cX7_leastClaim 4 = .ok (.iload_n 2, 1) := by decide +kernel
theorem dX7_leastClaim_5 : decode cX7_leastClaim 5 = .ok (.aload_n 0, 1) := by decide +kernel
theorem dX7_leastClaim_6 : decode cX7_leastClaim 6 = .ok (.getfield 7, 3) := by decide +kernel
theorem dX7_leastClaim_9 : decode cX7_leastClaim 9 = .ok (.iconst 5, 1) := by decide +kernel
theorem dX7_leastClaim_10 : decode cX7_leastClaim 10 = .ok (.iaload, 1) := by decide +kernel
theorem dX7_leastClaim_11 : decode cX7_leastClaim 11 = .ok (.if_icmp .ge 44, 3) := by decide +kernel
theorem dX7_leastClaim_14 : decode cX7_leastClaim 14 = .ok (.aload_n 0, 1) := by decide +kernel
theorem dX7_leastClaim_15 : decode cX7_leastClaim 15 = .ok (.getfield 34, 3) := by decide +kernel
theorem dX7_leastClaim_18 : decode cX7_leastClaim 18 = .ok (.iload_n 2, 1) := by decide +kernel
theorem dX7_leastClaim_19 : decode cX7_leastClaim 19 = .ok (.baload, 1) := by decide +kernel
theorem dX7_leastClaim_20 : decode cX7_leastClaim 20 = .ok (.ifCond .eq 27, 3) := by decide +kernel
theorem dX7_leastClaim_23 : decode cX7_leastClaim 23 = .ok (.iload_n 1, 1) := by decide +kernel
theorem dX7_leastClaim_24 : decode cX7_leastClaim 24 = .ok (.iconst (-1), 1) := by decide +kernel
theorem dX7_leastClaim_25 : decode cX7_leastClaim 25 = .ok (.if_icmp .eq 18, 3) := by decide +kernel
theorem dX7_leastClaim_28 : decode cX7_leastClaim 28 = .ok (.aload_n 0, 1) := by decide +kernel
theorem dX7_leastClaim_29 : decode cX7_leastClaim 29 = .ok (.getfield 31, 3) := by decide +kernel
theorem dX7_leastClaim_32 : decode cX7_leastClaim 32 = .ok (.iload_n 2, 1) := by decide +kernel
theorem dX7_leastClaim_33 : decode cX7_leastClaim 33 = .ok (.iaload, 1) := by decide +kernel
theorem dX7_leastClaim_34 : decode cX7_leastClaim 34 = .ok (.aload_n 0, 1) := by decide +kernel
theorem dX7_leastClaim_35 : decode cX7_leastClaim 35 = .ok (.getfield 31, 3) := by decide +kernel
theorem dX7_leastClaim_38 : decode cX7_leastClaim 38 = .ok (.iload_n 1, 1) := by decide +kernel
theorem dX7_leastClaim_39 : decode cX7_leastClaim 39 = .ok (.iaload, 1) := by decide +kernel
theorem dX7_leastClaim_40 : decode cX7_leastClaim 40 = .ok (.if_icmp .ge 7, 3) := by decide +kernel
theorem dX7_leastClaim_43 : decode cX7_leastClaim 43 = .ok (.iload_n 2, 1) := by decide +kernel
theorem dX7_leastClaim_44 : decode cX7_leastClaim 44 = .ok (.goto 4, 3) := by decide +kernel
theorem dX7_leastClaim_47 : decode cX7_leastClaim 47 = .ok (.iload_n 1, 1) := by decide +kernel
theorem dX7_leastClaim_48 : decode cX7_leastClaim 48 = .ok (.istore_n 1, 1) := by decide +kernel
theorem dX7_leastClaim_49 : decode cX7_leastClaim 49 = .ok (.iinc 2 1, 3) := by decide +kernel
theorem dX7_leastClaim_52 : decode cX7_leastClaim 52 = .ok (.goto (-48), 3) := by decide +kernel
theorem dX7_leastClaim_55 : decode cX7_leastClaim 55 = .ok (.iload_n 1, 1) := by decide +kernel
theorem dX7_leastClaim_56 : decode cX7_leastClaim 56 = .ok (.ireturn, 1) := by decide +kernel
theorem dX7_eaten_0 : decode cX7_eaten 0 = .ok (.iload_n 1, 1) := by decide +kernel
theorem dX7_eaten_1 : decode cX7_eaten 1 = .ok (.istore_n 2, 1) := by decide +kernel
theorem dX7_eaten_2 : decode cX7_eaten 2 = .ok (.aload_n 0, 1) := by decide +kernel
theorem dX7_eaten_3 : decode cX7_eaten 3 = .ok (.invokevirtual 144, 3) := by decide +kernel
theorem dX7_eaten_6 : decode cX7_eaten 6 = .ok (.istore_n 3, 1) := by decide +kernel
theorem dX7_eaten_7 : decode cX7_eaten 7 = .ok (.iload_n 3, 1) := by decide +kernel
theorem dX7_eaten_8 : decode cX7_eaten 8 = .ok (.iconst (-1), 1) := by decide +kernel
theorem dX7_eaten_9 : decode cX7_eaten 9 = .ok (.if_icmp .eq 60, 3) := by decide +kernel
theorem dX7_eaten_12 : decode cX7_eaten 12 = .ok (.aload_n 0, 1) := by decide +kernel
theorem dX7_eaten_13 : decode cX7_eaten 13 = .ok (.iload_n 3, 1) := by decide +kernel
theorem dX7_eaten_14 : decode cX7_eaten 14 = .ok (.iconst 2, 1) := by decide +kernel
theorem dX7_eaten_15 : decode cX7_eaten 15 = .ok (.invokevirtual 118, 3) := by decide +kernel
theorem dX7_eaten_18 : decode cX7_eaten 18 = .ok (.iload_n 2, 1) := by decide +kernel
theorem dX7_eaten_19 : decode cX7_eaten 19 = .ok (.if_icmp .ge 12, 3) := by decide +kernel
theorem dX7_eaten_22 : decode cX7_eaten 22 = .ok (.aload_n 0, 1) := by decide +kernel
theorem dX7_eaten_23 : decode cX7_eaten 23 = .ok (.iload_n 3, 1) := by decide +kernel
theorem dX7_eaten_24 : decode cX7_eaten 24 = .ok (.iconst 2, 1) := by decide +kernel
theorem dX7_eaten_25 : decode cX7_eaten 25 = .ok (.invokevirtual 118, 3) := by decide +kernel
theorem dX7_eaten_28 : decode cX7_eaten 28 = .ok (.goto 4, 3) := by decide +kernel
theorem dX7_eaten_31 : decode cX7_eaten 31 = .ok (.iload_n 2, 1) := by decide +kernel
theorem dX7_eaten_32 : decode cX7_eaten 32 = .ok (.istore 4, 2) := by decide +kernel
theorem dX7_eaten_34 : decode cX7_eaten 34 = .ok (.aload_n 0, 1) := by decide +kernel
theorem dX7_eaten_35 : decode cX7_eaten 35 = .ok (.iload_n 3, 1) := by decide +kernel
theorem dX7_eaten_36 : decode cX7_eaten 36 = .ok (.iconst 2, 1) := by decide +kernel
theorem dX7_eaten_37 : decode cX7_eaten 37 = .ok (.aload_n 0, 1) := by decide +kernel
theorem dX7_eaten_38 : decode cX7_eaten 38 = .ok (.iload_n 3, 1) := by decide +kernel
theorem dX7_eaten_39 : decode cX7_eaten 39 = .ok (.iconst 2, 1) := by decide +kernel
theorem dX7_eaten_40 : decode cX7_eaten 40 = .ok (.invokevirtual 118, 3) := by decide +kernel
theorem dX7_eaten_43 : decode cX7_eaten 43 = .ok (.iload 4, 2) := by decide +kernel
theorem dX7_eaten_45 : decode cX7_eaten 45 = .ok (.isub, 1) := by decide +kernel
theorem dX7_eaten_46 : decode cX7_eaten 46 = .ok (.invokevirtual 147, 3) := by decide +kernel
theorem dX7_eaten_49 : decode cX7_eaten 49 = .ok (.iload_n 2, 1) := by decide +kernel
theorem dX7_eaten_50 : decode cX7_eaten 50 = .ok (.iload 4, 2) := by decide +kernel
theorem dX7_eaten_52 : decode cX7_eaten 52 = .ok (.isub, 1) := by decide +kernel
theorem dX7_eaten_53 : decode cX7_eaten 53 = .ok (.istore_n 2, 1) := by decide +kernel
theorem dX7_eaten_54 : decode cX7_eaten 54 = .ok (.aload_n 0, 1) := by decide +kernel
theorem dX7_eaten_55 : decode cX7_eaten 55 = .ok (.getfield 34, 3) := by decide +kernel
theorem dX7_eaten_58 : decode cX7_eaten 58 = .ok (.iload_n 3, 1) := by decide +kernel
theorem dX7_eaten_59 : decode cX7_eaten 59 = .ok (.iconst 0, 1) := by decide +kernel
theorem dX7_eaten_60 : decode cX7_eaten 60 = .ok (.bastore, 1) := by decide +kernel
theorem dX7_eaten_61 : decode cX7_eaten 61 = .ok (.aload_n 0, 1) := by decide +kernel
theorem dX7_eaten_62 : decode cX7_eaten 62 = .ok (.invokevirtual 144, 3) := by decide +kernel
theorem dX7_eaten_65 : decode cX7_eaten 65 = .ok (.istore_n 3, 1) := by decide +kernel
theorem dX7_eaten_66 : decode cX7_eaten 66 = .ok (.goto (-59), 3) := by decide +kernel
theorem dX7_eaten_69 : decode cX7_eaten 69 = .ok (.iload_n 2, 1) := by decide +kernel
theorem dX7_eaten_70 : decode cX7_eaten 70 = .ok (.ireturn, 1) := by decide +kernel
theorem dX7_aMeal_0 : decode cX7_aMeal 0 = .ok (.aload_n 0, 1) := by decide +kernel
theorem dX7_aMeal_1 : decode cX7_aMeal 1 = .ok (.invokevirtual 151, 3) := by decide +kernel
theorem dX7_aMeal_4 : decode cX7_aMeal 4 = .ok (.istore_n 2, 1) := by decide +kernel
theorem dX7_aMeal_5 : decode cX7_aMeal 5 = .ok (.iconst 0, 1) := by decide +kernel
theorem dX7_aMeal_6 : decode cX7_aMeal 6 = .ok (.istore_n 3, 1) := by decide +kernel
theorem dX7_aMeal_7 : decode cX7_aMeal 7 = .ok (.iload_n 3, 1) := by decide +kernel
theorem dX7_aMeal_8 : decode cX7_aMeal 8 = .ok (.aload_n 0, 1) := by decide +kernel
theorem dX7_aMeal_9 : decode cX7_aMeal 9 = .ok (.getfield 7, 3) := by decide +kernel
theorem dX7_aMeal_12 : decode cX7_aMeal 12 = .ok (.iconst 5, 1) := by decide +kernel
theorem dX7_aMeal_13 : decode cX7_aMeal 13 = .ok (.iaload, 1) := by decide +kernel
theorem dX7_aMeal_14 : decode cX7_aMeal 14 = .ok (.if_icmp .ge 38, 3) := by decide +kernel
theorem dX7_aMeal_17 : decode cX7_aMeal 17 = .ok (.aload_n 0, 1) := by decide +kernel
theorem dX7_aMeal_18 : decode cX7_aMeal 18 = .ok (.getfield 34, 3) := by decide +kernel
theorem dX7_aMeal_21 : decode cX7_aMeal 21 = .ok (.iload_n 3, 1) := by decide +kernel
theorem dX7_aMeal_22 : decode cX7_aMeal 22 = .ok (.aload_n 0, 1) := by decide +kernel
theorem dX7_aMeal_23 : decode cX7_aMeal 23 = .ok (.iload_n 3, 1) := by decide +kernel
theorem dX7_aMeal_24 : decode cX7_aMeal 24 = .ok (.iconst 2, 1) := by decide +kernel
theorem dX7_aMeal_25 : decode cX7_aMeal 25 = .ok (.invokevirtual 118, 3) := by decide +kernel
theorem dX7_aMeal_28 : decode cX7_aMeal 28 = .ok (.ifCond .le 16, 3) := by decide +kernel
theorem dX7_aMeal_31 : decode cX7_aMeal 31 = .ok (.aload_n 0, 1) := by decide +kernel
theorem dX7_aMeal_32 : decode cX7_aMeal 32 = .ok (.iload_n 3, 1) := by decide +kernel
theorem dX7_aMeal_33 : decode cX7_aMeal 33 = .ok (.iload_n 2, 1) := by decide +kernel
theorem dX7_aMeal_34 : decode cX7_aMeal 34 = .ok (.invokevirtual 154, 3) := by decide +kernel
theorem dX7_aMeal_37 : decode cX7_aMeal 37 = .ok (.ifCond .eq 7, 3) := by decide +kernel
theorem dX7_aMeal_40 : decode cX7_aMeal 40 = .ok (.iconst 1, 1) := by decide +kernel
theorem dX7_aMeal_41 : decode cX7_aMeal 41 = .ok (.goto 4, 3) := by decide +kernel
theorem dX7_aMeal_44 : decode cX7_aMeal 44 = .ok (.iconst 0, 1) := by decide +kernel
theorem dX7_aMeal_45 : decode cX7_aMeal 45 = .ok (.bastore, 1) := by decide +kernel
theorem dX7_aMeal_46 : decode cX7_aMeal 46 = .ok (.iinc 3 1, 3) := by decide +kernel
theorem dX7_aMeal_49 : decode cX7_aMeal 49 = .ok (.goto (-42), 3) := by decide +kernel
theorem dX7_aMeal_52 : decode cX7_aMeal 52 = .ok (.aload_n 0, 1) := by decide +kernel
theorem dX7_aMeal_53 : decode cX7_aMeal 53 = .ok (.iload_n 1, 1) := by decide +kernel
theorem dX7_aMeal_54 : decode cX7_aMeal 54 = .ok (.invokevirtual 158, 3) := by decide +kernel
theorem dX7_aMeal_57 : decode cX7_aMeal 57 = .ok (.istore_n 3, 1) := by decide +kernel
theorem dX7_aMeal_58 : decode cX7_aMeal 58 = .ok (.iconst 0, 1) := by decide +kernel
theorem dX7_aMeal_59 : decode cX7_aMeal 59 = .ok (.istore 4, 2) := by decide +kernel
theorem dX7_aMeal_61 : decode cX7_aMeal 61 = .ok (.iload 4, 2) := by decide +kernel
theorem dX7_aMeal_63 : decode cX7_aMeal 63 = .ok (.aload_n 0, 1) := by decide +kernel
theorem dX7_aMeal_64 : decode cX7_aMeal 64 = .ok (.getfield 7, 3) := by decide +kernel
theorem dX7_aMeal_67 : decode cX7_aMeal 67 = .ok (.iconst 5, 1) := by decide +kernel
theorem dX7_aMeal_68 : decode cX7_aMeal 68 = .ok (.iaload, 1) := by decide +kernel
theorem dX7_aMeal_69 : decode cX7_aMeal 69 = .ok (.if_icmp .ge 69, 3) := by decide +kernel
theorem dX7_aMeal_72 : decode cX7_aMeal 72 = .ok (.aload_n 0, 1) := by decide +kernel
theorem dX7_aMeal_73 : decode cX7_aMeal 73 = .ok (.iload 4, 2) := by decide +kernel
theorem dX7_aMeal_75 : decode cX7_aMeal 75 = .ok (.iconst 2, 1) := by decide +kernel
theorem dX7_aMeal_76 : decode cX7_aMeal 76 = .ok (.invokevirtual 118, 3) := by decide +kernel
theorem dX7_aMeal_79 : decode cX7_aMeal 79 = .ok (.ifCond .le 53, 3) := by decide +kernel
theorem dX7_aMeal_82 : decode cX7_aMeal 82 = .ok (.aload_n 0, 1) := by decide +kernel
theorem dX7_aMeal_83 : decode cX7_aMeal 83 = .ok (.iload 4, 2) := by decide +kernel
theorem dX7_aMeal_85 : decode cX7_aMeal 85 = .ok (.iconst 3, 1) := by decide +kernel
theorem dX7_aMeal_86 : decode cX7_aMeal 86 = .ok (.aload_n 0, 1) := by decide +kernel
theorem dX7_aMeal_87 : decode cX7_aMeal 87 = .ok (.iload 4, 2) := by decide +kernel
theorem dX7_aMeal_89 : decode cX7_aMeal 89 = .ok (.iconst 3, 1) := by decide +kernel
theorem dX7_aMeal_90 : decode cX7_aMeal 90 = .ok (.invokevirtual 118, 3) := by decide +kernel
theorem dX7_aMeal_93 : decode cX7_aMeal 93 = .ok (.iconst 1, 1) := by decide +kernel
theorem dX7_aMeal_94 : decode cX7_aMeal 94 = .ok (.iadd, 1) := by decide +kernel
theorem dX7_aMeal_95 : decode cX7_aMeal 95 = .ok (.iconst 0, 1) := by decide +kernel
theorem dX7_aMeal_96 : decode cX7_aMeal 96 = .ok (.sipush 999, 3) := by decide +kernel
theorem dX7_aMeal_99 : decode cX7_aMeal 99 = .ok (.invokestatic 125, 3) := by decide +kernel
theorem dX7_aMeal_102 : decode cX7_aMeal 102 = .ok (.invokevirtual 147, 3) := by decide +kernel
theorem dX7_aMeal_105 : decode cX7_aMeal 105 = .ok (.aload_n 0, 1) := by decide +kernel
theorem dX7_aMeal_106 : decode cX7_aMeal 106 = .ok (.iload 4, 2) := by decide +kernel
theorem dX7_aMeal_108 : decode cX7_aMeal 108 = .ok (.iconst 2, 1) := by decide +kernel
theorem dX7_aMeal_109 : decode cX7_aMeal 109 = .ok (.aload_n 0, 1) := by decide +kernel
theorem dX7_aMeal_110 : decode cX7_aMeal 110 = .ok (.iload 4, 2) := by decide +kernel
theorem dX7_aMeal_112 : decode cX7_aMeal 112 = .ok (.iconst 2, 1) := by decide +kernel
theorem dX7_aMeal_113 : decode cX7_aMeal 113 = .ok (.invokevirtual 118, 3) := by decide +kernel
theorem dX7_aMeal_116 : decode cX7_aMeal 116 = .ok (.aload_n 0, 1) := by decide +kernel
theorem dX7_aMeal_117 : decode cX7_aMeal 117 = .ok (.iload 4, 2) := by decide +kernel
theorem dX7_aMeal_119 : decode cX7_aMeal 119 = .ok (.invokevirtual 161, 3) := by decide +kernel
theorem dX7_aMeal_122 : decode cX7_aMeal 122 = .ok (.isub, 1) := by decide +kernel
theorem dX7_aMeal_123 : decode cX7_aMeal 123 = .ok (.iconst 0, 1) := by decide +kernel
theorem dX7_aMeal_124 : decode cX7_aMeal 124 = .ok (.bipush 99, 2) := by decide +kernel
theorem dX7_aMeal_126 : decode cX7_aMeal 126 = .ok (.invokestatic 125, 3) := by decide +kernel
theorem dX7_aMeal_129 : decode cX7_aMeal 129 = .ok (.invokevirtual 147, 3) := by decide +kernel
theorem dX7_aMeal_132 : decode cX7_aMeal 132 = .ok (.iinc 4 1, 3) := by decide +kernel
theorem dX7_aMeal_135 : decode cX7_aMeal 135 = .ok (.goto (-74), 3) := by decide +kernel
theorem dX7_aMeal_138 : decode cX7_aMeal 138 = .ok (.aload_n 0, 1) := by decide +kernel
theorem dX7_aMeal_139 : decode cX7_aMeal 139 = .ok (.getfield 7, 3) := by decide +kernel
theorem dX7_aMeal_142 : decode cX7_aMeal 142 = .ok (.iconst 1, 1) := by decide +kernel
theorem dX7_aMeal_143 : decode cX7_aMeal 143 = .ok (.aload_n 0, 1) := by decide +kernel
theorem dX7_aMeal_144 : decode cX7_aMeal 144 = .ok (.getfield 7, 3) := by decide +kernel
theorem dX7_aMeal_147 : decode cX7_aMeal 147 = .ok (.iconst 1, 1) := by decide +kernel
theorem dX7_aMeal_148 : decode cX7_aMeal 148 = .ok (.iaload, 1) := by decide +kernel
theorem dX7_aMeal_149 : decode cX7_aMeal 149 = .ok (.iload_n 3, 1) := by decide +kernel
theorem dX7_aMeal_150 : decode cX7_aMeal 150 = .ok (.iadd, 1) := by decide +kernel
theorem dX7_aMeal_151 : decode cX7_aMeal 151 = .ok (.iconst 0, 1) := by decide +kernel
theorem dX7_aMeal_152 : decode cX7_aMeal 152 = .ok (.ldc 164, 2) := by decide +kernel
theorem dX7_aMeal_154 : decode cX7_aMeal 154 = .ok (.invokestatic 125, 3) := by decide +kernel
theorem dX7_aMeal_157 : decode cX7_aMeal 157 = .ok (.iastore, 1) := by decide +kernel
theorem dX7_aMeal_158 : decode cX7_aMeal 158 = .ok (.aload_n 0, 1) := by decide +kernel
theorem dX7_aMeal_159 : decode cX7_aMeal 159 = .ok (.getfield 7, 3) := by decide +kernel
theorem dX7_aMeal_162 : decode cX7_aMeal 162 = .ok (.iconst 0, 1) := by decide +kernel
theorem dX7_aMeal_163 : decode cX7_aMeal 163 = .ok (.dup2, 1) := by decide +kernel
theorem dX7_aMeal_164 : decode cX7_aMeal 164 = .ok (.iaload, 1) := by decide +kernel
theorem dX7_aMeal_165 : decode cX7_aMeal 165 = .ok (.iconst 1, 1) := by decide +kernel
theorem dX7_aMeal_166 : decode cX7_aMeal 166 = .ok (.iadd, 1) := by decide +kernel
theorem dX7_aMeal_167 : decode cX7_aMeal 167 = .ok (.iastore, 1) := by decide +kernel
theorem dX7_aMeal_168 : decode cX7_aMeal 168 = .ok (.iload_n 3, 1) := by decide +kernel
theorem dX7_aMeal_169 : decode cX7_aMeal 169 = .ok (.ireturn, 1) := by decide +kernel
theorem dX7_goes_0 : decode cX7_goes 0 = .ok (.iconst 0, 1) := by decide +kernel
theorem dX7_goes_1 : decode cX7_goes 1 = .ok (.istore_n 3, 1) := by decide +kernel
theorem dX7_goes_2 : decode cX7_goes 2 = .ok (.iload_n 3, 1) := by decide +kernel
theorem dX7_goes_3 : decode cX7_goes 3 = .ok (.iload_n 1, 1) := by decide +kernel
theorem dX7_goes_4 : decode cX7_goes 4 = .ok (.if_icmp .ge 16, 3) := by decide +kernel
theorem dX7_goes_7 : decode cX7_goes 7 = .ok (.aload_n 0, 1) := by decide +kernel
theorem dX7_goes_8 : decode cX7_goes 8 = .ok (.iload_n 2, 1) := by decide +kernel
theorem dX7_goes_9 : decode cX7_goes 9 = .ok (.invokevirtual 165, 3) := by decide +kernel
theorem dX7_goes_12 : decode cX7_goes 12 = .ok (.istore 4, 2) := by decide +kernel
theorem dX7_goes_14 : decode cX7_goes 14 = .ok (.iinc 3 1, 3) := by decide +kernel
theorem dX7_goes_17 : decode cX7_goes 17 = .ok (.goto (-15), 3) := by decide +kernel
theorem dX7_goes_20 : decode cX7_goes 20 = .ok (.return_, 1) := by decide +kernel
theorem dX7_draw_0 : decode cX7_draw 0 = .ok (.aload_n 0, 1) := by decide +kernel
theorem dX7_draw_1 : decode cX7_draw 1 = .ok (.getfield 7, 3) := by decide +kernel
theorem dX7_draw_4 : decode cX7_draw 4 = .ok (.iconst 2, 1) := by decide +kernel
theorem dX7_draw_5 : decode cX7_draw 5 = .ok (.aload_n 0, 1) := by decide +kernel
theorem dX7_draw_6 : decode cX7_draw 6 = .ok (.getfield 7, 3) := by decide +kernel
theorem dX7_draw_9 : decode cX7_draw 9 = .ok (.iconst 2, 1) := by decide +kernel
theorem dX7_draw_10 : decode cX7_draw 10 = .ok (.iaload, 1) := by decide +kernel
theorem dX7_draw_11 : decode cX7_draw 11 = .ok (.ldc 168, 2) := by decide +kernel
theorem dX7_draw_13 : decode cX7_draw 13 = .ok (.imul, 1) := by decide +kernel
theorem dX7_draw_14 : decode cX7_draw 14 = .ok (.sipush 12345, 3) := by decide +kernel
theorem dX7_draw_17 : decode cX7_draw 17 = .ok (.iadd, 1) := by decide +kernel
theorem dX7_draw_18 : decode cX7_draw 18 = .ok (.iastore, 1) := by decide +kernel
theorem dX7_draw_19 : decode cX7_draw 19 = .ok (.aload_n 0, 1) := by decide +kernel
theorem dX7_draw_20 : decode cX7_draw 20 = .ok (.getfield 7, 3) := by decide +kernel
theorem dX7_draw_23 : decode cX7_draw 23 = .ok (.iconst 2, 1) := by decide +kernel
theorem dX7_draw_24 : decode cX7_draw 24 = .ok (.iaload, 1) := by decide +kernel
theorem dX7_draw_25 : decode cX7_draw 25 = .ok (.bipush 8, 2) := by decide +kernel
theorem dX7_draw_27 : decode cX7_draw 27 = .ok (.iushr, 1) := by decide +kernel
theorem dX7_draw_28 : decode cX7_draw 28 = .ok (.ireturn, 1) := by decide +kernel
theorem dX7_isKind_0 : decode cX7_isKind 0 = .ok (.iload_n 0, 1) := by decide +kernel
theorem dX7_isKind_1 : decode cX7_isKind 1 = .ok (.iconst 0, 1) := by decide +kernel
theorem dX7_isKind_2 : decode cX7_isKind 2 = .ok (.bipush 69, 2) := by decide +kernel
theorem dX7_isKind_4 : decode cX7_isKind 4 = .ok (.invokestatic 54, 3) := by decide +kernel
theorem dX7_isKind_7 : decode cX7_isKind 7 = .ok (.ireturn, 1) := by decide +kernel
theorem dX7_laysDish_0 : decode cX7_laysDish 0 = .ok (.aload_n 0, 1) := by decide +kernel
theorem dX7_laysDish_1 : decode cX7_laysDish 1 = .ok (.getfield 7, 3) := by decide +kernel
theorem dX7_laysDish_4 : decode cX7_laysDish 4 = .ok (.iconst 5, 1) := by decide +kernel
theorem dX7_laysDish_5 : decode cX7_laysDish 5 = .ok (.iaload, 1) := by decide +kernel
theorem dX7_laysDish_6 : decode cX7_laysDish 6 = .ok (.istore 4, 2) := by decide +kernel
theorem dX7_laysDish_8 : decode cX7_laysDish 8 = .ok (.aload_n 0, 1) := by decide +kernel
theorem dX7_laysDish_9 : decode cX7_laysDish 9 = .ok (.iload 4, 2) := by decide +kernel
theorem dX7_laysDish_11 : decode cX7_laysDish 11 = .ok (.iconst 0, 1) := by decide +kernel
theorem dX7_laysDish_12 : decode cX7_laysDish 12 = .ok (.iload_n 1, 1) := by decide +kernel
theorem dX7_laysDish_13 : decode cX7_laysDish 13 = .ok (.bipush 10, 2) := by decide +kernel
theorem dX7_laysDish_15 : decode cX7_laysDish 15 = .ok (.idiv, 1) := by decide +kernel
theorem dX7_laysDish_16 : decode cX7_laysDish 16 = .ok (.invokevirtual 147, 3) := by decide +kernel
theorem dX7_laysDish_19 : decode cX7_laysDish 19 = .ok (.aload_n 0, 1) := by decide +kernel
theorem dX7_laysDish_20 : decode cX7_laysDish 20 = .ok (.iload 4, 2) := by decide +kernel
theorem dX7_laysDish_22 : decode cX7_laysDish 22 = .ok (.iconst 1, 1) := by decide +kernel
theorem dX7_laysDish_23 : decode cX7_laysDish 23 = .ok (.iload_n 1, 1) := by decide +kernel
theorem dX7_laysDish_24 : decode cX7_laysDish 24 = .ok (.bipush 10, 2) := by decide +kernel
theorem dX7_laysDish_26 : decode cX7_laysDish 26 = .ok (.irem, 1) := by decide +kernel
theorem dX7_laysDish_27 : decode cX7_laysDish 27 = .ok (.invokevirtual 147, 3) := by decide +kernel
theorem dX7_laysDish_30 : decode cX7_laysDish 30 = .ok (.aload_n 0, 1) := by decide +kernel
theorem dX7_laysDish_31 : decode cX7_laysDish 31 = .ok (.iload 4, 2) := by decide +kernel
theorem dX7_laysDish_33 : decode cX7_laysDish 33 = .ok (.iconst 2, 1) := by decide +kernel
theorem dX7_laysDish_34 : decode cX7_laysDish 34 = .ok (.iload_n 2, 1) := by decide +kernel
theorem dX7_laysDish_35 : decode cX7_laysDish 35 = .ok (.invokevirtual 147, 3) := by decide +kernel
theorem dX7_laysDish_38 : decode cX7_laysDish 38 = .ok (.aload_n 0, 1) := by decide +kernel
theorem dX7_laysDish_39 : decode cX7_laysDish 39 = .ok (.iload 4, 2) := by decide +kernel
theorem dX7_laysDish_41 : decode cX7_laysDish 41 = .ok (.iconst 3, 1) := by decide +kernel
theorem dX7_laysDish_42 : decode cX7_laysDish 42 = .ok (.iconst 0, 1) := by decide +kernel
theorem dX7_laysDish_43 : decode cX7_laysDish 43 = .ok (.invokevirtual 147, 3) := by decide +kernel
theorem dX7_laysDish_46 : decode cX7_laysDish 46 = .ok (.aload_n 0, 1) := by decide +kernel
theorem dX7_laysDish_47 : decode cX7_laysDish 47 = .ok (.iload 4, 2) := by decide +kernel
theorem dX7_laysDish_49 : decode cX7_laysDish 49 = .ok (.iconst 4, 1) := by decide +kernel
theorem dX7_laysDish_50 : decode cX7_laysDish 50 = .ok (.iload_n 3, 1) := by decide +kernel
theorem dX7_laysDish_51 : decode cX7_laysDish 51 = .ok (.invokevirtual 147, 3) := by decide +kernel
theorem dX7_laysDish_54 : decode cX7_laysDish 54 = .ok (.aload_n 0, 1) := by decide +kernel
theorem dX7_laysDish_55 : decode cX7_laysDish 55 = .ok (.getfield 7, 3) := by decide +kernel
theorem dX7_laysDish_58 : decode cX7_laysDish 58 = .ok (.iconst 5, 1) := by decide +kernel
theorem dX7_laysDish_59 : decode cX7_laysDish 59 = .ok (.dup2, 1) := by decide +kernel
theorem dX7_laysDish_60 : decode cX7_laysDish 60 = .ok (.iaload, 1) := by decide +kernel
theorem dX7_laysDish_61 : decode cX7_laysDish 61 = .ok (.iconst 1, 1) := by decide +kernel
theorem dX7_laysDish_62 : decode cX7_laysDish 62 = .ok (.iadd, 1) := by decide +kernel
theorem dX7_laysDish_63 : decode cX7_laysDish 63 = .ok (.iastore, 1) := by decide +kernel
theorem dX7_laysDish_64 : decode cX7_laysDish 64 = .ok (.return_, 1) := by decide +kernel
theorem dX7_dish_0 : decode cX7_dish 0 = .ok (.iload_n 1, 1) := by decide +kernel
theorem dX7_dish_1 : decode cX7_dish 1 = .ok (.invokestatic 169, 3) := by decide +kernel
theorem dX7_dish_4 : decode cX7_dish 4 = .ok (.ifCond .eq 23, 3) := by decide +kernel
theorem dX7_dish_7 : decode cX7_dish 7 = .ok (.iload_n 2, 1) := by decide +kernel
theorem dX7_dish_8 : decode cX7_dish 8 = .ok (.iconst 0, 1) := by decide +kernel
theorem dX7_dish_9 : decode cX7_dish 9 = .ok (.bipush 99, 2) := by decide +kernel
theorem dX7_dish_11 : decode cX7_dish 11 = .ok (.invokestatic 54, 3) := by decide +kernel
theorem dX7_dish_14 : decode cX7_dish 14 = .ok (.ifCond .eq 13, 3) := by decide +kernel
theorem dX7_dish_17 : decode cX7_dish 17 = .ok (.iload_n 3, 1) := by decide +kernel
theorem dX7_dish_18 : decode cX7_dish 18 = .ok (.iconst 0, 1) := by decide +kernel
theorem dX7_dish_19 : decode cX7_dish 19 = .ok (.bipush 9, 2) := by decide +kernel
theorem dX7_dish_21 : decode cX7_dish 21 = .ok (.invokestatic 54, 3) := by decide +kernel
theorem dX7_dish_24 : decode cX7_dish 24 = .ok (.ifCond .ne 9, 3) := by decide +kernel
theorem dX7_dish_27 : decode cX7_dish 27 = .ok (.aload_n 0, 1) := by decide +kernel
theorem dX7_dish_28 : decode cX7_dish 28 = .ok (.iconst 1, 1) := by decide +kernel
theorem dX7_dish_29 : decode cX7_dish 29 = .ok (.invokevirtual 58, 3) := by decide +kernel
theorem dX7_dish_32 : decode cX7_dish 32 = .ok (.ireturn, 1) := by decide +kernel
theorem dX7_dish_33 : decode cX7_dish 33 = .ok (.aload_n 0, 1) := by decide +kernel
theorem dX7_dish_34 : decode cX7_dish 34 = .ok (.getfield 7, 3) := by decide +kernel
theorem dX7_dish_37 : decode cX7_dish 37 = .ok (.iconst 5, 1) := by decide +kernel
theorem dX7_dish_38 : decode cX7_dish 38 = .ok (.iaload, 1) := by decide +kernel
theorem dX7_dish_39 : decode cX7_dish 39 = .ok (.bipush 9, 2) := by decide +kernel
theorem dX7_dish_41 : decode cX7_dish 41 = .ok (.if_icmp .ne 9, 3) := by decide +kernel
theorem dX7_dish_44 : decode cX7_dish 44 = .ok (.aload_n 0, 1) := by decide +kernel
theorem dX7_dish_45 : decode cX7_dish 45 = .ok (.iconst 4, 1) := by decide +kernel
theorem dX7_dish_46 : decode cX7_dish 46 = .ok (.invokevirtual 58, 3) := by decide +kernel
theorem dX7_dish_49 : decode cX7_dish 49 = .ok (.ireturn, 1) := by decide +kernel
theorem dX7_dish_50 : decode cX7_dish 50 = .ok (.aload_n 0, 1) := by decide +kernel
theorem dX7_dish_51 : decode cX7_dish 51 = .ok (.iload_n 1, 1) := by decide +kernel
theorem dX7_dish_52 : decode cX7_dish 52 = .ok (.iload_n 2, 1) := by decide +kernel
theorem dX7_dish_53 : decode cX7_dish 53 = .ok (.iload_n 3, 1) := by decide +kernel
theorem dX7_dish_54 : decode cX7_dish 54 = .ok (.invokevirtual 172, 3) := by decide +kernel
theorem dX7_dish_57 : decode cX7_dish 57 = .ok (.aload_n 0, 1) := by decide +kernel
theorem dX7_dish_58 : decode cX7_dish 58 = .ok (.getfield 7, 3) := by decide +kernel
theorem dX7_dish_61 : decode cX7_dish 61 = .ok (.iconst 5, 1) := by decide +kernel
theorem dX7_dish_62 : decode cX7_dish 62 = .ok (.iaload, 1) := by decide +kernel
theorem dX7_dish_63 : decode cX7_dish 63 = .ok (.iconst 1, 1) := by decide +kernel
theorem dX7_dish_64 : decode cX7_dish 64 = .ok (.isub, 1) := by decide +kernel
theorem dX7_dish_65 : decode cX7_dish 65 = .ok (.ireturn, 1) := by decide +kernel
theorem dX7_dishIs_0 : decode cX7_dishIs 0 = .ok (.aload_n 0, 1) := by decide +kernel
theorem dX7_dishIs_1 : decode cX7_dishIs 1 = .ok (.iload_n 1, 1) := by decide +kernel
theorem dX7_dishIs_2 : decode cX7_dishIs 2 = .ok (.invokevirtual 175, 3) := by decide +kernel
theorem dX7_dishIs_5 : decode cX7_dishIs 5 = .ok (.ifCond .eq 13, 3) := by decide +kernel
theorem dX7_dishIs_8 : decode cX7_dishIs 8 = .ok (.iload_n 2, 1) := by decide +kernel
theorem dX7_dishIs_9 : decode cX7_dishIs 9 = .ok (.iconst 0, 1) := by decide +kernel
theorem dX7_dishIs_10 : decode cX7_dishIs 10 = .ok (.bipush 7, 2) := by decide +kernel
theorem dX7_dishIs_12 : decode cX7_dishIs 12 = .ok (.invokestatic 54, 3) := by decide +kernel
theorem dX7_dishIs_15 : decode cX7_dishIs 15 = .ok (.ifCond .ne 9, 3) := by decide +kernel
theorem dX7_dishIs_18 : decode cX7_dishIs 18 = .ok (.aload_n 0, 1) := by decide +kernel
theorem dX7_dishIs_19 : decode cX7_dishIs 19 = .ok (.iconst 1, 1) := by decide +kernel
theorem dX7_dishIs_20 : decode cX7_dishIs 20 = .ok (.invokevirtual 58, 3) := by decide +kernel
theorem dX7_dishIs_23 : decode cX7_dishIs 23 = .ok (.ireturn, 1) := by decide +kernel
theorem dX7_dishIs_24 : decode cX7_dishIs 24 = .ok (.iload_n 2, 1) := by decide +kernel
theorem dX7_dishIs_25 : decode cX7_dishIs 25 = .ok (.tableswitch 57 5 7 #[27, 33, 39], 27) := by decide +kernel
theorem dX7_dishIs_52 : decode cX7_dishIs 52 = .ok (.aload_n 0, 1) := by decide +kernel
theorem dX7_dishIs_53 : decode cX7_dishIs 53 = .ok (.iload_n 1, 1) := by decide +kernel
theorem dX7_dishIs_54 : decode cX7_dishIs 54 = .ok (.invokevirtual 138, 3) := by decide +kernel
theorem dX7_dishIs_57 : decode cX7_dishIs 57 = .ok (.ireturn, 1) := by decide +kernel
theorem dX7_dishIs_58 : decode cX7_dishIs 58 = .ok (.aload_n 0, 1) := by decide +kernel
theorem dX7_dishIs_59 : decode cX7_dishIs 59 = .ok (.iload_n 1, 1) := by decide +kernel
theorem dX7_dishIs_60 : decode cX7_dishIs 60 = .ok (.invokevirtual 161, 3) := by decide +kernel
theorem dX7_dishIs_63 : decode cX7_dishIs 63 = .ok (.ireturn, 1) := by decide +kernel
theorem dX7_dishIs_64 : decode cX7_dishIs 64 = .ok (.aload_n 0, 1) := by decide +kernel
theorem dX7_dishIs_65 : decode cX7_dishIs 65 = .ok (.iload_n 1, 1) := by decide +kernel
theorem dX7_dishIs_66 : decode cX7_dishIs 66 = .ok (.aload_n 0, 1) := by decide +kernel
theorem dX7_dishIs_67 : decode cX7_dishIs 67 = .ok (.invokevirtual 151, 3) := by decide +kernel
theorem dX7_dishIs_70 : decode cX7_dishIs 70 = .ok (.invokevirtual 154, 3) := by decide +kernel
theorem dX7_dishIs_73 : decode cX7_dishIs 73 = .ok (.ifCond .eq 7, 3) := by decide +kernel
theorem dX7_dishIs_76 : decode cX7_dishIs 76 = .ok (.iconst 1, 1) := by decide +kernel
theorem dX7_dishIs_77 : decode cX7_dishIs 77 = .ok (.goto 4, 3) := by decide +kernel
theorem dX7_dishIs_80 : decode cX7_dishIs 80 = .ok (.iconst 0, 1) := by decide +kernel
theorem dX7_dishIs_81 : decode cX7_dishIs 81 = .ok (.ireturn, 1) := by decide +kernel
theorem dX7_dishIs_82 : decode cX7_dishIs 82 = .ok (.aload_n 0, 1) := by decide +kernel
theorem dX7_dishIs_83 : decode cX7_dishIs 83 = .ok (.iload_n 1, 1) := by decide +kernel
theorem dX7_dishIs_84 : decode cX7_dishIs 84 = .ok (.iload_n 2, 1) := by decide +kernel
theorem dX7_dishIs_85 : decode cX7_dishIs 85 = .ok (.invokevirtual 118, 3) := by decide +kernel
theorem dX7_dishIs_88 : decode cX7_dishIs 88 = .ok (.ireturn, 1) := by decide +kernel
theorem dX7_become_0 : decode cX7_become 0 = .ok (.aload_n 0, 1) := by decide +kernel
theorem dX7_become_1 : decode cX7_become 1 = .ok (.iload_n 1, 1) := by decide +kernel
theorem dX7_become_2 : decode cX7_become 2 = .ok (.invokevirtual 175, 3) := by decide +kernel
theorem dX7_become_5 : decode cX7_become 5 = .ok (.ifCond .eq 10, 3) := by decide +kernel
theorem dX7_become_8 : decode cX7_become 8 = .ok (.iload_n 2, 1) := by decide +kernel
theorem dX7_become_9 : decode cX7_become 9 = .ok (.invokestatic 169, 3) := by decide +kernel
theorem dX7_become_12 : decode cX7_become 12 = .ok (.ifCond .ne 9, 3) := by decide +kernel
theorem dX7_become_15 : decode cX7_become 15 = .ok (.aload_n 0, 1) := by decide +kernel
theorem dX7_become_16 : decode cX7_become 16 = .ok (.iconst 1, 1) := by decide +kernel
theorem dX7_become_17 : decode cX7_become 17 = .ok (.invokevirtual 58, 3) := by decide +kernel
theorem dX7_become_20 : decode cX7_become 20 = .ok (.ireturn, 1) := by decide +kernel
theorem dX7_become_21 : decode cX7_become 21 = .ok (.aload_n 0, 1) := by decide +kernel
theorem dX7_become_22 : decode cX7_become 22 = .ok (.iload_n 1, 1) := by decide +kernel
theorem dX7_become_23 : decode cX7_become 23 = .ok (.iconst 1, 1) := by decide +kernel
theorem dX7_become_24 : decode cX7_become 24 = .ok (.iload_n 2, 1) := by decide +kernel
theorem dX7_become_25 : decode cX7_become 25 = .ok (.bipush 10, 2) := by decide +kernel
theorem dX7_become_27 : decode cX7_become 27 = .ok (.irem, 1) := by decide +kernel
theorem dX7_become_28 : decode cX7_become 28 = .ok (.invokevirtual 147, 3) := by decide +kernel
theorem dX7_become_31 : decode cX7_become 31 = .ok (.aload_n 0, 1) := by decide +kernel
theorem dX7_become_32 : decode cX7_become 32 = .ok (.bipush 8, 2) := by decide +kernel
theorem dX7_become_34 : decode cX7_become 34 = .ok (.iconst 5, 1) := by decide +kernel
theorem dX7_become_35 : decode cX7_become 35 = .ok (.iload_n 1, 1) := by decide +kernel
theorem dX7_become_36 : decode cX7_become 36 = .ok (.imul, 1) := by decide +kernel
theorem dX7_become_37 : decode cX7_become 37 = .ok (.iadd, 1) := by decide +kernel
theorem dX7_become_38 : decode cX7_become 38 = .ok (.iconst 0, 1) := by decide +kernel
theorem dX7_become_39 : decode cX7_become 39 = .ok (.iadd, 1) := by decide +kernel
theorem dX7_become_40 : decode cX7_become 40 = .ok (.iload_n 2, 1) := by decide +kernel
theorem dX7_become_41 : decode cX7_become 41 = .ok (.bipush 10, 2) := by decide +kernel
theorem dX7_become_43 : decode cX7_become 43 = .ok (.idiv, 1) := by decide +kernel
theorem dX7_become_44 : decode cX7_become 44 = .ok (.invokevirtual 178, 3) := by decide +kernel
theorem dX7_become_47 : decode cX7_become 47 = .ok (.ireturn, 1) := by decide +kernel
theorem dX7_as_0 : decode cX7_as 0 = .ok (.aload_n 0, 1) := by decide +kernel
theorem dX7_as_1 : decode cX7_as 1 = .ok (.iload_n 1, 1) := by decide +kernel
theorem dX7_as_2 : decode cX7_as 2 = .ok (.invokevirtual 175, 3) := by decide +kernel
theorem dX7_as_5 : decode cX7_as 5 = .ok (.ifCond .eq 13, 3) := by decide +kernel
theorem dX7_as_8 : decode cX7_as 8 = .ok (.iload_n 2, 1) := by decide +kernel
theorem dX7_as_9 : decode cX7_as 9 = .ok (.iconst 0, 1) := by decide +kernel
theorem dX7_as_10 : decode cX7_as 10 = .ok (.bipush 6, 2) := by decide +kernel
theorem dX7_as_12 : decode cX7_as 12 = .ok (.invokestatic 54, 3) := by decide +kernel
theorem dX7_as_15 : decode cX7_as 15 = .ok (.ifCond .ne 9, 3) := by decide +kernel
theorem dX7_as_18 : decode cX7_as 18 = .ok (.aload_n 0, 1) := by decide +kernel
theorem dX7_as_19 : decode cX7_as 19 = .ok (.iconst 1, 1) := by decide +kernel
theorem dX7_as_20 : decode cX7_as 20 = .ok (.invokevirtual 58, 3) := by decide +kernel
theorem dX7_as_23 : decode cX7_as 23 = .ok (.ireturn, 1) := by decide +kernel
theorem dX7_as_24 : decode cX7_as 24 = .ok (.aload_n 0, 1) := by decide +kernel
theorem dX7_as_25 : decode cX7_as 25 = .ok (.iload_n 1, 1) := by decide +kernel
theorem dX7_as_26 : decode cX7_as 26 = .ok (.iconst 0, 1) := by decide +kernel
theorem dX7_as_27 : decode cX7_as 27 = .ok (.invokevirtual 118, 3) := by decide +kernel
theorem dX7_as_30 : decode cX7_as 30 = .ok (.istore_n 3, 1) := by decide +kernel
theorem dX7_as_31 : decode cX7_as 31 = .ok (.iload_n 3, 1) := by decide +kernel
theorem dX7_as_32 : decode cX7_as 32 = .ok (.iload_n 2, 1) := by decide +kernel
theorem dX7_as_33 : decode cX7_as 33 = .ok (.if_icmp .eq 15, 3) := by decide +kernel
theorem dX7_as_36 : decode cX7_as 36 = .ok (.iload_n 3, 1) := by decide +kernel
theorem dX7_as_37 : decode cX7_as 37 = .ok (.ifCond .eq 11, 3) := by decide +kernel
theorem dX7_as_40 : decode cX7_as 40 = .ok (.iload_n 3, 1) := by decide +kernel
theorem dX7_as_41 : decode cX7_as 41 = .ok (.invokestatic 181, 3) := by decide +kernel
theorem dX7_as_44 : decode cX7_as 44 = .ok (.istore_n 3, 1) := by decide +kernel
theorem dX7_as_45 : decode cX7_as 45 = .ok (.goto (-14), 3) := by decide +kernel
theorem dX7_as_48 : decode cX7_as 48 = .ok (.iload_n 3, 1) := by decide +kernel
theorem dX7_as_49 : decode cX7_as 49 = .ok (.iload_n 2, 1) := by decide +kernel
theorem dX7_as_50 : decode cX7_as 50 = .ok (.if_icmp .ne 12, 3) := by decide +kernel
theorem dX7_as_53 : decode cX7_as 53 = .ok (.aload_n 0, 1) := by decide +kernel
theorem dX7_as_54 : decode cX7_as 54 = .ok (.iload_n 1, 1) := by decide +kernel
theorem dX7_as_55 : decode cX7_as 55 = .ok (.iconst 1, 1) := by decide +kernel
theorem dX7_as_56 : decode cX7_as 56 = .ok (.invokevirtual 118, 3) := by decide +kernel
theorem dX7_as_59 : decode cX7_as 59 = .ok (.goto 8, 3) := by decide +kernel
theorem dX7_as_62 : decode cX7_as 62 = .ok (.aload_n 0, 1) := by decide +kernel
theorem dX7_as_63 : decode cX7_as 63 = .ok (.iconst 5, 1) := by decide +kernel
theorem dX7_as_64 : decode cX7_as 64 = .ok (.invokevirtual 58, 3) := by decide +kernel
theorem dX7_as_67 : decode cX7_as 67 = .ok (.ireturn, 1) := by decide +kernel
theorem dX7_serve_0 : decode cX7_serve 0 = .ok (.aload_n 0, 1) := by decide +kernel
theorem dX7_serve_1 : decode cX7_serve 1 = .ok (.iload_n 1, 1) := by decide +kernel
theorem dX7_serve_2 : decode cX7_serve 2 = .ok (.invokevirtual 175, 3) := by decide +kernel
theorem dX7_serve_5 : decode cX7_serve 5 = .ok (.ifCond .eq 29, 3) := by decide +kernel
theorem dX7_serve_8 : decode cX7_serve 8 = .ok (.iload_n 2, 1) := by decide +kernel
theorem dX7_serve_9 : decode cX7_serve 9 = .ok (.iconst 0, 1) := by decide +kernel
theorem dX7_serve_10 : decode cX7_serve 10 = .ok (.bipush 99, 2) := by decide +kernel
theorem dX7_serve_12 : decode cX7_serve 12 = .ok (.invokestatic 54, 3) := by decide +kernel
theorem dX7_serve_15 : decode cX7_serve 15 = .ok (.ifCond .eq 19, 3) := by decide +kernel
theorem dX7_serve_18 : decode cX7_serve 18 = .ok (.aload_n 0, 1) := by decide +kernel
theorem dX7_serve_19 : decode cX7_serve 19 = .ok (.bipush 8, 2) := by decide +kernel
theorem dX7_serve_21 : decode cX7_serve 21 = .ok (.iconst 5, 1) := by decide +kernel
theorem dX7_serve_22 : decode cX7_serve 22 = .ok (.iload_n 1, 1) := by decide +kernel
theorem dX7_serve_23 : decode cX7_serve 23 = .ok (.imul, 1) := by decide +kernel
theorem dX7_serve_24 : decode cX7_serve 24 = .ok (.iadd, 1) := by decide +kernel
theorem dX7_serve_25 : decode cX7_serve 25 = .ok (.iconst 2, 1) := by decide +kernel
theorem dX7_serve_26 : decode cX7_serve 26 = .ok (.iadd, 1) := by decide +kernel
theorem dX7_serve_27 : decode cX7_serve 27 = .ok (.iload_n 2, 1) := by decide +kernel
theorem dX7_serve_28 : decode cX7_serve 28 = .ok (.invokevirtual 178, 3) := by decide +kernel
theorem dX7_serve_31 : decode cX7_serve 31 = .ok (.goto 8, 3) := by decide +kernel
theorem dX7_serve_34 : decode cX7_serve 34 = .ok (.aload_n 0, 1) := by decide +kernel
theorem dX7_serve_35 : decode cX7_serve 35 = .ok (.iconst 1, 1) := by decide +kernel
theorem dX7_serve_36 : decode cX7_serve 36 = .ok (.invokevirtual 58, 3) := by decide +kernel
theorem dX7_serve_39 : decode cX7_serve 39 = .ok (.ireturn, 1) := by decide +kernel
theorem dX7_season_0 : decode cX7_season 0 = .ok (.aload_n 0, 1) := by decide +kernel
theorem dX7_season_1 : decode cX7_season 1 = .ok (.iload_n 1, 1) := by decide +kernel
theorem dX7_season_2 : decode cX7_season 2 = .ok (.invokevirtual 175, 3) := by decide +kernel
theorem dX7_season_5 : decode cX7_season 5 = .ok (.ifCond .eq 29, 3) := by decide +kernel
theorem dX7_season_8 : decode cX7_season 8 = .ok (.iload_n 2, 1) := by decide +kernel
theorem dX7_season_9 : decode cX7_season 9 = .ok (.iconst 0, 1) := by decide +kernel
theorem dX7_season_10 : decode cX7_season 10 = .ok (.bipush 9, 2) := by decide +kernel
theorem dX7_season_12 : decode cX7_season 12 = .ok (.invokestatic 54, 3) := by decide +kernel
theorem dX7_season_15 : decode cX7_season 15 = .ok (.ifCond .eq 19, 3) := by decide +kernel
theorem dX7_season_18 : decode cX7_season 18 = .ok (.aload_n 0, 1) := by decide +kernel
theorem dX7_season_19 : decode cX7_season 19 = .ok (.bipush 8, 2) := by decide +kernel
theorem dX7_season_21 : decode cX7_season 21 = .ok (.iconst 5, 1) := by decide +kernel
theorem dX7_season_22 : decode cX7_season 22 = .ok (.iload_n 1, 1) := by decide +kernel
theorem dX7_season_23 : decode cX7_season 23 = .ok (.imul, 1) := by decide +kernel
theorem dX7_season_24 : decode cX7_season 24 = .ok (.iadd, 1) := by decide +kernel
theorem dX7_season_25 : decode cX7_season 25 = .ok (.iconst 4, 1) := by decide +kernel
theorem dX7_season_26 : decode cX7_season 26 = .ok (.iadd, 1) := by decide +kernel
theorem dX7_season_27 : decode cX7_season 27 = .ok (.iload_n 2, 1) := by decide +kernel
theorem dX7_season_28 : decode cX7_season 28 = .ok (.invokevirtual 178, 3) := by decide +kernel
theorem dX7_season_31 : decode cX7_season 31 = .ok (.goto 8, 3) := by decide +kernel
theorem dX7_season_34 : decode cX7_season 34 = .ok (.aload_n 0, 1) := by decide +kernel
theorem dX7_season_35 : decode cX7_season 35 = .ok (.iconst 1, 1) := by decide +kernel
theorem dX7_season_36 : decode cX7_season 36 = .ok (.invokevirtual 58, 3) := by decide +kernel
theorem dX7_season_39 : decode cX7_season 39 = .ok (.ireturn, 1) := by decide +kernel
theorem dX7_rules_0 : decode cX7_rules 0 = .ok (.aload_n 0, 1) := by decide +kernel
theorem dX7_rules_1 : decode cX7_rules 1 = .ok (.invokevirtual 151, 3) := by decide +kernel
theorem dX7_rules_4 : decode cX7_rules 4 = .ok (.istore_n 1, 1) := by decide +kernel
theorem dX7_rules_5 : decode cX7_rules 5 = .ok (.iload_n 1, 1) := by decide +kernel
theorem dX7_rules_6 : decode cX7_rules 6 = .ok (.iconst (-1), 1) := by decide +kernel
theorem dX7_rules_7 : decode cX7_rules 7 = .ok (.if_icmp .ne 11, 3) := by decide +kernel
theorem dX7_rules_10 : decode cX7_rules 10 = .ok (.aload_n 0, 1) := by decide +kernel
theorem dX7_rules_11 : decode cX7_rules 11 = .ok (.iconst 2, 1) := by decide +kernel
theorem dX7_rules_12 : decode cX7_rules 12 = .ok (.invokevirtual 58, 3) := by decide +kernel
theorem dX7_rules_15 : decode cX7_rules 15 = .ok (.goto 4, 3) := by decide +kernel
theorem dX7_rules_18 : decode cX7_rules 18 = .ok (.iload_n 1, 1) := by decide +kernel
theorem dX7_rules_19 : decode cX7_rules 19 = .ok (.ireturn, 1) := by decide +kernel
theorem dX7_law_0 : decode cX7_law 0 = .ok (.iload_n 1, 1) := by decide +kernel
theorem dX7_law_1 : decode cX7_law 1 = .ok (.iconst 0, 1) := by decide +kernel
theorem dX7_law_2 : decode cX7_law 2 = .ok (.iconst 1, 1) := by decide +kernel
theorem dX7_law_3 : decode cX7_law 3 = .ok (.invokestatic 54, 3) := by decide +kernel
theorem dX7_law_6 : decode cX7_law 6 = .ok (.ifCond .ne 9, 3) := by decide +kernel
theorem dX7_law_9 : decode cX7_law 9 = .ok (.aload_n 0, 1) := by decide +kernel
theorem dX7_law_10 : decode cX7_law 10 = .ok (.iconst 1, 1) := by decide +kernel
theorem dX7_law_11 : decode cX7_law 11 = .ok (.invokevirtual 58, 3) := by decide +kernel
theorem dX7_law_14 : decode cX7_law 14 = .ok (.ireturn, 1) := by decide +kernel
theorem dX7_law_15 : decode cX7_law 15 = .ok (.iload_n 1, 1) := by decide +kernel
theorem dX7_law_16 : decode cX7_law 16 = .ok (.ifCond .ne 14, 3) := by decide +kernel
theorem dX7_law_19 : decode cX7_law 19 = .ok (.aload_n 0, 1) := by decide +kernel
theorem dX7_law_20 : decode cX7_law 20 = .ok (.iload_n 2, 1) := by decide +kernel
theorem dX7_law_21 : decode cX7_law 21 = .ok (.iload_n 3, 1) := by decide +kernel
theorem dX7_law_22 : decode cX7_law 22 = .ok (.iload 4, 2) := by decide +kernel
theorem dX7_law_24 : decode cX7_law 24 = .ok (.invokevirtual 135, 3) := by decide +kernel
theorem dX7_law_27 : decode cX7_law 27 = .ok (.goto 11, 3) := by decide +kernel
theorem dX7_law_30 : decode cX7_law 30 = .ok (.aload_n 0, 1) := by decide +kernel
theorem dX7_law_31 : decode cX7_law 31 = .ok (.iload_n 2, 1) := by decide +kernel
theorem dX7_law_32 : decode cX7_law 32 = .ok (.iload_n 3, 1) := by decide +kernel
theorem dX7_law_33 : decode cX7_law 33 = .ok (.iload 4, 2) := by decide +kernel
theorem dX7_law_35 : decode cX7_law 35 = .ok (.invokevirtual 141, 3) := by decide +kernel
theorem dX7_law_38 : decode cX7_law 38 = .ok (.ireturn, 1) := by decide +kernel
theorem dX7_isHunger_0 : decode cX7_isHunger 0 = .ok (.iload_n 0, 1) := by decide +kernel
theorem dX7_isHunger_1 : decode cX7_isHunger 1 = .ok (.iconst 0, 1) := by decide +kernel
theorem dX7_isHunger_2 : decode cX7_isHunger 2 = .ok (.bipush 99, 2) := by decide +kernel
theorem dX7_isHunger_4 : decode cX7_isHunger 4 = .ok (.invokestatic 54, 3) := by decide +kernel
theorem dX7_isHunger_7 : decode cX7_isHunger 7 = .ok (.ireturn, 1) := by decide +kernel
theorem dX7_meal_0 : decode cX7_meal 0 = .ok (.iload_n 1, 1) := by decide +kernel
theorem dX7_meal_1 : decode cX7_meal 1 = .ok (.invokestatic 184, 3) := by decide +kernel
theorem dX7_meal_4 : decode cX7_meal 4 = .ok (.ifCond .ne 9, 3) := by decide +kernel
theorem dX7_meal_7 : decode cX7_meal 7 = .ok (.aload_n 0, 1) := by decide +kernel
theorem dX7_meal_8 : decode cX7_meal 8 = .ok (.iconst 1, 1) := by decide +kernel
theorem dX7_meal_9 : decode cX7_meal 9 = .ok (.invokevirtual 58, 3) := by decide +kernel
theorem dX7_meal_12 : decode cX7_meal 12 = .ok (.ireturn, 1) := by decide +kernel
theorem dX7_meal_13 : decode cX7_meal 13 = .ok (.aload_n 0, 1) := by decide +kernel
theorem dX7_meal_14 : decode cX7_meal 14 = .ok (.getfield 7, 3) := by decide +kernel
theorem dX7_meal_17 : decode cX7_meal 17 = .ok (.iconst 0, 1) := by decide +kernel
theorem dX7_meal_18 : decode cX7_meal 18 = .ok (.iaload, 1) := by decide +kernel
theorem dX7_meal_19 : decode cX7_meal 19 = .ok (.sipush 9999, 3) := by decide +kernel
theorem dX7_meal_22 : decode cX7_meal 22 = .ok (.if_icmp .ne 11, 3) := by decide +kernel
theorem dX7_meal_25 : decode cX7_meal 25 = .ok (.aload_n 0, 1) := by decide +kernel
theorem dX7_meal_26 : decode cX7_meal 26 = .ok (.iconst 3, 1) := by decide +kernel
theorem dX7_meal_27 : decode cX7_meal 27 = .ok (.invokevirtual 58, 3) := by decide +kernel
theorem dX7_meal_30 : decode cX7_meal 30 = .ok (.goto 8, 3) := by decide +kernel
theorem dX7_meal_33 : decode cX7_meal 33 = .ok (.aload_n 0, 1) := by decide +kernel
theorem dX7_meal_34 : decode cX7_meal 34 = .ok (.iload_n 1, 1) := by decide +kernel
theorem dX7_meal_35 : decode cX7_meal 35 = .ok (.invokevirtual 165, 3) := by decide +kernel
theorem dX7_meal_38 : decode cX7_meal 38 = .ok (.ireturn, 1) := by decide +kernel
theorem dX7_meals_0 : decode cX7_meals 0 = .ok (.iload_n 1, 1) := by decide +kernel
theorem dX7_meals_1 : decode cX7_meals 1 = .ok (.iconst 1, 1) := by decide +kernel
theorem dX7_meals_2 : decode cX7_meals 2 = .ok (.bipush 60, 2) := by decide +kernel
theorem dX7_meals_4 : decode cX7_meals 4 = .ok (.invokestatic 54, 3) := by decide +kernel
theorem dX7_meals_7 : decode cX7_meals 7 = .ok (.ifCond .eq 10, 3) := by decide +kernel
theorem dX7_meals_10 : decode cX7_meals 10 = .ok (.iload_n 2, 1) := by decide +kernel
theorem dX7_meals_11 : decode cX7_meals 11 = .ok (.invokestatic 184, 3) := by decide +kernel
theorem dX7_meals_14 : decode cX7_meals 14 = .ok (.ifCond .ne 9, 3) := by decide +kernel
theorem dX7_meals_17 : decode cX7_meals 17 = .ok (.aload_n 0, 1) := by decide +kernel
theorem dX7_meals_18 : decode cX7_meals 18 = .ok (.iconst 1, 1) := by decide +kernel
theorem dX7_meals_19 : decode cX7_meals 19 = .ok (.invokevirtual 58, 3) := by decide +kernel
theorem dX7_meals_22 : decode cX7_meals 22 = .ok (.ireturn, 1) := by decide +kernel
theorem dX7_meals_23 : decode cX7_meals 23 = .ok (.aload_n 0, 1) := by decide +kernel
theorem dX7_meals_24 : decode cX7_meals 24 = .ok (.getfield 7, 3) := by decide +kernel
theorem dX7_meals_27 : decode cX7_meals 27 = .ok (.iconst 0, 1) := by decide +kernel
theorem dX7_meals_28 : decode cX7_meals 28 = .ok (.iaload, 1) := by decide +kernel
theorem dX7_meals_29 : decode cX7_meals 29 = .ok (.iload_n 1, 1) := by decide +kernel
theorem dX7_meals_30 : decode cX7_meals 30 = .ok (.iadd, 1) := by decide +kernel
theorem dX7_meals_31 : decode cX7_meals 31 = .ok (.sipush 9999, 3) := by decide +kernel
theorem dX7_meals_34 : decode cX7_meals 34 = .ok (.if_icmp .le 9, 3) := by decide +kernel
theorem dX7_meals_37 : decode cX7_meals 37 = .ok (.aload_n 0, 1) := by decide +kernel
theorem dX7_meals_38 : decode cX7_meals 38 = .ok (.iconst 3, 1) := by decide +kernel
theorem dX7_meals_39 : decode cX7_meals 39 = .ok (.invokevirtual 58, 3) := by decide +kernel
theorem dX7_meals_42 : decode cX7_meals 42 = .ok (.ireturn, 1) := by decide +kernel
theorem dX7_meals_43 : decode cX7_meals 43 = .ok (.aload_n 0, 1) := by decide +kernel
theorem dX7_meals_44 : decode cX7_meals 44 = .ok (.iload_n 1, 1) := by decide +kernel
theorem dX7_meals_45 : decode cX7_meals 45 = .ok (.iload_n 2, 1) := by decide +kernel
theorem dX7_meals_46 : decode cX7_meals 46 = .ok (.invokevirtual 187, 3) := by decide +kernel
theorem dX7_meals_49 : decode cX7_meals 49 = .ok (.aload_n 0, 1) := by decide +kernel
theorem dX7_meals_50 : decode cX7_meals 50 = .ok (.invokevirtual 190, 3) := by decide +kernel
theorem dX7_meals_53 : decode cX7_meals 53 = .ok (.ireturn, 1) := by decide +kernel
theorem dX7_guests_0 : decode cX7_guests 0 = .ok (.aload_n 0, 1) := by decide +kernel
theorem dX7_guests_1 : decode cX7_guests 1 = .ok (.getfield 7, 3) := by decide +kernel
theorem dX7_guests_4 : decode cX7_guests 4 = .ok (.iconst 5, 1) := by decide +kernel
theorem dX7_guests_5 : decode cX7_guests 5 = .ok (.iaload, 1) := by decide +kernel
theorem dX7_guests_6 : decode cX7_guests 6 = .ok (.ifCond .le 50, 3) := by decide +kernel
theorem dX7_guests_9 : decode cX7_guests 9 = .ok (.aload_n 0, 1) := by decide +kernel
theorem dX7_guests_10 : decode cX7_guests 10 = .ok (.invokevirtual 193, 3) := by decide +kernel
theorem dX7_guests_13 : decode cX7_guests 13 = .ok (.iconst 4, 1) := by decide +kernel
theorem dX7_guests_14 : decode cX7_guests 14 = .ok (.irem, 1) := by decide +kernel
theorem dX7_guests_15 : decode cX7_guests 15 = .ok (.ifCond .ne 41, 3) := by decide +kernel
theorem dX7_guests_18 : decode cX7_guests 18 = .ok (.aload_n 0, 1) := by decide +kernel
theorem dX7_guests_19 : decode cX7_guests 19 = .ok (.invokevirtual 193, 3) := by decide +kernel
theorem dX7_guests_22 : decode cX7_guests 22 = .ok (.aload_n 0, 1) := by decide +kernel
theorem dX7_guests_23 : decode cX7_guests 23 = .ok (.getfield 7, 3) := by decide +kernel
theorem dX7_guests_26 : decode cX7_guests 26 = .ok (.iconst 5, 1) := by decide +kernel
theorem dX7_guests_27 : decode cX7_guests 27 = .ok (.iaload, 1) := by decide +kernel
theorem dX7_guests_28 : decode cX7_guests 28 = .ok (.irem, 1) := by decide +kernel
theorem dX7_guests_29 : decode cX7_guests 29 = .ok (.istore_n 1, 1) := by decide +kernel
theorem dX7_guests_30 : decode cX7_guests 30 = .ok (.aload_n 0, 1) := by decide +kernel
theorem dX7_guests_31 : decode cX7_guests 31 = .ok (.iload_n 1, 1) := by decide +kernel
theorem dX7_guests_32 : decode cX7_guests 32 = .ok (.iconst 2, 1) := by decide +kernel
theorem dX7_guests_33 : decode cX7_guests 33 = .ok (.aload_n 0, 1) := by decide +kernel
theorem dX7_guests_34 : decode cX7_guests 34 = .ok (.iload_n 1, 1) := by decide +kernel
theorem dX7_guests_35 : decode cX7_guests 35 = .ok (.iconst 2, 1) := by decide +kernel
theorem dX7_guests_36 : decode cX7_guests 36 = .ok (.invokevirtual 118, 3) := by decide +kernel
theorem dX7_guests_39 : decode cX7_guests 39 = .ok (.aload_n 0, 1) := by decide +kernel
theorem dX7_guests_40 : decode cX7_guests 40 = .ok (.invokevirtual 193, 3) := by decide +kernel
theorem dX7_guests_43 : decode cX7_guests 43 = .ok (.bipush 20, 2) := by decide +kernel
theorem dX7_guests_45 : decode cX7_guests 45 = .ok (.irem, 1) := by decide +kernel
theorem dX7_guests_46 : decode cX7_guests 46 = .ok (.iadd, 1) := by decide +kernel
theorem dX7_guests_47 : decode cX7_guests 47 = .ok (.iconst 0, 1) := by decide +kernel
theorem dX7_guests_48 : decode cX7_guests 48 = .ok (.bipush 99, 2) := by decide +kernel
theorem dX7_guests_50 : decode cX7_guests 50 = .ok (.invokestatic 125, 3) := by decide +kernel
theorem dX7_guests_53 : decode cX7_guests 53 = .ok (.invokevirtual 147, 3) := by decide +kernel
theorem dX7_guests_56 : decode cX7_guests 56 = .ok (.return_, 1) := by decide +kernel
theorem dX7_loose_0 : decode cX7_loose 0 = .ok (.iload_n 1, 1) := by decide +kernel
theorem dX7_loose_1 : decode cX7_loose 1 = .ok (.iconst 1, 1) := by decide +kernel
theorem dX7_loose_2 : decode cX7_loose 2 = .ok (.bipush 30, 2) := by decide +kernel
theorem dX7_loose_4 : decode cX7_loose 4 = .ok (.invokestatic 54, 3) := by decide +kernel
theorem dX7_loose_7 : decode cX7_loose 7 = .ok (.ifCond .ne 9, 3) := by decide +kernel
theorem dX7_loose_10 : decode cX7_loose 10 = .ok (.aload_n 0, 1) := by decide +kernel
theorem dX7_loose_11 : decode cX7_loose 11 = .ok (.iconst 1, 1) := by decide +kernel
theorem dX7_loose_12 : decode cX7_loose 12 = .ok (.invokevirtual 58, 3) := by decide +kernel
theorem dX7_loose_15 : decode cX7_loose 15 = .ok (.ireturn, 1) := by decide +kernel
theorem dX7_loose_16 : decode cX7_loose 16 = .ok (.aload_n 0, 1) := by decide +kernel
theorem dX7_loose_17 : decode cX7_loose 17 = .ok (.getfield 7, 3) := by decide +kernel
theorem dX7_loose_20 : decode cX7_loose 20 = .ok (.iconst 0, 1) := by decide +kernel
theorem dX7_loose_21 : decode cX7_loose 21 = .ok (.iaload, 1) := by decide +kernel
theorem dX7_loose_22 : decode cX7_loose 22 = .ok (.iload_n 1, 1) := by decide +kernel
theorem dX7_loose_23 : decode cX7_loose 23 = .ok (.iadd, 1) := by decide +kernel
theorem dX7_loose_24 : decode cX7_loose 24 = .ok (.sipush 9999, 3) := by decide +kernel
theorem dX7_loose_27 : decode cX7_loose 27 = .ok (.if_icmp .le 9, 3) := by decide +kernel
theorem dX7_loose_30 : decode cX7_loose 30 = .ok (.aload_n 0, 1) := by decide +kernel
theorem dX7_loose_31 : decode cX7_loose 31 = .ok (.iconst 3, 1) := by decide +kernel
theorem dX7_loose_32 : decode cX7_loose 32 = .ok (.invokevirtual 58, 3) := by decide +kernel
theorem dX7_loose_35 : decode cX7_loose 35 = .ok (.ireturn, 1) := by decide +kernel
theorem dX7_loose_36 : decode cX7_loose 36 = .ok (.iconst 0, 1) := by decide +kernel
theorem dX7_loose_37 : decode cX7_loose 37 = .ok (.istore_n 2, 1) := by decide +kernel
theorem dX7_loose_38 : decode cX7_loose 38 = .ok (.iconst 0, 1) := by decide +kernel
theorem dX7_loose_39 : decode cX7_loose 39 = .ok (.istore_n 3, 1) := by decide +kernel
theorem dX7_loose_40 : decode cX7_loose 40 = .ok (.iload_n 3, 1) := by decide +kernel
theorem dX7_loose_41 : decode cX7_loose 41 = .ok (.iload_n 1, 1) := by decide +kernel
theorem dX7_loose_42 : decode cX7_loose 42 = .ok (.if_icmp .ge 27, 3) := by decide +kernel
theorem dX7_loose_45 : decode cX7_loose 45 = .ok (.aload_n 0, 1) := by decide +kernel
theorem dX7_loose_46 : decode cX7_loose 46 = .ok (.invokevirtual 196, 3) := by decide +kernel
theorem dX7_loose_49 : decode cX7_loose 49 = .ok (.iload_n 2, 1) := by decide +kernel
theorem dX7_loose_50 : decode cX7_loose 50 = .ok (.aload_n 0, 1) := by decide +kernel
theorem dX7_loose_51 : decode cX7_loose 51 = .ok (.aload_n 0, 1) := by decide +kernel
theorem dX7_loose_52 : decode cX7_loose 52 = .ok (.invokevirtual 193, 3) := by decide +kernel
theorem dX7_loose_55 : decode cX7_loose 55 = .ok (.bipush 30, 2) := by decide +kernel
theorem dX7_loose_57 : decode cX7_loose 57 = .ok (.irem, 1) := by decide +kernel
theorem dX7_loose_58 : decode cX7_loose 58 = .ok (.invokevirtual 165, 3) := by decide +kernel
theorem dX7_loose_61 : decode cX7_loose 61 = .ok (.iadd, 1) := by decide +kernel
theorem dX7_loose_62 : decode cX7_loose 62 = .ok (.istore_n 2, 1) := by decide +kernel
theorem dX7_loose_63 : decode cX7_loose 63 = .ok (.iinc 3 1, 3) := by decide +kernel
theorem dX7_loose_66 : decode cX7_loose 66 = .ok (.goto (-26), 3) := by decide +kernel
theorem dX7_loose_69 : decode cX7_loose 69 = .ok (.iload_n 2, 1) := by decide +kernel
theorem dX7_loose_70 : decode cX7_loose 70 = .ok (.ireturn, 1) := by decide +kernel
theorem dX7_seed_0 : decode cX7_seed 0 = .ok (.aload_n 0, 1) := by decide +kernel
theorem dX7_seed_1 : decode cX7_seed 1 = .ok (.iconst 2, 1) := by decide +kernel
theorem dX7_seed_2 : decode cX7_seed 2 = .ok (.iload_n 1, 1) := by decide +kernel
theorem dX7_seed_3 : decode cX7_seed 3 = .ok (.invokevirtual 178, 3) := by decide +kernel
theorem dX7_seed_6 : decode cX7_seed 6 = .ok (.ireturn, 1) := by decide +kernel
theorem dX7_then_0 : decode cX7_then 0 = .ok (.iload_n 1, 1) := by decide +kernel
theorem dX7_then_1 : decode cX7_then 1 = .ok (.iconst 0, 1) := by decide +kernel
theorem dX7_then_2 : decode cX7_then 2 = .ok (.bipush 60, 2) := by decide +kernel
theorem dX7_then_4 : decode cX7_then 4 = .ok (.invokestatic 54, 3) := by decide +kernel
theorem dX7_then_7 : decode cX7_then 7 = .ok (.ifCond .eq 19, 3) := by decide +kernel
theorem dX7_then_10 : decode cX7_then 10 = .ok (.iload_n 2, 1) := by decide +kernel
theorem dX7_then_11 : decode cX7_then 11 = .ok (.invokestatic 184, 3) := by decide +kernel
theorem dX7_then_14 : decode cX7_then 14 = .ok (.ifCond .eq 12, 3) := by decide +kernel
theorem dX7_then_17 : decode cX7_then 17 = .ok (.iload_n 3, 1) := by decide +kernel
theorem dX7_then_18 : decode cX7_then 18 = .ok (.iconst 0, 1) := by decide +kernel
theorem dX7_then_19 : decode cX7_then 19 = .ok (.iconst 1, 1) := by decide +kernel
theorem dX7_then_20 : decode cX7_then 20 = .ok (.invokestatic 54, 3) := by decide +kernel
theorem dX7_then_23 : decode cX7_then 23 = .ok (.ifCond .ne 9, 3) := by decide +kernel
theorem dX7_then_26 : decode cX7_then 26 = .ok (.aload_n 0, 1) := by decide +kernel
theorem dX7_then_27 : decode cX7_then 27 = .ok (.iconst 1, 1) := by decide +kernel
theorem dX7_then_28 : decode cX7_then 28 = .ok (.invokevirtual 58, 3) := by decide +kernel
theorem dX7_then_31 : decode cX7_then 31 = .ok (.ireturn, 1) := by decide +kernel
theorem dX7_then_32 : decode cX7_then 32 = .ok (.aload_n 0, 1) := by decide +kernel
theorem dX7_then_33 : decode cX7_then 33 = .ok (.invokevirtual 199, 3) := by decide +kernel
theorem dX7_then_36 : decode cX7_then 36 = .ok (.aload_n 0, 1) := by decide +kernel
theorem dX7_then_37 : decode cX7_then 37 = .ok (.iload_n 1, 1) := by decide +kernel
theorem dX7_then_38 : decode cX7_then 38 = .ok (.iload_n 2, 1) := by decide +kernel
theorem dX7_then_39 : decode cX7_then 39 = .ok (.invokevirtual 187, 3) := by decide +kernel
theorem dX7_then_42 : decode cX7_then 42 = .ok (.iload_n 3, 1) := by decide +kernel
theorem dX7_then_43 : decode cX7_then 43 = .ok (.ifCond .ne 10, 3) := by decide +kernel
theorem dX7_then_46 : decode cX7_then 46 = .ok (.aload_n 0, 1) := by decide +kernel
theorem dX7_then_47 : decode cX7_then 47 = .ok (.invokevirtual 190, 3) := by decide +kernel
theorem dX7_then_50 : decode cX7_then 50 = .ok (.goto 7, 3) := by decide +kernel
theorem dX7_then_53 : decode cX7_then 53 = .ok (.aload_n 0, 1) := by decide +kernel
theorem dX7_then_54 : decode cX7_then 54 = .ok (.invokevirtual 151, 3) := by decide +kernel
theorem dX7_then_57 : decode cX7_then 57 = .ok (.istore 4, 2) := by decide +kernel
theorem dX7_then_59 : decode cX7_then 59 = .ok (.aload_n 0, 1) := by decide +kernel
theorem dX7_then_60 : decode cX7_then 60 = .ok (.invokevirtual 202, 3) := by decide +kernel
theorem dX7_then_63 : decode cX7_then 63 = .ok (.iload 4, 2) := by decide +kernel
theorem dX7_then_65 : decode cX7_then 65 = .ok (.ireturn, 1) := by decide +kernel
theorem dX7_gone_0 : decode cX7_gone 0 = .ok (.aload_n 0, 1) := by decide +kernel
theorem dX7_gone_1 : decode cX7_gone 1 = .ok (.iload_n 1, 1) := by decide +kernel
theorem dX7_gone_2 : decode cX7_gone 2 = .ok (.invokevirtual 175, 3) := by decide +kernel
theorem dX7_gone_5 : decode cX7_gone 5 = .ok (.ifCond .eq 10, 3) := by decide +kernel
theorem dX7_gone_8 : decode cX7_gone 8 = .ok (.iload_n 2, 1) := by decide +kernel
theorem dX7_gone_9 : decode cX7_gone 9 = .ok (.invokestatic 184, 3) := by decide +kernel
theorem dX7_gone_12 : decode cX7_gone 12 = .ok (.ifCond .ne 9, 3) := by decide +kernel
theorem dX7_gone_15 : decode cX7_gone 15 = .ok (.aload_n 0, 1) := by decide +kernel
theorem dX7_gone_16 : decode cX7_gone 16 = .ok (.iconst 1, 1) := by decide +kernel
theorem dX7_gone_17 : decode cX7_gone 17 = .ok (.invokevirtual 58, 3) := by decide +kernel
theorem dX7_gone_20 : decode cX7_gone 20 = .ok (.ireturn, 1) := by decide +kernel
theorem dX7_gone_21 : decode cX7_gone 21 = .ok (.aload_n 0, 1) := by decide +kernel
theorem dX7_gone_22 : decode cX7_gone 22 = .ok (.invokevirtual 199, 3) := by decide +kernel
theorem dX7_gone_25 : decode cX7_gone 25 = .ok (.iconst 0, 1) := by decide +kernel
theorem dX7_gone_26 : decode cX7_gone 26 = .ok (.istore_n 3, 1) := by decide +kernel
theorem dX7_gone_27 : decode cX7_gone 27 = .ok (.iload_n 3, 1) := by decide +kernel
theorem dX7_gone_28 : decode cX7_gone 28 = .ok (.bipush 60, 2) := by decide +kernel
theorem dX7_gone_30 : decode cX7_gone 30 = .ok (.if_icmp .gt 25, 3) := by decide +kernel
theorem dX7_gone_33 : decode cX7_gone 33 = .ok (.aload_n 0, 1) := by decide +kernel
theorem dX7_gone_34 : decode cX7_gone 34 = .ok (.iload_n 1, 1) := by decide +kernel
theorem dX7_gone_35 : decode cX7_gone 35 = .ok (.iconst 2, 1) := by decide +kernel
theorem dX7_gone_36 : decode cX7_gone 36 = .ok (.invokevirtual 118, 3) := by decide +kernel
theorem dX7_gone_39 : decode cX7_gone 39 = .ok (.ifCond .le 16, 3) := by decide +kernel
theorem dX7_gone_42 : decode cX7_gone 42 = .ok (.aload_n 0, 1) := by decide +kernel
theorem dX7_gone_43 : decode cX7_gone 43 = .ok (.iload_n 2, 1) := by decide +kernel
theorem dX7_gone_44 : decode cX7_gone 44 = .ok (.invokevirtual 165, 3) := by decide +kernel
theorem dX7_gone_47 : decode cX7_gone 47 = .ok (.istore 4, 2) := by decide +kernel
theorem dX7_gone_49 : decode cX7_gone 49 = .ok (.iinc 3 1, 3) := by decide +kernel
theorem dX7_gone_52 : decode cX7_gone 52 = .ok (.goto (-25), 3) := by decide +kernel
theorem dX7_gone_55 : decode cX7_gone 55 = .ok (.aload_n 0, 1) := by decide +kernel
theorem dX7_gone_56 : decode cX7_gone 56 = .ok (.invokevirtual 202, 3) := by decide +kernel
theorem dX7_gone_59 : decode cX7_gone 59 = .ok (.iload_n 3, 1) := by decide +kernel
theorem dX7_gone_60 : decode cX7_gone 60 = .ok (.bipush 60, 2) := by decide +kernel
theorem dX7_gone_62 : decode cX7_gone 62 = .ok (.if_icmp .le 11, 3) := by decide +kernel
theorem dX7_gone_65 : decode cX7_gone 65 = .ok (.aload_n 0, 1) := by decide +kernel
theorem dX7_gone_66 : decode cX7_gone 66 = .ok (.iconst 2, 1) := by decide +kernel
theorem dX7_gone_67 : decode cX7_gone 67 = .ok (.invokevirtual 58, 3) := by decide +kernel
theorem dX7_gone_70 : decode cX7_gone 70 = .ok (.goto 4, 3) := by decide +kernel
theorem dX7_gone_73 : decode cX7_gone 73 = .ok (.iload_n 3, 1) := by decide +kernel
theorem dX7_gone_74 : decode cX7_gone 74 = .ok (.ireturn, 1) := by decide +kernel
theorem dX7_needs_0 : decode cX7_needs 0 = .ok (.iload_n 1, 1) := by decide +kernel
theorem dX7_needs_1 : decode cX7_needs 1 = .ok (.iconst 0, 1) := by decide +kernel
theorem dX7_needs_2 : decode cX7_needs 2 = .ok (.bipush 20, 2) := by decide +kernel
theorem dX7_needs_4 : decode cX7_needs 4 = .ok (.invokestatic 54, 3) := by decide +kernel
theorem dX7_needs_7 : decode cX7_needs 7 = .ok (.ifCond .ne 9, 3) := by decide +kernel
theorem dX7_needs_10 : decode cX7_needs 10 = .ok (.aload_n 0, 1) := by decide +kernel
theorem dX7_needs_11 : decode cX7_needs 11 = .ok (.iconst 1, 1) := by decide +kernel
theorem dX7_needs_12 : decode cX7_needs 12 = .ok (.invokevirtual 58, 3) := by decide +kernel
theorem dX7_needs_15 : decode cX7_needs 15 = .ok (.ireturn, 1) := by decide +kernel
theorem dX7_needs_16 : decode cX7_needs 16 = .ok (.iconst 0, 1) := by decide +kernel
theorem dX7_needs_17 : decode cX7_needs 17 = .ok (.istore_n 2, 1) := by decide +kernel
theorem dX7_needs_18 : decode cX7_needs 18 = .ok (.iconst 0, 1) := by decide +kernel
theorem dX7_needs_19 : decode cX7_needs 19 = .ok (.istore_n 3, 1) := by decide +kernel
theorem dX7_needs_20 : decode cX7_needs 20 = .ok (.iload_n 3, 1) := by decide +kernel
theorem dX7_needs_21 : decode cX7_needs 21 = .ok (.ifCond .ne 42, 3) := by decide +kernel
theorem dX7_needs_24 : decode cX7_needs 24 = .ok (.iload_n 2, 1) := by decide +kernel
theorem dX7_needs_25 : decode cX7_needs 25 = .ok (.bipush 100, 2) := by decide +kernel
theorem dX7_needs_27 : decode cX7_needs 27 = .ok (.if_icmp .ge 36, 3) := by decide +kernel
theorem dX7_needs_30 : decode cX7_needs 30 = .ok (.aload_n 0, 1) := by decide +kernel
theorem dX7_needs_31 : decode cX7_needs 31 = .ok (.invokevirtual 199, 3) := by decide +kernel
theorem dX7_needs_34 : decode cX7_needs 34 = .ok (.aload_n 0, 1) := by decide +kernel
theorem dX7_needs_35 : decode cX7_needs 35 = .ok (.iload_n 1, 1) := by decide +kernel
theorem dX7_needs_36 : decode cX7_needs 36 = .ok (.iload_n 2, 1) := by decide +kernel
theorem dX7_needs_37 : decode cX7_needs 37 = .ok (.invokevirtual 187, 3) := by decide +kernel
theorem dX7_needs_40 : decode cX7_needs 40 = .ok (.aload_n 0, 1) := by decide +kernel
theorem dX7_needs_41 : decode cX7_needs 41 = .ok (.invokevirtual 190, 3) := by decide +kernel
theorem dX7_needs_44 : decode cX7_needs 44 = .ok (.ifCond .ne 7, 3) := by decide +kernel
theorem dX7_needs_47 : decode cX7_needs 47 = .ok (.iconst 1, 1) := by decide +kernel
theorem dX7_needs_48 : decode cX7_needs 48 = .ok (.goto 4, 3) := by decide +kernel
theorem dX7_needs_51 : decode cX7_needs 51 = .ok (.iconst 0, 1) := by decide +kernel
theorem dX7_needs_52 : decode cX7_needs 52 = .ok (.istore_n 3, 1) := by decide +kernel
theorem dX7_needs_53 : decode cX7_needs 53 = .ok (.aload_n 0, 1) := by decide +kernel
theorem dX7_needs_54 : decode cX7_needs 54 = .ok (.invokevirtual 202, 3) := by decide +kernel
theorem dX7_needs_57 : decode cX7_needs 57 = .ok (.iinc 2 1, 3) := by decide +kernel
theorem dX7_needs_60 : decode cX7_needs 60 = .ok (.goto (-40), 3) := by decide +kernel
theorem dX7_needs_63 : decode cX7_needs 63 = .ok (.iload_n 3, 1) := by decide +kernel
theorem dX7_needs_64 : decode cX7_needs 64 = .ok (.ifCond .eq 9, 3) := by decide +kernel
theorem dX7_needs_67 : decode cX7_needs 67 = .ok (.iload_n 2, 1) := by decide +kernel
theorem dX7_needs_68 : decode cX7_needs 68 = .ok (.iconst 1, 1) := by decide +kernel
theorem dX7_needs_69 : decode cX7_needs 69 = .ok (.isub, 1) := by decide +kernel
theorem dX7_needs_70 : decode cX7_needs 70 = .ok (.goto 8, 3) := by decide +kernel
theorem dX7_needs_73 : decode cX7_needs 73 = .ok (.aload_n 0, 1) := by decide +kernel
theorem dX7_needs_74 : decode cX7_needs 74 = .ok (.iconst 2, 1) := by decide +kernel
theorem dX7_needs_75 : decode cX7_needs 75 = .ok (.invokevirtual 58, 3) := by decide +kernel
theorem dX7_needs_78 : decode cX7_needs 78 = .ok (.ireturn, 1) := by decide +kernel
theorem dX7_manyIn_0 : decode cX7_manyIn 0 = .ok (.iconst 0, 1) := by decide +kernel
theorem dX7_manyIn_1 : decode cX7_manyIn 1 = .ok (.istore_n 1, 1) := by decide +kernel
theorem dX7_manyIn_2 : decode cX7_manyIn 2 = .ok (.iconst 0, 1) := by decide +kernel
theorem dX7_manyIn_3 : decode cX7_manyIn 3 = .ok (.istore_n 2, 1) := by decide +kernel
theorem dX7_manyIn_4 : decode cX7_manyIn 4 = .ok (.iload_n 2, 1) := by decide +kernel
theorem dX7_manyIn_5 : decode cX7_manyIn 5 = .ok (.bipush 9, 2) := by decide +kernel
theorem dX7_manyIn_7 : decode cX7_manyIn 7 = .ok (.if_icmp .ge 17, 3) := by decide +kernel
theorem dX7_manyIn_10 : decode cX7_manyIn 10 = .ok (.iload_n 1, 1) := by decide +kernel
theorem dX7_manyIn_11 : decode cX7_manyIn 11 = .ok (.iload_n 0, 1) := by decide +kernel
theorem dX7_manyIn_12 : decode cX7_manyIn 12 = .ok (.iload_n 2, 1) := by decide +kernel
theorem dX7_manyIn_13 : decode cX7_manyIn 13 = .ok (.ishr, 1) := by decide +kernel
theorem dX7_manyIn_14 : decode cX7_manyIn 14 = .ok (.iconst 1, 1) := by decide +kernel
theorem dX7_manyIn_15 : decode cX7_manyIn 15 = .ok (.iand, 1) := by decide +kernel
theorem dX7_manyIn_16 : decode cX7_manyIn 16 = .ok (.iadd, 1) := by decide +kernel
theorem dX7_manyIn_17 : decode cX7_manyIn 17 = .ok (.istore_n 1, 1) := by decide +kernel
theorem dX7_manyIn_18 : decode cX7_manyIn 18 = .ok (.iinc 2 1, 3) := by decide +kernel
theorem dX7_manyIn_21 : decode cX7_manyIn 21 = .ok (.goto (-17), 3) := by decide +kernel
theorem dX7_manyIn_24 : decode cX7_manyIn 24 = .ok (.iload_n 1, 1) := by decide +kernel
theorem dX7_manyIn_25 : decode cX7_manyIn 25 = .ok (.ireturn, 1) := by decide +kernel
theorem dX7_doesRule_0 : decode cX7_doesRule 0 = .ok (.aload_n 0, 1) := by decide +kernel
theorem dX7_doesRule_1 : decode cX7_doesRule 1 = .ok (.invokevirtual 199, 3) := by decide +kernel
theorem dX7_doesRule_4 : decode cX7_doesRule 4 = .ok (.iconst 0, 1) := by decide +kernel
theorem dX7_doesRule_5 : decode cX7_doesRule 5 = .ok (.istore 5, 2) := by decide +kernel
theorem dX7_doesRule_7 : decode cX7_doesRule 7 = .ok (.iload 5, 2) := by decide +kernel
theorem dX7_doesRule_9 : decode cX7_doesRule 9 = .ok (.aload_n 0, 1) := by decide +kernel
theorem dX7_doesRule_10 : decode cX7_doesRule 10 = .ok (.getfield 7, 3) := by decide +kernel
theorem dX7_doesRule_13 : decode cX7_doesRule 13 = .ok (.iconst 5, 1) := by decide +kernel
theorem dX7_doesRule_14 : decode cX7_doesRule 14 = .ok (.iaload, 1) := by decide +kernel
theorem dX7_doesRule_15 : decode cX7_doesRule 15 = .ok (.if_icmp .ge 38, 3) := by decide +kernel
theorem dX7_doesRule_18 : decode cX7_doesRule 18 = .ok (.aload_n 0, 1) := by decide +kernel
theorem dX7_doesRule_19 : decode cX7_doesRule 19 = .ok (.iload 5, 2) := by decide +kernel
theorem dX7_doesRule_21 : decode cX7_doesRule 21 = .ok (.iconst 2, 1) := by decide +kernel
theorem dX7_doesRule_22 : decode cX7_doesRule 22 = .ok (.iload 4, 2) := by decide +kernel
theorem dX7_doesRule_24 : decode cX7_doesRule 24 = .ok (.iload 5, 2) := by decide +kernel
theorem dX7_doesRule_26 : decode cX7_doesRule 26 = .ok (.ishr, 1) := by decide +kernel
theorem dX7_doesRule_27 : decode cX7_doesRule 27 = .ok (.iconst 1, 1) := by decide +kernel
theorem dX7_doesRule_28 : decode cX7_doesRule 28 = .ok (.iand, 1) := by decide +kernel
theorem dX7_doesRule_29 : decode cX7_doesRule 29 = .ok (.iconst 1, 1) := by decide +kernel
theorem dX7_doesRule_30 : decode cX7_doesRule 30 = .ok (.if_icmp .ne 7, 3) := by decide +kernel
theorem dX7_doesRule_33 : decode cX7_doesRule 33 = .ok (.iconst 0, 1) := by decide +kernel
theorem dX7_doesRule_34 : decode cX7_doesRule 34 = .ok (.goto 10, 3) := by decide +kernel
theorem dX7_doesRule_37 : decode cX7_doesRule 37 = .ok (.aload_n 0, 1) := by decide +kernel
theorem dX7_doesRule_38 : decode cX7_doesRule 38 = .ok (.iload 5, 2) := by decide +kernel
theorem dX7_doesRule_40 : decode cX7_doesRule 40 = .ok (.iconst 2, 1) := by decide +kernel
theorem dX7_doesRule_41 : decode cX7_doesRule 41 = .ok (.invokevirtual 118, 3) := by decide +kernel
theorem dX7_doesRule_44 : decode cX7_doesRule 44 = .ok (.invokevirtual 147, 3) := by decide +kernel
theorem dX7_doesRule_47 : decode cX7_doesRule 47 = .ok (.iinc 5 1, 3) := by decide +kernel
theorem dX7_doesRule_50 : decode cX7_doesRule 50 = .ok (.goto (-43), 3) := by decide +kernel
theorem dX7_doesRule_53 : decode cX7_doesRule 53 = .ok (.aload_n 0, 1) := by decide +kernel
theorem dX7_doesRule_54 : decode cX7_doesRule 54 = .ok (.iload_n 2, 1) := by decide +kernel
theorem dX7_doesRule_55 : decode cX7_doesRule 55 = .ok (.iload_n 3, 1) := by decide +kernel
theorem dX7_doesRule_56 : decode cX7_doesRule 56 = .ok (.invokevirtual 187, 3) := by decide +kernel
theorem dX7_doesRule_59 : decode cX7_doesRule 59 = .ok (.aload_n 0, 1) := by decide +kernel
theorem dX7_doesRule_60 : decode cX7_doesRule 60 = .ok (.invokevirtual 151, 3) := by decide +kernel
theorem dX7_doesRule_63 : decode cX7_doesRule 63 = .ok (.iload_n 1, 1) := by decide +kernel
theorem dX7_doesRule_64 : decode cX7_doesRule 64 = .ok (.if_icmp .ne 7, 3) := by decide +kernel
theorem dX7_doesRule_67 : decode cX7_doesRule 67 = .ok (.iconst 1, 1) := by decide +kernel
theorem dX7_doesRule_68 : decode cX7_doesRule 68 = .ok (.goto 4, 3) := by decide +kernel
theorem dX7_doesRule_71 : decode cX7_doesRule 71 = .ok (.iconst 0, 1) := by decide +kernel
theorem dX7_doesRule_72 : decode cX7_doesRule 72 = .ok (.istore 5, 2) := by decide +kernel
theorem dX7_doesRule_74 : decode cX7_doesRule 74 = .ok (.aload_n 0, 1) := by decide +kernel
theorem dX7_doesRule_75 : decode cX7_doesRule 75 = .ok (.invokevirtual 202, 3) := by decide +kernel
theorem dX7_doesRule_78 : decode cX7_doesRule 78 = .ok (.iload 5, 2) := by decide +kernel
theorem dX7_doesRule_80 : decode cX7_doesRule 80 = .ok (.ireturn, 1) := by decide +kernel
theorem dX7_clears_0 : decode cX7_clears 0 = .ok (.aload_n 0, 1) := by decide +kernel
theorem dX7_clears_1 : decode cX7_clears 1 = .ok (.iload_n 1, 1) := by decide +kernel
theorem dX7_clears_2 : decode cX7_clears 2 = .ok (.invokevirtual 175, 3) := by decide +kernel
theorem dX7_clears_5 : decode cX7_clears 5 = .ok (.ifCond .eq 30, 3) := by decide +kernel
theorem dX7_clears_8 : decode cX7_clears 8 = .ok (.iload_n 2, 1) := by decide +kernel
theorem dX7_clears_9 : decode cX7_clears 9 = .ok (.iconst 0, 1) := by decide +kernel
theorem dX7_clears_10 : decode cX7_clears 10 = .ok (.bipush 6, 2) := by decide +kernel
theorem dX7_clears_12 : decode cX7_clears 12 = .ok (.invokestatic 54, 3) := by decide +kernel
theorem dX7_clears_15 : decode cX7_clears 15 = .ok (.ifCond .eq 20, 3) := by decide +kernel
theorem dX7_clears_18 : decode cX7_clears 18 = .ok (.iload_n 3, 1) := by decide +kernel
theorem dX7_clears_19 : decode cX7_clears 19 = .ok (.invokestatic 184, 3) := by decide +kernel
theorem dX7_clears_22 : decode cX7_clears 22 = .ok (.ifCond .eq 13, 3) := by decide +kernel
theorem dX7_clears_25 : decode cX7_clears 25 = .ok (.iload 4, 2) := by decide +kernel
theorem dX7_clears_27 : decode cX7_clears 27 = .ok (.iconst 0, 1) := by decide +kernel
theorem dX7_clears_28 : decode cX7_clears 28 = .ok (.iconst 1, 1) := by decide +kernel
theorem dX7_clears_29 : decode cX7_clears 29 = .ok (.invokestatic 54, 3) := by decide +kernel
theorem dX7_clears_32 : decode cX7_clears 32 = .ok (.ifCond .ne 9, 3) := by decide +kernel
theorem dX7_clears_35 : decode cX7_clears 35 = .ok (.aload_n 0, 1) := by decide +kernel
theorem dX7_clears_36 : decode cX7_clears 36 = .ok (.iconst 1, 1) := by decide +kernel
theorem dX7_clears_37 : decode cX7_clears 37 = .ok (.invokevirtual 58, 3) := by decide +kernel
theorem dX7_clears_40 : decode cX7_clears 40 = .ok (.ireturn, 1) := by decide +kernel
theorem dX7_clears_41 : decode cX7_clears 41 = .ok (.iconst (-1), 1) := by decide +kernel
theorem dX7_clears_42 : decode cX7_clears 42 = .ok (.istore 5, 2) := by decide +kernel
theorem dX7_clears_44 : decode cX7_clears 44 = .ok (.iconst 0, 1) := by decide +kernel
theorem dX7_clears_45 : decode cX7_clears 45 = .ok (.istore 6, 2) := by decide +kernel
theorem dX7_clears_47 : decode cX7_clears 47 = .ok (.iload 6, 2) := by decide +kernel
theorem dX7_clears_49 : decode cX7_clears 49 = .ok (.iconst 1, 1) := by decide +kernel
theorem dX7_clears_50 : decode cX7_clears 50 = .ok (.aload_n 0, 1) := by decide +kernel
theorem dX7_clears_51 : decode cX7_clears 51 = .ok (.getfield 7, 3) := by decide +kernel
theorem dX7_clears_54 : decode cX7_clears 54 = .ok (.iconst 5, 1) := by decide +kernel
theorem dX7_clears_55 : decode cX7_clears 55 = .ok (.iaload, 1) := by decide +kernel
theorem dX7_clears_56 : decode cX7_clears 56 = .ok (.ishl, 1) := by decide +kernel
theorem dX7_clears_57 : decode cX7_clears 57 = .ok (.if_icmp .ge 61, 3) := by decide +kernel
theorem dX7_clears_60 : decode cX7_clears 60 = .ok (.iload 5, 2) := by decide +kernel
theorem dX7_clears_62 : decode cX7_clears 62 = .ok (.iconst (-1), 1) := by decide +kernel
theorem dX7_clears_63 : decode cX7_clears 63 = .ok (.if_icmp .eq 16, 3) := by decide +kernel
theorem dX7_clears_66 : decode cX7_clears 66 = .ok (.iload 6, 2) := by decide +kernel
theorem dX7_clears_68 : decode cX7_clears 68 = .ok (.invokestatic 205, 3) := by decide +kernel
theorem dX7_clears_71 : decode cX7_clears 71 = .ok (.iload 5, 2) := by decide +kernel
theorem dX7_clears_73 : decode cX7_clears 73 = .ok (.invokestatic 205, 3) := by decide +kernel
theorem dX7_clears_76 : decode cX7_clears 76 = .ok (.if_icmp .ge 7, 3) := by decide +kernel
theorem dX7_clears_79 : decode cX7_clears 79 = .ok (.iconst 1, 1) := by decide +kernel
theorem dX7_clears_80 : decode cX7_clears 80 = .ok (.goto 4, 3) := by decide +kernel
theorem dX7_clears_83 : decode cX7_clears 83 = .ok (.iconst 0, 1) := by decide +kernel
theorem dX7_clears_84 : decode cX7_clears 84 = .ok (.istore 7, 2) := by decide +kernel
theorem dX7_clears_86 : decode cX7_clears 86 = .ok (.iload 7, 2) := by decide +kernel
theorem dX7_clears_88 : decode cX7_clears 88 = .ok (.ifCond .eq 20, 3) := by decide +kernel
theorem dX7_clears_91 : decode cX7_clears 91 = .ok (.aload_n 0, 1) := by decide +kernel
theorem dX7_clears_92 : decode cX7_clears 92 = .ok (.iload_n 1, 1) := by decide +kernel
theorem dX7_clears_93 : decode cX7_clears 93 = .ok (.iload_n 2, 1) := by decide +kernel
theorem dX7_clears_94 : decode cX7_clears 94 = .ok (.iload_n 3, 1) := by decide +kernel
theorem dX7_clears_95 : decode cX7_clears 95 = .ok (.iload 6, 2) := by decide +kernel
theorem dX7_clears_97 : decode cX7_clears 97 = .ok (.invokevirtual 208, 3) := by decide +kernel
theorem dX7_clears_100 : decode cX7_clears 100 = .ok (.ifCond .eq 8, 3) := by decide +kernel
theorem dX7_clears_103 : decode cX7_clears 103 = .ok (.iload 6, 2) := by decide +kernel
theorem dX7_clears_105 : decode cX7_clears 105 = .ok (.goto 5, 3) := by decide +kernel
theorem dX7_clears_108 : decode cX7_clears 108 = .ok (.iload 5, 2) := by decide +kernel
theorem dX7_clears_110 : decode cX7_clears 110 = .ok (.istore 5, 2) := by decide +kernel
theorem dX7_clears_112 : decode cX7_clears 112 = .ok (.iinc 6 1, 3) := by decide +kernel
theorem dX7_clears_115 : decode cX7_clears 115 = .ok (.goto (-68), 3) := by decide +kernel
theorem dX7_clears_118 : decode cX7_clears 118 = .ok (.iload 5, 2) := by decide +kernel
theorem dX7_clears_120 : decode cX7_clears 120 = .ok (.iconst (-1), 1) := by decide +kernel
theorem dX7_clears_121 : decode cX7_clears 121 = .ok (.if_icmp .ne 11, 3) := by decide +kernel
theorem dX7_clears_124 : decode cX7_clears 124 = .ok (.aload_n 0, 1) := by decide +kernel
theorem dX7_clears_125 : decode cX7_clears 125 = .ok (.iconst 2, 1) := by decide +kernel
theorem dX7_clears_126 : decode cX7_clears 126 = .ok (.invokevirtual 58, 3) := by decide +kernel
theorem dX7_clears_129 : decode cX7_clears 129 = .ok (.goto 18, 3) := by decide +kernel
theorem dX7_clears_132 : decode cX7_clears 132 = .ok (.iload 4, 2) := by decide +kernel
theorem dX7_clears_134 : decode cX7_clears 134 = .ok (.ifCond .ne 11, 3) := by decide +kernel
theorem dX7_clears_137 : decode cX7_clears 137 = .ok (.iload 5, 2) := by decide +kernel
theorem dX7_clears_139 : decode cX7_clears 139 = .ok (.invokestatic 205, 3) := by decide +kernel
theorem dX7_clears_142 : decode cX7_clears 142 = .ok (.goto 5, 3) := by decide +kernel
theorem dX7_clears_145 : decode cX7_clears 145 = .ok (.iload 5, 2) := by decide +kernel
theorem dX7_clears_147 : decode cX7_clears 147 = .ok (.ireturn, 1) := by decide +kernel
theorem dX7_keepingSizes_0 : decode cX7_keepingSizes 0 = .ok (.aload_n 0, 1) := by decide +kernel
theorem dX7_keepingSizes_1 : decode cX7_keepingSizes 1 = .ok (.invokevirtual 151, 3) := by decide +kernel
theorem dX7_keepingSizes_4 : decode cX7_keepingSizes 4 = .ok (.istore_n 1, 1) := by decide +kernel
theorem dX7_keepingSizes_5 : decode cX7_keepingSizes 5 = .ok (.iconst 0, 1) := by decide +kernel
theorem dX7_keepingSizes_6 : decode cX7_keepingSizes 6 = .ok (.istore_n 2, 1) := by decide +kernel
theorem dX7_keepingSizes_7 : decode cX7_keepingSizes 7 = .ok (.iconst 0, 1) := by decide +kernel
theorem dX7_keepingSizes_8 : decode cX7_keepingSizes 8 = .ok (.istore_n 3, 1) := by decide +kernel
theorem dX7_keepingSizes_9 : decode cX7_keepingSizes 9 = .ok (.iload_n 3, 1) := by decide +kernel
theorem dX7_keepingSizes_10 : decode cX7_keepingSizes 10 = .ok (.aload_n 0, 1) := by decide +kernel
theorem dX7_keepingSizes_11 : decode cX7_keepingSizes 11 = .ok (.getfield 7, 3) := by decide +kernel
theorem dX7_keepingSizes_14 : decode cX7_keepingSizes 14 = .ok (.iconst 5, 1) := by decide +kernel
theorem dX7_keepingSizes_15 : decode cX7_keepingSizes 15 = .ok (.iaload, 1) := by decide +kernel
theorem dX7_keepingSizes_16 : decode cX7_keepingSizes 16 = .ok (.if_icmp .ge 31, 3) := by decide +kernel
theorem dX7_keepingSizes_19 : decode cX7_keepingSizes 19 = .ok (.iload_n 2, 1) := by decide +kernel
theorem dX7_keepingSizes_20 : decode cX7_keepingSizes 20 = .ok (.aload_n 0, 1) := by decide +kernel
theorem dX7_keepingSizes_21 : decode cX7_keepingSizes 21 = .ok (.iload_n 3, 1) := by decide +kernel
theorem dX7_keepingSizes_22 : decode cX7_keepingSizes 22 = .ok (.iload_n 1, 1) := by decide +kernel
theorem dX7_keepingSizes_23 : decode cX7_keepingSizes 23 = .ok (.invokevirtual 154, 3) := by decide +kernel
theorem dX7_keepingSizes_26 : decode cX7_keepingSizes 26 = .ok (.ifCond .eq 12, 3) := by decide +kernel
theorem dX7_keepingSizes_29 : decode cX7_keepingSizes 29 = .ok (.aload_n 0, 1) := by decide +kernel
theorem dX7_keepingSizes_30 : decode cX7_keepingSizes 30 = .ok (.iload_n 3, 1) := by decide +kernel
theorem dX7_keepingSizes_31 : decode cX7_keepingSizes 31 = .ok (.iconst 2, 1) := by decide +kernel
theorem dX7_keepingSizes_32 : decode cX7_keepingSizes 32 = .ok (.invokevirtual 118, 3) := by decide +kernel
theorem dX7_keepingSizes_35 : decode cX7_keepingSizes 35 = .ok (.goto 4, 3) := by decide +kernel
theorem dX7_keepingSizes_38 : decode cX7_keepingSizes 38 = .ok (.iconst 0, 1) := by decide +kernel
theorem dX7_keepingSizes_39 : decode cX7_keepingSizes 39 = .ok (.iadd, 1) := by decide +kernel
theorem dX7_keepingSizes_40 : decode cX7_keepingSizes 40 = .ok (.istore_n 2, 1) := by decide +kernel
theorem dX7_keepingSizes_41 : decode cX7_keepingSizes 41 = .ok (.iinc 3 1, 3) := by decide +kernel
theorem dX7_keepingSizes_44 : decode cX7_keepingSizes 44 = .ok (.goto (-35), 3) := by decide +kernel
theorem dX7_keepingSizes_47 : decode cX7_keepingSizes 47 = .ok (.iload_n 2, 1) := by decide +kernel
theorem dX7_keepingSizes_48 : decode cX7_keepingSizes 48 = .ok (.ireturn, 1) := by decide +kernel
theorem dX7_brings_0 : decode cX7_brings 0 = .ok (.iload_n 1, 1) := by decide +kernel
theorem dX7_brings_1 : decode cX7_brings 1 = .ok (.iconst 1, 1) := by decide +kernel
theorem dX7_brings_2 : decode cX7_brings 2 = .ok (.bipush 99, 2) := by decide +kernel
theorem dX7_brings_4 : decode cX7_brings 4 = .ok (.invokestatic 54, 3) := by decide +kernel
theorem dX7_brings_7 : decode cX7_brings 7 = .ok (.ifCond .eq 12, 3) := by decide +kernel
theorem dX7_brings_10 : decode cX7_brings 10 = .ok (.iload_n 2, 1) := by decide +kernel
theorem dX7_brings_11 : decode cX7_brings 11 = .ok (.iconst 0, 1) := by decide +kernel
theorem dX7_brings_12 : decode cX7_brings 12 = .ok (.iconst 1, 1) := by decide +kernel
theorem dX7_brings_13 : decode cX7_brings 13 = .ok (.invokestatic 54, 3) := by decide +kernel
theorem dX7_brings_16 : decode cX7_brings 16 = .ok (.ifCond .ne 9, 3) := by decide +kernel
theorem dX7_brings_19 : decode cX7_brings 19 = .ok (.aload_n 0, 1) := by decide +kernel
theorem dX7_brings_20 : decode cX7_brings 20 = .ok (.iconst 1, 1) := by decide +kernel
theorem dX7_brings_21 : decode cX7_brings 21 = .ok (.invokevirtual 58, 3) := by decide +kernel
theorem dX7_brings_24 : decode cX7_brings 24 = .ok (.ireturn, 1) := by decide +kernel
theorem dX7_brings_25 : decode cX7_brings 25 = .ok (.aload_n 0, 1) := by decide +kernel
theorem dX7_brings_26 : decode cX7_brings 26 = .ok (.getfield 7, 3) := by decide +kernel
theorem dX7_brings_29 : decode cX7_brings 29 = .ok (.iconst 5, 1) := by decide +kernel
theorem dX7_brings_30 : decode cX7_brings 30 = .ok (.iaload, 1) := by decide +kernel
theorem dX7_brings_31 : decode cX7_brings 31 = .ok (.bipush 9, 2) := by decide +kernel
theorem dX7_brings_33 : decode cX7_brings 33 = .ok (.if_icmp .eq 10, 3) := by decide +kernel
theorem dX7_brings_36 : decode cX7_brings 36 = .ok (.aload_n 0, 1) := by decide +kernel
theorem dX7_brings_37 : decode cX7_brings 37 = .ok (.invokevirtual 190, 3) := by decide +kernel
theorem dX7_brings_40 : decode cX7_brings 40 = .ok (.ifCond .ne 9, 3) := by decide +kernel
theorem dX7_brings_43 : decode cX7_brings 43 = .ok (.aload_n 0, 1) := by decide +kernel
theorem dX7_brings_44 : decode cX7_brings 44 = .ok (.iconst 3, 1) := by decide +kernel
theorem dX7_brings_45 : decode cX7_brings 45 = .ok (.invokevirtual 58, 3) := by decide +kernel
theorem dX7_brings_48 : decode cX7_brings 48 = .ok (.ireturn, 1) := by decide +kernel
theorem dX7_brings_49 : decode cX7_brings 49 = .ok (.iconst 0, 1) := by decide +kernel
theorem dX7_brings_50 : decode cX7_brings 50 = .ok (.istore_n 3, 1) := by decide +kernel
theorem dX7_brings_51 : decode cX7_brings 51 = .ok (.iconst (-1), 1) := by decide +kernel
theorem dX7_brings_52 : decode cX7_brings 52 = .ok (.istore 4, 2) := by decide +kernel
theorem dX7_brings_54 : decode cX7_brings 54 = .ok (.iconst 0, 1) := by decide +kernel
theorem dX7_brings_55 : decode cX7_brings 55 = .ok (.istore 5, 2) := by decide +kernel
theorem dX7_brings_57 : decode cX7_brings 57 = .ok (.iload 5, 2) := by decide +kernel
theorem dX7_brings_59 : decode cX7_brings 59 = .ok (.bipush 10, 2) := by decide +kernel
theorem dX7_brings_61 : decode cX7_brings 61 = .ok (.if_icmp .ge 61, 3) := by decide +kernel
theorem dX7_brings_64 : decode cX7_brings 64 = .ok (.aload_n 0, 1) := by decide +kernel
theorem dX7_brings_65 : decode cX7_brings 65 = .ok (.invokevirtual 199, 3) := by decide +kernel
theorem dX7_brings_68 : decode cX7_brings 68 = .ok (.aload_n 0, 1) := by decide +kernel
theorem dX7_brings_69 : decode cX7_brings 69 = .ok (.iconst 0, 1) := by decide +kernel
theorem dX7_brings_70 : decode cX7_brings 70 = .ok (.iload_n 1, 1) := by decide +kernel
theorem dX7_brings_71 : decode cX7_brings 71 = .ok (.iload 5, 2) := by decide +kernel
theorem dX7_brings_73 : decode cX7_brings 73 = .ok (.invokevirtual 172, 3) := by decide +kernel
theorem dX7_brings_76 : decode cX7_brings 76 = .ok (.aload_n 0, 1) := by decide +kernel
theorem dX7_brings_77 : decode cX7_brings 77 = .ok (.invokevirtual 212, 3) := by decide +kernel
theorem dX7_brings_80 : decode cX7_brings 80 = .ok (.istore 6, 2) := by decide +kernel
theorem dX7_brings_82 : decode cX7_brings 82 = .ok (.aload_n 0, 1) := by decide +kernel
theorem dX7_brings_83 : decode cX7_brings 83 = .ok (.invokevirtual 202, 3) := by decide +kernel
theorem dX7_brings_86 : decode cX7_brings 86 = .ok (.iload 6, 2) := by decide +kernel
theorem dX7_brings_88 : decode cX7_brings 88 = .ok (.iload 4, 2) := by decide +kernel
theorem dX7_brings_90 : decode cX7_brings 90 = .ok (.if_icmp .le 8, 3) := by decide +kernel
theorem dX7_brings_93 : decode cX7_brings 93 = .ok (.iload 5, 2) := by decide +kernel
theorem dX7_brings_95 : decode cX7_brings 95 = .ok (.goto 4, 3) := by decide +kernel
theorem dX7_brings_98 : decode cX7_brings 98 = .ok (.iload_n 3, 1) := by decide +kernel
theorem dX7_brings_99 : decode cX7_brings 99 = .ok (.istore_n 3, 1) := by decide +kernel
theorem dX7_brings_100 : decode cX7_brings 100 = .ok (.iload 6, 2) := by decide +kernel
theorem dX7_brings_102 : decode cX7_brings 102 = .ok (.iload 4, 2) := by decide +kernel
theorem dX7_brings_104 : decode cX7_brings 104 = .ok (.if_icmp .le 8, 3) := by decide +kernel
theorem dX7_brings_107 : decode cX7_brings 107 = .ok (.iload 6, 2) := by decide +kernel
theorem dX7_brings_109 : decode cX7_brings 109 = .ok (.goto 5, 3) := by decide +kernel
theorem dX7_brings_112 : decode cX7_brings 112 = .ok (.iload 4, 2) := by decide +kernel
theorem dX7_brings_114 : decode cX7_brings 114 = .ok (.istore 4, 2) := by decide +kernel
theorem dX7_brings_116 : decode cX7_brings 116 = .ok (.iinc 5 1, 3) := by decide +kernel
theorem dX7_brings_119 : decode cX7_brings 119 = .ok (.goto (-62), 3) := by decide +kernel
theorem dX7_brings_122 : decode cX7_brings 122 = .ok (.iload_n 2, 1) := by decide +kernel
theorem dX7_brings_123 : decode cX7_brings 123 = .ok (.ifCond .ne 7, 3) := by decide +kernel
theorem dX7_brings_126 : decode cX7_brings 126 = .ok (.iload_n 3, 1) := by decide +kernel
theorem dX7_brings_127 : decode cX7_brings 127 = .ok (.goto 5, 3) := by decide +kernel
theorem dX7_brings_130 : decode cX7_brings 130 = .ok (.iload 4, 2) := by decide +kernel
theorem dX7_brings_132 : decode cX7_brings 132 = .ok (.ireturn, 1) := by decide +kernel
theorem dX7_divisor_0 : decode cX7_divisor 0 = .ok (.iload_n 0, 1) := by decide +kernel
theorem dX7_divisor_1 : decode cX7_divisor 1 = .ok (.istore_n 2, 1) := by decide +kernel
theorem dX7_divisor_2 : decode cX7_divisor 2 = .ok (.iload_n 1, 1) := by decide +kernel
theorem dX7_divisor_3 : decode cX7_divisor 3 = .ok (.istore_n 3, 1) := by decide +kernel
theorem dX7_divisor_4 : decode cX7_divisor 4 = .ok (.iload_n 3, 1) := by decide +kernel
theorem dX7_divisor_5 : decode cX7_divisor 5 = .ok (.ifCond .eq 16, 3) := by decide +kernel
theorem dX7_divisor_8 : decode cX7_divisor 8 = .ok (.iload_n 2, 1) := by decide +kernel
theorem dX7_divisor_9 : decode cX7_divisor 9 = .ok (.iload_n 3, 1) := by decide +kernel
theorem dX7_divisor_10 : decode cX7_divisor 10 = .ok (.irem, 1) := by decide +kernel
theorem dX7_divisor_11 : decode cX7_divisor 11 = .ok (.istore 4, 2) := by decide +kernel
theorem dX7_divisor_13 : decode cX7_divisor 13 = .ok (.iload_n 3, 1) := by decide +kernel
theorem dX7_divisor_14 : decode cX7_divisor 14 = .ok (.istore_n 2, 1) := by decide +kernel
theorem dX7_divisor_15 : decode cX7_divisor 15 = .ok (.iload 4, 2) := by decide +kernel
theorem dX7_divisor_17 : decode cX7_divisor 17 = .ok (.istore_n 3, 1) := by decide +kernel
theorem dX7_divisor_18 : decode cX7_divisor 18 = .ok (.goto (-14), 3) := by decide +kernel
theorem dX7_divisor_21 : decode cX7_divisor 21 = .ok (.iload_n 2, 1) := by decide +kernel
theorem dX7_divisor_22 : decode cX7_divisor 22 = .ok (.ireturn, 1) := by decide +kernel
theorem dX7_odds_0 : decode cX7_odds 0 = .ok (.iload_n 1, 1) := by decide +kernel
theorem dX7_odds_1 : decode cX7_odds 1 = .ok (.iconst 0, 1) := by decide +kernel
theorem dX7_odds_2 : decode cX7_odds 2 = .ok (.iconst 1, 1) := by decide +kernel
theorem dX7_odds_3 : decode cX7_odds 3 = .ok (.invokestatic 54, 3) := by decide +kernel
theorem dX7_odds_6 : decode cX7_odds 6 = .ok (.ifCond .ne 9, 3) := by decide +kernel
theorem dX7_odds_9 : decode cX7_odds 9 = .ok (.aload_n 0, 1) := by decide +kernel
theorem dX7_odds_10 : decode cX7_odds 10 = .ok (.iconst 1, 1) := by decide +kernel
theorem dX7_odds_11 : decode cX7_odds 11 = .ok (.invokevirtual 58, 3) := by decide +kernel
theorem dX7_odds_14 : decode cX7_odds 14 = .ok (.ireturn, 1) := by decide +kernel
theorem dX7_odds_15 : decode cX7_odds 15 = .ok (.aload_n 0, 1) := by decide +kernel
theorem dX7_odds_16 : decode cX7_odds 16 = .ok (.invokevirtual 190, 3) := by decide +kernel
theorem dX7_odds_19 : decode cX7_odds 19 = .ok (.istore_n 2, 1) := by decide +kernel
theorem dX7_odds_20 : decode cX7_odds 20 = .ok (.iload_n 2, 1) := by decide +kernel
theorem dX7_odds_21 : decode cX7_odds 21 = .ok (.ifCond .ne 9, 3) := by decide +kernel
theorem dX7_odds_24 : decode cX7_odds 24 = .ok (.aload_n 0, 1) := by decide +kernel
theorem dX7_odds_25 : decode cX7_odds 25 = .ok (.iconst 3, 1) := by decide +kernel
theorem dX7_odds_26 : decode cX7_odds 26 = .ok (.invokevirtual 58, 3) := by decide +kernel
theorem dX7_odds_29 : decode cX7_odds 29 = .ok (.ireturn, 1) := by decide +kernel
theorem dX7_odds_30 : decode cX7_odds 30 = .ok (.aload_n 0, 1) := by decide +kernel
theorem dX7_odds_31 : decode cX7_odds 31 = .ok (.invokevirtual 212, 3) := by decide +kernel
theorem dX7_odds_34 : decode cX7_odds 34 = .ok (.istore_n 3, 1) := by decide +kernel
theorem dX7_odds_35 : decode cX7_odds 35 = .ok (.iload_n 3, 1) := by decide +kernel
theorem dX7_odds_36 : decode cX7_odds 36 = .ok (.iload_n 2, 1) := by decide +kernel
theorem dX7_odds_37 : decode cX7_odds 37 = .ok (.invokestatic 215, 3) := by decide +kernel
theorem dX7_odds_40 : decode cX7_odds 40 = .ok (.istore 4, 2) := by decide +kernel
theorem dX7_odds_42 : decode cX7_odds 42 = .ok (.iload_n 1, 1) := by decide +kernel
theorem dX7_odds_43 : decode cX7_odds 43 = .ok (.ifCond .ne 10, 3) := by decide +kernel
theorem dX7_odds_46 : decode cX7_odds 46 = .ok (.iload_n 3, 1) := by decide +kernel
theorem dX7_odds_47 : decode cX7_odds 47 = .ok (.iload 4, 2) := by decide +kernel
theorem dX7_odds_49 : decode cX7_odds 49 = .ok (.idiv, 1) := by decide +kernel
theorem dX7_odds_50 : decode cX7_odds 50 = .ok (.goto 7, 3) := by decide +kernel
theorem dX7_odds_53 : decode cX7_odds 53 = .ok (.iload_n 2, 1) := by decide +kernel
theorem dX7_odds_54 : decode cX7_odds 54 = .ok (.iload 4, 2) := by decide +kernel
theorem dX7_odds_56 : decode cX7_odds 56 = .ok (.idiv, 1) := by decide +kernel
theorem dX7_odds_57 : decode cX7_odds 57 = .ok (.ireturn, 1) := by decide +kernel
theorem dX7_isLeftSo_0 : decode cX7_isLeftSo 0 = .ok (.aload_n 0, 1) := by decide +kernel
theorem dX7_isLeftSo_1 : decode cX7_isLeftSo 1 = .ok (.invokevirtual 199, 3) := by decide +kernel
theorem dX7_isLeftSo_4 : decode cX7_isLeftSo 4 = .ok (.aload_n 0, 1) := by decide +kernel
theorem dX7_isLeftSo_5 : decode cX7_isLeftSo 5 = .ok (.iload_n 2, 1) := by decide +kernel
theorem dX7_isLeftSo_6 : decode cX7_isLeftSo 6 = .ok (.invokevirtual 165, 3) := by decide +kernel
theorem dX7_isLeftSo_9 : decode cX7_isLeftSo 9 = .ok (.istore_n 3, 1) := by decide +kernel
theorem dX7_isLeftSo_10 : decode cX7_isLeftSo 10 = .ok (.aload_n 0, 1) := by decide +kernel
theorem dX7_isLeftSo_11 : decode cX7_isLeftSo 11 = .ok (.getfield 44, 3) := by decide +kernel
theorem dX7_isLeftSo_14 : decode cX7_isLeftSo 14 = .ok (.iload_n 1, 1) := by decide +kernel
theorem dX7_isLeftSo_15 : decode cX7_isLeftSo 15 = .ok (.iaload, 1) := by decide +kernel
theorem dX7_isLeftSo_16 : decode cX7_isLeftSo 16 = .ok (.aload_n 0, 1) := by decide +kernel
theorem dX7_isLeftSo_17 : decode cX7_isLeftSo 17 = .ok (.getfield 7, 3) := by decide +kernel
theorem dX7_isLeftSo_20 : decode cX7_isLeftSo 20 = .ok (.iconst 5, 1) := by decide +kernel
theorem dX7_isLeftSo_21 : decode cX7_isLeftSo 21 = .ok (.iaload, 1) := by decide +kernel
theorem dX7_isLeftSo_22 : decode cX7_isLeftSo 22 = .ok (.if_icmp .gt 7, 3) := by decide +kernel
theorem dX7_isLeftSo_25 : decode cX7_isLeftSo 25 = .ok (.iconst 1, 1) := by decide +kernel
theorem dX7_isLeftSo_26 : decode cX7_isLeftSo 26 = .ok (.goto 4, 3) := by decide +kernel
theorem dX7_isLeftSo_29 : decode cX7_isLeftSo 29 = .ok (.iconst 0, 1) := by decide +kernel
theorem dX7_isLeftSo_30 : decode cX7_isLeftSo 30 = .ok (.istore 4, 2) := by decide +kernel
theorem dX7_isLeftSo_32 : decode cX7_isLeftSo 32 = .ok (.iconst 0, 1) := by decide +kernel
theorem dX7_isLeftSo_33 : decode cX7_isLeftSo 33 = .ok (.istore 5, 2) := by decide +kernel
theorem dX7_isLeftSo_35 : decode cX7_isLeftSo 35 = .ok (.iload 5, 2) := by decide +kernel
theorem dX7_isLeftSo_37 : decode cX7_isLeftSo 37 = .ok (.aload_n 0, 1) := by decide +kernel
theorem dX7_isLeftSo_38 : decode cX7_isLeftSo 38 = .ok (.getfield 44, 3) := by decide +kernel
theorem dX7_isLeftSo_41 : decode cX7_isLeftSo 41 = .ok (.iload_n 1, 1) := by decide +kernel
theorem dX7_isLeftSo_42 : decode cX7_isLeftSo 42 = .ok (.iaload, 1) := by decide +kernel
theorem dX7_isLeftSo_43 : decode cX7_isLeftSo 43 = .ok (.if_icmp .ge 43, 3) := by decide +kernel
theorem dX7_isLeftSo_46 : decode cX7_isLeftSo 46 = .ok (.iload 4, 2) := by decide +kernel
theorem dX7_isLeftSo_48 : decode cX7_isLeftSo 48 = .ok (.ifCond .eq 38, 3) := by decide +kernel
theorem dX7_isLeftSo_51 : decode cX7_isLeftSo 51 = .ok (.aload_n 0, 1) := by decide +kernel
theorem dX7_isLeftSo_52 : decode cX7_isLeftSo 52 = .ok (.iload 5, 2) := by decide +kernel
theorem dX7_isLeftSo_54 : decode cX7_isLeftSo 54 = .ok (.iconst 2, 1) := by decide +kernel
theorem dX7_isLeftSo_55 : decode cX7_isLeftSo 55 = .ok (.invokevirtual 118, 3) := by decide +kernel
theorem dX7_isLeftSo_58 : decode cX7_isLeftSo 58 = .ok (.aload_n 0, 1) := by decide +kernel
theorem dX7_isLeftSo_59 : decode cX7_isLeftSo 59 = .ok (.getfield 47, 3) := by decide +kernel
theorem dX7_isLeftSo_62 : decode cX7_isLeftSo 62 = .ok (.bipush 24, 2) := by decide +kernel
theorem dX7_isLeftSo_64 : decode cX7_isLeftSo 64 = .ok (.iload_n 1, 1) := by decide +kernel
theorem dX7_isLeftSo_65 : decode cX7_isLeftSo 65 = .ok (.imul, 1) := by decide +kernel
theorem dX7_isLeftSo_66 : decode cX7_isLeftSo 66 = .ok (.iload 5, 2) := by decide +kernel
theorem dX7_isLeftSo_68 : decode cX7_isLeftSo 68 = .ok (.iadd, 1) := by decide +kernel
theorem dX7_isLeftSo_69 : decode cX7_isLeftSo 69 = .ok (.iaload, 1) := by decide +kernel
theorem dX7_isLeftSo_70 : decode cX7_isLeftSo 70 = .ok (.if_icmp .ne 7, 3) := by decide +kernel
theorem dX7_isLeftSo_73 : decode cX7_isLeftSo 73 = .ok (.iconst 1, 1) := by decide +kernel
theorem dX7_isLeftSo_74 : decode cX7_isLeftSo 74 = .ok (.goto 4, 3) := by decide +kernel
theorem dX7_isLeftSo_77 : decode cX7_isLeftSo 77 = .ok (.iconst 0, 1) := by decide +kernel
theorem dX7_isLeftSo_78 : decode cX7_isLeftSo 78 = .ok (.istore 4, 2) := by decide +kernel
theorem dX7_isLeftSo_80 : decode cX7_isLeftSo 80 = .ok (.iinc 5 1, 3) := by decide +kernel
theorem dX7_isLeftSo_83 : decode cX7_isLeftSo 83 = .ok (.goto (-48), 3) := by decide +kernel
theorem dX7_isLeftSo_86 : decode cX7_isLeftSo 86 = .ok (.aload_n 0, 1) := by decide +kernel
theorem dX7_isLeftSo_87 : decode cX7_isLeftSo 87 = .ok (.invokevirtual 202, 3) := by decide +kernel
theorem dX7_isLeftSo_90 : decode cX7_isLeftSo 90 = .ok (.iload 4, 2) := by decide +kernel
theorem dX7_isLeftSo_92 : decode cX7_isLeftSo 92 = .ok (.ireturn, 1) := by decide +kernel
theorem dX7_fits_0 : decode cX7_fits 0 = .ok (.iload_n 2, 1) := by decide +kernel
theorem dX7_fits_1 : decode cX7_fits 1 = .ok (.iconst 0, 1) := by decide +kernel
theorem dX7_fits_2 : decode cX7_fits 2 = .ok (.iconst 1, 1) := by decide +kernel
theorem dX7_fits_3 : decode cX7_fits 3 = .ok (.invokestatic 54, 3) := by decide +kernel
theorem dX7_fits_6 : decode cX7_fits 6 = .ok (.ifCond .eq 11, 3) := by decide +kernel
theorem dX7_fits_9 : decode cX7_fits 9 = .ok (.aload_n 0, 1) := by decide +kernel
theorem dX7_fits_10 : decode cX7_fits 10 = .ok (.iload_n 1, 1) := by decide +kernel
theorem dX7_fits_11 : decode cX7_fits 11 = .ok (.invokevirtual 218, 3) := by decide +kernel
theorem dX7_fits_14 : decode cX7_fits 14 = .ok (.goto 4, 3) := by decide +kernel
theorem dX7_fits_17 : decode cX7_fits 17 = .ok (.iconst 1, 1) := by decide +kernel
theorem dX7_fits_18 : decode cX7_fits 18 = .ok (.istore_n 3, 1) := by decide +kernel
theorem dX7_fits_19 : decode cX7_fits 19 = .ok (.iload_n 3, 1) := by decide +kernel
theorem dX7_fits_20 : decode cX7_fits 20 = .ok (.ifCond .eq 9, 3) := by decide +kernel
theorem dX7_fits_23 : decode cX7_fits 23 = .ok (.aload_n 0, 1) := by decide +kernel
theorem dX7_fits_24 : decode cX7_fits 24 = .ok (.iload_n 3, 1) := by decide +kernel
theorem dX7_fits_25 : decode cX7_fits 25 = .ok (.invokevirtual 58, 3) := by decide +kernel
theorem dX7_fits_28 : decode cX7_fits 28 = .ok (.ireturn, 1) := by decide +kernel
theorem dX7_fits_29 : decode cX7_fits 29 = .ok (.iconst 0, 1) := by decide +kernel
theorem dX7_fits_30 : decode cX7_fits 30 = .ok (.istore 4, 2) := by decide +kernel
theorem dX7_fits_32 : decode cX7_fits 32 = .ok (.iconst (-1), 1) := by decide +kernel
theorem dX7_fits_33 : decode cX7_fits 33 = .ok (.istore 5, 2) := by decide +kernel
theorem dX7_fits_35 : decode cX7_fits 35 = .ok (.bipush 99, 2) := by decide +kernel
theorem dX7_fits_37 : decode cX7_fits 37 = .ok (.istore 6, 2) := by decide +kernel
theorem dX7_fits_39 : decode cX7_fits 39 = .ok (.iload 6, 2) := by decide +kernel
theorem dX7_fits_41 : decode cX7_fits 41 = .ok (.ifCond .lt 47, 3) := by decide +kernel
theorem dX7_fits_44 : decode cX7_fits 44 = .ok (.aload_n 0, 1) := by decide +kernel
theorem dX7_fits_45 : decode cX7_fits 45 = .ok (.iload_n 1, 1) := by decide +kernel
theorem dX7_fits_46 : decode cX7_fits 46 = .ok (.iload 6, 2) := by decide +kernel
theorem dX7_fits_48 : decode cX7_fits 48 = .ok (.invokevirtual 221, 3) := by decide +kernel
theorem dX7_fits_51 : decode cX7_fits 51 = .ok (.istore 7, 2) := by decide +kernel
theorem dX7_fits_53 : decode cX7_fits 53 = .ok (.iload 4, 2) := by decide +kernel
theorem dX7_fits_55 : decode cX7_fits 55 = .ok (.iload 7, 2) := by decide +kernel
theorem dX7_fits_57 : decode cX7_fits 57 = .ok (.ifCond .eq 7, 3) := by decide +kernel
theorem dX7_fits_60 : decode cX7_fits 60 = .ok (.iconst 1, 1) := by decide +kernel
theorem dX7_fits_61 : decode cX7_fits 61 = .ok (.goto 4, 3) := by decide +kernel
theorem dX7_fits_64 : decode cX7_fits 64 = .ok (.iconst 0, 1) := by decide +kernel
theorem dX7_fits_65 : decode cX7_fits 65 = .ok (.iadd, 1) := by decide +kernel
theorem dX7_fits_66 : decode cX7_fits 66 = .ok (.istore 4, 2) := by decide +kernel
theorem dX7_fits_68 : decode cX7_fits 68 = .ok (.iload 7, 2) := by decide +kernel
theorem dX7_fits_70 : decode cX7_fits 70 = .ok (.ifCond .eq 8, 3) := by decide +kernel
theorem dX7_fits_73 : decode cX7_fits 73 = .ok (.iload 6, 2) := by decide +kernel
theorem dX7_fits_75 : decode cX7_fits 75 = .ok (.goto 5, 3) := by decide +kernel
theorem dX7_fits_78 : decode cX7_fits 78 = .ok (.iload 5, 2) := by decide +kernel
theorem dX7_fits_80 : decode cX7_fits 80 = .ok (.istore 5, 2) := by decide +kernel
theorem dX7_fits_82 : decode cX7_fits 82 = .ok (.iinc 6 (-1), 3) := by decide +kernel
theorem dX7_fits_85 : decode cX7_fits 85 = .ok (.goto (-46), 3) := by decide +kernel
theorem dX7_fits_88 : decode cX7_fits 88 = .ok (.iload_n 2, 1) := by decide +kernel
theorem dX7_fits_89 : decode cX7_fits 89 = .ok (.ifCond .ne 8, 3) := by decide +kernel
theorem dX7_fits_92 : decode cX7_fits 92 = .ok (.iload 4, 2) := by decide +kernel
theorem dX7_fits_94 : decode cX7_fits 94 = .ok (.goto 19, 3) := by decide +kernel
theorem dX7_fits_97 : decode cX7_fits 97 = .ok (.iload 5, 2) := by decide +kernel
theorem dX7_fits_99 : decode cX7_fits 99 = .ok (.iconst (-1), 1) := by decide +kernel
theorem dX7_fits_100 : decode cX7_fits 100 = .ok (.if_icmp .ne 11, 3) := by decide +kernel
theorem dX7_fits_103 : decode cX7_fits 103 = .ok (.aload_n 0, 1) := by decide +kernel
theorem dX7_fits_104 : decode cX7_fits 104 = .ok (.iconst 2, 1) := by decide +kernel
theorem dX7_fits_105 : decode cX7_fits 105 = .ok (.invokevirtual 58, 3) := by decide +kernel
theorem dX7_fits_108 : decode cX7_fits 108 = .ok (.goto 5, 3) := by decide +kernel
theorem dX7_fits_111 : decode cX7_fits 111 = .ok (.iload 5, 2) := by decide +kernel
theorem dX7_fits_113 : decode cX7_fits 113 = .ok (.ireturn, 1) := by decide +kernel
theorem dX7_starts_0 : decode cX7_starts 0 = .ok (.aload_n 0, 1) := by decide +kernel
theorem dX7_starts_1 : decode cX7_starts 1 = .ok (.getfield 224, 3) := by decide +kernel
theorem dX7_starts_4 : decode cX7_starts 4 = .ok (.bipush 30, 2) := by decide +kernel
theorem dX7_starts_6 : decode cX7_starts 6 = .ok (.if_icmp .ge 23, 3) := by decide +kernel
theorem dX7_starts_9 : decode cX7_starts 9 = .ok (.aload_n 0, 1) := by decide +kernel
theorem dX7_starts_10 : decode cX7_starts 10 = .ok (.getfield 38, 3) := by decide +kernel
theorem dX7_starts_13 : decode cX7_starts 13 = .ok (.aload_n 0, 1) := by decide +kernel
theorem dX7_starts_14 : decode cX7_starts 14 = .ok (.getfield 224, 3) := by decide +kernel
theorem dX7_starts_17 : decode cX7_starts 17 = .ok (.iload_n 1, 1) := by decide +kernel
theorem dX7_starts_18 : decode cX7_starts 18 = .ok (.iastore, 1) := by decide +kernel
theorem dX7_starts_19 : decode cX7_starts 19 = .ok (.aload_n 0, 1) := by decide +kernel
theorem dX7_starts_20 : decode cX7_starts 20 = .ok (.dup, 1) := by decide +kernel
theorem dX7_starts_21 : decode cX7_starts 21 = .ok (.getfield 224, 3) := by decide +kernel
theorem dX7_starts_24 : decode cX7_starts 24 = .ok (.iconst 1, 1) := by decide +kernel
theorem dX7_starts_25 : decode cX7_starts 25 = .ok (.iadd, 1) := by decide +kernel
theorem dX7_starts_26 : decode cX7_starts 26 = .ok (.putfield 224, 3) := by decide +kernel
theorem dX7_starts_29 : decode cX7_starts 29 = .ok (.return_, 1) := by decide +kernel
theorem dX7_above_0 : decode cX7_above 0 = .ok (.iload_n 0, 1) := by decide +kernel
theorem dX7_above_1 : decode cX7_above 1 = .ok (.iconst 4, 1) := by decide +kernel
theorem dX7_above_2 : decode cX7_above 2 = .ok (.if_icmp .ne 7, 3) := by decide +kernel
theorem dX7_above_5 : decode cX7_above 5 = .ok (.iconst 1, 1) := by decide +kernel
theorem dX7_above_6 : decode cX7_above 6 = .ok (.goto 13, 3) := by decide +kernel
theorem dX7_above_9 : decode cX7_above 9 = .ok (.iload_n 0, 1) := by decide +kernel
theorem dX7_above_10 : decode cX7_above 10 = .ok (.iconst 5, 1) := by decide +kernel
theorem dX7_above_11 : decode cX7_above 11 = .ok (.if_icmp .ne 7, 3) := by decide +kernel
theorem dX7_above_14 : decode cX7_above 14 = .ok (.iconst 2, 1) := by decide +kernel
theorem dX7_above_15 : decode cX7_above 15 = .ok (.goto 4, 3) := by decide +kernel
theorem dX7_above_18 : decode cX7_above 18 = .ok (.iconst 0, 1) := by decide +kernel
theorem dX7_above_19 : decode cX7_above 19 = .ok (.ireturn, 1) := by decide +kernel
theorem dX7_kindNow_0 : decode cX7_kindNow 0 = .ok (.aload_n 0, 1) := by decide +kernel
theorem dX7_kindNow_1 : decode cX7_kindNow 1 = .ok (.aload_n 0, 1) := by decide +kernel
theorem dX7_kindNow_2 : decode cX7_kindNow 2 = .ok (.getfield 227, 3) := by decide +kernel
theorem dX7_kindNow_5 : decode cX7_kindNow 5 = .ok (.iconst 0, 1) := by decide +kernel
theorem dX7_kindNow_6 : decode cX7_kindNow 6 = .ok (.invokevirtual 118, 3) := by decide +kernel
theorem dX7_kindNow_9 : decode cX7_kindNow 9 = .ok (.ireturn, 1) := by decide +kernel
theorem dX7_mNow_0 : decode cX7_mNow 0 = .ok (.aload_n 0, 1) := by decide +kernel
theorem dX7_mNow_1 : decode cX7_mNow 1 = .ok (.aload_n 0, 1) := by decide +kernel
theorem dX7_mNow_2 : decode cX7_mNow 2 = .ok (.getfield 227, 3) := by decide +kernel
theorem dX7_mNow_5 : decode cX7_mNow 5 = .ok (.iconst 1, 1) := by decide +kernel
theorem dX7_mNow_6 : decode cX7_mNow 6 = .ok (.invokevirtual 118, 3) := by decide +kernel
theorem dX7_mNow_9 : decode cX7_mNow 9 = .ok (.ireturn, 1) := by decide +kernel
theorem dX7_sighsAs_0 : decode cX7_sighsAs 0 = .ok (.iload_n 1, 1) := by decide +kernel
theorem dX7_sighsAs_1 : decode cX7_sighsAs 1 = .ok (.tableswitch 101 0 6 #[43, 56, 101, 101, 74, 101, 92], 43) := by decide +kernel
theorem dX7_sighsAs_44 : decode cX7_sighsAs 44 = .ok (.aload_n 0, 1) := by decide +kernel
theorem dX7_sighsAs_45 : decode cX7_sighsAs 45 = .ok (.bipush 10, 2) := by decide +kernel
theorem dX7_sighsAs_47 : decode cX7_sighsAs 47 = .ok (.invokevirtual 230, 3) := by decide +kernel
theorem dX7_sighsAs_50 : decode cX7_sighsAs 50 = .ok (.iload_n 2, 1) := by decide +kernel
theorem dX7_sighsAs_51 : decode cX7_sighsAs 51 = .ok (.aload_n 0, 1) := by decide +kernel
theorem dX7_sighsAs_52 : decode cX7_sighsAs 52 = .ok (.getfield 227, 3) := by decide +kernel
theorem dX7_sighsAs_55 : decode cX7_sighsAs 55 = .ok (.iadd, 1) := by decide +kernel
theorem dX7_sighsAs_56 : decode cX7_sighsAs 56 = .ok (.ireturn, 1) := by decide +kernel
theorem dX7_sighsAs_57 : decode cX7_sighsAs 57 = .ok (.aload_n 0, 1) := by decide +kernel
theorem dX7_sighsAs_58 : decode cX7_sighsAs 58 = .ok (.bipush 20, 2) := by decide +kernel
theorem dX7_sighsAs_60 : decode cX7_sighsAs 60 = .ok (.invokevirtual 230, 3) := by decide +kernel
theorem dX7_sighsAs_63 : decode cX7_sighsAs 63 = .ok (.aload_n 0, 1) := by decide +kernel
theorem dX7_sighsAs_64 : decode cX7_sighsAs 64 = .ok (.iconst 1, 1) := by decide +kernel
theorem dX7_sighsAs_65 : decode cX7_sighsAs 65 = .ok (.invokestatic 181, 3) := by decide +kernel
theorem dX7_sighsAs_68 : decode cX7_sighsAs 68 = .ok (.iload_n 2, 1) := by decide +kernel
theorem dX7_sighsAs_69 : decode cX7_sighsAs 69 = .ok (.invokevirtual 234, 3) := by decide +kernel
theorem dX7_sighsAs_72 : decode cX7_sighsAs 72 = .ok (.iconst 4, 1) := by decide +kernel
theorem dX7_sighsAs_73 : decode cX7_sighsAs 73 = .ok (.isub, 1) := by decide +kernel
theorem dX7_sighsAs_74 : decode cX7_sighsAs 74 = .ok (.ireturn, 1) := by decide +kernel
theorem dX7_sighsAs_75 : decode cX7_sighsAs 75 = .ok (.aload_n 0, 1) := by decide +kernel
theorem dX7_sighsAs_76 : decode cX7_sighsAs 76 = .ok (.bipush 50, 2) := by decide +kernel
theorem dX7_sighsAs_78 : decode cX7_sighsAs 78 = .ok (.invokevirtual 230, 3) := by decide +kernel
theorem dX7_sighsAs_81 : decode cX7_sighsAs 81 = .ok (.aload_n 0, 1) := by decide +kernel
theorem dX7_sighsAs_82 : decode cX7_sighsAs 82 = .ok (.iconst 4, 1) := by decide +kernel
theorem dX7_sighsAs_83 : decode cX7_sighsAs 83 = .ok (.invokestatic 181, 3) := by decide +kernel
theorem dX7_sighsAs_86 : decode cX7_sighsAs 86 = .ok (.iload_n 2, 1) := by decide +kernel
theorem dX7_sighsAs_87 : decode cX7_sighsAs 87 = .ok (.invokevirtual 234, 3) := by decide +kernel
theorem dX7_sighsAs_90 : decode cX7_sighsAs 90 = .ok (.iconst 3, 1) := by decide +kernel
theorem dX7_sighsAs_91 : decode cX7_sighsAs 91 = .ok (.imul, 1) := by decide +kernel
theorem dX7_sighsAs_92 : decode cX7_sighsAs 92 = .ok (.ireturn, 1) := by decide +kernel
theorem dX7_sighsAs_93 : decode cX7_sighsAs 93 = .ok (.aload_n 0, 1) := by decide +kernel
theorem dX7_sighsAs_94 : decode cX7_sighsAs 94 = .ok (.bipush 70, 2) := by decide +kernel
theorem dX7_sighsAs_96 : decode cX7_sighsAs 96 = .ok (.invokevirtual 230, 3) := by decide +kernel
theorem dX7_sighsAs_99 : decode cX7_sighsAs 99 = .ok (.bipush 9, 2) := by decide +kernel
theorem dX7_sighsAs_101 : decode cX7_sighsAs 101 = .ok (.ireturn, 1) := by decide +kernel
theorem dX7_sighsAs_102 : decode cX7_sighsAs 102 = .ok (.aload_n 0, 1) := by decide +kernel
theorem dX7_sighsAs_103 : decode cX7_sighsAs 103 = .ok (.iload_n 1, 1) := by decide +kernel
theorem dX7_sighsAs_104 : decode cX7_sighsAs 104 = .ok (.invokestatic 181, 3) := by decide +kernel
theorem dX7_sighsAs_107 : decode cX7_sighsAs 107 = .ok (.iload_n 2, 1) := by decide +kernel
theorem dX7_sighsAs_108 : decode cX7_sighsAs 108 = .ok (.invokevirtual 234, 3) := by decide +kernel
theorem dX7_sighsAs_111 : decode cX7_sighsAs 111 = .ok (.ireturn, 1) := by decide +kernel
theorem dX7_asksAs_0 : decode cX7_asksAs 0 = .ok (.iload_n 1, 1) := by decide +kernel
theorem dX7_asksAs_1 : decode cX7_asksAs 1 = .ok (.tableswitch 119 0 6 #[43, 119, 61, 119, 119, 79, 97], 43) := by decide +kernel
theorem dX7_asksAs_44 : decode cX7_asksAs 44 = .ok (.aload_n 0, 1) := by decide +kernel
theorem dX7_asksAs_45 : decode cX7_asksAs 45 = .ok (.bipush 11, 2) := by decide +kernel
theorem dX7_asksAs_47 : decode cX7_asksAs 47 = .ok (.invokevirtual 230, 3) := by decide +kernel
theorem dX7_asksAs_50 : decode cX7_asksAs 50 = .ok (.aload_n 0, 1) := by decide +kernel
theorem dX7_asksAs_51 : decode cX7_asksAs 51 = .ok (.aload_n 0, 1) := by decide +kernel
theorem dX7_asksAs_52 : decode cX7_asksAs 52 = .ok (.invokevirtual 237, 3) := by decide +kernel
theorem dX7_asksAs_55 : decode cX7_asksAs 55 = .ok (.iload_n 2, 1) := by decide +kernel
theorem dX7_asksAs_56 : decode cX7_asksAs 56 = .ok (.invokevirtual 234, 3) := by decide +kernel
theorem dX7_asksAs_59 : decode cX7_asksAs 59 = .ok (.iconst 2, 1) := by decide +kernel
theorem dX7_asksAs_60 : decode cX7_asksAs 60 = .ok (.imul, 1) := by decide +kernel
theorem dX7_asksAs_61 : decode cX7_asksAs 61 = .ok (.ireturn, 1) := by decide +kernel
theorem dX7_asksAs_62 : decode cX7_asksAs 62 = .ok (.aload_n 0, 1) := by decide +kernel
theorem dX7_asksAs_63 : decode cX7_asksAs 63 = .ok (.bipush 30, 2) := by decide +kernel
theorem dX7_asksAs_65 : decode cX7_asksAs 65 = .ok (.invokevirtual 230, 3) := by decide +kernel
theorem dX7_asksAs_68 : decode cX7_asksAs 68 = .ok (.iconst 0, 1) := by decide +kernel
theorem dX7_asksAs_69 : decode cX7_asksAs 69 = .ok (.aload_n 0, 1) := by decide +kernel
theorem dX7_asksAs_70 : decode cX7_asksAs 70 = .ok (.iconst 2, 1) := by decide +kernel
theorem dX7_asksAs_71 : decode cX7_asksAs 71 = .ok (.invokestatic 181, 3) := by decide +kernel
theorem dX7_asksAs_74 : decode cX7_asksAs 74 = .ok (.iload_n 2, 1) := by decide +kernel
theorem dX7_asksAs_75 : decode cX7_asksAs 75 = .ok (.invokevirtual 240, 3) := by decide +kernel
theorem dX7_asksAs_78 : decode cX7_asksAs 78 = .ok (.isub, 1) := by decide +kernel
theorem dX7_asksAs_79 : decode cX7_asksAs 79 = .ok (.ireturn, 1) := by decide +kernel
theorem dX7_asksAs_80 : decode cX7_asksAs 80 = .ok (.aload_n 0, 1) := by decide +kernel
theorem dX7_asksAs_81 : decode cX7_asksAs 81 = .ok (.bipush 60, 2) := by decide +kernel
theorem dX7_asksAs_83 : decode cX7_asksAs 83 = .ok (.invokevirtual 230, 3) := by decide +kernel
theorem dX7_asksAs_86 : decode cX7_asksAs 86 = .ok (.aload_n 0, 1) := by decide +kernel
theorem dX7_asksAs_87 : decode cX7_asksAs 87 = .ok (.iconst 5, 1) := by decide +kernel
theorem dX7_asksAs_88 : decode cX7_asksAs 88 = .ok (.invokestatic 181, 3) := by decide +kernel
theorem dX7_asksAs_91 : decode cX7_asksAs 91 = .ok (.iload_n 2, 1) := by decide +kernel
theorem dX7_asksAs_92 : decode cX7_asksAs 92 = .ok (.iconst 1, 1) := by decide +kernel
theorem dX7_asksAs_93 : decode cX7_asksAs 93 = .ok (.iadd, 1) := by decide +kernel
theorem dX7_asksAs_94 : decode cX7_asksAs 94 = .ok (.invokevirtual 240, 3) := by decide +kernel
theorem dX7_asksAs_97 : decode cX7_asksAs 97 = .ok (.ireturn, 1) := by decide +kernel
theorem dX7_asksAs_98 : decode cX7_asksAs 98 = .ok (.aload_n 0, 1) := by decide +kernel
theorem dX7_asksAs_99 : decode cX7_asksAs 99 = .ok (.bipush 71, 2) := by decide +kernel
theorem dX7_asksAs_101 : decode cX7_asksAs 101 = .ok (.invokevirtual 230, 3) := by decide +kernel
theorem dX7_asksAs_104 : decode cX7_asksAs 104 = .ok (.aload_n 0, 1) := by decide +kernel
theorem dX7_asksAs_105 : decode cX7_asksAs 105 = .ok (.bipush 6, 2) := by decide +kernel
theorem dX7_asksAs_107 : decode cX7_asksAs 107 = .ok (.invokestatic 181, 3) := by decide +kernel
theorem dX7_asksAs_110 : decode cX7_asksAs 110 = .ok (.iload_n 2, 1) := by decide +kernel
theorem dX7_asksAs_111 : decode cX7_asksAs 111 = .ok (.invokevirtual 240, 3) := by decide +kernel
theorem dX7_asksAs_114 : decode cX7_asksAs 114 = .ok (.aload_n 0, 1) := by decide +kernel
theorem dX7_asksAs_115 : decode cX7_asksAs 115 = .ok (.invokevirtual 243, 3) := by decide +kernel
theorem dX7_asksAs_118 : decode cX7_asksAs 118 = .ok (.iadd, 1) := by decide +kernel
theorem dX7_asksAs_119 : decode cX7_asksAs 119 = .ok (.ireturn, 1) := by decide +kernel
theorem dX7_asksAs_120 : decode cX7_asksAs 120 = .ok (.aload_n 0, 1) := by decide +kernel
theorem dX7_asksAs_121 : decode cX7_asksAs 121 = .ok (.iload_n 1, 1) := by decide +kernel
theorem dX7_asksAs_122 : decode cX7_asksAs 122 = .ok (.invokestatic 181, 3) := by decide +kernel
theorem dX7_asksAs_125 : decode cX7_asksAs 125 = .ok (.iload_n 2, 1) := by decide +kernel
theorem dX7_asksAs_126 : decode cX7_asksAs 126 = .ok (.invokevirtual 240, 3) := by decide +kernel
theorem dX7_asksAs_129 : decode cX7_asksAs 129 = .ok (.ireturn, 1) := by decide +kernel
theorem dX7_scrapesAs_0 : decode cX7_scrapesAs 0 = .ok (.iload_n 1, 1) := by decide +kernel
theorem dX7_scrapesAs_1 : decode cX7_scrapesAs 1 = .ok (.tableswitch 95 0 4 #[35, 95, 95, 56, 74], 35) := by decide +kernel
theorem dX7_scrapesAs_36 : decode cX7_scrapesAs 36 = .ok (.aload_n 0, 1) := by decide +kernel
theorem dX7_scrapesAs_37 : decode cX7_scrapesAs 37 = .ok (.bipush 12, 2) := by decide +kernel
theorem dX7_scrapesAs_39 : decode cX7_scrapesAs 39 = .ok (.invokevirtual 230, 3) := by decide +kernel
theorem dX7_scrapesAs_42 : decode cX7_scrapesAs 42 = .ok (.aload_n 0, 1) := by decide +kernel
theorem dX7_scrapesAs_43 : decode cX7_scrapesAs 43 = .ok (.aload_n 0, 1) := by decide +kernel
theorem dX7_scrapesAs_44 : decode cX7_scrapesAs 44 = .ok (.invokevirtual 237, 3) := by decide +kernel
theorem dX7_scrapesAs_47 : decode cX7_scrapesAs 47 = .ok (.iload_n 2, 1) := by decide +kernel
theorem dX7_scrapesAs_48 : decode cX7_scrapesAs 48 = .ok (.invokevirtual 240, 3) := by decide +kernel
theorem dX7_scrapesAs_51 : decode cX7_scrapesAs 51 = .ok (.aload_n 0, 1) := by decide +kernel
theorem dX7_scrapesAs_52 : decode cX7_scrapesAs 52 = .ok (.invokevirtual 243, 3) := by decide +kernel
theorem dX7_scrapesAs_55 : decode cX7_scrapesAs 55 = .ok (.isub, 1) := by decide +kernel
theorem dX7_scrapesAs_56 : decode cX7_scrapesAs 56 = .ok (.ireturn, 1) := by decide +kernel
theorem dX7_scrapesAs_57 : decode cX7_scrapesAs 57 = .ok (.aload_n 0, 1) := by decide +kernel
theorem dX7_scrapesAs_58 : decode cX7_scrapesAs 58 = .ok (.bipush 40, 2) := by decide +kernel
theorem dX7_scrapesAs_60 : decode cX7_scrapesAs 60 = .ok (.invokevirtual 230, 3) := by decide +kernel
theorem dX7_scrapesAs_63 : decode cX7_scrapesAs 63 = .ok (.aload_n 0, 1) := by decide +kernel
theorem dX7_scrapesAs_64 : decode cX7_scrapesAs 64 = .ok (.iconst 3, 1) := by decide +kernel
theorem dX7_scrapesAs_65 : decode cX7_scrapesAs 65 = .ok (.invokestatic 181, 3) := by decide +kernel
theorem dX7_scrapesAs_68 : decode cX7_scrapesAs 68 = .ok (.iload_n 2, 1) := by decide +kernel
theorem dX7_scrapesAs_69 : decode cX7_scrapesAs 69 = .ok (.iconst 2, 1) := by decide +kernel
theorem dX7_scrapesAs_70 : decode cX7_scrapesAs 70 = .ok (.idiv, 1) := by decide +kernel
theorem dX7_scrapesAs_71 : decode cX7_scrapesAs 71 = .ok (.invokevirtual 246, 3) := by decide +kernel
theorem dX7_scrapesAs_74 : decode cX7_scrapesAs 74 = .ok (.ireturn, 1) := by decide +kernel
theorem dX7_scrapesAs_75 : decode cX7_scrapesAs 75 = .ok (.aload_n 0, 1) := by decide +kernel
theorem dX7_scrapesAs_76 : decode cX7_scrapesAs 76 = .ok (.bipush 51, 2) := by decide +kernel
theorem dX7_scrapesAs_78 : decode cX7_scrapesAs 78 = .ok (.invokevirtual 230, 3) := by decide +kernel
theorem dX7_scrapesAs_81 : decode cX7_scrapesAs 81 = .ok (.aload_n 0, 1) := by decide +kernel
theorem dX7_scrapesAs_82 : decode cX7_scrapesAs 82 = .ok (.iconst 4, 1) := by decide +kernel
theorem dX7_scrapesAs_83 : decode cX7_scrapesAs 83 = .ok (.invokestatic 181, 3) := by decide +kernel
theorem dX7_scrapesAs_86 : decode cX7_scrapesAs 86 = .ok (.iload_n 2, 1) := by decide +kernel
theorem dX7_scrapesAs_87 : decode cX7_scrapesAs 87 = .ok (.invokevirtual 246, 3) := by decide +kernel
theorem dX7_scrapesAs_90 : decode cX7_scrapesAs 90 = .ok (.aload_n 0, 1) := by decide +kernel
theorem dX7_scrapesAs_91 : decode cX7_scrapesAs 91 = .ok (.getfield 227, 3) := by decide +kernel
theorem dX7_scrapesAs_94 : decode cX7_scrapesAs 94 = .ok (.ixor, 1) := by decide +kernel
theorem dX7_scrapesAs_95 : decode cX7_scrapesAs 95 = .ok (.ireturn, 1) := by decide +kernel
theorem dX7_scrapesAs_96 : decode cX7_scrapesAs 96 = .ok (.aload_n 0, 1) := by decide +kernel
theorem dX7_scrapesAs_97 : decode cX7_scrapesAs 97 = .ok (.iload_n 1, 1) := by decide +kernel
theorem dX7_scrapesAs_98 : decode cX7_scrapesAs 98 = .ok (.invokestatic 181, 3) := by decide +kernel
theorem dX7_scrapesAs_101 : decode cX7_scrapesAs 101 = .ok (.iload_n 2, 1) := by decide +kernel
theorem dX7_scrapesAs_102 : decode cX7_scrapesAs 102 = .ok (.invokevirtual 246, 3) := by decide +kernel
theorem dX7_scrapesAs_105 : decode cX7_scrapesAs 105 = .ok (.ireturn, 1) := by decide +kernel
theorem dX7_partsAs_0 : decode cX7_partsAs 0 = .ok (.iload_n 1, 1) := by decide +kernel
theorem dX7_partsAs_1 : decode cX7_partsAs 1 = .ok (.lookupswitch 119 #[(0, 27), (1, 78)], 27) := by decide +kernel
theorem dX7_partsAs_28 : decode cX7_partsAs 28 = .ok (.aload_n 0, 1) := by decide +kernel
theorem dX7_partsAs_29 : decode cX7_partsAs 29 = .ok (.bipush 13, 2) := by decide +kernel
theorem dX7_partsAs_31 : decode cX7_partsAs 31 = .ok (.invokevirtual 230, 3) := by decide +kernel
theorem dX7_partsAs_34 : decode cX7_partsAs 34 = .ok (.aload_n 0, 1) := by decide +kernel
theorem dX7_partsAs_35 : decode cX7_partsAs 35 = .ok (.invokevirtual 243, 3) := by decide +kernel
theorem dX7_partsAs_38 : decode cX7_partsAs 38 = .ok (.aload_n 0, 1) := by decide +kernel
theorem dX7_partsAs_39 : decode cX7_partsAs 39 = .ok (.getfield 227, 3) := by decide +kernel
theorem dX7_partsAs_42 : decode cX7_partsAs 42 = .ok (.isub, 1) := by decide +kernel
theorem dX7_partsAs_43 : decode cX7_partsAs 43 = .ok (.istore_n 3, 1) := by decide +kernel
theorem dX7_partsAs_44 : decode cX7_partsAs 44 = .ok (.aload_n 0, 1) := by decide +kernel
theorem dX7_partsAs_45 : decode cX7_partsAs 45 = .ok (.iload_n 3, 1) := by decide +kernel
theorem dX7_partsAs_46 : decode cX7_partsAs 46 = .ok (.ifCond .ne 7, 3) := by decide +kernel
theorem dX7_partsAs_49 : decode cX7_partsAs 49 = .ok (.iconst 1, 1) := by decide +kernel
theorem dX7_partsAs_50 : decode cX7_partsAs 50 = .ok (.goto 4, 3) := by decide +kernel
theorem dX7_partsAs_53 : decode cX7_partsAs 53 = .ok (.iconst 0, 1) := by decide +kernel
theorem dX7_partsAs_54 : decode cX7_partsAs 54 = .ok (.putfield 249, 3) := by decide +kernel
theorem dX7_partsAs_57 : decode cX7_partsAs 57 = .ok (.iload_n 3, 1) := by decide +kernel
theorem dX7_partsAs_58 : decode cX7_partsAs 58 = .ok (.ifCond .ne 7, 3) := by decide +kernel
theorem dX7_partsAs_61 : decode cX7_partsAs 61 = .ok (.iconst 0, 1) := by decide +kernel
theorem dX7_partsAs_62 : decode cX7_partsAs 62 = .ok (.goto 16, 3) := by decide +kernel
theorem dX7_partsAs_65 : decode cX7_partsAs 65 = .ok (.iload_n 3, 1) := by decide +kernel
theorem dX7_partsAs_66 : decode cX7_partsAs 66 = .ok (.iconst (-1), 1) := by decide +kernel
theorem dX7_partsAs_67 : decode cX7_partsAs 67 = .ok (.if_icmp .ne 8, 3) := by decide +kernel
theorem dX7_partsAs_70 : decode cX7_partsAs 70 = .ok (.iload_n 2, 1) := by decide +kernel
theorem dX7_partsAs_71 : decode cX7_partsAs 71 = .ok (.ineg, 1) := by decide +kernel
theorem dX7_partsAs_72 : decode cX7_partsAs 72 = .ok (.goto 6, 3) := by decide +kernel
theorem dX7_partsAs_75 : decode cX7_partsAs 75 = .ok (.iload_n 2, 1) := by decide +kernel
theorem dX7_partsAs_76 : decode cX7_partsAs 76 = .ok (.iload_n 3, 1) := by decide +kernel
theorem dX7_partsAs_77 : decode cX7_partsAs 77 = .ok (.idiv, 1) := by decide +kernel
theorem dX7_partsAs_78 : decode cX7_partsAs 78 = .ok (.ireturn, 1) := by decide +kernel
theorem dX7_partsAs_79 : decode cX7_partsAs 79 = .ok (.aload_n 0, 1) := by decide +kernel
theorem dX7_partsAs_80 : decode cX7_partsAs 80 = .ok (.bipush 21, 2) := by decide +kernel
theorem dX7_partsAs_82 : decode cX7_partsAs 82 = .ok (.invokevirtual 230, 3) := by decide +kernel
theorem dX7_partsAs_85 : decode cX7_partsAs 85 = .ok (.aload_n 0, 1) := by decide +kernel
theorem dX7_partsAs_86 : decode cX7_partsAs 86 = .ok (.iconst 1, 1) := by decide +kernel
theorem dX7_partsAs_87 : decode cX7_partsAs 87 = .ok (.invokestatic 181, 3) := by decide +kernel
theorem dX7_partsAs_90 : decode cX7_partsAs 90 = .ok (.iload_n 2, 1) := by decide +kernel
theorem dX7_partsAs_91 : decode cX7_partsAs 91 = .ok (.invokevirtual 253, 3) := by decide +kernel
theorem dX7_partsAs_94 : decode cX7_partsAs 94 = .ok (.istore 4, 2) := by decide +kernel
theorem dX7_partsAs_96 : decode cX7_partsAs 96 = .ok (.aload_n 0, 1) := by decide +kernel
theorem dX7_partsAs_97 : decode cX7_partsAs 97 = .ok (.getfield 249, 3) := by decide +kernel
theorem dX7_partsAs_100 : decode cX7_partsAs 100 = .ok (.ifCond .eq 7, 3) := by decide +kernel
theorem dX7_partsAs_103 : decode cX7_partsAs 103 = .ok (.iconst 0, 1) := by decide +kernel
theorem dX7_partsAs_104 : decode cX7_partsAs 104 = .ok (.goto 15, 3) := by decide +kernel
theorem dX7_partsAs_107 : decode cX7_partsAs 107 = .ok (.iload 4, 2) := by decide +kernel
theorem dX7_partsAs_109 : decode cX7_partsAs 109 = .ok (.aload_n 0, 1) := by decide +kernel
theorem dX7_partsAs_110 : decode cX7_partsAs 110 = .ok (.aload_n 0, 1) := by decide +kernel
theorem dX7_partsAs_111 : decode cX7_partsAs 111 = .ok (.invokevirtual 237, 3) := by decide +kernel
theorem dX7_partsAs_114 : decode cX7_partsAs 114 = .ok (.iconst 1, 1) := by decide +kernel
theorem dX7_partsAs_115 : decode cX7_partsAs 115 = .ok (.invokevirtual 240, 3) := by decide +kernel
theorem dX7_partsAs_118 : decode cX7_partsAs 118 = .ok (.iadd, 1) := by decide +kernel
theorem dX7_partsAs_119 : decode cX7_partsAs 119 = .ok (.ireturn, 1) := by decide +kernel
theorem dX7_partsAs_120 : decode cX7_partsAs 120 = .ok (.aload_n 0, 1) := by decide +kernel
theorem dX7_partsAs_121 : decode cX7_partsAs 121 = .ok (.iload_n 1, 1) := by decide +kernel
theorem dX7_partsAs_122 : decode cX7_partsAs 122 = .ok (.invokestatic 181, 3) := by decide +kernel
theorem dX7_partsAs_125 : decode cX7_partsAs 125 = .ok (.iload_n 2, 1) := by decide +kernel
theorem dX7_partsAs_126 : decode cX7_partsAs 126 = .ok (.invokevirtual 253, 3) := by decide +kernel
theorem dX7_partsAs_129 : decode cX7_partsAs 129 = .ok (.ireturn, 1) := by decide +kernel
theorem dX7_voice_0 : decode cX7_voice 0 = .ok (.aload_n 0, 1) := by decide +kernel
theorem dX7_voice_1 : decode cX7_voice 1 = .ok (.iload_n 1, 1) := by decide +kernel
theorem dX7_voice_2 : decode cX7_voice 2 = .ok (.invokevirtual 175, 3) := by decide +kernel
theorem dX7_voice_5 : decode cX7_voice 5 = .ok (.ifCond .eq 12, 3) := by decide +kernel
theorem dX7_voice_8 : decode cX7_voice 8 = .ok (.iload_n 2, 1) := by decide +kernel
theorem dX7_voice_9 : decode cX7_voice 9 = .ok (.iconst 0, 1) := by decide +kernel
theorem dX7_voice_10 : decode cX7_voice 10 = .ok (.iconst 3, 1) := by decide +kernel
theorem dX7_voice_11 : decode cX7_voice 11 = .ok (.invokestatic 54, 3) := by decide +kernel
theorem dX7_voice_14 : decode cX7_voice 14 = .ok (.ifCond .ne 9, 3) := by decide +kernel
theorem dX7_voice_17 : decode cX7_voice 17 = .ok (.aload_n 0, 1) := by decide +kernel
theorem dX7_voice_18 : decode cX7_voice 18 = .ok (.iconst 1, 1) := by decide +kernel
theorem dX7_voice_19 : decode cX7_voice 19 = .ok (.invokevirtual 58, 3) := by decide +kernel
theorem dX7_voice_22 : decode cX7_voice 22 = .ok (.ireturn, 1) := by decide +kernel
theorem dX7_voice_23 : decode cX7_voice 23 = .ok (.aload_n 0, 1) := by decide +kernel
theorem dX7_voice_24 : decode cX7_voice 24 = .ok (.iconst 0, 1) := by decide +kernel
theorem dX7_voice_25 : decode cX7_voice 25 = .ok (.putfield 224, 3) := by decide +kernel
theorem dX7_voice_28 : decode cX7_voice 28 = .ok (.aload_n 0, 1) := by decide +kernel
theorem dX7_voice_29 : decode cX7_voice 29 = .ok (.iload_n 1, 1) := by decide +kernel
theorem dX7_voice_30 : decode cX7_voice 30 = .ok (.putfield 227, 3) := by decide +kernel
theorem dX7_voice_33 : decode cX7_voice 33 = .ok (.aload_n 0, 1) := by decide +kernel
theorem dX7_voice_34 : decode cX7_voice 34 = .ok (.iconst 0, 1) := by decide +kernel
theorem dX7_voice_35 : decode cX7_voice 35 = .ok (.putfield 249, 3) := by decide +kernel
theorem dX7_voice_38 : decode cX7_voice 38 = .ok (.aload_n 0, 1) := by decide +kernel
theorem dX7_voice_39 : decode cX7_voice 39 = .ok (.invokevirtual 237, 3) := by decide +kernel
theorem dX7_voice_42 : decode cX7_voice 42 = .ok (.istore 4, 2) := by decide +kernel
theorem dX7_voice_44 : decode cX7_voice 44 = .ok (.iload_n 2, 1) := by decide +kernel
theorem dX7_voice_45 : decode cX7_voice 45 = .ok (.ifCond .ne 13, 3) := by decide +kernel
theorem dX7_voice_48 : decode cX7_voice 48 = .ok (.aload_n 0, 1) := by decide +kernel
theorem dX7_voice_49 : decode cX7_voice 49 = .ok (.iload 4, 2) := by decide +kernel
theorem dX7_voice_51 : decode cX7_voice 51 = .ok (.iload_n 3, 1) := by decide +kernel
theorem dX7_voice_52 : decode cX7_voice 52 = .ok (.invokevirtual 234, 3) := by decide +kernel
theorem dX7_voice_55 : decode cX7_voice 55 = .ok (.goto 40, 3) := by decide +kernel
theorem dX7_voice_58 : decode cX7_voice 58 = .ok (.iload_n 2, 1) := by decide +kernel
theorem dX7_voice_59 : decode cX7_voice 59 = .ok (.iconst 1, 1) := by decide +kernel
theorem dX7_voice_60 : decode cX7_voice 60 = .ok (.if_icmp .ne 13, 3) := by decide +kernel
theorem dX7_voice_63 : decode cX7_voice 63 = .ok (.aload_n 0, 1) := by decide +kernel
theorem dX7_voice_64 : decode cX7_voice 64 = .ok (.iload 4, 2) := by decide +kernel
theorem dX7_voice_66 : decode cX7_voice 66 = .ok (.iload_n 3, 1) := by decide +kernel
theorem dX7_voice_67 : decode cX7_voice 67 = .ok (.invokevirtual 240, 3) := by decide +kernel
theorem dX7_voice_70 : decode cX7_voice 70 = .ok (.goto 25, 3) := by decide +kernel
theorem dX7_voice_73 : decode cX7_voice 73 = .ok (.iload_n 2, 1) := by decide +kernel
theorem dX7_voice_74 : decode cX7_voice 74 = .ok (.iconst 2, 1) := by decide +kernel
theorem dX7_voice_75 : decode cX7_voice 75 = .ok (.if_icmp .ne 13, 3) := by decide +kernel
theorem dX7_voice_78 : decode cX7_voice 78 = .ok (.aload_n 0, 1) := by decide +kernel
theorem dX7_voice_79 : decode cX7_voice 79 = .ok (.iload 4, 2) := by decide +kernel
theorem dX7_voice_81 : decode cX7_voice 81 = .ok (.iload_n 3, 1) := by decide +kernel
theorem dX7_voice_82 : decode cX7_voice 82 = .ok (.invokevirtual 246, 3) := by decide +kernel
theorem dX7_voice_85 : decode cX7_voice 85 = .ok (.goto 10, 3) := by decide +kernel
theorem dX7_voice_88 : decode cX7_voice 88 = .ok (.aload_n 0, 1) := by decide +kernel
theorem dX7_voice_89 : decode cX7_voice 89 = .ok (.iload 4, 2) := by decide +kernel
theorem dX7_voice_91 : decode cX7_voice 91 = .ok (.iload_n 3, 1) := by decide +kernel
theorem dX7_voice_92 : decode cX7_voice 92 = .ok (.invokevirtual 253, 3) := by decide +kernel
theorem dX7_voice_95 : decode cX7_voice 95 = .ok (.istore 5, 2) := by decide +kernel
theorem dX7_voice_97 : decode cX7_voice 97 = .ok (.aload_n 0, 1) := by decide +kernel
theorem dX7_voice_98 : decode cX7_voice 98 = .ok (.getfield 249, 3) := by decide +kernel
theorem dX7_voice_101 : decode cX7_voice 101 = .ok (.ifCond .eq 12, 3) := by decide +kernel
theorem dX7_voice_104 : decode cX7_voice 104 = .ok (.aload_n 0, 1) := by decide +kernel
theorem dX7_voice_105 : decode cX7_voice 105 = .ok (.bipush 6, 2) := by decide +kernel
theorem dX7_voice_107 : decode cX7_voice 107 = .ok (.invokevirtual 58, 3) := by decide +kernel
theorem dX7_voice_110 : decode cX7_voice 110 = .ok (.goto 5, 3) := by decide +kernel
theorem dX7_voice_113 : decode cX7_voice 113 = .ok (.iload 5, 2) := by decide +kernel
theorem dX7_voice_115 : decode cX7_voice 115 = .ok (.ireturn, 1) := by decide +kernel
theorem dX7_body_0 : decode cX7_body 0 = .ok (.iload_n 1, 1) := by decide +kernel
theorem dX7_body_1 : decode cX7_body 1 = .ok (.iconst 0, 1) := by decide +kernel
theorem dX7_body_2 : decode cX7_body 2 = .ok (.aload_n 0, 1) := by decide +kernel
theorem dX7_body_3 : decode cX7_body 3 = .ok (.getfield 224, 3) := by decide +kernel
theorem dX7_body_6 : decode cX7_body 6 = .ok (.iconst 1, 1) := by decide +kernel
theorem dX7_body_7 : decode cX7_body 7 = .ok (.isub, 1) := by decide +kernel
theorem dX7_body_8 : decode cX7_body 8 = .ok (.invokestatic 54, 3) := by decide +kernel
theorem dX7_body_11 : decode cX7_body 11 = .ok (.ifCond .eq 12, 3) := by decide +kernel
theorem dX7_body_14 : decode cX7_body 14 = .ok (.aload_n 0, 1) := by decide +kernel
theorem dX7_body_15 : decode cX7_body 15 = .ok (.getfield 38, 3) := by decide +kernel
theorem dX7_body_18 : decode cX7_body 18 = .ok (.iload_n 1, 1) := by decide +kernel
theorem dX7_body_19 : decode cX7_body 19 = .ok (.iaload, 1) := by decide +kernel
theorem dX7_body_20 : decode cX7_body 20 = .ok (.goto 8, 3) := by decide +kernel
theorem dX7_body_23 : decode cX7_body 23 = .ok (.aload_n 0, 1) := by decide +kernel
theorem dX7_body_24 : decode cX7_body 24 = .ok (.iconst 2, 1) := by decide +kernel
theorem dX7_body_25 : decode cX7_body 25 = .ok (.invokevirtual 58, 3) := by decide +kernel
theorem dX7_body_28 : decode cX7_body 28 = .ok (.ireturn, 1) := by decide +kernel
theorem dX7_isSheet_0 : decode cX7_isSheet 0 = .ok (.iload_n 0, 1) := by decide +kernel
theorem dX7_isSheet_1 : decode cX7_isSheet 1 = .ok (.iconst 0, 1) := by decide +kernel
theorem dX7_isSheet_2 : decode cX7_isSheet 2 = .ok (.iconst 3, 1) := by decide +kernel
theorem dX7_isSheet_3 : decode cX7_isSheet 3 = .ok (.invokestatic 54, 3) := by decide +kernel
theorem dX7_isSheet_6 : decode cX7_isSheet 6 = .ok (.ireturn, 1) := by decide +kernel
theorem dX7_sheet_0 : decode cX7_sheet 0 = .ok (.iload_n 1, 1) := by decide +kernel
theorem dX7_sheet_1 : decode cX7_sheet 1 = .ok (.invokestatic 256, 3) := by decide +kernel
theorem dX7_sheet_4 : decode cX7_sheet 4 = .ok (.ifCond .eq 25, 3) := by decide +kernel
theorem dX7_sheet_7 : decode cX7_sheet 7 = .ok (.iload_n 2, 1) := by decide +kernel
theorem dX7_sheet_8 : decode cX7_sheet 8 = .ok (.ifCond .eq 27, 3) := by decide +kernel
theorem dX7_sheet_11 : decode cX7_sheet 11 = .ok (.iload_n 2, 1) := by decide +kernel
theorem dX7_sheet_12 : decode cX7_sheet 12 = .ok (.bipush 8, 2) := by decide +kernel
theorem dX7_sheet_14 : decode cX7_sheet 14 = .ok (.if_icmp .eq 21, 3) := by decide +kernel
theorem dX7_sheet_17 : decode cX7_sheet 17 = .ok (.iload_n 2, 1) := by decide +kernel
theorem dX7_sheet_18 : decode cX7_sheet 18 = .ok (.bipush 16, 2) := by decide +kernel
theorem dX7_sheet_20 : decode cX7_sheet 20 = .ok (.if_icmp .eq 15, 3) := by decide +kernel
theorem dX7_sheet_23 : decode cX7_sheet 23 = .ok (.iload_n 2, 1) := by decide +kernel
theorem dX7_sheet_24 : decode cX7_sheet 24 = .ok (.bipush 32, 2) := by decide +kernel
theorem dX7_sheet_26 : decode cX7_sheet 26 = .ok (.if_icmp .eq 9, 3) := by decide +kernel
theorem dX7_sheet_29 : decode cX7_sheet 29 = .ok (.aload_n 0, 1) := by decide +kernel
theorem dX7_sheet_30 : decode cX7_sheet 30 = .ok (.iconst 1, 1) := by decide +kernel
theorem dX7_sheet_31 : decode cX7_sheet 31 = .ok (.invokevirtual 58, 3) := by decide +kernel
theorem dX7_sheet_34 : decode cX7_sheet 34 = .ok (.ireturn, 1) := by decide +kernel
theorem dX7_sheet_35 : decode cX7_sheet 35 = .ok (.iload_n 2, 1) := by decide +kernel
theorem dX7_sheet_36 : decode cX7_sheet 36 = .ok (.ifCond .eq 13, 3) := by decide +kernel
theorem dX7_sheet_39 : decode cX7_sheet 39 = .ok (.iload_n 3, 1) := by decide +kernel
theorem dX7_sheet_40 : decode cX7_sheet 40 = .ok (.ifCond .ge 9, 3) := by decide +kernel
theorem dX7_sheet_43 : decode cX7_sheet 43 = .ok (.aload_n 0, 1) := by decide +kernel
theorem dX7_sheet_44 : decode cX7_sheet 44 = .ok (.iconst 3, 1) := by decide +kernel
theorem dX7_sheet_45 : decode cX7_sheet 45 = .ok (.invokevirtual 58, 3) := by decide +kernel
theorem dX7_sheet_48 : decode cX7_sheet 48 = .ok (.ireturn, 1) := by decide +kernel
theorem dX7_sheet_49 : decode cX7_sheet 49 = .ok (.iload_n 2, 1) := by decide +kernel
theorem dX7_sheet_50 : decode cX7_sheet 50 = .ok (.ifCond .eq 15, 3) := by decide +kernel
theorem dX7_sheet_53 : decode cX7_sheet 53 = .ok (.iload_n 3, 1) := by decide +kernel
theorem dX7_sheet_54 : decode cX7_sheet 54 = .ok (.bipush 24, 2) := by decide +kernel
theorem dX7_sheet_56 : decode cX7_sheet 56 = .ok (.if_icmp .le 9, 3) := by decide +kernel
theorem dX7_sheet_59 : decode cX7_sheet 59 = .ok (.aload_n 0, 1) := by decide +kernel
theorem dX7_sheet_60 : decode cX7_sheet 60 = .ok (.iconst 1, 1) := by decide +kernel
theorem dX7_sheet_61 : decode cX7_sheet 61 = .ok (.invokevirtual 58, 3) := by decide +kernel
theorem dX7_sheet_64 : decode cX7_sheet 64 = .ok (.ireturn, 1) := by decide +kernel
theorem dX7_sheet_65 : decode cX7_sheet 65 = .ok (.aload_n 0, 1) := by decide +kernel
theorem dX7_sheet_66 : decode cX7_sheet 66 = .ok (.getfield 41, 3) := by decide +kernel
theorem dX7_sheet_69 : decode cX7_sheet 69 = .ok (.iload_n 1, 1) := by decide +kernel
theorem dX7_sheet_70 : decode cX7_sheet 70 = .ok (.iload_n 2, 1) := by decide +kernel
theorem dX7_sheet_71 : decode cX7_sheet 71 = .ok (.iastore, 1) := by decide +kernel
theorem dX7_sheet_72 : decode cX7_sheet 72 = .ok (.aload_n 0, 1) := by decide +kernel
theorem dX7_sheet_73 : decode cX7_sheet 73 = .ok (.getfield 44, 3) := by decide +kernel
theorem dX7_sheet_76 : decode cX7_sheet 76 = .ok (.iload_n 1, 1) := by decide +kernel
theorem dX7_sheet_77 : decode cX7_sheet 77 = .ok (.iload_n 2, 1) := by decide +kernel
theorem dX7_sheet_78 : decode cX7_sheet 78 = .ok (.ifCond .ne 7, 3) := by decide +kernel
theorem dX7_sheet_81 : decode cX7_sheet 81 = .ok (.iconst 0, 1) := by decide +kernel
theorem dX7_sheet_82 : decode cX7_sheet 82 = .ok (.goto 4, 3) := by decide +kernel
theorem dX7_sheet_85 : decode cX7_sheet 85 = .ok (.iload_n 3, 1) := by decide +kernel
theorem dX7_sheet_86 : decode cX7_sheet 86 = .ok (.iastore, 1) := by decide +kernel
theorem dX7_sheet_87 : decode cX7_sheet 87 = .ok (.iconst 0, 1) := by decide +kernel
theorem dX7_sheet_88 : decode cX7_sheet 88 = .ok (.istore 4, 2) := by decide +kernel
theorem dX7_sheet_90 : decode cX7_sheet 90 = .ok (.iload 4, 2) := by decide +kernel
theorem dX7_sheet_92 : decode cX7_sheet 92 = .ok (.bipush 24, 2) := by decide +kernel
theorem dX7_sheet_94 : decode cX7_sheet 94 = .ok (.if_icmp .ge 22, 3) := by decide +kernel
theorem dX7_sheet_97 : decode cX7_sheet 97 = .ok (.aload_n 0, 1) := by decide +kernel
theorem dX7_sheet_98 : decode cX7_sheet 98 = .ok (.getfield 47, 3) := by decide +kernel
theorem dX7_sheet_101 : decode cX7_sheet 101 = .ok (.bipush 24, 2) := by decide +kernel
theorem dX7_sheet_103 : decode cX7_sheet 103 = .ok (.iload_n 1, 1) := by decide +kernel
theorem dX7_sheet_104 : decode cX7_sheet 104 = .ok (.imul, 1) := by decide +kernel
theorem dX7_sheet_105 : decode cX7_sheet 105 = .ok (.iload 4, 2) := by decide +kernel
theorem dX7_sheet_107 : decode cX7_sheet 107 = .ok (.iadd, 1) := by decide +kernel
theorem dX7_sheet_108 : decode cX7_sheet 108 = .ok (.iconst 0, 1) := by decide +kernel
theorem dX7_sheet_109 : decode cX7_sheet 109 = .ok (.iastore, 1) := by decide +kernel
theorem dX7_sheet_110 : decode cX7_sheet 110 = .ok (.iinc 4 1, 3) := by decide +kernel
theorem dX7_sheet_113 : decode cX7_sheet 113 = .ok (.goto (-23), 3) := by decide +kernel
theorem dX7_sheet_116 : decode cX7_sheet 116 = .ok (.iconst 1, 1) := by decide +kernel
theorem dX7_sheet_117 : decode cX7_sheet 117 = .ok (.ireturn, 1) := by decide +kernel
theorem dX7_put_0 : decode cX7_put 0 = .ok (.iload_n 1, 1) := by decide +kernel
theorem dX7_put_1 : decode cX7_put 1 = .ok (.invokestatic 256, 3) := by decide +kernel
theorem dX7_put_4 : decode cX7_put 4 = .ok (.ifCond .ne 9, 3) := by decide +kernel
theorem dX7_put_7 : decode cX7_put 7 = .ok (.aload_n 0, 1) := by decide +kernel
theorem dX7_put_8 : decode cX7_put 8 = .ok (.iconst 1, 1) := by decide +kernel
theorem dX7_put_9 : decode cX7_put 9 = .ok (.invokevirtual 58, 3) := by decide +kernel
theorem dX7_put_12 : decode cX7_put 12 = .ok (.ireturn, 1) := by decide +kernel
theorem dX7_put_13 : decode cX7_put 13 = .ok (.aload_n 0, 1) := by decide +kernel
theorem dX7_put_14 : decode cX7_put 14 = .ok (.getfield 41, 3) := by decide +kernel
theorem dX7_put_17 : decode cX7_put 17 = .ok (.iload_n 1, 1) := by decide +kernel
theorem dX7_put_18 : decode cX7_put 18 = .ok (.iaload, 1) := by decide +kernel
theorem dX7_put_19 : decode cX7_put 19 = .ok (.ifCond .ne 9, 3) := by decide +kernel
theorem dX7_put_22 : decode cX7_put 22 = .ok (.aload_n 0, 1) := by decide +kernel
theorem dX7_put_23 : decode cX7_put 23 = .ok (.iconst 2, 1) := by decide +kernel
theorem dX7_put_24 : decode cX7_put 24 = .ok (.invokevirtual 58, 3) := by decide +kernel
theorem dX7_put_27 : decode cX7_put 27 = .ok (.ireturn, 1) := by decide +kernel
theorem dX7_put_28 : decode cX7_put 28 = .ok (.iload_n 2, 1) := by decide +kernel
theorem dX7_put_29 : decode cX7_put 29 = .ok (.iconst 0, 1) := by decide +kernel
theorem dX7_put_30 : decode cX7_put 30 = .ok (.aload_n 0, 1) := by decide +kernel
theorem dX7_put_31 : decode cX7_put 31 = .ok (.getfield 44, 3) := by decide +kernel
theorem dX7_put_34 : decode cX7_put 34 = .ok (.iload_n 1, 1) := by decide +kernel
theorem dX7_put_35 : decode cX7_put 35 = .ok (.iaload, 1) := by decide +kernel
theorem dX7_put_36 : decode cX7_put 36 = .ok (.iconst 1, 1) := by decide +kernel
theorem dX7_put_37 : decode cX7_put 37 = .ok (.isub, 1) := by decide +kernel
theorem dX7_put_38 : decode cX7_put 38 = .ok (.invokestatic 54, 3) := by decide +kernel
theorem dX7_put_41 : decode cX7_put 41 = .ok (.ifCond .ne 9, 3) := by decide +kernel
theorem dX7_put_44 : decode cX7_put 44 = .ok (.aload_n 0, 1) := by decide +kernel
theorem dX7_put_45 : decode cX7_put 45 = .ok (.iconst 1, 1) := by decide +kernel
theorem dX7_put_46 : decode cX7_put 46 = .ok (.invokevirtual 58, 3) := by decide +kernel
theorem dX7_put_49 : decode cX7_put 49 = .ok (.ireturn, 1) := by decide +kernel
theorem dX7_put_50 : decode cX7_put 50 = .ok (.bipush 32, 2) := by decide +kernel
theorem dX7_put_52 : decode cX7_put 52 = .ok (.aload_n 0, 1) := by decide +kernel
theorem dX7_put_53 : decode cX7_put 53 = .ok (.getfield 41, 3) := by decide +kernel
theorem dX7_put_56 : decode cX7_put 56 = .ok (.iload_n 1, 1) := by decide +kernel
theorem dX7_put_57 : decode cX7_put 57 = .ok (.iaload, 1) := by decide +kernel
theorem dX7_put_58 : decode cX7_put 58 = .ok (.isub, 1) := by decide +kernel
theorem dX7_put_59 : decode cX7_put 59 = .ok (.istore 4, 2) := by decide +kernel
theorem dX7_put_61 : decode cX7_put 61 = .ok (.aload_n 0, 1) := by decide +kernel
theorem dX7_put_62 : decode cX7_put 62 = .ok (.getfield 47, 3) := by decide +kernel
theorem dX7_put_65 : decode cX7_put 65 = .ok (.bipush 24, 2) := by decide +kernel
theorem dX7_put_67 : decode cX7_put 67 = .ok (.iload_n 1, 1) := by decide +kernel
theorem dX7_put_68 : decode cX7_put 68 = .ok (.imul, 1) := by decide +kernel
theorem dX7_put_69 : decode cX7_put 69 = .ok (.iload_n 2, 1) := by decide +kernel
theorem dX7_put_70 : decode cX7_put 70 = .ok (.iadd, 1) := by decide +kernel
theorem dX7_put_71 : decode cX7_put 71 = .ok (.iload_n 3, 1) := by decide +kernel
theorem dX7_put_72 : decode cX7_put 72 = .ok (.iload 4, 2) := by decide +kernel
theorem dX7_put_74 : decode cX7_put 74 = .ok (.ishl, 1) := by decide +kernel
theorem dX7_put_75 : decode cX7_put 75 = .ok (.iload 4, 2) := by decide +kernel
theorem dX7_put_77 : decode cX7_put 77 = .ok (.ishr, 1) := by decide +kernel
theorem dX7_put_78 : decode cX7_put 78 = .ok (.iastore, 1) := by decide +kernel
theorem dX7_put_79 : decode cX7_put 79 = .ok (.iconst 1, 1) := by decide +kernel
theorem dX7_put_80 : decode cX7_put 80 = .ok (.ireturn, 1) := by decide +kernel
theorem dX7_move_0 : decode cX7_move 0 = .ok (.iload_n 1, 1) := by decide +kernel
theorem dX7_move_1 : decode cX7_move 1 = .ok (.invokestatic 256, 3) := by decide +kernel
theorem dX7_move_4 : decode cX7_move 4 = .ok (.ifCond .eq 10, 3) := by decide +kernel
theorem dX7_move_7 : decode cX7_move 7 = .ok (.iload_n 3, 1) := by decide +kernel
theorem dX7_move_8 : decode cX7_move 8 = .ok (.invokestatic 256, 3) := by decide +kernel
theorem dX7_move_11 : decode cX7_move 11 = .ok (.ifCond .ne 9, 3) := by decide +kernel
theorem dX7_move_14 : decode cX7_move 14 = .ok (.aload_n 0, 1) := by decide +kernel
theorem dX7_move_15 : decode cX7_move 15 = .ok (.iconst 1, 1) := by decide +kernel
theorem dX7_move_16 : decode cX7_move 16 = .ok (.invokevirtual 58, 3) := by decide +kernel
theorem dX7_move_19 : decode cX7_move 19 = .ok (.ireturn, 1) := by decide +kernel
theorem dX7_move_20 : decode cX7_move 20 = .ok (.aload_n 0, 1) := by decide +kernel
theorem dX7_move_21 : decode cX7_move 21 = .ok (.getfield 41, 3) := by decide +kernel
theorem dX7_move_24 : decode cX7_move 24 = .ok (.iload_n 1, 1) := by decide +kernel
theorem dX7_move_25 : decode cX7_move 25 = .ok (.iaload, 1) := by decide +kernel
theorem dX7_move_26 : decode cX7_move 26 = .ok (.ifCond .eq 12, 3) := by decide +kernel
theorem dX7_move_29 : decode cX7_move 29 = .ok (.aload_n 0, 1) := by decide +kernel
theorem dX7_move_30 : decode cX7_move 30 = .ok (.getfield 41, 3) := by decide +kernel
theorem dX7_move_33 : decode cX7_move 33 = .ok (.iload_n 3, 1) := by decide +kernel
theorem dX7_move_34 : decode cX7_move 34 = .ok (.iaload, 1) := by decide +kernel
theorem dX7_move_35 : decode cX7_move 35 = .ok (.ifCond .ne 9, 3) := by decide +kernel
theorem dX7_move_38 : decode cX7_move 38 = .ok (.aload_n 0, 1) := by decide +kernel
theorem dX7_move_39 : decode cX7_move 39 = .ok (.iconst 2, 1) := by decide +kernel
theorem dX7_move_40 : decode cX7_move 40 = .ok (.invokevirtual 58, 3) := by decide +kernel
theorem dX7_move_43 : decode cX7_move 43 = .ok (.ireturn, 1) := by decide +kernel
theorem dX7_move_44 : decode cX7_move 44 = .ok (.aload_n 0, 1) := by decide +kernel
theorem dX7_move_45 : decode cX7_move 45 = .ok (.getfield 41, 3) := by decide +kernel
theorem dX7_move_48 : decode cX7_move 48 = .ok (.iload_n 1, 1) := by decide +kernel
theorem dX7_move_49 : decode cX7_move 49 = .ok (.iaload, 1) := by decide +kernel
theorem dX7_move_50 : decode cX7_move 50 = .ok (.aload_n 0, 1) := by decide +kernel
theorem dX7_move_51 : decode cX7_move 51 = .ok (.getfield 41, 3) := by decide +kernel
theorem dX7_move_54 : decode cX7_move 54 = .ok (.iload_n 3, 1) := by decide +kernel
theorem dX7_move_55 : decode cX7_move 55 = .ok (.iaload, 1) := by decide +kernel
theorem dX7_move_56 : decode cX7_move 56 = .ok (.if_icmp .eq 9, 3) := by decide +kernel
theorem dX7_move_59 : decode cX7_move 59 = .ok (.aload_n 0, 1) := by decide +kernel
theorem dX7_move_60 : decode cX7_move 60 = .ok (.iconst 5, 1) := by decide +kernel
theorem dX7_move_61 : decode cX7_move 61 = .ok (.invokevirtual 58, 3) := by decide +kernel
theorem dX7_move_64 : decode cX7_move 64 = .ok (.ireturn, 1) := by decide +kernel
theorem dX7_move_65 : decode cX7_move 65 = .ok (.iload 5, 2) := by decide +kernel
theorem dX7_move_67 : decode cX7_move 67 = .ok (.ifCond .lt 39, 3) := by decide +kernel
theorem dX7_move_70 : decode cX7_move 70 = .ok (.iload_n 2, 1) := by decide +kernel
theorem dX7_move_71 : decode cX7_move 71 = .ok (.ifCond .lt 35, 3) := by decide +kernel
theorem dX7_move_74 : decode cX7_move 74 = .ok (.iload 4, 2) := by decide +kernel
theorem dX7_move_76 : decode cX7_move 76 = .ok (.ifCond .lt 30, 3) := by decide +kernel
theorem dX7_move_79 : decode cX7_move 79 = .ok (.iload_n 2, 1) := by decide +kernel
theorem dX7_move_80 : decode cX7_move 80 = .ok (.aload_n 0, 1) := by decide +kernel
theorem dX7_move_81 : decode cX7_move 81 = .ok (.getfield 44, 3) := by decide +kernel
theorem dX7_move_84 : decode cX7_move 84 = .ok (.iload_n 1, 1) := by decide +kernel
theorem dX7_move_85 : decode cX7_move 85 = .ok (.iaload, 1) := by decide +kernel
theorem dX7_move_86 : decode cX7_move 86 = .ok (.iload 5, 2) := by decide +kernel
theorem dX7_move_88 : decode cX7_move 88 = .ok (.isub, 1) := by decide +kernel
theorem dX7_move_89 : decode cX7_move 89 = .ok (.if_icmp .gt 17, 3) := by decide +kernel
theorem dX7_move_92 : decode cX7_move 92 = .ok (.iload 4, 2) := by decide +kernel
theorem dX7_move_94 : decode cX7_move 94 = .ok (.aload_n 0, 1) := by decide +kernel
theorem dX7_move_95 : decode cX7_move 95 = .ok (.getfield 44, 3) := by decide +kernel
theorem dX7_move_98 : decode cX7_move 98 = .ok (.iload_n 3, 1) := by decide +kernel
theorem dX7_move_99 : decode cX7_move 99 = .ok (.iaload, 1) := by decide +kernel
theorem dX7_move_100 : decode cX7_move 100 = .ok (.iload 5, 2) := by decide +kernel
theorem dX7_move_102 : decode cX7_move 102 = .ok (.isub, 1) := by decide +kernel
theorem dX7_move_103 : decode cX7_move 103 = .ok (.if_icmp .le 9, 3) := by decide +kernel
theorem dX7_move_106 : decode cX7_move 106 = .ok (.aload_n 0, 1) := by decide +kernel
theorem dX7_move_107 : decode cX7_move 107 = .ok (.iconst 1, 1) := by decide +kernel
theorem dX7_move_108 : decode cX7_move 108 = .ok (.invokevirtual 58, 3) := by decide +kernel
theorem dX7_move_111 : decode cX7_move 111 = .ok (.ireturn, 1) := by decide +kernel
theorem dX7_move_112 : decode cX7_move 112 = .ok (.iconst 0, 1) := by decide +kernel
theorem dX7_move_113 : decode cX7_move 113 = .ok (.istore 6, 2) := by decide +kernel
theorem dX7_move_115 : decode cX7_move 115 = .ok (.iload 6, 2) := by decide +kernel
theorem dX7_move_117 : decode cX7_move 117 = .ok (.iload 5, 2) := by decide +kernel
theorem dX7_move_119 : decode cX7_move 119 = .ok (.if_icmp .ge 30, 3) := by decide +kernel
theorem dX7_move_122 : decode cX7_move 122 = .ok (.aload_n 0, 1) := by decide +kernel
theorem dX7_move_123 : decode cX7_move 123 = .ok (.getfield 50, 3) := by decide +kernel
theorem dX7_move_126 : decode cX7_move 126 = .ok (.iload 6, 2) := by decide +kernel
theorem dX7_move_128 : decode cX7_move 128 = .ok (.aload_n 0, 1) := by decide +kernel
theorem dX7_move_129 : decode cX7_move 129 = .ok (.getfield 47, 3) := by decide +kernel
theorem dX7_move_132 : decode cX7_move 132 = .ok (.bipush 24, 2) := by decide +kernel
theorem dX7_move_134 : decode cX7_move 134 = .ok (.iload_n 1, 1) := by decide +kernel
theorem dX7_move_135 : decode cX7_move 135 = .ok (.imul, 1) := by decide +kernel
theorem dX7_move_136 : decode cX7_move 136 = .ok (.iload_n 2, 1) := by decide +kernel
theorem dX7_move_137 : decode cX7_move 137 = .ok (.iadd, 1) := by decide +kernel
theorem dX7_move_138 : decode cX7_move 138 = .ok (.iload 6, 2) := by decide +kernel
theorem dX7_move_140 : decode cX7_move 140 = .ok (.iadd, 1) := by decide +kernel
theorem dX7_move_141 : decode cX7_move 141 = .ok (.iaload, 1) := by decide +kernel
theorem dX7_move_142 : decode cX7_move 142 = .ok (.iastore, 1) := by decide +kernel
theorem dX7_move_143 : decode cX7_move 143 = .ok (.iinc 6 1, 3) := by decide +kernel
theorem dX7_move_146 : decode cX7_move 146 = .ok (.goto (-31), 3) := by decide +kernel
theorem dX7_move_149 : decode cX7_move 149 = .ok (.iconst 0, 1) := by decide +kernel
theorem dX7_move_150 : decode cX7_move 150 = .ok (.istore 6, 2) := by decide +kernel
theorem dX7_move_152 : decode cX7_move 152 = .ok (.iload 6, 2) := by decide +kernel
theorem dX7_move_154 : decode cX7_move 154 = .ok (.iload 5, 2) := by decide +kernel
theorem dX7_move_156 : decode cX7_move 156 = .ok (.if_icmp .ge 31, 3) := by decide +kernel
theorem dX7_move_159 : decode cX7_move 159 = .ok (.aload_n 0, 1) := by decide +kernel
theorem dX7_move_160 : decode cX7_move 160 = .ok (.getfield 47, 3) := by decide +kernel
theorem dX7_move_163 : decode cX7_move 163 = .ok (.bipush 24, 2) := by decide +kernel
theorem dX7_move_165 : decode cX7_move 165 = .ok (.iload_n 3, 1) := by decide +kernel
theorem dX7_move_166 : decode cX7_move 166 = .ok (.imul, 1) := by decide +kernel
theorem dX7_move_167 : decode cX7_move 167 = .ok (.iload 4, 2) := by decide +kernel
theorem dX7_move_169 : decode cX7_move 169 = .ok (.iadd, 1) := by decide +kernel
theorem dX7_move_170 : decode cX7_move 170 = .ok (.iload 6, 2) := by decide +kernel
theorem dX7_move_172 : decode cX7_move 172 = .ok (.iadd, 1) := by decide +kernel
theorem dX7_move_173 : decode cX7_move 173 = .ok (.aload_n 0, 1) := by decide +kernel
theorem dX7_move_174 : decode cX7_move 174 = .ok (.getfield 50, 3) := by decide +kernel
theorem dX7_move_177 : decode cX7_move 177 = .ok (.iload 6, 2) := by decide +kernel
theorem dX7_move_179 : decode cX7_move 179 = .ok (.iaload, 1) := by decide +kernel
theorem dX7_move_180 : decode cX7_move 180 = .ok (.iastore, 1) := by decide +kernel
theorem dX7_move_181 : decode cX7_move 181 = .ok (.iinc 6 1, 3) := by decide +kernel
theorem dX7_move_184 : decode cX7_move 184 = .ok (.goto (-32), 3) := by decide +kernel
theorem dX7_move_187 : decode cX7_move 187 = .ok (.iload 5, 2) := by decide +kernel
theorem dX7_move_189 : decode cX7_move 189 = .ok (.ireturn, 1) := by decide +kernel
theorem dX7_lacks_0 : decode cX7_lacks 0 = .ok (.iload_n 1, 1) := by decide +kernel
theorem dX7_lacks_1 : decode cX7_lacks 1 = .ok (.invokestatic 256, 3) := by decide +kernel
theorem dX7_lacks_4 : decode cX7_lacks 4 = .ok (.ifCond .ne 7, 3) := by decide +kernel
theorem dX7_lacks_7 : decode cX7_lacks 7 = .ok (.iconst 1, 1) := by decide +kernel
theorem dX7_lacks_8 : decode cX7_lacks 8 = .ok (.goto 17, 3) := by decide +kernel
theorem dX7_lacks_11 : decode cX7_lacks 11 = .ok (.aload_n 0, 1) := by decide +kernel
theorem dX7_lacks_12 : decode cX7_lacks 12 = .ok (.getfield 41, 3) := by decide +kernel
theorem dX7_lacks_15 : decode cX7_lacks 15 = .ok (.iload_n 1, 1) := by decide +kernel
theorem dX7_lacks_16 : decode cX7_lacks 16 = .ok (.iaload, 1) := by decide +kernel
theorem dX7_lacks_17 : decode cX7_lacks 17 = .ok (.ifCond .ne 7, 3) := by decide +kernel
theorem dX7_lacks_20 : decode cX7_lacks 20 = .ok (.iconst 2, 1) := by decide +kernel
theorem dX7_lacks_21 : decode cX7_lacks 21 = .ok (.goto 4, 3) := by decide +kernel
theorem dX7_lacks_24 : decode cX7_lacks 24 = .ok (.iconst 0, 1) := by decide +kernel
theorem dX7_lacks_25 : decode cX7_lacks 25 = .ok (.ireturn, 1) := by decide +kernel
theorem dX7_serves_0 : decode cX7_serves 0 = .ok (.aload_n 0, 1) := by decide +kernel
theorem dX7_serves_1 : decode cX7_serves 1 = .ok (.iload_n 1, 1) := by decide +kernel
theorem dX7_serves_2 : decode cX7_serves 2 = .ok (.invokevirtual 218, 3) := by decide +kernel
theorem dX7_serves_5 : decode cX7_serves 5 = .ok (.istore_n 2, 1) := by decide +kernel
theorem dX7_serves_6 : decode cX7_serves 6 = .ok (.iload_n 2, 1) := by decide +kernel
theorem dX7_serves_7 : decode cX7_serves 7 = .ok (.ifCond .eq 9, 3) := by decide +kernel
theorem dX7_serves_10 : decode cX7_serves 10 = .ok (.aload_n 0, 1) := by decide +kernel
theorem dX7_serves_11 : decode cX7_serves 11 = .ok (.iload_n 2, 1) := by decide +kernel
theorem dX7_serves_12 : decode cX7_serves 12 = .ok (.invokevirtual 58, 3) := by decide +kernel
theorem dX7_serves_15 : decode cX7_serves 15 = .ok (.ireturn, 1) := by decide +kernel
theorem dX7_serves_16 : decode cX7_serves 16 = .ok (.iconst 0, 1) := by decide +kernel
theorem dX7_serves_17 : decode cX7_serves 17 = .ok (.istore_n 3, 1) := by decide +kernel
theorem dX7_serves_18 : decode cX7_serves 18 = .ok (.iload_n 3, 1) := by decide +kernel
theorem dX7_serves_19 : decode cX7_serves 19 = .ok (.aload_n 0, 1) := by decide +kernel
theorem dX7_serves_20 : decode cX7_serves 20 = .ok (.getfield 44, 3) := by decide +kernel
theorem dX7_serves_23 : decode cX7_serves 23 = .ok (.iload_n 1, 1) := by decide +kernel
theorem dX7_serves_24 : decode cX7_serves 24 = .ok (.iaload, 1) := by decide +kernel
theorem dX7_serves_25 : decode cX7_serves 25 = .ok (.if_icmp .ge 54, 3) := by decide +kernel
theorem dX7_serves_28 : decode cX7_serves 28 = .ok (.aload_n 0, 1) := by decide +kernel
theorem dX7_serves_29 : decode cX7_serves 29 = .ok (.iload_n 3, 1) := by decide +kernel
theorem dX7_serves_30 : decode cX7_serves 30 = .ok (.invokevirtual 175, 3) := by decide +kernel
theorem dX7_serves_33 : decode cX7_serves 33 = .ok (.ifCond .eq 46, 3) := by decide +kernel
theorem dX7_serves_36 : decode cX7_serves 36 = .ok (.aload_n 0, 1) := by decide +kernel
theorem dX7_serves_37 : decode cX7_serves 37 = .ok (.getfield 47, 3) := by decide +kernel
theorem dX7_serves_40 : decode cX7_serves 40 = .ok (.bipush 24, 2) := by decide +kernel
theorem dX7_serves_42 : decode cX7_serves 42 = .ok (.iload_n 1, 1) := by decide +kernel
theorem dX7_serves_43 : decode cX7_serves 43 = .ok (.imul, 1) := by decide +kernel
theorem dX7_serves_44 : decode cX7_serves 44 = .ok (.iload_n 3, 1) := by decide +kernel
theorem dX7_serves_45 : decode cX7_serves 45 = .ok (.iadd, 1) := by decide +kernel
theorem dX7_serves_46 : decode cX7_serves 46 = .ok (.iaload, 1) := by decide +kernel
theorem dX7_serves_47 : decode cX7_serves 47 = .ok (.iconst 0, 1) := by decide +kernel
theorem dX7_serves_48 : decode cX7_serves 48 = .ok (.bipush 99, 2) := by decide +kernel
theorem dX7_serves_50 : decode cX7_serves 50 = .ok (.invokestatic 54, 3) := by decide +kernel
theorem dX7_serves_53 : decode cX7_serves 53 = .ok (.ifCond .eq 26, 3) := by decide +kernel
theorem dX7_serves_56 : decode cX7_serves 56 = .ok (.aload_n 0, 1) := by decide +kernel
theorem dX7_serves_57 : decode cX7_serves 57 = .ok (.iload_n 3, 1) := by decide +kernel
theorem dX7_serves_58 : decode cX7_serves 58 = .ok (.iconst 2, 1) := by decide +kernel
theorem dX7_serves_59 : decode cX7_serves 59 = .ok (.aload_n 0, 1) := by decide +kernel
theorem dX7_serves_60 : decode cX7_serves 60 = .ok (.getfield 47, 3) := by decide +kernel
theorem dX7_serves_63 : decode cX7_serves 63 = .ok (.bipush 24, 2) := by decide +kernel
theorem dX7_serves_65 : decode cX7_serves 65 = .ok (.iload_n 1, 1) := by decide +kernel
theorem dX7_serves_66 : decode cX7_serves 66 = .ok (.imul, 1) := by decide +kernel
theorem dX7_serves_67 : decode cX7_serves 67 = .ok (.iload_n 3, 1) := by decide +kernel
theorem dX7_serves_68 : decode cX7_serves 68 = .ok (.iadd, 1) := by decide +kernel
theorem dX7_serves_69 : decode cX7_serves 69 = .ok (.iaload, 1) := by decide +kernel
theorem dX7_serves_70 : decode cX7_serves 70 = .ok (.invokevirtual 147, 3) := by decide +kernel
theorem dX7_serves_73 : decode cX7_serves 73 = .ok (.iinc 3 1, 3) := by decide +kernel
theorem dX7_serves_76 : decode cX7_serves 76 = .ok (.goto (-58), 3) := by decide +kernel
theorem dX7_serves_79 : decode cX7_serves 79 = .ok (.iload_n 3, 1) := by decide +kernel
theorem dX7_serves_80 : decode cX7_serves 80 = .ok (.ireturn, 1) := by decide +kernel
theorem dX7_judge_0 : decode cX7_judge 0 = .ok (.aload_n 0, 1) := by decide +kernel
theorem dX7_judge_1 : decode cX7_judge 1 = .ok (.iload_n 1, 1) := by decide +kernel
theorem dX7_judge_2 : decode cX7_judge 2 = .ok (.invokevirtual 218, 3) := by decide +kernel
theorem dX7_judge_5 : decode cX7_judge 5 = .ok (.istore_n 2, 1) := by decide +kernel
theorem dX7_judge_6 : decode cX7_judge 6 = .ok (.iload_n 2, 1) := by decide +kernel
theorem dX7_judge_7 : decode cX7_judge 7 = .ok (.ifCond .eq 9, 3) := by decide +kernel
theorem dX7_judge_10 : decode cX7_judge 10 = .ok (.aload_n 0, 1) := by decide +kernel
theorem dX7_judge_11 : decode cX7_judge 11 = .ok (.iload_n 2, 1) := by decide +kernel
theorem dX7_judge_12 : decode cX7_judge 12 = .ok (.invokevirtual 58, 3) := by decide +kernel
theorem dX7_judge_15 : decode cX7_judge 15 = .ok (.ireturn, 1) := by decide +kernel
theorem dX7_judge_16 : decode cX7_judge 16 = .ok (.iconst 0, 1) := by decide +kernel
theorem dX7_judge_17 : decode cX7_judge 17 = .ok (.istore_n 3, 1) := by decide +kernel
theorem dX7_judge_18 : decode cX7_judge 18 = .ok (.iload_n 3, 1) := by decide +kernel
theorem dX7_judge_19 : decode cX7_judge 19 = .ok (.aload_n 0, 1) := by decide +kernel
theorem dX7_judge_20 : decode cX7_judge 20 = .ok (.getfield 44, 3) := by decide +kernel
theorem dX7_judge_23 : decode cX7_judge 23 = .ok (.iload_n 1, 1) := by decide +kernel
theorem dX7_judge_24 : decode cX7_judge 24 = .ok (.iaload, 1) := by decide +kernel
theorem dX7_judge_25 : decode cX7_judge 25 = .ok (.if_icmp .ge 36, 3) := by decide +kernel
theorem dX7_judge_28 : decode cX7_judge 28 = .ok (.aload_n 0, 1) := by decide +kernel
theorem dX7_judge_29 : decode cX7_judge 29 = .ok (.iload_n 3, 1) := by decide +kernel
theorem dX7_judge_30 : decode cX7_judge 30 = .ok (.invokevirtual 175, 3) := by decide +kernel
theorem dX7_judge_33 : decode cX7_judge 33 = .ok (.ifCond .eq 28, 3) := by decide +kernel
theorem dX7_judge_36 : decode cX7_judge 36 = .ok (.aload_n 0, 1) := by decide +kernel
theorem dX7_judge_37 : decode cX7_judge 37 = .ok (.iload_n 3, 1) := by decide +kernel
theorem dX7_judge_38 : decode cX7_judge 38 = .ok (.invokevirtual 138, 3) := by decide +kernel
theorem dX7_judge_41 : decode cX7_judge 41 = .ok (.aload_n 0, 1) := by decide +kernel
theorem dX7_judge_42 : decode cX7_judge 42 = .ok (.getfield 47, 3) := by decide +kernel
theorem dX7_judge_45 : decode cX7_judge 45 = .ok (.bipush 24, 2) := by decide +kernel
theorem dX7_judge_47 : decode cX7_judge 47 = .ok (.iload_n 1, 1) := by decide +kernel
theorem dX7_judge_48 : decode cX7_judge 48 = .ok (.imul, 1) := by decide +kernel
theorem dX7_judge_49 : decode cX7_judge 49 = .ok (.iload_n 3, 1) := by decide +kernel
theorem dX7_judge_50 : decode cX7_judge 50 = .ok (.iadd, 1) := by decide +kernel
theorem dX7_judge_51 : decode cX7_judge 51 = .ok (.iaload, 1) := by decide +kernel
theorem dX7_judge_52 : decode cX7_judge 52 = .ok (.if_icmp .ne 9, 3) := by decide +kernel
theorem dX7_judge_55 : decode cX7_judge 55 = .ok (.iinc 3 1, 3) := by decide +kernel
theorem dX7_judge_58 : decode cX7_judge 58 = .ok (.goto (-40), 3) := by decide +kernel
theorem dX7_judge_61 : decode cX7_judge 61 = .ok (.iload_n 3, 1) := by decide +kernel
theorem dX7_judge_62 : decode cX7_judge 62 = .ok (.ireturn, 1) := by decide +kernel
theorem dX7_image_0 : decode cX7_image 0 = .ok (.aload_n 0, 1) := by decide +kernel
theorem dX7_image_1 : decode cX7_image 1 = .ok (.getfield 7, 3) := by decide +kernel
theorem dX7_image_4 : decode cX7_image 4 = .ok (.aload_n 0, 1) := by decide +kernel
theorem dX7_image_5 : decode cX7_image 5 = .ok (.getfield 13, 3) := by decide +kernel
theorem dX7_image_8 : decode cX7_image 8 = .ok (.invokestatic 259, 3) := by decide +kernel
theorem dX7_image_11 : decode cX7_image 11 = .ok (.aload_n 0, 1) := by decide +kernel
theorem dX7_image_12 : decode cX7_image 12 = .ok (.dup, 1) := by decide +kernel
theorem dX7_image_13 : decode cX7_image 13 = .ok (.getfield 263, 3) := by decide +kernel
theorem dX7_image_16 : decode cX7_image 16 = .ok (.iconst 1, 1) := by decide +kernel
theorem dX7_image_17 : decode cX7_image 17 = .ok (.iadd, 1) := by decide +kernel
theorem dX7_image_18 : decode cX7_image 18 = .ok (.putfield 263, 3) := by decide +kernel
theorem dX7_image_21 : decode cX7_image 21 = .ok (.aload_n 0, 1) := by decide +kernel
theorem dX7_image_22 : decode cX7_image 22 = .ok (.getfield 263, 3) := by decide +kernel
theorem dX7_image_25 : decode cX7_image 25 = .ok (.ireturn, 1) := by decide +kernel
theorem dX7_restore_0 : decode cX7_restore 0 = .ok (.aload_n 0, 1) := by decide +kernel
theorem dX7_restore_1 : decode cX7_restore 1 = .ok (.getfield 263, 3) := by decide +kernel
theorem dX7_restore_4 : decode cX7_restore 4 = .ok (.ifCond .ne 9, 3) := by decide +kernel
theorem dX7_restore_7 : decode cX7_restore 7 = .ok (.aload_n 0, 1) := by decide +kernel
theorem dX7_restore_8 : decode cX7_restore 8 = .ok (.iconst 2, 1) := by decide +kernel
theorem dX7_restore_9 : decode cX7_restore 9 = .ok (.invokevirtual 58, 3) := by decide +kernel
theorem dX7_restore_12 : decode cX7_restore 12 = .ok (.ireturn, 1) := by decide +kernel
theorem dX7_restore_13 : decode cX7_restore 13 = .ok (.aload_n 0, 1) := by decide +kernel
theorem dX7_restore_14 : decode cX7_restore 14 = .ok (.getfield 13, 3) := by decide +kernel
theorem dX7_restore_17 : decode cX7_restore 17 = .ok (.aload_n 0, 1) := by decide +kernel
theorem dX7_restore_18 : decode cX7_restore 18 = .ok (.getfield 7, 3) := by decide +kernel
theorem dX7_restore_21 : decode cX7_restore 21 = .ok (.invokestatic 259, 3) := by decide +kernel
theorem dX7_restore_24 : decode cX7_restore 24 = .ok (.aload_n 0, 1) := by decide +kernel
theorem dX7_restore_25 : decode cX7_restore 25 = .ok (.getfield 7, 3) := by decide +kernel
theorem dX7_restore_28 : decode cX7_restore 28 = .ok (.iconst 0, 1) := by decide +kernel
theorem dX7_restore_29 : decode cX7_restore 29 = .ok (.iaload, 1) := by decide +kernel
theorem dX7_restore_30 : decode cX7_restore 30 = .ok (.ireturn, 1) := by decide +kernel
theorem dX7_tell_0 : decode cX7_tell 0 = .ok (.aload_n 0, 1) := by decide +kernel
theorem dX7_tell_1 : decode cX7_tell 1 = .ok (.getfield 7, 3) := by decide +kernel
theorem dX7_tell_4 : decode cX7_tell 4 = .ok (.iconst 4, 1) := by decide +kernel
theorem dX7_tell_5 : decode cX7_tell 5 = .ok (.iaload, 1) := by decide +kernel
theorem dX7_tell_6 : decode cX7_tell 6 = .ok (.bipush 24, 2) := by decide +kernel
theorem dX7_tell_8 : decode cX7_tell 8 = .ok (.if_icmp .ne 9, 3) := by decide +kernel
theorem dX7_tell_11 : decode cX7_tell 11 = .ok (.aload_n 0, 1) := by decide +kernel
theorem dX7_tell_12 : decode cX7_tell 12 = .ok (.iconst 4, 1) := by decide +kernel
theorem dX7_tell_13 : decode cX7_tell 13 = .ok (.invokevirtual 58, 3) := by decide +kernel
theorem dX7_tell_16 : decode cX7_tell 16 = .ok (.ireturn, 1) := by decide +kernel
theorem dX7_tell_17 : decode cX7_tell 17 = .ok (.aload_n 0, 1) := by decide +kernel
theorem dX7_tell_18 : decode cX7_tell 18 = .ok (.getfield 7, 3) := by decide +kernel
theorem dX7_tell_21 : decode cX7_tell 21 = .ok (.sipush 363, 3) := by decide +kernel
theorem dX7_tell_24 : decode cX7_tell 24 = .ok (.aload_n 0, 1) := by decide +kernel
theorem dX7_tell_25 : decode cX7_tell 25 = .ok (.getfield 7, 3) := by decide +kernel
theorem dX7_tell_28 : decode cX7_tell 28 = .ok (.iconst 4, 1) := by decide +kernel
theorem dX7_tell_29 : decode cX7_tell 29 = .ok (.iaload, 1) := by decide +kernel
theorem dX7_tell_30 : decode cX7_tell 30 = .ok (.iadd, 1) := by decide +kernel
theorem dX7_tell_31 : decode cX7_tell 31 = .ok (.iload_n 1, 1) := by decide +kernel
theorem dX7_tell_32 : decode cX7_tell 32 = .ok (.iastore, 1) := by decide +kernel
theorem dX7_tell_33 : decode cX7_tell 33 = .ok (.aload_n 0, 1) := by decide +kernel
theorem dX7_tell_34 : decode cX7_tell 34 = .ok (.getfield 7, 3) := by decide +kernel
theorem dX7_tell_37 : decode cX7_tell 37 = .ok (.iconst 4, 1) := by decide +kernel
theorem dX7_tell_38 : decode cX7_tell 38 = .ok (.dup2, 1) := by decide +kernel
theorem dX7_tell_39 : decode cX7_tell 39 = .ok (.iaload, 1) := by decide +kernel
theorem dX7_tell_40 : decode cX7_tell 40 = .ok (.iconst 1, 1) := by decide +kernel
theorem dX7_tell_41 : decode cX7_tell 41 = .ok (.iadd, 1) := by decide +kernel
theorem dX7_tell_42 : decode cX7_tell 42 = .ok (.iastore, 1) := by decide +kernel
theorem dX7_tell_43 : decode cX7_tell 43 = .ok (.aload_n 0, 1) := by decide +kernel
theorem dX7_tell_44 : decode cX7_tell 44 = .ok (.getfield 7, 3) := by decide +kernel
theorem dX7_tell_47 : decode cX7_tell 47 = .ok (.iconst 4, 1) := by decide +kernel
theorem dX7_tell_48 : decode cX7_tell 48 = .ok (.iaload, 1) := by decide +kernel
theorem dX7_tell_49 : decode cX7_tell 49 = .ok (.ireturn, 1) := by decide +kernel
theorem dX7_check_0 : decode cX7_check 0 = .ok (.aload_n 0, 1) := by decide +kernel
theorem dX7_check_1 : decode cX7_check 1 = .ok (.getfield 7, 3) := by decide +kernel
theorem dX7_check_4 : decode cX7_check 4 = .ok (.iconst 4, 1) := by decide +kernel
theorem dX7_check_5 : decode cX7_check 5 = .ok (.iaload, 1) := by decide +kernel
theorem dX7_check_6 : decode cX7_check 6 = .ok (.istore_n 1, 1) := by decide +kernel
theorem dX7_check_7 : decode cX7_check 7 = .ok (.aload_n 0, 1) := by decide +kernel
theorem dX7_check_8 : decode cX7_check 8 = .ok (.getfield 7, 3) := by decide +kernel
theorem dX7_check_11 : decode cX7_check 11 = .ok (.iconst 4, 1) := by decide +kernel
theorem dX7_check_12 : decode cX7_check 12 = .ok (.iconst 0, 1) := by decide +kernel
theorem dX7_check_13 : decode cX7_check 13 = .ok (.iastore, 1) := by decide +kernel
theorem dX7_check_14 : decode cX7_check 14 = .ok (.iconst 0, 1) := by decide +kernel
theorem dX7_check_15 : decode cX7_check 15 = .ok (.istore_n 2, 1) := by decide +kernel
theorem dX7_check_16 : decode cX7_check 16 = .ok (.iload_n 2, 1) := by decide +kernel
theorem dX7_check_17 : decode cX7_check 17 = .ok (.iload_n 1, 1) := by decide +kernel
theorem dX7_check_18 : decode cX7_check 18 = .ok (.if_icmp .ge 40, 3) := by decide +kernel
theorem dX7_check_21 : decode cX7_check 21 = .ok (.aload_n 0, 1) := by decide +kernel
theorem dX7_check_22 : decode cX7_check 22 = .ok (.iload_n 2, 1) := by decide +kernel
theorem dX7_check_23 : decode cX7_check 23 = .ok (.invokevirtual 175, 3) := by decide +kernel
theorem dX7_check_26 : decode cX7_check 26 = .ok (.ifCond .eq 22, 3) := by decide +kernel
theorem dX7_check_29 : decode cX7_check 29 = .ok (.aload_n 0, 1) := by decide +kernel
theorem dX7_check_30 : decode cX7_check 30 = .ok (.getfield 7, 3) := by decide +kernel
theorem dX7_check_33 : decode cX7_check 33 = .ok (.sipush 363, 3) := by decide +kernel
theorem dX7_check_36 : decode cX7_check 36 = .ok (.iload_n 2, 1) := by decide +kernel
theorem dX7_check_37 : decode cX7_check 37 = .ok (.iadd, 1) := by decide +kernel
theorem dX7_check_38 : decode cX7_check 38 = .ok (.iaload, 1) := by decide +kernel
theorem dX7_check_39 : decode cX7_check 39 = .ok (.aload_n 0, 1) := by decide +kernel
theorem dX7_check_40 : decode cX7_check 40 = .ok (.iload_n 2, 1) := by decide +kernel
theorem dX7_check_41 : decode cX7_check 41 = .ok (.iconst 3, 1) := by decide +kernel
theorem dX7_check_42 : decode cX7_check 42 = .ok (.invokevirtual 118, 3) := by decide +kernel
theorem dX7_check_45 : decode cX7_check 45 = .ok (.if_icmp .eq 7, 3) := by decide +kernel
theorem dX7_check_48 : decode cX7_check 48 = .ok (.iconst 1, 1) := by decide +kernel
theorem dX7_check_49 : decode cX7_check 49 = .ok (.iload_n 2, 1) := by decide +kernel
theorem dX7_check_50 : decode cX7_check 50 = .ok (.iadd, 1) := by decide +kernel
theorem dX7_check_51 : decode cX7_check 51 = .ok (.ireturn, 1) := by decide +kernel
theorem dX7_check_52 : decode cX7_check 52 = .ok (.iinc 2 1, 3) := by decide +kernel
theorem dX7_check_55 : decode cX7_check 55 = .ok (.goto (-39), 3) := by decide +kernel
theorem dX7_check_58 : decode cX7_check 58 = .ok (.iconst 0, 1) := by decide +kernel
theorem dX7_check_59 : decode cX7_check 59 = .ok (.ireturn, 1) := by decide +kernel
theorem dX7_count_0 : decode cX7_count 0 = .ok (.iload_n 1, 1) := by decide +kernel
theorem dX7_count_1 : decode cX7_count 1 = .ok (.tableswitch 99 0 7 #[47, 54, 59, 66, 73, 80, 87, 92], 47) := by decide +kernel
theorem dX7_count_48 : decode cX7_count 48 = .ok (.aload_n 0, 1) := by decide +kernel
theorem dX7_count_49 : decode cX7_count 49 = .ok (.getfield 7, 3) := by decide +kernel
theorem dX7_count_52 : decode cX7_count 52 = .ok (.iconst 5, 1) := by decide +kernel
theorem dX7_count_53 : decode cX7_count 53 = .ok (.iaload, 1) := by decide +kernel
theorem dX7_count_54 : decode cX7_count 54 = .ok (.ireturn, 1) := by decide +kernel
theorem dX7_count_55 : decode cX7_count 55 = .ok (.aload_n 0, 1) := by decide +kernel
theorem dX7_count_56 : decode cX7_count 56 = .ok (.invokevirtual 190, 3) := by decide +kernel
theorem dX7_count_59 : decode cX7_count 59 = .ok (.ireturn, 1) := by decide +kernel
theorem dX7_count_60 : decode cX7_count 60 = .ok (.aload_n 0, 1) := by decide +kernel
theorem dX7_count_61 : decode cX7_count 61 = .ok (.getfield 7, 3) := by decide +kernel
theorem dX7_count_64 : decode cX7_count 64 = .ok (.iconst 0, 1) := by decide +kernel
theorem dX7_count_65 : decode cX7_count 65 = .ok (.iaload, 1) := by decide +kernel
theorem dX7_count_66 : decode cX7_count 66 = .ok (.ireturn, 1) := by decide +kernel
theorem dX7_count_67 : decode cX7_count 67 = .ok (.aload_n 0, 1) := by decide +kernel
theorem dX7_count_68 : decode cX7_count 68 = .ok (.getfield 7, 3) := by decide +kernel
theorem dX7_count_71 : decode cX7_count 71 = .ok (.iconst 1, 1) := by decide +kernel
theorem dX7_count_72 : decode cX7_count 72 = .ok (.iaload, 1) := by decide +kernel
theorem dX7_count_73 : decode cX7_count 73 = .ok (.ireturn, 1) := by decide +kernel
theorem dX7_count_74 : decode cX7_count 74 = .ok (.aload_n 0, 1) := by decide +kernel
theorem dX7_count_75 : decode cX7_count 75 = .ok (.getfield 7, 3) := by decide +kernel
theorem dX7_count_78 : decode cX7_count 78 = .ok (.iconst 3, 1) := by decide +kernel
theorem dX7_count_79 : decode cX7_count 79 = .ok (.iaload, 1) := by decide +kernel
theorem dX7_count_80 : decode cX7_count 80 = .ok (.ireturn, 1) := by decide +kernel
theorem dX7_count_81 : decode cX7_count 81 = .ok (.aload_n 0, 1) := by decide +kernel
theorem dX7_count_82 : decode cX7_count 82 = .ok (.getfield 7, 3) := by decide +kernel
theorem dX7_count_85 : decode cX7_count 85 = .ok (.iconst 4, 1) := by decide +kernel
theorem dX7_count_86 : decode cX7_count 86 = .ok (.iaload, 1) := by decide +kernel
theorem dX7_count_87 : decode cX7_count 87 = .ok (.ireturn, 1) := by decide +kernel
theorem dX7_count_88 : decode cX7_count 88 = .ok (.aload_n 0, 1) := by decide +kernel
theorem dX7_count_89 : decode cX7_count 89 = .ok (.getfield 224, 3) := by decide +kernel
theorem dX7_count_92 : decode cX7_count 92 = .ok (.ireturn, 1) := by decide +kernel
theorem dX7_count_93 : decode cX7_count 93 = .ok (.aload_n 0, 1) := by decide +kernel
theorem dX7_count_94 : decode cX7_count 94 = .ok (.getfield 7, 3) := by decide +kernel
theorem dX7_count_97 : decode cX7_count 97 = .ok (.iconst 2, 1) := by decide +kernel
theorem dX7_count_98 : decode cX7_count 98 = .ok (.iaload, 1) := by decide +kernel
theorem dX7_count_99 : decode cX7_count 99 = .ok (.ireturn, 1) := by decide +kernel
theorem dX7_count_100 : decode cX7_count 100 = .ok (.aload_n 0, 1) := by decide +kernel
theorem dX7_count_101 : decode cX7_count 101 = .ok (.iconst 1, 1) := by decide +kernel
theorem dX7_count_102 : decode cX7_count 102 = .ok (.invokevirtual 58, 3) := by decide +kernel
theorem dX7_count_105 : decode cX7_count 105 = .ok (.ireturn, 1) := by decide +kernel
theorem dX7_told_0 : decode cX7_told 0 = .ok (.iload_n 1, 1) := by decide +kernel
theorem dX7_told_1 : decode cX7_told 1 = .ok (.iconst 1, 1) := by decide +kernel
theorem dX7_told_2 : decode cX7_told 2 = .ok (.bipush 6, 2) := by decide +kernel
theorem dX7_told_4 : decode cX7_told 4 = .ok (.invokestatic 54, 3) := by decide +kernel
theorem dX7_told_7 : decode cX7_told 7 = .ok (.ifCond .eq 12, 3) := by decide +kernel
theorem dX7_told_10 : decode cX7_told 10 = .ok (.aload_n 0, 1) := by decide +kernel
theorem dX7_told_11 : decode cX7_told 11 = .ok (.getfield 19, 3) := by decide +kernel
theorem dX7_told_14 : decode cX7_told 14 = .ok (.iload_n 1, 1) := by decide +kernel
theorem dX7_told_15 : decode cX7_told 15 = .ok (.iaload, 1) := by decide +kernel
theorem dX7_told_16 : decode cX7_told 16 = .ok (.goto 8, 3) := by decide +kernel
theorem dX7_told_19 : decode cX7_told 19 = .ok (.aload_n 0, 1) := by decide +kernel
theorem dX7_told_20 : decode cX7_told 20 = .ok (.iconst 1, 1) := by decide +kernel
theorem dX7_told_21 : decode cX7_told 21 = .ok (.invokevirtual 58, 3) := by decide +kernel
theorem dX7_told_24 : decode cX7_told 24 = .ok (.ireturn, 1) := by decide +kernel
