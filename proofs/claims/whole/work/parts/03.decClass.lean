theorem dX0_init_0 : decode cX0_init 0 = .ok (.aload_n 0, 1) := by decide +kernel
theorem dX0_init_1 : decode cX0_init 1 = .ok (.invokespecial 3, 3) := by decide +kernel
theorem dX0_init_4 : decode cX0_init 4 = .ok (.aload_n 0, 1) := by decide +kernel
theorem dX0_init_5 : decode cX0_init 5 = .ok (.new 9, 3) := by decide +kernel
theorem dX0_init_8 : decode cX0_init 8 = .ok (.dup, 1) := by decide +kernel
theorem dX0_init_9 : decode cX0_init 9 = .ok (.sipush 999, 3) := by decide +kernel
theorem dX0_init_12 : decode cX0_init 12 = .ok (.iconst 0, 1) := by decide +kernel
theorem dX0_init_13 : decode cX0_init 13 = .ok (.invokespecial 11, 3) := by decide +kernel
theorem dX0_init_16 : decode cX0_init 16 = .ok (.putfield 14, 3) := by decide +kernel
theorem dX0_init_19 : decode cX0_init 19 = .ok (.aload_n 0, 1) := by decide +kernel
theorem dX0_init_20 : decode cX0_init 20 = .ok (.new 9, 3) := by decide +kernel
theorem dX0_init_23 : decode cX0_init 23 = .ok (.dup, 1) := by decide +kernel
theorem dX0_init_24 : decode cX0_init 24 = .ok (.iconst 1, 1) := by decide +kernel
theorem dX0_init_25 : decode cX0_init 25 = .ok (.iconst 1, 1) := by decide +kernel
theorem dX0_init_26 : decode cX0_init 26 = .ok (.invokespecial 11, 3) := by decide +kernel
theorem dX0_init_29 : decode cX0_init 29 = .ok (.putfield 20, 3) := by decide +kernel
theorem dX0_init_32 : decode cX0_init 32 = .ok (.aload_n 0, 1) := by decide +kernel
theorem dX0_init_33 : decode cX0_init 33 = .ok (.new 23, 3) := by decide +kernel
theorem dX0_init_36 : decode cX0_init 36 = .ok (.dup, 1) := by decide +kernel
theorem dX0_init_37 : decode cX0_init 37 = .ok (.aload_n 0, 1) := by decide +kernel
theorem dX0_init_38 : decode cX0_init 38 = .ok (.getfield 14, 3) := by decide +kernel
theorem dX0_init_41 : decode cX0_init 41 = .ok (.aload_n 0, 1) := by decide +kernel
theorem dX0_init_42 : decode cX0_init 42 = .ok (.getfield 20, 3) := by decide +kernel
theorem dX0_init_45 : decode cX0_init 45 = .ok (.invokespecial 25, 3) := by decide +kernel
theorem dX0_init_48 : decode cX0_init 48 = .ok (.putfield 28, 3) := by decide +kernel
theorem dX0_init_51 : decode cX0_init 51 = .ok (.aload_n 0, 1) := by decide +kernel
theorem dX0_init_52 : decode cX0_init 52 = .ok (.bipush 60, 2) := by decide +kernel
theorem dX0_init_54 : decode cX0_init 54 = .ok (.newarray .int, 2) := by decide +kernel
theorem dX0_init_56 : decode cX0_init 56 = .ok (.putfield 32, 3) := by decide +kernel
theorem dX0_init_59 : decode cX0_init 59 = .ok (.aload_n 0, 1) := by decide +kernel
theorem dX0_init_60 : decode cX0_init 60 = .ok (.bipush 24, 2) := by decide +kernel
theorem dX0_init_62 : decode cX0_init 62 = .ok (.newarray .int, 2) := by decide +kernel
theorem dX0_init_64 : decode cX0_init 64 = .ok (.putfield 36, 3) := by decide +kernel
theorem dX0_init_67 : decode cX0_init 67 = .ok (.aload_n 0, 1) := by decide +kernel
theorem dX0_init_68 : decode cX0_init 68 = .ok (.iconst 1, 1) := by decide +kernel
theorem dX0_init_69 : decode cX0_init 69 = .ok (.putfield 39, 3) := by decide +kernel
theorem dX0_init_72 : decode cX0_init 72 = .ok (.return_, 1) := by decide +kernel
theorem dX0_takeFrom_0 : decode cX0_takeFrom 0 = .ok (.aload_n 0, 1) := by decide +kernel
theorem dX0_takeFrom_1 : decode cX0_takeFrom 1 = .ok (.getfield 14, 3) := by decide +kernel
theorem dX0_takeFrom_4 : decode cX0_takeFrom 4 = .ok (.aload_n 1, 1) := by decide +kernel
theorem dX0_takeFrom_5 : decode cX0_takeFrom 5 = .ok (.getfield 14, 3) := by decide +kernel
theorem dX0_takeFrom_8 : decode cX0_takeFrom 8 = .ok (.invokevirtual 43, 3) := by decide +kernel
theorem dX0_takeFrom_11 : decode cX0_takeFrom 11 = .ok (.aload_n 0, 1) := by decide +kernel
theorem dX0_takeFrom_12 : decode cX0_takeFrom 12 = .ok (.getfield 20, 3) := by decide +kernel
theorem dX0_takeFrom_15 : decode cX0_takeFrom 15 = .ok (.aload_n 1, 1) := by decide +kernel
theorem dX0_takeFrom_16 : decode cX0_takeFrom 16 = .ok (.getfield 20, 3) := by decide +kernel
theorem dX0_takeFrom_19 : decode cX0_takeFrom 19 = .ok (.invokevirtual 43, 3) := by decide +kernel
theorem dX0_takeFrom_22 : decode cX0_takeFrom 22 = .ok (.aload_n 0, 1) := by decide +kernel
theorem dX0_takeFrom_23 : decode cX0_takeFrom 23 = .ok (.getfield 28, 3) := by decide +kernel
theorem dX0_takeFrom_26 : decode cX0_takeFrom 26 = .ok (.aload_n 1, 1) := by decide +kernel
theorem dX0_takeFrom_27 : decode cX0_takeFrom 27 = .ok (.getfield 28, 3) := by decide +kernel
theorem dX0_takeFrom_30 : decode cX0_takeFrom 30 = .ok (.invokevirtual 47, 3) := by decide +kernel
theorem dX0_takeFrom_33 : decode cX0_takeFrom 33 = .ok (.aload_n 1, 1) := by decide +kernel
theorem dX0_takeFrom_34 : decode cX0_takeFrom 34 = .ok (.getfield 32, 3) := by decide +kernel
theorem dX0_takeFrom_37 : decode cX0_takeFrom 37 = .ok (.iconst 0, 1) := by decide +kernel
theorem dX0_takeFrom_38 : decode cX0_takeFrom 38 = .ok (.aload_n 0, 1) := by decide +kernel
theorem dX0_takeFrom_39 : decode cX0_takeFrom 39 = .ok (.getfield 32, 3) := by decide +kernel
theorem dX0_takeFrom_42 : decode cX0_takeFrom 42 = .ok (.iconst 0, 1) := by decide +kernel
theorem dX0_takeFrom_43 : decode cX0_takeFrom 43 = .ok (.bipush 60, 2) := by decide +kernel
theorem dX0_takeFrom_45 : decode cX0_takeFrom 45 = .ok (.invokestatic 50, 3) := by decide +kernel
theorem dX0_takeFrom_48 : decode cX0_takeFrom 48 = .ok (.aload_n 0, 1) := by decide +kernel
theorem dX0_takeFrom_49 : decode cX0_takeFrom 49 = .ok (.aload_n 1, 1) := by decide +kernel
theorem dX0_takeFrom_50 : decode cX0_takeFrom 50 = .ok (.getfield 56, 3) := by decide +kernel
theorem dX0_takeFrom_53 : decode cX0_takeFrom 53 = .ok (.putfield 56, 3) := by decide +kernel
theorem dX0_takeFrom_56 : decode cX0_takeFrom 56 = .ok (.aload_n 1, 1) := by decide +kernel
theorem dX0_takeFrom_57 : decode cX0_takeFrom 57 = .ok (.getfield 36, 3) := by decide +kernel
theorem dX0_takeFrom_60 : decode cX0_takeFrom 60 = .ok (.iconst 0, 1) := by decide +kernel
theorem dX0_takeFrom_61 : decode cX0_takeFrom 61 = .ok (.aload_n 0, 1) := by decide +kernel
theorem dX0_takeFrom_62 : decode cX0_takeFrom 62 = .ok (.getfield 36, 3) := by decide +kernel
theorem dX0_takeFrom_65 : decode cX0_takeFrom 65 = .ok (.iconst 0, 1) := by decide +kernel
theorem dX0_takeFrom_66 : decode cX0_takeFrom 66 = .ok (.bipush 24, 2) := by decide +kernel
theorem dX0_takeFrom_68 : decode cX0_takeFrom 68 = .ok (.invokestatic 50, 3) := by decide +kernel
theorem dX0_takeFrom_71 : decode cX0_takeFrom 71 = .ok (.aload_n 0, 1) := by decide +kernel
theorem dX0_takeFrom_72 : decode cX0_takeFrom 72 = .ok (.aload_n 1, 1) := by decide +kernel
theorem dX0_takeFrom_73 : decode cX0_takeFrom 73 = .ok (.getfield 59, 3) := by decide +kernel
theorem dX0_takeFrom_76 : decode cX0_takeFrom 76 = .ok (.putfield 59, 3) := by decide +kernel
theorem dX0_takeFrom_79 : decode cX0_takeFrom 79 = .ok (.aload_n 0, 1) := by decide +kernel
theorem dX0_takeFrom_80 : decode cX0_takeFrom 80 = .ok (.aload_n 1, 1) := by decide +kernel
theorem dX0_takeFrom_81 : decode cX0_takeFrom 81 = .ok (.getfield 39, 3) := by decide +kernel
theorem dX0_takeFrom_84 : decode cX0_takeFrom 84 = .ok (.putfield 39, 3) := by decide +kernel
theorem dX0_takeFrom_87 : decode cX0_takeFrom 87 = .ok (.return_, 1) := by decide +kernel
theorem dX0_dineByDraws_0 : decode cX0_dineByDraws 0 = .ok (.aload_n 0, 1) := by decide +kernel
theorem dX0_dineByDraws_1 : decode cX0_dineByDraws 1 = .ok (.getfield 28, 3) := by decide +kernel
theorem dX0_dineByDraws_4 : decode cX0_dineByDraws 4 = .ok (.getfield 62, 3) := by decide +kernel
theorem dX0_dineByDraws_7 : decode cX0_dineByDraws 7 = .ok (.ifCond .le 58, 3) := by decide +kernel
theorem dX0_dineByDraws_10 : decode cX0_dineByDraws 10 = .ok (.aload_n 0, 1) := by decide +kernel
theorem dX0_dineByDraws_11 : decode cX0_dineByDraws 11 = .ok (.invokevirtual 65, 3) := by decide +kernel
theorem dX0_dineByDraws_14 : decode cX0_dineByDraws 14 = .ok (.istore_n 1, 1) := by decide +kernel
theorem dX0_dineByDraws_15 : decode cX0_dineByDraws 15 = .ok (.iload_n 1, 1) := by decide +kernel
theorem dX0_dineByDraws_16 : decode cX0_dineByDraws 16 = .ok (.iconst 4, 1) := by decide +kernel
theorem dX0_dineByDraws_17 : decode cX0_dineByDraws 17 = .ok (.irem, 1) := by decide +kernel
theorem dX0_dineByDraws_18 : decode cX0_dineByDraws 18 = .ok (.ifCond .ne 47, 3) := by decide +kernel
theorem dX0_dineByDraws_21 : decode cX0_dineByDraws 21 = .ok (.aload_n 0, 1) := by decide +kernel
theorem dX0_dineByDraws_22 : decode cX0_dineByDraws 22 = .ok (.invokevirtual 65, 3) := by decide +kernel
theorem dX0_dineByDraws_25 : decode cX0_dineByDraws 25 = .ok (.aload_n 0, 1) := by decide +kernel
theorem dX0_dineByDraws_26 : decode cX0_dineByDraws 26 = .ok (.getfield 28, 3) := by decide +kernel
theorem dX0_dineByDraws_29 : decode cX0_dineByDraws 29 = .ok (.getfield 62, 3) := by decide +kernel
theorem dX0_dineByDraws_32 : decode cX0_dineByDraws 32 = .ok (.irem, 1) := by decide +kernel
theorem dX0_dineByDraws_33 : decode cX0_dineByDraws 33 = .ok (.istore_n 2, 1) := by decide +kernel
theorem dX0_dineByDraws_34 : decode cX0_dineByDraws 34 = .ok (.aload_n 0, 1) := by decide +kernel
theorem dX0_dineByDraws_35 : decode cX0_dineByDraws 35 = .ok (.getfield 28, 3) := by decide +kernel
theorem dX0_dineByDraws_38 : decode cX0_dineByDraws 38 = .ok (.getfield 69, 3) := by decide +kernel
theorem dX0_dineByDraws_41 : decode cX0_dineByDraws 41 = .ok (.iload_n 2, 1) := by decide +kernel
theorem dX0_dineByDraws_42 : decode cX0_dineByDraws 42 = .ok (.bipush 99, 2) := by decide +kernel
theorem dX0_dineByDraws_44 : decode cX0_dineByDraws 44 = .ok (.aload_n 0, 1) := by decide +kernel
theorem dX0_dineByDraws_45 : decode cX0_dineByDraws 45 = .ok (.getfield 28, 3) := by decide +kernel
theorem dX0_dineByDraws_48 : decode cX0_dineByDraws 48 = .ok (.getfield 69, 3) := by decide +kernel
theorem dX0_dineByDraws_51 : decode cX0_dineByDraws 51 = .ok (.iload_n 2, 1) := by decide +kernel
theorem dX0_dineByDraws_52 : decode cX0_dineByDraws 52 = .ok (.iaload, 1) := by decide +kernel
theorem dX0_dineByDraws_53 : decode cX0_dineByDraws 53 = .ok (.aload_n 0, 1) := by decide +kernel
theorem dX0_dineByDraws_54 : decode cX0_dineByDraws 54 = .ok (.invokevirtual 65, 3) := by decide +kernel
theorem dX0_dineByDraws_57 : decode cX0_dineByDraws 57 = .ok (.bipush 20, 2) := by decide +kernel
theorem dX0_dineByDraws_59 : decode cX0_dineByDraws 59 = .ok (.irem, 1) := by decide +kernel
theorem dX0_dineByDraws_60 : decode cX0_dineByDraws 60 = .ok (.iadd, 1) := by decide +kernel
theorem dX0_dineByDraws_61 : decode cX0_dineByDraws 61 = .ok (.invokestatic 72, 3) := by decide +kernel
theorem dX0_dineByDraws_64 : decode cX0_dineByDraws 64 = .ok (.iastore, 1) := by decide +kernel
theorem dX0_dineByDraws_65 : decode cX0_dineByDraws 65 = .ok (.aload_n 0, 1) := by decide +kernel
theorem dX0_dineByDraws_66 : decode cX0_dineByDraws 66 = .ok (.getfield 28, 3) := by decide +kernel
theorem dX0_dineByDraws_69 : decode cX0_dineByDraws 69 = .ok (.aload_n 0, 1) := by decide +kernel
theorem dX0_dineByDraws_70 : decode cX0_dineByDraws 70 = .ok (.invokevirtual 65, 3) := by decide +kernel
theorem dX0_dineByDraws_73 : decode cX0_dineByDraws 73 = .ok (.bipush 30, 2) := by decide +kernel
theorem dX0_dineByDraws_75 : decode cX0_dineByDraws 75 = .ok (.irem, 1) := by decide +kernel
theorem dX0_dineByDraws_76 : decode cX0_dineByDraws 76 = .ok (.invokevirtual 78, 3) := by decide +kernel
theorem dX0_dineByDraws_79 : decode cX0_dineByDraws 79 = .ok (.ireturn, 1) := by decide +kernel
theorem dX0_draw_0 : decode cX0_draw 0 = .ok (.aload_n 0, 1) := by decide +kernel
theorem dX0_draw_1 : decode cX0_draw 1 = .ok (.aload_n 0, 1) := by decide +kernel
theorem dX0_draw_2 : decode cX0_draw 2 = .ok (.getfield 39, 3) := by decide +kernel
theorem dX0_draw_5 : decode cX0_draw 5 = .ok (.ldc 82, 2) := by decide +kernel
theorem dX0_draw_7 : decode cX0_draw 7 = .ok (.imul, 1) := by decide +kernel
theorem dX0_draw_8 : decode cX0_draw 8 = .ok (.sipush 12345, 3) := by decide +kernel
theorem dX0_draw_11 : decode cX0_draw 11 = .ok (.iadd, 1) := by decide +kernel
theorem dX0_draw_12 : decode cX0_draw 12 = .ok (.putfield 39, 3) := by decide +kernel
theorem dX0_draw_15 : decode cX0_draw 15 = .ok (.aload_n 0, 1) := by decide +kernel
theorem dX0_draw_16 : decode cX0_draw 16 = .ok (.getfield 39, 3) := by decide +kernel
theorem dX0_draw_19 : decode cX0_draw 19 = .ok (.bipush 8, 2) := by decide +kernel
theorem dX0_draw_21 : decode cX0_draw 21 = .ok (.iushr, 1) := by decide +kernel
theorem dX0_draw_22 : decode cX0_draw 22 = .ok (.ireturn, 1) := by decide +kernel
theorem dX1_init_0 : decode cX1_init 0 = .ok (.aload_n 0, 1) := by decide +kernel
theorem dX1_init_1 : decode cX1_init 1 = .ok (.invokespecial 3, 3) := by decide +kernel
theorem dX1_init_4 : decode cX1_init 4 = .ok (.aload_n 0, 1) := by decide +kernel
theorem dX1_init_5 : decode cX1_init 5 = .ok (.bipush 60, 2) := by decide +kernel
theorem dX1_init_7 : decode cX1_init 7 = .ok (.newarray .int, 2) := by decide +kernel
theorem dX1_init_9 : decode cX1_init 9 = .ok (.putfield 9, 3) := by decide +kernel
theorem dX1_init_12 : decode cX1_init 12 = .ok (.aload_n 0, 1) := by decide +kernel
theorem dX1_init_13 : decode cX1_init 13 = .ok (.bipush 60, 2) := by decide +kernel
theorem dX1_init_15 : decode cX1_init 15 = .ok (.newarray .int, 2) := by decide +kernel
theorem dX1_init_17 : decode cX1_init 17 = .ok (.putfield 15, 3) := by decide +kernel
theorem dX1_init_20 : decode cX1_init 20 = .ok (.aload_n 0, 1) := by decide +kernel
theorem dX1_init_21 : decode cX1_init 21 = .ok (.iload_n 1, 1) := by decide +kernel
theorem dX1_init_22 : decode cX1_init 22 = .ok (.putfield 18, 3) := by decide +kernel
theorem dX1_init_25 : decode cX1_init 25 = .ok (.aload_n 0, 1) := by decide +kernel
theorem dX1_init_26 : decode cX1_init 26 = .ok (.iload_n 2, 1) := by decide +kernel
theorem dX1_init_27 : decode cX1_init 27 = .ok (.putfield 22, 3) := by decide +kernel
theorem dX1_init_30 : decode cX1_init 30 = .ok (.return_, 1) := by decide +kernel
theorem dX1_add_0 : decode cX1_add 0 = .ok (.aload_n 0, 1) := by decide +kernel
theorem dX1_add_1 : decode cX1_add 1 = .ok (.getfield 26, 3) := by decide +kernel
theorem dX1_add_4 : decode cX1_add 4 = .ok (.bipush 60, 2) := by decide +kernel
theorem dX1_add_6 : decode cX1_add 6 = .ok (.if_icmp .ge 23, 3) := by decide +kernel
theorem dX1_add_9 : decode cX1_add 9 = .ok (.aload_n 0, 1) := by decide +kernel
theorem dX1_add_10 : decode cX1_add 10 = .ok (.getfield 9, 3) := by decide +kernel
theorem dX1_add_13 : decode cX1_add 13 = .ok (.aload_n 0, 1) := by decide +kernel
theorem dX1_add_14 : decode cX1_add 14 = .ok (.getfield 26, 3) := by decide +kernel
theorem dX1_add_17 : decode cX1_add 17 = .ok (.iload_n 1, 1) := by decide +kernel
theorem dX1_add_18 : decode cX1_add 18 = .ok (.iastore, 1) := by decide +kernel
theorem dX1_add_19 : decode cX1_add 19 = .ok (.aload_n 0, 1) := by decide +kernel
theorem dX1_add_20 : decode cX1_add 20 = .ok (.dup, 1) := by decide +kernel
theorem dX1_add_21 : decode cX1_add 21 = .ok (.getfield 26, 3) := by decide +kernel
theorem dX1_add_24 : decode cX1_add 24 = .ok (.iconst 1, 1) := by decide +kernel
theorem dX1_add_25 : decode cX1_add 25 = .ok (.iadd, 1) := by decide +kernel
theorem dX1_add_26 : decode cX1_add 26 = .ok (.putfield 26, 3) := by decide +kernel
theorem dX1_add_29 : decode cX1_add 29 = .ok (.return_, 1) := by decide +kernel
theorem dX1_takeFrom_0 : decode cX1_takeFrom 0 = .ok (.aload_n 0, 1) := by decide +kernel
theorem dX1_takeFrom_1 : decode cX1_takeFrom 1 = .ok (.aload_n 1, 1) := by decide +kernel
theorem dX1_takeFrom_2 : decode cX1_takeFrom 2 = .ok (.getfield 26, 3) := by decide +kernel
theorem dX1_takeFrom_5 : decode cX1_takeFrom 5 = .ok (.putfield 26, 3) := by decide +kernel
theorem dX1_takeFrom_8 : decode cX1_takeFrom 8 = .ok (.aload_n 1, 1) := by decide +kernel
theorem dX1_takeFrom_9 : decode cX1_takeFrom 9 = .ok (.getfield 9, 3) := by decide +kernel
theorem dX1_takeFrom_12 : decode cX1_takeFrom 12 = .ok (.iconst 0, 1) := by decide +kernel
theorem dX1_takeFrom_13 : decode cX1_takeFrom 13 = .ok (.aload_n 0, 1) := by decide +kernel
theorem dX1_takeFrom_14 : decode cX1_takeFrom 14 = .ok (.getfield 9, 3) := by decide +kernel
theorem dX1_takeFrom_17 : decode cX1_takeFrom 17 = .ok (.iconst 0, 1) := by decide +kernel
theorem dX1_takeFrom_18 : decode cX1_takeFrom 18 = .ok (.aload_n 0, 1) := by decide +kernel
theorem dX1_takeFrom_19 : decode cX1_takeFrom 19 = .ok (.getfield 26, 3) := by decide +kernel
theorem dX1_takeFrom_22 : decode cX1_takeFrom 22 = .ok (.invokestatic 29, 3) := by decide +kernel
theorem dX1_takeFrom_25 : decode cX1_takeFrom 25 = .ok (.return_, 1) := by decide +kernel
theorem dX1_forget_0 : decode cX1_forget 0 = .ok (.aload_n 0, 1) := by decide +kernel
theorem dX1_forget_1 : decode cX1_forget 1 = .ok (.getfield 26, 3) := by decide +kernel
theorem dX1_forget_4 : decode cX1_forget 4 = .ok (.ifCond .le 7, 3) := by decide +kernel
theorem dX1_forget_7 : decode cX1_forget 7 = .ok (.iconst 1, 1) := by decide +kernel
theorem dX1_forget_8 : decode cX1_forget 8 = .ok (.goto 4, 3) := by decide +kernel
theorem dX1_forget_11 : decode cX1_forget 11 = .ok (.iconst 0, 1) := by decide +kernel
theorem dX1_forget_12 : decode cX1_forget 12 = .ok (.istore_n 1, 1) := by decide +kernel
theorem dX1_forget_13 : decode cX1_forget 13 = .ok (.aload_n 0, 1) := by decide +kernel
theorem dX1_forget_14 : decode cX1_forget 14 = .ok (.iconst 0, 1) := by decide +kernel
theorem dX1_forget_15 : decode cX1_forget 15 = .ok (.putfield 26, 3) := by decide +kernel
theorem dX1_forget_18 : decode cX1_forget 18 = .ok (.iload_n 1, 1) := by decide +kernel
theorem dX1_forget_19 : decode cX1_forget 19 = .ok (.ireturn, 1) := by decide +kernel
theorem dX1_gives_0 : decode cX1_gives 0 = .ok (.aload_n 0, 1) := by decide +kernel
theorem dX1_gives_1 : decode cX1_gives 1 = .ok (.getfield 15, 3) := by decide +kernel
theorem dX1_gives_4 : decode cX1_gives 4 = .ok (.iconst 0, 1) := by decide +kernel
theorem dX1_gives_5 : decode cX1_gives 5 = .ok (.aload_n 0, 1) := by decide +kernel
theorem dX1_gives_6 : decode cX1_gives 6 = .ok (.iload_n 1, 1) := by decide +kernel
theorem dX1_gives_7 : decode cX1_gives 7 = .ok (.iload_n 2, 1) := by decide +kernel
theorem dX1_gives_8 : decode cX1_gives 8 = .ok (.invokevirtual 35, 3) := by decide +kernel
theorem dX1_gives_11 : decode cX1_gives 11 = .ok (.iastore, 1) := by decide +kernel
theorem dX1_gives_12 : decode cX1_gives 12 = .ok (.iconst 0, 1) := by decide +kernel
theorem dX1_gives_13 : decode cX1_gives 13 = .ok (.istore 4, 2) := by decide +kernel
theorem dX1_gives_15 : decode cX1_gives 15 = .ok (.iconst 0, 1) := by decide +kernel
theorem dX1_gives_16 : decode cX1_gives 16 = .ok (.istore 5, 2) := by decide +kernel
theorem dX1_gives_18 : decode cX1_gives 18 = .ok (.iload 5, 2) := by decide +kernel
theorem dX1_gives_20 : decode cX1_gives 20 = .ok (.aload_n 0, 1) := by decide +kernel
theorem dX1_gives_21 : decode cX1_gives 21 = .ok (.getfield 26, 3) := by decide +kernel
theorem dX1_gives_24 : decode cX1_gives 24 = .ok (.if_icmp .ge 178, 3) := by decide +kernel
theorem dX1_gives_27 : decode cX1_gives 27 = .ok (.aload_n 0, 1) := by decide +kernel
theorem dX1_gives_28 : decode cX1_gives 28 = .ok (.getfield 9, 3) := by decide +kernel
theorem dX1_gives_31 : decode cX1_gives 31 = .ok (.iload 5, 2) := by decide +kernel
theorem dX1_gives_33 : decode cX1_gives 33 = .ok (.iaload, 1) := by decide +kernel
theorem dX1_gives_34 : decode cX1_gives 34 = .ok (.istore 6, 2) := by decide +kernel
theorem dX1_gives_36 : decode cX1_gives 36 = .ok (.iload 6, 2) := by decide +kernel
theorem dX1_gives_38 : decode cX1_gives 38 = .ok (.sipush 20000, 3) := by decide +kernel
theorem dX1_gives_41 : decode cX1_gives 41 = .ok (.if_icmp .ge 61, 3) := by decide +kernel
theorem dX1_gives_44 : decode cX1_gives 44 = .ok (.iload 4, 2) := by decide +kernel
theorem dX1_gives_46 : decode cX1_gives 46 = .ok (.bipush 60, 2) := by decide +kernel
theorem dX1_gives_48 : decode cX1_gives 48 = .ok (.if_icmp .ge 54, 3) := by decide +kernel
theorem dX1_gives_51 : decode cX1_gives 51 = .ok (.aload_n 0, 1) := by decide +kernel
theorem dX1_gives_52 : decode cX1_gives 52 = .ok (.getfield 15, 3) := by decide +kernel
theorem dX1_gives_55 : decode cX1_gives 55 = .ok (.iload 4, 2) := by decide +kernel
theorem dX1_gives_57 : decode cX1_gives 57 = .ok (.iload 6, 2) := by decide +kernel
theorem dX1_gives_59 : decode cX1_gives 59 = .ok (.sipush 10000, 3) := by decide +kernel
theorem dX1_gives_62 : decode cX1_gives 62 = .ok (.if_icmp .ge 8, 3) := by decide +kernel
theorem dX1_gives_65 : decode cX1_gives 65 = .ok (.iload 6, 2) := by decide +kernel
theorem dX1_gives_67 : decode cX1_gives 67 = .ok (.goto 28, 3) := by decide +kernel
theorem dX1_gives_70 : decode cX1_gives 70 = .ok (.iload 6, 2) := by decide +kernel
theorem dX1_gives_72 : decode cX1_gives 72 = .ok (.sipush 10000, 3) := by decide +kernel
theorem dX1_gives_75 : decode cX1_gives 75 = .ok (.if_icmp .ne 7, 3) := by decide +kernel
theorem dX1_gives_78 : decode cX1_gives 78 = .ok (.iload_n 1, 1) := by decide +kernel
theorem dX1_gives_79 : decode cX1_gives 79 = .ok (.goto 16, 3) := by decide +kernel
theorem dX1_gives_82 : decode cX1_gives 82 = .ok (.iload 6, 2) := by decide +kernel
theorem dX1_gives_84 : decode cX1_gives 84 = .ok (.sipush 10001, 3) := by decide +kernel
theorem dX1_gives_87 : decode cX1_gives 87 = .ok (.if_icmp .ne 7, 3) := by decide +kernel
theorem dX1_gives_90 : decode cX1_gives 90 = .ok (.iload_n 2, 1) := by decide +kernel
theorem dX1_gives_91 : decode cX1_gives 91 = .ok (.goto 4, 3) := by decide +kernel
theorem dX1_gives_94 : decode cX1_gives 94 = .ok (.iload_n 3, 1) := by decide +kernel
theorem dX1_gives_95 : decode cX1_gives 95 = .ok (.iastore, 1) := by decide +kernel
theorem dX1_gives_96 : decode cX1_gives 96 = .ok (.iinc 4 1, 3) := by decide +kernel
theorem dX1_gives_99 : decode cX1_gives 99 = .ok (.goto 97, 3) := by decide +kernel
theorem dX1_gives_102 : decode cX1_gives 102 = .ok (.iload 6, 2) := by decide +kernel
theorem dX1_gives_104 : decode cX1_gives 104 = .ok (.sipush 20033, 3) := by decide +kernel
theorem dX1_gives_107 : decode cX1_gives 107 = .ok (.if_icmp .ne 38, 3) := by decide +kernel
theorem dX1_gives_110 : decode cX1_gives 110 = .ok (.iload 4, 2) := by decide +kernel
theorem dX1_gives_112 : decode cX1_gives 112 = .ok (.iconst 1, 1) := by decide +kernel
theorem dX1_gives_113 : decode cX1_gives 113 = .ok (.if_icmp .lt 32, 3) := by decide +kernel
theorem dX1_gives_116 : decode cX1_gives 116 = .ok (.aload_n 0, 1) := by decide +kernel
theorem dX1_gives_117 : decode cX1_gives 117 = .ok (.getfield 15, 3) := by decide +kernel
theorem dX1_gives_120 : decode cX1_gives 120 = .ok (.iload 4, 2) := by decide +kernel
theorem dX1_gives_122 : decode cX1_gives 122 = .ok (.iconst 1, 1) := by decide +kernel
theorem dX1_gives_123 : decode cX1_gives 123 = .ok (.isub, 1) := by decide +kernel
theorem dX1_gives_124 : decode cX1_gives 124 = .ok (.aload_n 0, 1) := by decide +kernel
theorem dX1_gives_125 : decode cX1_gives 125 = .ok (.getfield 15, 3) := by decide +kernel
theorem dX1_gives_128 : decode cX1_gives 128 = .ok (.iload 4, 2) := by decide +kernel
theorem dX1_gives_130 : decode cX1_gives 130 = .ok (.iconst 1, 1) := by decide +kernel
theorem dX1_gives_131 : decode cX1_gives 131 = .ok (.isub, 1) := by decide +kernel
theorem dX1_gives_132 : decode cX1_gives 132 = .ok (.iaload, 1) := by decide +kernel
theorem dX1_gives_133 : decode cX1_gives 133 = .ok (.ifCond .ne 7, 3) := by decide +kernel
theorem dX1_gives_136 : decode cX1_gives 136 = .ok (.iconst 1, 1) := by decide +kernel
theorem dX1_gives_137 : decode cX1_gives 137 = .ok (.goto 4, 3) := by decide +kernel
theorem dX1_gives_140 : decode cX1_gives 140 = .ok (.iconst 0, 1) := by decide +kernel
theorem dX1_gives_141 : decode cX1_gives 141 = .ok (.iastore, 1) := by decide +kernel
theorem dX1_gives_142 : decode cX1_gives 142 = .ok (.goto 54, 3) := by decide +kernel
theorem dX1_gives_145 : decode cX1_gives 145 = .ok (.iload 6, 2) := by decide +kernel
theorem dX1_gives_147 : decode cX1_gives 147 = .ok (.sipush 20000, 3) := by decide +kernel
theorem dX1_gives_150 : decode cX1_gives 150 = .ok (.if_icmp .le 46, 3) := by decide +kernel
theorem dX1_gives_153 : decode cX1_gives 153 = .ok (.iload 4, 2) := by decide +kernel
theorem dX1_gives_155 : decode cX1_gives 155 = .ok (.iconst 2, 1) := by decide +kernel
theorem dX1_gives_156 : decode cX1_gives 156 = .ok (.if_icmp .lt 40, 3) := by decide +kernel
theorem dX1_gives_159 : decode cX1_gives 159 = .ok (.iinc 4 (-1), 3) := by decide +kernel
theorem dX1_gives_162 : decode cX1_gives 162 = .ok (.aload_n 0, 1) := by decide +kernel
theorem dX1_gives_163 : decode cX1_gives 163 = .ok (.getfield 15, 3) := by decide +kernel
theorem dX1_gives_166 : decode cX1_gives 166 = .ok (.iload 4, 2) := by decide +kernel
theorem dX1_gives_168 : decode cX1_gives 168 = .ok (.iconst 1, 1) := by decide +kernel
theorem dX1_gives_169 : decode cX1_gives 169 = .ok (.isub, 1) := by decide +kernel
theorem dX1_gives_170 : decode cX1_gives 170 = .ok (.aload_n 0, 1) := by decide +kernel
theorem dX1_gives_171 : decode cX1_gives 171 = .ok (.getfield 15, 3) := by decide +kernel
theorem dX1_gives_174 : decode cX1_gives 174 = .ok (.iload 4, 2) := by decide +kernel
theorem dX1_gives_176 : decode cX1_gives 176 = .ok (.iconst 1, 1) := by decide +kernel
theorem dX1_gives_177 : decode cX1_gives 177 = .ok (.isub, 1) := by decide +kernel
theorem dX1_gives_178 : decode cX1_gives 178 = .ok (.iaload, 1) := by decide +kernel
theorem dX1_gives_179 : decode cX1_gives 179 = .ok (.iload 6, 2) := by decide +kernel
theorem dX1_gives_181 : decode cX1_gives 181 = .ok (.sipush 20000, 3) := by decide +kernel
theorem dX1_gives_184 : decode cX1_gives 184 = .ok (.isub, 1) := by decide +kernel
theorem dX1_gives_185 : decode cX1_gives 185 = .ok (.aload_n 0, 1) := by decide +kernel
theorem dX1_gives_186 : decode cX1_gives 186 = .ok (.getfield 15, 3) := by decide +kernel
theorem dX1_gives_189 : decode cX1_gives 189 = .ok (.iload 4, 2) := by decide +kernel
theorem dX1_gives_191 : decode cX1_gives 191 = .ok (.iaload, 1) := by decide +kernel
theorem dX1_gives_192 : decode cX1_gives 192 = .ok (.invokestatic 39, 3) := by decide +kernel
theorem dX1_gives_195 : decode cX1_gives 195 = .ok (.iastore, 1) := by decide +kernel
theorem dX1_gives_196 : decode cX1_gives 196 = .ok (.iinc 5 1, 3) := by decide +kernel
theorem dX1_gives_199 : decode cX1_gives 199 = .ok (.goto (-181), 3) := by decide +kernel
theorem dX1_gives_202 : decode cX1_gives 202 = .ok (.iconst 0, 1) := by decide +kernel
theorem dX1_gives_203 : decode cX1_gives 203 = .ok (.aload_n 0, 1) := by decide +kernel
theorem dX1_gives_204 : decode cX1_gives 204 = .ok (.getfield 18, 3) := by decide +kernel
theorem dX1_gives_207 : decode cX1_gives 207 = .ok (.aload_n 0, 1) := by decide +kernel
theorem dX1_gives_208 : decode cX1_gives 208 = .ok (.getfield 15, 3) := by decide +kernel
theorem dX1_gives_211 : decode cX1_gives 211 = .ok (.iconst 0, 1) := by decide +kernel
theorem dX1_gives_212 : decode cX1_gives 212 = .ok (.iaload, 1) := by decide +kernel
theorem dX1_gives_213 : decode cX1_gives 213 = .ok (.invokestatic 43, 3) := by decide +kernel
theorem dX1_gives_216 : decode cX1_gives 216 = .ok (.invokestatic 48, 3) := by decide +kernel
theorem dX1_gives_219 : decode cX1_gives 219 = .ok (.ireturn, 1) := by decide +kernel
theorem dX1_withoutText_0 : decode cX1_withoutText 0 = .ok (.aload_n 0, 1) := by decide +kernel
theorem dX1_withoutText_1 : decode cX1_withoutText 1 = .ok (.getfield 22, 3) := by decide +kernel
theorem dX1_withoutText_4 : decode cX1_withoutText 4 = .ok (.ifCond .eq 26, 3) := by decide +kernel
theorem dX1_withoutText_7 : decode cX1_withoutText 7 = .ok (.iload_n 1, 1) := by decide +kernel
theorem dX1_withoutText_8 : decode cX1_withoutText 8 = .ok (.i2l, 1) := by decide +kernel
theorem dX1_withoutText_9 : decode cX1_withoutText 9 = .ok (.iload_n 2, 1) := by decide +kernel
theorem dX1_withoutText_10 : decode cX1_withoutText 10 = .ok (.i2l, 1) := by decide +kernel
theorem dX1_withoutText_11 : decode cX1_withoutText 11 = .ok (.lsub, 1) := by decide +kernel
theorem dX1_withoutText_12 : decode cX1_withoutText 12 = .ok (.invokestatic 51, 3) := by decide +kernel
theorem dX1_withoutText_15 : decode cX1_withoutText 15 = .ok (.ldc2_w 55, 3) := by decide +kernel
theorem dX1_withoutText_18 : decode cX1_withoutText 18 = .ok (.lcmp, 1) := by decide +kernel
theorem dX1_withoutText_19 : decode cX1_withoutText 19 = .ok (.ifCond .ge 7, 3) := by decide +kernel
theorem dX1_withoutText_22 : decode cX1_withoutText 22 = .ok (.iconst 1, 1) := by decide +kernel
theorem dX1_withoutText_23 : decode cX1_withoutText 23 = .ok (.goto 8, 3) := by decide +kernel
theorem dX1_withoutText_26 : decode cX1_withoutText 26 = .ok (.iconst 0, 1) := by decide +kernel
theorem dX1_withoutText_27 : decode cX1_withoutText 27 = .ok (.goto 4, 3) := by decide +kernel
theorem dX1_withoutText_30 : decode cX1_withoutText 30 = .ok (.iload_n 1, 1) := by decide +kernel
theorem dX1_withoutText_31 : decode cX1_withoutText 31 = .ok (.ireturn, 1) := by decide +kernel
theorem dX1_joined_0 : decode cX1_joined 0 = .ok (.iload_n 1, 1) := by decide +kernel
theorem dX1_joined_1 : decode cX1_joined 1 = .ok (.lookupswitch 188 #[(37, 176), (38, 105), (42, 160), (43, 152), (45, 156), (47, 164), (60, 119), (61, 130), (62, 141), (124, 91)], 91) := by decide +kernel
theorem dX1_joined_92 : decode cX1_joined 92 = .ok (.iload_n 0, 1) := by decide +kernel
theorem dX1_joined_93 : decode cX1_joined 93 = .ok (.ifCond .ne 7, 3) := by decide +kernel
theorem dX1_joined_96 : decode cX1_joined 96 = .ok (.iload_n 2, 1) := by decide +kernel
theorem dX1_joined_97 : decode cX1_joined 97 = .ok (.ifCond .eq 7, 3) := by decide +kernel
theorem dX1_joined_100 : decode cX1_joined 100 = .ok (.iconst 1, 1) := by decide +kernel
theorem dX1_joined_101 : decode cX1_joined 101 = .ok (.goto 4, 3) := by decide +kernel
theorem dX1_joined_104 : decode cX1_joined 104 = .ok (.iconst 0, 1) := by decide +kernel
theorem dX1_joined_105 : decode cX1_joined 105 = .ok (.ireturn, 1) := by decide +kernel
theorem dX1_joined_106 : decode cX1_joined 106 = .ok (.iload_n 0, 1) := by decide +kernel
theorem dX1_joined_107 : decode cX1_joined 107 = .ok (.ifCond .eq 11, 3) := by decide +kernel
theorem dX1_joined_110 : decode cX1_joined 110 = .ok (.iload_n 2, 1) := by decide +kernel
theorem dX1_joined_111 : decode cX1_joined 111 = .ok (.ifCond .eq 7, 3) := by decide +kernel
theorem dX1_joined_114 : decode cX1_joined 114 = .ok (.iconst 1, 1) := by decide +kernel
theorem dX1_joined_115 : decode cX1_joined 115 = .ok (.goto 4, 3) := by decide +kernel
theorem dX1_joined_118 : decode cX1_joined 118 = .ok (.iconst 0, 1) := by decide +kernel
theorem dX1_joined_119 : decode cX1_joined 119 = .ok (.ireturn, 1) := by decide +kernel
theorem dX1_joined_120 : decode cX1_joined 120 = .ok (.iload_n 0, 1) := by decide +kernel
theorem dX1_joined_121 : decode cX1_joined 121 = .ok (.iload_n 2, 1) := by decide +kernel
theorem dX1_joined_122 : decode cX1_joined 122 = .ok (.if_icmp .ge 7, 3) := by decide +kernel
theorem dX1_joined_125 : decode cX1_joined 125 = .ok (.iconst 1, 1) := by decide +kernel
theorem dX1_joined_126 : decode cX1_joined 126 = .ok (.goto 4, 3) := by decide +kernel
theorem dX1_joined_129 : decode cX1_joined 129 = .ok (.iconst 0, 1) := by decide +kernel
theorem dX1_joined_130 : decode cX1_joined 130 = .ok (.ireturn, 1) := by decide +kernel
theorem dX1_joined_131 : decode cX1_joined 131 = .ok (.iload_n 0, 1) := by decide +kernel
theorem dX1_joined_132 : decode cX1_joined 132 = .ok (.iload_n 2, 1) := by decide +kernel
theorem dX1_joined_133 : decode cX1_joined 133 = .ok (.if_icmp .ne 7, 3) := by decide +kernel
theorem dX1_joined_136 : decode cX1_joined 136 = .ok (.iconst 1, 1) := by decide +kernel
theorem dX1_joined_137 : decode cX1_joined 137 = .ok (.goto 4, 3) := by decide +kernel
theorem dX1_joined_140 : decode cX1_joined 140 = .ok (.iconst 0, 1) := by decide +kernel
theorem dX1_joined_141 : decode cX1_joined 141 = .ok (.ireturn, 1) := by decide +kernel
theorem dX1_joined_142 : decode cX1_joined 142 = .ok (.iload_n 0, 1) := by decide +kernel
theorem dX1_joined_143 : decode cX1_joined 143 = .ok (.iload_n 2, 1) := by decide +kernel
theorem dX1_joined_144 : decode cX1_joined 144 = .ok (.if_icmp .le 7, 3) := by decide +kernel
theorem dX1_joined_147 : decode cX1_joined 147 = .ok (.iconst 1, 1) := by decide +kernel
theorem dX1_joined_148 : decode cX1_joined 148 = .ok (.goto 4, 3) := by decide +kernel
theorem dX1_joined_151 : decode cX1_joined 151 = .ok (.iconst 0, 1) := by decide +kernel
theorem dX1_joined_152 : decode cX1_joined 152 = .ok (.ireturn, 1) := by decide +kernel
theorem dX1_joined_153 : decode cX1_joined 153 = .ok (.iload_n 0, 1) := by decide +kernel
theorem dX1_joined_154 : decode cX1_joined 154 = .ok (.iload_n 2, 1) := by decide +kernel
theorem dX1_joined_155 : decode cX1_joined 155 = .ok (.iadd, 1) := by decide +kernel
theorem dX1_joined_156 : decode cX1_joined 156 = .ok (.ireturn, 1) := by decide +kernel
theorem dX1_joined_157 : decode cX1_joined 157 = .ok (.iload_n 0, 1) := by decide +kernel
theorem dX1_joined_158 : decode cX1_joined 158 = .ok (.iload_n 2, 1) := by decide +kernel
theorem dX1_joined_159 : decode cX1_joined 159 = .ok (.isub, 1) := by decide +kernel
theorem dX1_joined_160 : decode cX1_joined 160 = .ok (.ireturn, 1) := by decide +kernel
theorem dX1_joined_161 : decode cX1_joined 161 = .ok (.iload_n 0, 1) := by decide +kernel
theorem dX1_joined_162 : decode cX1_joined 162 = .ok (.iload_n 2, 1) := by decide +kernel
theorem dX1_joined_163 : decode cX1_joined 163 = .ok (.imul, 1) := by decide +kernel
theorem dX1_joined_164 : decode cX1_joined 164 = .ok (.ireturn, 1) := by decide +kernel
theorem dX1_joined_165 : decode cX1_joined 165 = .ok (.iload_n 2, 1) := by decide +kernel
theorem dX1_joined_166 : decode cX1_joined 166 = .ok (.ifCond .ne 7, 3) := by decide +kernel
theorem dX1_joined_169 : decode cX1_joined 169 = .ok (.iconst 0, 1) := by decide +kernel
theorem dX1_joined_170 : decode cX1_joined 170 = .ok (.goto 6, 3) := by decide +kernel
theorem dX1_joined_173 : decode cX1_joined 173 = .ok (.iload_n 0, 1) := by decide +kernel
theorem dX1_joined_174 : decode cX1_joined 174 = .ok (.iload_n 2, 1) := by decide +kernel
theorem dX1_joined_175 : decode cX1_joined 175 = .ok (.idiv, 1) := by decide +kernel
theorem dX1_joined_176 : decode cX1_joined 176 = .ok (.ireturn, 1) := by decide +kernel
theorem dX1_joined_177 : decode cX1_joined 177 = .ok (.iload_n 2, 1) := by decide +kernel
theorem dX1_joined_178 : decode cX1_joined 178 = .ok (.ifCond .ne 7, 3) := by decide +kernel
theorem dX1_joined_181 : decode cX1_joined 181 = .ok (.iconst 0, 1) := by decide +kernel
theorem dX1_joined_182 : decode cX1_joined 182 = .ok (.goto 6, 3) := by decide +kernel
theorem dX1_joined_185 : decode cX1_joined 185 = .ok (.iload_n 0, 1) := by decide +kernel
theorem dX1_joined_186 : decode cX1_joined 186 = .ok (.iload_n 2, 1) := by decide +kernel
theorem dX1_joined_187 : decode cX1_joined 187 = .ok (.irem, 1) := by decide +kernel
theorem dX1_joined_188 : decode cX1_joined 188 = .ok (.ireturn, 1) := by decide +kernel
theorem dX1_joined_189 : decode cX1_joined 189 = .ok (.iconst 0, 1) := by decide +kernel
theorem dX1_joined_190 : decode cX1_joined 190 = .ok (.ireturn, 1) := by decide +kernel
theorem dX2_init_0 : decode cX2_init 0 = .ok (.aload_n 0, 1) := by decide +kernel
theorem dX2_init_1 : decode cX2_init 1 = .ok (.invokespecial 3, 3) := by decide +kernel
theorem dX2_init_4 : decode cX2_init 4 = .ok (.aload_n 0, 1) := by decide +kernel
theorem dX2_init_5 : decode cX2_init 5 = .ok (.new 9, 3) := by decide +kernel
theorem dX2_init_8 : decode cX2_init 8 = .ok (.dup, 1) := by decide +kernel
theorem dX2_init_9 : decode cX2_init 9 = .ok (.iconst 0, 1) := by decide +kernel
theorem dX2_init_10 : decode cX2_init 10 = .ok (.iconst 0, 1) := by decide +kernel
theorem dX2_init_11 : decode cX2_init 11 = .ok (.invokespecial 11, 3) := by decide +kernel
theorem dX2_init_14 : decode cX2_init 14 = .ok (.putfield 14, 3) := by decide +kernel
theorem dX2_init_17 : decode cX2_init 17 = .ok (.aload_n 0, 1) := by decide +kernel
theorem dX2_init_18 : decode cX2_init 18 = .ok (.bipush 60, 2) := by decide +kernel
theorem dX2_init_20 : decode cX2_init 20 = .ok (.newarray .int, 2) := by decide +kernel
theorem dX2_init_22 : decode cX2_init 22 = .ok (.putfield 20, 3) := by decide +kernel
theorem dX2_init_25 : decode cX2_init 25 = .ok (.return_, 1) := by decide +kernel
theorem dX2_read_0 : decode cX2_read 0 = .ok (.aload_n 0, 1) := by decide +kernel
theorem dX2_read_1 : decode cX2_read 1 = .ok (.iload_n 2, 1) := by decide +kernel
theorem dX2_read_2 : decode cX2_read 2 = .ok (.bipush 60, 2) := by decide +kernel
theorem dX2_read_4 : decode cX2_read 4 = .ok (.invokestatic 24, 3) := by decide +kernel
theorem dX2_read_7 : decode cX2_read 7 = .ok (.putfield 30, 3) := by decide +kernel
theorem dX2_read_10 : decode cX2_read 10 = .ok (.aload_n 1, 1) := by decide +kernel
theorem dX2_read_11 : decode cX2_read 11 = .ok (.iconst 0, 1) := by decide +kernel
theorem dX2_read_12 : decode cX2_read 12 = .ok (.aload_n 0, 1) := by decide +kernel
theorem dX2_read_13 : decode cX2_read 13 = .ok (.getfield 20, 3) := by decide +kernel
theorem dX2_read_16 : decode cX2_read 16 = .ok (.iconst 0, 1) := by decide +kernel
theorem dX2_read_17 : decode cX2_read 17 = .ok (.aload_n 0, 1) := by decide +kernel
theorem dX2_read_18 : decode cX2_read 18 = .ok (.getfield 30, 3) := by decide +kernel
theorem dX2_read_21 : decode cX2_read 21 = .ok (.invokestatic 34, 3) := by decide +kernel
theorem dX2_read_24 : decode cX2_read 24 = .ok (.aload_n 0, 1) := by decide +kernel
theorem dX2_read_25 : decode cX2_read 25 = .ok (.iconst 0, 1) := by decide +kernel
theorem dX2_read_26 : decode cX2_read 26 = .ok (.putfield 40, 3) := by decide +kernel
theorem dX2_read_29 : decode cX2_read 29 = .ok (.aload_n 0, 1) := by decide +kernel
theorem dX2_read_30 : decode cX2_read 30 = .ok (.iload_n 3, 1) := by decide +kernel
theorem dX2_read_31 : decode cX2_read 31 = .ok (.putfield 43, 3) := by decide +kernel
theorem dX2_read_34 : decode cX2_read 34 = .ok (.aload_n 0, 1) := by decide +kernel
theorem dX2_read_35 : decode cX2_read 35 = .ok (.iconst 0, 1) := by decide +kernel
theorem dX2_read_36 : decode cX2_read 36 = .ok (.putfield 46, 3) := by decide +kernel
theorem dX2_read_39 : decode cX2_read 39 = .ok (.aload_n 0, 1) := by decide +kernel
theorem dX2_read_40 : decode cX2_read 40 = .ok (.getfield 14, 3) := by decide +kernel
theorem dX2_read_43 : decode cX2_read 43 = .ok (.invokevirtual 50, 3) := by decide +kernel
theorem dX2_read_46 : decode cX2_read 46 = .ok (.pop, 1) := by decide +kernel
theorem dX2_read_47 : decode cX2_read 47 = .ok (.aload_n 0, 1) := by decide +kernel
theorem dX2_read_48 : decode cX2_read 48 = .ok (.iconst 0, 1) := by decide +kernel
theorem dX2_read_49 : decode cX2_read 49 = .ok (.iconst 0, 1) := by decide +kernel
theorem dX2_read_50 : decode cX2_read 50 = .ok (.invokevirtual 54, 3) := by decide +kernel
theorem dX2_read_53 : decode cX2_read 53 = .ok (.aload_n 0, 1) := by decide +kernel
theorem dX2_read_54 : decode cX2_read 54 = .ok (.getfield 46, 3) := by decide +kernel
theorem dX2_read_57 : decode cX2_read 57 = .ok (.ifCond .ne 14, 3) := by decide +kernel
theorem dX2_read_60 : decode cX2_read 60 = .ok (.aload_n 0, 1) := by decide +kernel
theorem dX2_read_61 : decode cX2_read 61 = .ok (.getfield 40, 3) := by decide +kernel
theorem dX2_read_64 : decode cX2_read 64 = .ok (.aload_n 0, 1) := by decide +kernel
theorem dX2_read_65 : decode cX2_read 65 = .ok (.getfield 30, 3) := by decide +kernel
theorem dX2_read_68 : decode cX2_read 68 = .ok (.if_icmp .ge 10, 3) := by decide +kernel
theorem dX2_read_71 : decode cX2_read 71 = .ok (.aload_n 0, 1) := by decide +kernel
theorem dX2_read_72 : decode cX2_read 72 = .ok (.getfield 40, 3) := by decide +kernel
theorem dX2_read_75 : decode cX2_read 75 = .ok (.goto 4, 3) := by decide +kernel
theorem dX2_read_78 : decode cX2_read 78 = .ok (.iconst (-1), 1) := by decide +kernel
theorem dX2_read_79 : decode cX2_read 79 = .ok (.ireturn, 1) := by decide +kernel
theorem dX2_next_0 : decode cX2_next 0 = .ok (.aload_n 0, 1) := by decide +kernel
theorem dX2_next_1 : decode cX2_next 1 = .ok (.getfield 40, 3) := by decide +kernel
theorem dX2_next_4 : decode cX2_next 4 = .ok (.aload_n 0, 1) := by decide +kernel
theorem dX2_next_5 : decode cX2_next 5 = .ok (.getfield 30, 3) := by decide +kernel
theorem dX2_next_8 : decode cX2_next 8 = .ok (.if_icmp .ge 15, 3) := by decide +kernel
theorem dX2_next_11 : decode cX2_next 11 = .ok (.aload_n 0, 1) := by decide +kernel
theorem dX2_next_12 : decode cX2_next 12 = .ok (.getfield 20, 3) := by decide +kernel
theorem dX2_next_15 : decode cX2_next 15 = .ok (.aload_n 0, 1) := by decide +kernel
theorem dX2_next_16 : decode cX2_next 16 = .ok (.getfield 40, 3) := by decide +kernel
theorem dX2_next_19 : decode cX2_next 19 = .ok (.iaload, 1) := by decide +kernel
theorem dX2_next_20 : decode cX2_next 20 = .ok (.goto 4, 3) := by decide +kernel
theorem dX2_next_23 : decode cX2_next 23 = .ok (.iconst (-1), 1) := by decide +kernel
theorem dX2_next_24 : decode cX2_next 24 = .ok (.ireturn, 1) := by decide +kernel
theorem dX2_readLevel_0 : decode cX2_readLevel 0 = .ok (.iload_n 1, 1) := by decide +kernel
theorem dX2_readLevel_1 : decode cX2_readLevel 1 = .ok (.iconst 5, 1) := by decide +kernel
theorem dX2_readLevel_2 : decode cX2_readLevel 2 = .ok (.if_icmp .lt 9, 3) := by decide +kernel
theorem dX2_readLevel_5 : decode cX2_readLevel 5 = .ok (.aload_n 0, 1) := by decide +kernel
theorem dX2_readLevel_6 : decode cX2_readLevel 6 = .ok (.iload_n 2, 1) := by decide +kernel
theorem dX2_readLevel_7 : decode cX2_readLevel 7 = .ok (.invokevirtual 58, 3) := by decide +kernel
theorem dX2_readLevel_10 : decode cX2_readLevel 10 = .ok (.return_, 1) := by decide +kernel
theorem dX2_readLevel_11 : decode cX2_readLevel 11 = .ok (.aload_n 0, 1) := by decide +kernel
theorem dX2_readLevel_12 : decode cX2_readLevel 12 = .ok (.iload_n 1, 1) := by decide +kernel
theorem dX2_readLevel_13 : decode cX2_readLevel 13 = .ok (.iconst 1, 1) := by decide +kernel
theorem dX2_readLevel_14 : decode cX2_readLevel 14 = .ok (.iadd, 1) := by decide +kernel
theorem dX2_readLevel_15 : decode cX2_readLevel 15 = .ok (.iload_n 2, 1) := by decide +kernel
theorem dX2_readLevel_16 : decode cX2_readLevel 16 = .ok (.invokevirtual 54, 3) := by decide +kernel
theorem dX2_readLevel_19 : decode cX2_readLevel 19 = .ok (.iload_n 1, 1) := by decide +kernel
theorem dX2_readLevel_20 : decode cX2_readLevel 20 = .ok (.iconst 2, 1) := by decide +kernel
theorem dX2_readLevel_21 : decode cX2_readLevel 21 = .ok (.if_icmp .ne 7, 3) := by decide +kernel
theorem dX2_readLevel_24 : decode cX2_readLevel 24 = .ok (.iconst 1, 1) := by decide +kernel
theorem dX2_readLevel_25 : decode cX2_readLevel 25 = .ok (.goto 5, 3) := by decide +kernel
theorem dX2_readLevel_28 : decode cX2_readLevel 28 = .ok (.bipush 60, 2) := by decide +kernel
theorem dX2_readLevel_30 : decode cX2_readLevel 30 = .ok (.istore_n 3, 1) := by decide +kernel
theorem dX2_readLevel_31 : decode cX2_readLevel 31 = .ok (.iconst 0, 1) := by decide +kernel
theorem dX2_readLevel_32 : decode cX2_readLevel 32 = .ok (.istore 4, 2) := by decide +kernel
theorem dX2_readLevel_34 : decode cX2_readLevel 34 = .ok (.iload 4, 2) := by decide +kernel
theorem dX2_readLevel_36 : decode cX2_readLevel 36 = .ok (.iload_n 3, 1) := by decide +kernel
theorem dX2_readLevel_37 : decode cX2_readLevel 37 = .ok (.if_icmp .ge 64, 3) := by decide +kernel
theorem dX2_readLevel_40 : decode cX2_readLevel 40 = .ok (.aload_n 0, 1) := by decide +kernel
theorem dX2_readLevel_41 : decode cX2_readLevel 41 = .ok (.getfield 46, 3) := by decide +kernel
theorem dX2_readLevel_44 : decode cX2_readLevel 44 = .ok (.ifCond .ne 57, 3) := by decide +kernel
theorem dX2_readLevel_47 : decode cX2_readLevel 47 = .ok (.aload_n 0, 1) := by decide +kernel
theorem dX2_readLevel_48 : decode cX2_readLevel 48 = .ok (.invokevirtual 62, 3) := by decide +kernel
theorem dX2_readLevel_51 : decode cX2_readLevel 51 = .ok (.invokestatic 66, 3) := by decide +kernel
theorem dX2_readLevel_54 : decode cX2_readLevel 54 = .ok (.iload_n 1, 1) := by decide +kernel
theorem dX2_readLevel_55 : decode cX2_readLevel 55 = .ok (.if_icmp .ne 46, 3) := by decide +kernel
theorem dX2_readLevel_58 : decode cX2_readLevel 58 = .ok (.aload_n 0, 1) := by decide +kernel
theorem dX2_readLevel_59 : decode cX2_readLevel 59 = .ok (.invokevirtual 62, 3) := by decide +kernel
theorem dX2_readLevel_62 : decode cX2_readLevel 62 = .ok (.istore 5, 2) := by decide +kernel
theorem dX2_readLevel_64 : decode cX2_readLevel 64 = .ok (.aload_n 0, 1) := by decide +kernel
theorem dX2_readLevel_65 : decode cX2_readLevel 65 = .ok (.dup, 1) := by decide +kernel
theorem dX2_readLevel_66 : decode cX2_readLevel 66 = .ok (.getfield 40, 3) := by decide +kernel
theorem dX2_readLevel_69 : decode cX2_readLevel 69 = .ok (.iconst 1, 1) := by decide +kernel
theorem dX2_readLevel_70 : decode cX2_readLevel 70 = .ok (.iadd, 1) := by decide +kernel
theorem dX2_readLevel_71 : decode cX2_readLevel 71 = .ok (.putfield 40, 3) := by decide +kernel
theorem dX2_readLevel_74 : decode cX2_readLevel 74 = .ok (.aload_n 0, 1) := by decide +kernel
theorem dX2_readLevel_75 : decode cX2_readLevel 75 = .ok (.iload_n 1, 1) := by decide +kernel
theorem dX2_readLevel_76 : decode cX2_readLevel 76 = .ok (.iconst 1, 1) := by decide +kernel
theorem dX2_readLevel_77 : decode cX2_readLevel 77 = .ok (.iadd, 1) := by decide +kernel
theorem dX2_readLevel_78 : decode cX2_readLevel 78 = .ok (.iload_n 2, 1) := by decide +kernel
theorem dX2_readLevel_79 : decode cX2_readLevel 79 = .ok (.invokevirtual 54, 3) := by decide +kernel
theorem dX2_readLevel_82 : decode cX2_readLevel 82 = .ok (.aload_n 0, 1) := by decide +kernel
theorem dX2_readLevel_83 : decode cX2_readLevel 83 = .ok (.getfield 14, 3) := by decide +kernel
theorem dX2_readLevel_86 : decode cX2_readLevel 86 = .ok (.sipush 20000, 3) := by decide +kernel
theorem dX2_readLevel_89 : decode cX2_readLevel 89 = .ok (.iload 5, 2) := by decide +kernel
theorem dX2_readLevel_91 : decode cX2_readLevel 91 = .ok (.iadd, 1) := by decide +kernel
theorem dX2_readLevel_92 : decode cX2_readLevel 92 = .ok (.invokevirtual 70, 3) := by decide +kernel
theorem dX2_readLevel_95 : decode cX2_readLevel 95 = .ok (.iinc 4 1, 3) := by decide +kernel
theorem dX2_readLevel_98 : decode cX2_readLevel 98 = .ok (.goto (-64), 3) := by decide +kernel
theorem dX2_readLevel_101 : decode cX2_readLevel 101 = .ok (.return_, 1) := by decide +kernel
theorem dX2_levelOf_0 : decode cX2_levelOf 0 = .ok (.iload_n 0, 1) := by decide +kernel
theorem dX2_levelOf_1 : decode cX2_levelOf 1 = .ok (.lookupswitch 101 #[(37, 99), (38, 93), (42, 99), (43, 97), (45, 97), (47, 99), (60, 95), (61, 95), (62, 95), (124, 91)], 91) := by decide +kernel
theorem dX2_levelOf_92 : decode cX2_levelOf 92 = .ok (.iconst 0, 1) := by decide +kernel
theorem dX2_levelOf_93 : decode cX2_levelOf 93 = .ok (.ireturn, 1) := by decide +kernel
theorem dX2_levelOf_94 : decode cX2_levelOf 94 = .ok (.iconst 1, 1) := by decide +kernel
theorem dX2_levelOf_95 : decode cX2_levelOf 95 = .ok (.ireturn, 1) := by decide +kernel
theorem dX2_levelOf_96 : decode cX2_levelOf 96 = .ok (.iconst 2, 1) := by decide +kernel
theorem dX2_levelOf_97 : decode cX2_levelOf 97 = .ok (.ireturn, 1) := by decide +kernel
theorem dX2_levelOf_98 : decode cX2_levelOf 98 = .ok (.iconst 3, 1) := by decide +kernel
theorem dX2_levelOf_99 : decode cX2_levelOf 99 = .ok (.ireturn, 1) := by decide +kernel
theorem dX2_levelOf_100 : decode cX2_levelOf 100 = .ok (.iconst 4, 1) := by decide +kernel
theorem dX2_levelOf_101 : decode cX2_levelOf 101 = .ok (.ireturn, 1) := by decide +kernel
theorem dX2_levelOf_102 : decode cX2_levelOf 102 = .ok (.iconst (-1), 1) := by decide +kernel
theorem dX2_levelOf_103 : decode cX2_levelOf 103 = .ok (.ireturn, 1) := by decide +kernel
theorem dX2_readQ_0 : decode cX2_readQ 0 = .ok (.aload_n 0, 1) := by decide +kernel
theorem dX2_readQ_1 : decode cX2_readQ 1 = .ok (.invokevirtual 62, 3) := by decide +kernel
theorem dX2_readQ_4 : decode cX2_readQ 4 = .ok (.istore_n 2, 1) := by decide +kernel
theorem dX2_readQ_5 : decode cX2_readQ 5 = .ok (.aload_n 0, 1) := by decide +kernel
theorem dX2_readQ_6 : decode cX2_readQ 6 = .ok (.iload_n 2, 1) := by decide +kernel
theorem dX2_readQ_7 : decode cX2_readQ 7 = .ok (.invokevirtual 73, 3) := by decide +kernel
theorem dX2_readQ_10 : decode cX2_readQ 10 = .ok (.istore_n 3, 1) := by decide +kernel
theorem dX2_readQ_11 : decode cX2_readQ 11 = .ok (.iload_n 2, 1) := by decide +kernel
theorem dX2_readQ_12 : decode cX2_readQ 12 = .ok (.invokestatic 76, 3) := by decide +kernel
theorem dX2_readQ_15 : decode cX2_readQ 15 = .ok (.ifCond .eq 10, 3) := by decide +kernel
theorem dX2_readQ_18 : decode cX2_readQ 18 = .ok (.aload_n 0, 1) := by decide +kernel
theorem dX2_readQ_19 : decode cX2_readQ 19 = .ok (.invokevirtual 80, 3) := by decide +kernel
theorem dX2_readQ_22 : decode cX2_readQ 22 = .ok (.goto 114, 3) := by decide +kernel
theorem dX2_readQ_25 : decode cX2_readQ 25 = .ok (.iload_n 3, 1) := by decide +kernel
theorem dX2_readQ_26 : decode cX2_readQ 26 = .ok (.ifCond .lt 28, 3) := by decide +kernel
theorem dX2_readQ_29 : decode cX2_readQ 29 = .ok (.aload_n 0, 1) := by decide +kernel
theorem dX2_readQ_30 : decode cX2_readQ 30 = .ok (.dup, 1) := by decide +kernel
theorem dX2_readQ_31 : decode cX2_readQ 31 = .ok (.getfield 40, 3) := by decide +kernel
theorem dX2_readQ_34 : decode cX2_readQ 34 = .ok (.iconst 1, 1) := by decide +kernel
theorem dX2_readQ_35 : decode cX2_readQ 35 = .ok (.iadd, 1) := by decide +kernel
theorem dX2_readQ_36 : decode cX2_readQ 36 = .ok (.putfield 40, 3) := by decide +kernel
theorem dX2_readQ_39 : decode cX2_readQ 39 = .ok (.aload_n 0, 1) := by decide +kernel
theorem dX2_readQ_40 : decode cX2_readQ 40 = .ok (.getfield 14, 3) := by decide +kernel
theorem dX2_readQ_43 : decode cX2_readQ 43 = .ok (.sipush 10000, 3) := by decide +kernel
theorem dX2_readQ_46 : decode cX2_readQ 46 = .ok (.iload_n 3, 1) := by decide +kernel
theorem dX2_readQ_47 : decode cX2_readQ 47 = .ok (.iadd, 1) := by decide +kernel
theorem dX2_readQ_48 : decode cX2_readQ 48 = .ok (.invokevirtual 70, 3) := by decide +kernel
theorem dX2_readQ_51 : decode cX2_readQ 51 = .ok (.goto 85, 3) := by decide +kernel
theorem dX2_readQ_54 : decode cX2_readQ 54 = .ok (.iload_n 2, 1) := by decide +kernel
theorem dX2_readQ_55 : decode cX2_readQ 55 = .ok (.bipush 33, 2) := by decide +kernel
theorem dX2_readQ_57 : decode cX2_readQ 57 = .ok (.if_icmp .ne 38, 3) := by decide +kernel
theorem dX2_readQ_60 : decode cX2_readQ 60 = .ok (.iload_n 1, 1) := by decide +kernel
theorem dX2_readQ_61 : decode cX2_readQ 61 = .ok (.iconst 5, 1) := by decide +kernel
theorem dX2_readQ_62 : decode cX2_readQ 62 = .ok (.if_icmp .ge 33, 3) := by decide +kernel
theorem dX2_readQ_65 : decode cX2_readQ 65 = .ok (.aload_n 0, 1) := by decide +kernel
theorem dX2_readQ_66 : decode cX2_readQ 66 = .ok (.dup, 1) := by decide +kernel
theorem dX2_readQ_67 : decode cX2_readQ 67 = .ok (.getfield 40, 3) := by decide +kernel
theorem dX2_readQ_70 : decode cX2_readQ 70 = .ok (.iconst 1, 1) := by decide +kernel
theorem dX2_readQ_71 : decode cX2_readQ 71 = .ok (.iadd, 1) := by decide +kernel
theorem dX2_readQ_72 : decode cX2_readQ 72 = .ok (.putfield 40, 3) := by decide +kernel
theorem dX2_readQ_75 : decode cX2_readQ 75 = .ok (.aload_n 0, 1) := by decide +kernel
theorem dX2_readQ_76 : decode cX2_readQ 76 = .ok (.iload_n 1, 1) := by decide +kernel
theorem dX2_readQ_77 : decode cX2_readQ 77 = .ok (.iconst 1, 1) := by decide +kernel
theorem dX2_readQ_78 : decode cX2_readQ 78 = .ok (.iadd, 1) := by decide +kernel
theorem dX2_readQ_79 : decode cX2_readQ 79 = .ok (.invokevirtual 58, 3) := by decide +kernel
theorem dX2_readQ_82 : decode cX2_readQ 82 = .ok (.aload_n 0, 1) := by decide +kernel
theorem dX2_readQ_83 : decode cX2_readQ 83 = .ok (.getfield 14, 3) := by decide +kernel
theorem dX2_readQ_86 : decode cX2_readQ 86 = .ok (.sipush 20033, 3) := by decide +kernel
theorem dX2_readQ_89 : decode cX2_readQ 89 = .ok (.invokevirtual 70, 3) := by decide +kernel
theorem dX2_readQ_92 : decode cX2_readQ 92 = .ok (.goto 44, 3) := by decide +kernel
theorem dX2_readQ_95 : decode cX2_readQ 95 = .ok (.iload_n 2, 1) := by decide +kernel
theorem dX2_readQ_96 : decode cX2_readQ 96 = .ok (.bipush 40, 2) := by decide +kernel
theorem dX2_readQ_98 : decode cX2_readQ 98 = .ok (.if_icmp .ne 33, 3) := by decide +kernel
theorem dX2_readQ_101 : decode cX2_readQ 101 = .ok (.iload_n 1, 1) := by decide +kernel
theorem dX2_readQ_102 : decode cX2_readQ 102 = .ok (.iconst 5, 1) := by decide +kernel
theorem dX2_readQ_103 : decode cX2_readQ 103 = .ok (.if_icmp .ge 28, 3) := by decide +kernel
theorem dX2_readQ_106 : decode cX2_readQ 106 = .ok (.aload_n 0, 1) := by decide +kernel
theorem dX2_readQ_107 : decode cX2_readQ 107 = .ok (.dup, 1) := by decide +kernel
theorem dX2_readQ_108 : decode cX2_readQ 108 = .ok (.getfield 40, 3) := by decide +kernel
theorem dX2_readQ_111 : decode cX2_readQ 111 = .ok (.iconst 1, 1) := by decide +kernel
theorem dX2_readQ_112 : decode cX2_readQ 112 = .ok (.iadd, 1) := by decide +kernel
theorem dX2_readQ_113 : decode cX2_readQ 113 = .ok (.putfield 40, 3) := by decide +kernel
theorem dX2_readQ_116 : decode cX2_readQ 116 = .ok (.aload_n 0, 1) := by decide +kernel
theorem dX2_readQ_117 : decode cX2_readQ 117 = .ok (.iconst 0, 1) := by decide +kernel
theorem dX2_readQ_118 : decode cX2_readQ 118 = .ok (.iload_n 1, 1) := by decide +kernel
theorem dX2_readQ_119 : decode cX2_readQ 119 = .ok (.iconst 1, 1) := by decide +kernel
theorem dX2_readQ_120 : decode cX2_readQ 120 = .ok (.iadd, 1) := by decide +kernel
theorem dX2_readQ_121 : decode cX2_readQ 121 = .ok (.invokevirtual 54, 3) := by decide +kernel
theorem dX2_readQ_124 : decode cX2_readQ 124 = .ok (.aload_n 0, 1) := by decide +kernel
theorem dX2_readQ_125 : decode cX2_readQ 125 = .ok (.invokevirtual 83, 3) := by decide +kernel
theorem dX2_readQ_128 : decode cX2_readQ 128 = .ok (.goto 8, 3) := by decide +kernel
theorem dX2_readQ_131 : decode cX2_readQ 131 = .ok (.aload_n 0, 1) := by decide +kernel
theorem dX2_readQ_132 : decode cX2_readQ 132 = .ok (.iconst 1, 1) := by decide +kernel
theorem dX2_readQ_133 : decode cX2_readQ 133 = .ok (.putfield 46, 3) := by decide +kernel
theorem dX2_readQ_136 : decode cX2_readQ 136 = .ok (.return_, 1) := by decide +kernel
theorem dX2_readClosing_0 : decode cX2_readClosing 0 = .ok (.aload_n 0, 1) := by decide +kernel
theorem dX2_readClosing_1 : decode cX2_readClosing 1 = .ok (.getfield 46, 3) := by decide +kernel
theorem dX2_readClosing_4 : decode cX2_readClosing 4 = .ok (.ifCond .ne 25, 3) := by decide +kernel
theorem dX2_readClosing_7 : decode cX2_readClosing 7 = .ok (.aload_n 0, 1) := by decide +kernel
theorem dX2_readClosing_8 : decode cX2_readClosing 8 = .ok (.invokevirtual 62, 3) := by decide +kernel
theorem dX2_readClosing_11 : decode cX2_readClosing 11 = .ok (.bipush 41, 2) := by decide +kernel
theorem dX2_readClosing_13 : decode cX2_readClosing 13 = .ok (.if_icmp .ne 16, 3) := by decide +kernel
theorem dX2_readClosing_16 : decode cX2_readClosing 16 = .ok (.aload_n 0, 1) := by decide +kernel
theorem dX2_readClosing_17 : decode cX2_readClosing 17 = .ok (.dup, 1) := by decide +kernel
theorem dX2_readClosing_18 : decode cX2_readClosing 18 = .ok (.getfield 40, 3) := by decide +kernel
theorem dX2_readClosing_21 : decode cX2_readClosing 21 = .ok (.iconst 1, 1) := by decide +kernel
theorem dX2_readClosing_22 : decode cX2_readClosing 22 = .ok (.iadd, 1) := by decide +kernel
theorem dX2_readClosing_23 : decode cX2_readClosing 23 = .ok (.putfield 40, 3) := by decide +kernel
theorem dX2_readClosing_26 : decode cX2_readClosing 26 = .ok (.goto 8, 3) := by decide +kernel
theorem dX2_readClosing_29 : decode cX2_readClosing 29 = .ok (.aload_n 0, 1) := by decide +kernel
theorem dX2_readClosing_30 : decode cX2_readClosing 30 = .ok (.iconst 1, 1) := by decide +kernel
theorem dX2_readClosing_31 : decode cX2_readClosing 31 = .ok (.putfield 46, 3) := by decide +kernel
theorem dX2_readClosing_34 : decode cX2_readClosing 34 = .ok (.return_, 1) := by decide +kernel
theorem dX2_readNumber_0 : decode cX2_readNumber 0 = .ok (.iconst 0, 1) := by decide +kernel
theorem dX2_readNumber_1 : decode cX2_readNumber 1 = .ok (.istore_n 1, 1) := by decide +kernel
theorem dX2_readNumber_2 : decode cX2_readNumber 2 = .ok (.iconst 0, 1) := by decide +kernel
theorem dX2_readNumber_3 : decode cX2_readNumber 3 = .ok (.istore_n 2, 1) := by decide +kernel
theorem dX2_readNumber_4 : decode cX2_readNumber 4 = .ok (.iload_n 2, 1) := by decide +kernel
theorem dX2_readNumber_5 : decode cX2_readNumber 5 = .ok (.iconst 4, 1) := by decide +kernel
theorem dX2_readNumber_6 : decode cX2_readNumber 6 = .ok (.if_icmp .ge 42, 3) := by decide +kernel
theorem dX2_readNumber_9 : decode cX2_readNumber 9 = .ok (.aload_n 0, 1) := by decide +kernel
theorem dX2_readNumber_10 : decode cX2_readNumber 10 = .ok (.invokevirtual 62, 3) := by decide +kernel
theorem dX2_readNumber_13 : decode cX2_readNumber 13 = .ok (.invokestatic 76, 3) := by decide +kernel
theorem dX2_readNumber_16 : decode cX2_readNumber 16 = .ok (.ifCond .eq 32, 3) := by decide +kernel
theorem dX2_readNumber_19 : decode cX2_readNumber 19 = .ok (.iload_n 1, 1) := by decide +kernel
theorem dX2_readNumber_20 : decode cX2_readNumber 20 = .ok (.bipush 10, 2) := by decide +kernel
theorem dX2_readNumber_22 : decode cX2_readNumber 22 = .ok (.imul, 1) := by decide +kernel
theorem dX2_readNumber_23 : decode cX2_readNumber 23 = .ok (.aload_n 0, 1) := by decide +kernel
theorem dX2_readNumber_24 : decode cX2_readNumber 24 = .ok (.invokevirtual 62, 3) := by decide +kernel
theorem dX2_readNumber_27 : decode cX2_readNumber 27 = .ok (.iadd, 1) := by decide +kernel
theorem dX2_readNumber_28 : decode cX2_readNumber 28 = .ok (.bipush 48, 2) := by decide +kernel
theorem dX2_readNumber_30 : decode cX2_readNumber 30 = .ok (.isub, 1) := by decide +kernel
theorem dX2_readNumber_31 : decode cX2_readNumber 31 = .ok (.istore_n 1, 1) := by decide +kernel
theorem dX2_readNumber_32 : decode cX2_readNumber 32 = .ok (.aload_n 0, 1) := by decide +kernel
theorem dX2_readNumber_33 : decode cX2_readNumber 33 = .ok (.dup, 1) := by decide +kernel
theorem dX2_readNumber_34 : decode cX2_readNumber 34 = .ok (.getfield 40, 3) := by decide +kernel
theorem dX2_readNumber_37 : decode cX2_readNumber 37 = .ok (.iconst 1, 1) := by decide +kernel
theorem dX2_readNumber_38 : decode cX2_readNumber 38 = .ok (.iadd, 1) := by decide +kernel
theorem dX2_readNumber_39 : decode cX2_readNumber 39 = .ok (.putfield 40, 3) := by decide +kernel
theorem dX2_readNumber_42 : decode cX2_readNumber 42 = .ok (.iinc 2 1, 3) := by decide +kernel
theorem dX2_readNumber_45 : decode cX2_readNumber 45 = .ok (.goto (-41), 3) := by decide +kernel
theorem dX2_readNumber_48 : decode cX2_readNumber 48 = .ok (.aload_n 0, 1) := by decide +kernel
theorem dX2_readNumber_49 : decode cX2_readNumber 49 = .ok (.getfield 14, 3) := by decide +kernel
theorem dX2_readNumber_52 : decode cX2_readNumber 52 = .ok (.iload_n 1, 1) := by decide +kernel
theorem dX2_readNumber_53 : decode cX2_readNumber 53 = .ok (.invokevirtual 70, 3) := by decide +kernel
theorem dX2_readNumber_56 : decode cX2_readNumber 56 = .ok (.return_, 1) := by decide +kernel
theorem dX2_isDigit_0 : decode cX2_isDigit 0 = .ok (.iload_n 0, 1) := by decide +kernel
theorem dX2_isDigit_1 : decode cX2_isDigit 1 = .ok (.bipush 48, 2) := by decide +kernel
theorem dX2_isDigit_3 : decode cX2_isDigit 3 = .ok (.if_icmp .lt 13, 3) := by decide +kernel
theorem dX2_isDigit_6 : decode cX2_isDigit 6 = .ok (.iload_n 0, 1) := by decide +kernel
theorem dX2_isDigit_7 : decode cX2_isDigit 7 = .ok (.bipush 57, 2) := by decide +kernel
theorem dX2_isDigit_9 : decode cX2_isDigit 9 = .ok (.if_icmp .gt 7, 3) := by decide +kernel
theorem dX2_isDigit_12 : decode cX2_isDigit 12 = .ok (.iconst 1, 1) := by decide +kernel
theorem dX2_isDigit_13 : decode cX2_isDigit 13 = .ok (.goto 4, 3) := by decide +kernel
theorem dX2_isDigit_16 : decode cX2_isDigit 16 = .ok (.iconst 0, 1) := by decide +kernel
theorem dX2_isDigit_17 : decode cX2_isDigit 17 = .ok (.ireturn, 1) := by decide +kernel
theorem dX2_nameOf_0 : decode cX2_nameOf 0 = .ok (.iconst 0, 1) := by decide +kernel
theorem dX2_nameOf_1 : decode cX2_nameOf 1 = .ok (.istore_n 2, 1) := by decide +kernel
theorem dX2_nameOf_2 : decode cX2_nameOf 2 = .ok (.iload_n 2, 1) := by decide +kernel
theorem dX2_nameOf_3 : decode cX2_nameOf 3 = .ok (.iconst 3, 1) := by decide +kernel
theorem dX2_nameOf_4 : decode cX2_nameOf 4 = .ok (.if_icmp .ge 27, 3) := by decide +kernel
theorem dX2_nameOf_7 : decode cX2_nameOf 7 = .ok (.getstatic 86, 3) := by decide +kernel
theorem dX2_nameOf_10 : decode cX2_nameOf 10 = .ok (.aload_n 0, 1) := by decide +kernel
theorem dX2_nameOf_11 : decode cX2_nameOf 11 = .ok (.getfield 43, 3) := by decide +kernel
theorem dX2_nameOf_14 : decode cX2_nameOf 14 = .ok (.iconst 3, 1) := by decide +kernel
theorem dX2_nameOf_15 : decode cX2_nameOf 15 = .ok (.imul, 1) := by decide +kernel
theorem dX2_nameOf_16 : decode cX2_nameOf 16 = .ok (.iload_n 2, 1) := by decide +kernel
theorem dX2_nameOf_17 : decode cX2_nameOf 17 = .ok (.iadd, 1) := by decide +kernel
theorem dX2_nameOf_18 : decode cX2_nameOf 18 = .ok (.caload, 1) := by decide +kernel
theorem dX2_nameOf_19 : decode cX2_nameOf 19 = .ok (.iload_n 1, 1) := by decide +kernel
theorem dX2_nameOf_20 : decode cX2_nameOf 20 = .ok (.if_icmp .ne 5, 3) := by decide +kernel
theorem dX2_nameOf_23 : decode cX2_nameOf 23 = .ok (.iload_n 2, 1) := by decide +kernel
theorem dX2_nameOf_24 : decode cX2_nameOf 24 = .ok (.ireturn, 1) := by decide +kernel
theorem dX2_nameOf_25 : decode cX2_nameOf 25 = .ok (.iinc 2 1, 3) := by decide +kernel
theorem dX2_nameOf_28 : decode cX2_nameOf 28 = .ok (.goto (-26), 3) := by decide +kernel
theorem dX2_nameOf_31 : decode cX2_nameOf 31 = .ok (.iconst (-1), 1) := by decide +kernel
theorem dX2_nameOf_32 : decode cX2_nameOf 32 = .ok (.ireturn, 1) := by decide +kernel
theorem dX3_init_0 : decode cX3_init 0 = .ok (.aload_n 0, 1) := by decide +kernel
theorem dX3_init_1 : decode cX3_init 1 = .ok (.invokespecial 3, 3) := by decide +kernel
theorem dX3_init_4 : decode cX3_init 4 = .ok (.aload_n 0, 1) := by decide +kernel
theorem dX3_init_5 : decode cX3_init 5 = .ok (.bipush 24, 2) := by decide +kernel
theorem dX3_init_7 : decode cX3_init 7 = .ok (.newarray .int, 2) := by decide +kernel
theorem dX3_init_9 : decode cX3_init 9 = .ok (.putfield 9, 3) := by decide +kernel
theorem dX3_init_12 : decode cX3_init 12 = .ok (.return_, 1) := by decide +kernel
theorem dX3_isMissing_0 : decode cX3_isMissing 0 = .ok (.aload_n 0, 1) := by decide +kernel
theorem dX3_isMissing_1 : decode cX3_isMissing 1 = .ok (.getfield 15, 3) := by decide +kernel
theorem dX3_isMissing_4 : decode cX3_isMissing 4 = .ok (.ifCond .ne 7, 3) := by decide +kernel
theorem dX3_isMissing_7 : decode cX3_isMissing 7 = .ok (.iconst 1, 1) := by decide +kernel
theorem dX3_isMissing_8 : decode cX3_isMissing 8 = .ok (.goto 4, 3) := by decide +kernel
theorem dX3_isMissing_11 : decode cX3_isMissing 11 = .ok (.iconst 0, 1) := by decide +kernel
theorem dX3_isMissing_12 : decode cX3_isMissing 12 = .ok (.ireturn, 1) := by decide +kernel
theorem dX3_lay_0 : decode cX3_lay 0 = .ok (.aload_n 0, 1) := by decide +kernel
theorem dX3_lay_1 : decode cX3_lay 1 = .ok (.iload_n 1, 1) := by decide +kernel
theorem dX3_lay_2 : decode cX3_lay 2 = .ok (.putfield 15, 3) := by decide +kernel
theorem dX3_lay_5 : decode cX3_lay 5 = .ok (.aload_n 0, 1) := by decide +kernel
theorem dX3_lay_6 : decode cX3_lay 6 = .ok (.iload_n 2, 1) := by decide +kernel
theorem dX3_lay_7 : decode cX3_lay 7 = .ok (.putfield 19, 3) := by decide +kernel
theorem dX3_lay_10 : decode cX3_lay 10 = .ok (.iconst 0, 1) := by decide +kernel
theorem dX3_lay_11 : decode cX3_lay 11 = .ok (.istore_n 3, 1) := by decide +kernel
theorem dX3_lay_12 : decode cX3_lay 12 = .ok (.iload_n 3, 1) := by decide +kernel
theorem dX3_lay_13 : decode cX3_lay 13 = .ok (.bipush 24, 2) := by decide +kernel
theorem dX3_lay_15 : decode cX3_lay 15 = .ok (.if_icmp .ge 16, 3) := by decide +kernel
theorem dX3_lay_18 : decode cX3_lay 18 = .ok (.aload_n 0, 1) := by decide +kernel
theorem dX3_lay_19 : decode cX3_lay 19 = .ok (.getfield 9, 3) := by decide +kernel
theorem dX3_lay_22 : decode cX3_lay 22 = .ok (.iload_n 3, 1) := by decide +kernel
theorem dX3_lay_23 : decode cX3_lay 23 = .ok (.iconst 0, 1) := by decide +kernel
theorem dX3_lay_24 : decode cX3_lay 24 = .ok (.iastore, 1) := by decide +kernel
theorem dX3_lay_25 : decode cX3_lay 25 = .ok (.iinc 3 1, 3) := by decide +kernel
theorem dX3_lay_28 : decode cX3_lay 28 = .ok (.goto (-16), 3) := by decide +kernel
theorem dX3_lay_31 : decode cX3_lay 31 = .ok (.return_, 1) := by decide +kernel
theorem dX3_write_0 : decode cX3_write 0 = .ok (.aload_n 0, 1) := by decide +kernel
theorem dX3_write_1 : decode cX3_write 1 = .ok (.getfield 9, 3) := by decide +kernel
theorem dX3_write_4 : decode cX3_write 4 = .ok (.iload_n 1, 1) := by decide +kernel
theorem dX3_write_5 : decode cX3_write 5 = .ok (.aload_n 0, 1) := by decide +kernel
theorem dX3_write_6 : decode cX3_write 6 = .ok (.getfield 15, 3) := by decide +kernel
theorem dX3_write_9 : decode cX3_write 9 = .ok (.bipush 8, 2) := by decide +kernel
theorem dX3_write_11 : decode cX3_write 11 = .ok (.if_icmp .ne 8, 3) := by decide +kernel
theorem dX3_write_14 : decode cX3_write 14 = .ok (.iload_n 2, 1) := by decide +kernel
theorem dX3_write_15 : decode cX3_write 15 = .ok (.i2b, 1) := by decide +kernel
theorem dX3_write_16 : decode cX3_write 16 = .ok (.goto 18, 3) := by decide +kernel
theorem dX3_write_19 : decode cX3_write 19 = .ok (.aload_n 0, 1) := by decide +kernel
theorem dX3_write_20 : decode cX3_write 20 = .ok (.getfield 15, 3) := by decide +kernel
theorem dX3_write_23 : decode cX3_write 23 = .ok (.bipush 16, 2) := by decide +kernel
theorem dX3_write_25 : decode cX3_write 25 = .ok (.if_icmp .ne 8, 3) := by decide +kernel
theorem dX3_write_28 : decode cX3_write 28 = .ok (.iload_n 2, 1) := by decide +kernel
theorem dX3_write_29 : decode cX3_write 29 = .ok (.i2s, 1) := by decide +kernel
theorem dX3_write_30 : decode cX3_write 30 = .ok (.goto 4, 3) := by decide +kernel
theorem dX3_write_33 : decode cX3_write 33 = .ok (.iload_n 2, 1) := by decide +kernel
theorem dX3_write_34 : decode cX3_write 34 = .ok (.iastore, 1) := by decide +kernel
theorem dX3_write_35 : decode cX3_write 35 = .ok (.return_, 1) := by decide +kernel
theorem dX3_holds_0 : decode cX3_holds 0 = .ok (.iload_n 2, 1) := by decide +kernel
theorem dX3_holds_1 : decode cX3_holds 1 = .ok (.ifCond .lt 29, 3) := by decide +kernel
theorem dX3_holds_4 : decode cX3_holds 4 = .ok (.iload_n 1, 1) := by decide +kernel
theorem dX3_holds_5 : decode cX3_holds 5 = .ok (.ifCond .lt 25, 3) := by decide +kernel
theorem dX3_holds_8 : decode cX3_holds 8 = .ok (.iload_n 1, 1) := by decide +kernel
theorem dX3_holds_9 : decode cX3_holds 9 = .ok (.aload_n 0, 1) := by decide +kernel
theorem dX3_holds_10 : decode cX3_holds 10 = .ok (.getfield 19, 3) := by decide +kernel
theorem dX3_holds_13 : decode cX3_holds 13 = .ok (.if_icmp .gt 17, 3) := by decide +kernel
theorem dX3_holds_16 : decode cX3_holds 16 = .ok (.iload_n 2, 1) := by decide +kernel
theorem dX3_holds_17 : decode cX3_holds 17 = .ok (.aload_n 0, 1) := by decide +kernel
theorem dX3_holds_18 : decode cX3_holds 18 = .ok (.getfield 19, 3) := by decide +kernel
theorem dX3_holds_21 : decode cX3_holds 21 = .ok (.iload_n 1, 1) := by decide +kernel
theorem dX3_holds_22 : decode cX3_holds 22 = .ok (.isub, 1) := by decide +kernel
theorem dX3_holds_23 : decode cX3_holds 23 = .ok (.if_icmp .gt 7, 3) := by decide +kernel
theorem dX3_holds_26 : decode cX3_holds 26 = .ok (.iconst 1, 1) := by decide +kernel
theorem dX3_holds_27 : decode cX3_holds 27 = .ok (.goto 4, 3) := by decide +kernel
theorem dX3_holds_30 : decode cX3_holds 30 = .ok (.iconst 0, 1) := by decide +kernel
theorem dX3_holds_31 : decode cX3_holds 31 = .ok (.ireturn, 1) := by decide +kernel
theorem dX4_init_0 : decode cX4_init 0 = .ok (.aload_n 0, 1) := by decide +kernel
theorem dX4_init_1 : decode cX4_init 1 = .ok (.invokespecial 3, 3) := by decide +kernel
theorem dX4_init_4 : decode cX4_init 4 = .ok (.aload_n 0, 1) := by decide +kernel
theorem dX4_init_5 : decode cX4_init 5 = .ok (.bipush 9, 2) := by decide +kernel
theorem dX4_init_7 : decode cX4_init 7 = .ok (.newarray .int, 2) := by decide +kernel
theorem dX4_init_9 : decode cX4_init 9 = .ok (.putfield 9, 3) := by decide +kernel
theorem dX4_init_12 : decode cX4_init 12 = .ok (.aload_n 0, 1) := by decide +kernel
theorem dX4_init_13 : decode cX4_init 13 = .ok (.bipush 9, 2) := by decide +kernel
theorem dX4_init_15 : decode cX4_init 15 = .ok (.newarray .int, 2) := by decide +kernel
theorem dX4_init_17 : decode cX4_init 17 = .ok (.putfield 15, 3) := by decide +kernel
theorem dX4_init_20 : decode cX4_init 20 = .ok (.aload_n 0, 1) := by decide +kernel
theorem dX4_init_21 : decode cX4_init 21 = .ok (.bipush 9, 2) := by decide +kernel
theorem dX4_init_23 : decode cX4_init 23 = .ok (.newarray .int, 2) := by decide +kernel
theorem dX4_init_25 : decode cX4_init 25 = .ok (.putfield 18, 3) := by decide +kernel
theorem dX4_init_28 : decode cX4_init 28 = .ok (.aload_n 0, 1) := by decide +kernel
theorem dX4_init_29 : decode cX4_init 29 = .ok (.bipush 9, 2) := by decide +kernel
theorem dX4_init_31 : decode cX4_init 31 = .ok (.newarray .int, 2) := by decide +kernel
theorem dX4_init_33 : decode cX4_init 33 = .ok (.putfield 21, 3) := by decide +kernel
theorem dX4_init_36 : decode cX4_init 36 = .ok (.aload_n 0, 1) := by decide +kernel
theorem dX4_init_37 : decode cX4_init 37 = .ok (.bipush 9, 2) := by decide +kernel
theorem dX4_init_39 : decode cX4_init 39 = .ok (.newarray .int, 2) := by decide +kernel
theorem dX4_init_41 : decode cX4_init 41 = .ok (.putfield 24, 3) := by decide +kernel
theorem dX4_init_44 : decode cX4_init 44 = .ok (.aload_n 0, 1) := by decide +kernel
theorem dX4_init_45 : decode cX4_init 45 = .ok (.bipush 9, 2) := by decide +kernel
theorem dX4_init_47 : decode cX4_init 47 = .ok (.newarray .int, 2) := by decide +kernel
theorem dX4_init_49 : decode cX4_init 49 = .ok (.putfield 27, 3) := by decide +kernel
theorem dX4_init_52 : decode cX4_init 52 = .ok (.aload_n 0, 1) := by decide +kernel
theorem dX4_init_53 : decode cX4_init 53 = .ok (.aload_n 1, 1) := by decide +kernel
theorem dX4_init_54 : decode cX4_init 54 = .ok (.putfield 30, 3) := by decide +kernel
theorem dX4_init_57 : decode cX4_init 57 = .ok (.aload_n 0, 1) := by decide +kernel
theorem dX4_init_58 : decode cX4_init 58 = .ok (.aload_n 2, 1) := by decide +kernel
theorem dX4_init_59 : decode cX4_init 59 = .ok (.putfield 34, 3) := by decide +kernel
theorem dX4_init_62 : decode cX4_init 62 = .ok (.return_, 1) := by decide +kernel
theorem dX4_takeFrom_0 : decode cX4_takeFrom 0 = .ok (.aload_n 0, 1) := by decide +kernel
theorem dX4_takeFrom_1 : decode cX4_takeFrom 1 = .ok (.aload_n 1, 1) := by decide +kernel
theorem dX4_takeFrom_2 : decode cX4_takeFrom 2 = .ok (.getfield 37, 3) := by decide +kernel
theorem dX4_takeFrom_5 : decode cX4_takeFrom 5 = .ok (.putfield 37, 3) := by decide +kernel
theorem dX4_takeFrom_8 : decode cX4_takeFrom 8 = .ok (.aload_n 0, 1) := by decide +kernel
theorem dX4_takeFrom_9 : decode cX4_takeFrom 9 = .ok (.aload_n 1, 1) := by decide +kernel
theorem dX4_takeFrom_10 : decode cX4_takeFrom 10 = .ok (.getfield 41, 3) := by decide +kernel
theorem dX4_takeFrom_13 : decode cX4_takeFrom 13 = .ok (.putfield 41, 3) := by decide +kernel
theorem dX4_takeFrom_16 : decode cX4_takeFrom 16 = .ok (.aload_n 0, 1) := by decide +kernel
theorem dX4_takeFrom_17 : decode cX4_takeFrom 17 = .ok (.aload_n 1, 1) := by decide +kernel
theorem dX4_takeFrom_18 : decode cX4_takeFrom 18 = .ok (.getfield 44, 3) := by decide +kernel
theorem dX4_takeFrom_21 : decode cX4_takeFrom 21 = .ok (.putfield 44, 3) := by decide +kernel
theorem dX4_takeFrom_24 : decode cX4_takeFrom 24 = .ok (.iconst 0, 1) := by decide +kernel
theorem dX4_takeFrom_25 : decode cX4_takeFrom 25 = .ok (.istore_n 2, 1) := by decide +kernel
theorem dX4_takeFrom_26 : decode cX4_takeFrom 26 = .ok (.iload_n 2, 1) := by decide +kernel
theorem dX4_takeFrom_27 : decode cX4_takeFrom 27 = .ok (.aload_n 0, 1) := by decide +kernel
theorem dX4_takeFrom_28 : decode cX4_takeFrom 28 = .ok (.getfield 37, 3) := by decide +kernel
theorem dX4_takeFrom_31 : decode cX4_takeFrom 31 = .ok (.if_icmp .ge 69, 3) := by decide +kernel
theorem dX4_takeFrom_34 : decode cX4_takeFrom 34 = .ok (.aload_n 0, 1) := by decide +kernel
theorem dX4_takeFrom_35 : decode cX4_takeFrom 35 = .ok (.getfield 9, 3) := by decide +kernel
theorem dX4_takeFrom_38 : decode cX4_takeFrom 38 = .ok (.iload_n 2, 1) := by decide +kernel
theorem dX4_takeFrom_39 : decode cX4_takeFrom 39 = .ok (.aload_n 1, 1) := by decide +kernel
theorem dX4_takeFrom_40 : decode cX4_takeFrom 40 = .ok (.getfield 9, 3) := by decide +kernel
theorem dX4_takeFrom_43 : decode cX4_takeFrom 43 = .ok (.iload_n 2, 1) := by decide +kernel
theorem dX4_takeFrom_44 : decode cX4_takeFrom 44 = .ok (.iaload, 1) := by decide +kernel
theorem dX4_takeFrom_45 : decode cX4_takeFrom 45 = .ok (.iastore, 1) := by decide +kernel
theorem dX4_takeFrom_46 : decode cX4_takeFrom 46 = .ok (.aload_n 0, 1) := by decide +kernel
theorem dX4_takeFrom_47 : decode cX4_takeFrom 47 = .ok (.getfield 15, 3) := by decide +kernel
theorem dX4_takeFrom_50 : decode cX4_takeFrom 50 = .ok (.iload_n 2, 1) := by decide +kernel
theorem dX4_takeFrom_51 : decode cX4_takeFrom 51 = .ok (.aload_n 1, 1) := by decide +kernel
theorem dX4_takeFrom_52 : decode cX4_takeFrom 52 = .ok (.getfield 15, 3) := by decide +kernel
theorem dX4_takeFrom_55 : decode cX4_takeFrom 55 = .ok (.iload_n 2, 1) := by decide +kernel
theorem dX4_takeFrom_56 : decode cX4_takeFrom 56 = .ok (.iaload, 1) := by decide +kernel
theorem dX4_takeFrom_57 : decode cX4_takeFrom 57 = .ok (.iastore, 1) := by decide +kernel
theorem dX4_takeFrom_58 : decode cX4_takeFrom 58 = .ok (.aload_n 0, 1) := by decide +kernel
theorem dX4_takeFrom_59 : decode cX4_takeFrom 59 = .ok (.getfield 18, 3) := by decide +kernel
theorem dX4_takeFrom_62 : decode cX4_takeFrom 62 = .ok (.iload_n 2, 1) := by decide +kernel
theorem dX4_takeFrom_63 : decode cX4_takeFrom 63 = .ok (.aload_n 1, 1) := by decide +kernel
theorem dX4_takeFrom_64 : decode cX4_takeFrom 64 = .ok (.getfield 18, 3) := by decide +kernel
theorem dX4_takeFrom_67 : decode cX4_takeFrom 67 = .ok (.iload_n 2, 1) := by decide +kernel
theorem dX4_takeFrom_68 : decode cX4_takeFrom 68 = .ok (.iaload, 1) := by decide +kernel
theorem dX4_takeFrom_69 : decode cX4_takeFrom 69 = .ok (.iastore, 1) := by decide +kernel
theorem dX4_takeFrom_70 : decode cX4_takeFrom 70 = .ok (.aload_n 0, 1) := by decide +kernel
theorem dX4_takeFrom_71 : decode cX4_takeFrom 71 = .ok (.getfield 21, 3) := by decide +kernel
theorem dX4_takeFrom_74 : decode cX4_takeFrom 74 = .ok (.iload_n 2, 1) := by decide +kernel
theorem dX4_takeFrom_75 : decode cX4_takeFrom 75 = .ok (.aload_n 1, 1) := by decide +kernel
theorem dX4_takeFrom_76 : decode cX4_takeFrom 76 = .ok (.getfield 21, 3) := by decide +kernel
theorem dX4_takeFrom_79 : decode cX4_takeFrom 79 = .ok (.iload_n 2, 1) := by decide +kernel
theorem dX4_takeFrom_80 : decode cX4_takeFrom 80 = .ok (.iaload, 1) := by decide +kernel
theorem dX4_takeFrom_81 : decode cX4_takeFrom 81 = .ok (.iastore, 1) := by decide +kernel
theorem dX4_takeFrom_82 : decode cX4_takeFrom 82 = .ok (.aload_n 0, 1) := by decide +kernel
theorem dX4_takeFrom_83 : decode cX4_takeFrom 83 = .ok (.getfield 24, 3) := by decide +kernel
theorem dX4_takeFrom_86 : decode cX4_takeFrom 86 = .ok (.iload_n 2, 1) := by decide +kernel
theorem dX4_takeFrom_87 : decode cX4_takeFrom 87 = .ok (.aload_n 1, 1) := by decide +kernel
theorem dX4_takeFrom_88 : decode cX4_takeFrom 88 = .ok (.getfield 24, 3) := by decide +kernel
theorem dX4_takeFrom_91 : decode cX4_takeFrom 91 = .ok (.iload_n 2, 1) := by decide +kernel
theorem dX4_takeFrom_92 : decode cX4_takeFrom 92 = .ok (.iaload, 1) := by decide +kernel
theorem dX4_takeFrom_93 : decode cX4_takeFrom 93 = .ok (.iastore, 1) := by decide +kernel
theorem dX4_takeFrom_94 : decode cX4_takeFrom 94 = .ok (.iinc 2 1, 3) := by decide +kernel
theorem dX4_takeFrom_97 : decode cX4_takeFrom 97 = .ok (.goto (-71), 3) := by decide +kernel
theorem dX4_takeFrom_100 : decode cX4_takeFrom 100 = .ok (.return_, 1) := by decide +kernel
theorem dX4_has_0 : decode cX4_has 0 = .ok (.iload_n 1, 1) := by decide +kernel
theorem dX4_has_1 : decode cX4_has 1 = .ok (.ifCond .lt 15, 3) := by decide +kernel
theorem dX4_has_4 : decode cX4_has 4 = .ok (.iload_n 1, 1) := by decide +kernel
theorem dX4_has_5 : decode cX4_has 5 = .ok (.aload_n 0, 1) := by decide +kernel
theorem dX4_has_6 : decode cX4_has 6 = .ok (.getfield 37, 3) := by decide +kernel
theorem dX4_has_9 : decode cX4_has 9 = .ok (.if_icmp .ge 7, 3) := by decide +kernel
theorem dX4_has_12 : decode cX4_has 12 = .ok (.iconst 1, 1) := by decide +kernel
theorem dX4_has_13 : decode cX4_has 13 = .ok (.goto 4, 3) := by decide +kernel
theorem dX4_has_16 : decode cX4_has 16 = .ok (.iconst 0, 1) := by decide +kernel
theorem dX4_has_17 : decode cX4_has 17 = .ok (.ireturn, 1) := by decide +kernel
theorem dX4_bring_0 : decode cX4_bring 0 = .ok (.aload_n 0, 1) := by decide +kernel
theorem dX4_bring_1 : decode cX4_bring 1 = .ok (.getfield 37, 3) := by decide +kernel
theorem dX4_bring_4 : decode cX4_bring 4 = .ok (.bipush 9, 2) := by decide +kernel
theorem dX4_bring_6 : decode cX4_bring 6 = .ok (.if_icmp .lt 5, 3) := by decide +kernel
theorem dX4_bring_9 : decode cX4_bring 9 = .ok (.iconst (-1), 1) := by decide +kernel
theorem dX4_bring_10 : decode cX4_bring 10 = .ok (.ireturn, 1) := by decide +kernel
theorem dX4_bring_11 : decode cX4_bring 11 = .ok (.aload_n 0, 1) := by decide +kernel
theorem dX4_bring_12 : decode cX4_bring 12 = .ok (.getfield 37, 3) := by decide +kernel
theorem dX4_bring_15 : decode cX4_bring 15 = .ok (.istore 4, 2) := by decide +kernel
theorem dX4_bring_17 : decode cX4_bring 17 = .ok (.aload_n 0, 1) := by decide +kernel
theorem dX4_bring_18 : decode cX4_bring 18 = .ok (.getfield 9, 3) := by decide +kernel
theorem dX4_bring_21 : decode cX4_bring 21 = .ok (.iload 4, 2) := by decide +kernel
theorem dX4_bring_23 : decode cX4_bring 23 = .ok (.iload_n 1, 1) := by decide +kernel
theorem dX4_bring_24 : decode cX4_bring 24 = .ok (.bipush 10, 2) := by decide +kernel
theorem dX4_bring_26 : decode cX4_bring 26 = .ok (.idiv, 1) := by decide +kernel
theorem dX4_bring_27 : decode cX4_bring 27 = .ok (.iastore, 1) := by decide +kernel
theorem dX4_bring_28 : decode cX4_bring 28 = .ok (.aload_n 0, 1) := by decide +kernel
theorem dX4_bring_29 : decode cX4_bring 29 = .ok (.getfield 15, 3) := by decide +kernel
theorem dX4_bring_32 : decode cX4_bring 32 = .ok (.iload 4, 2) := by decide +kernel
theorem dX4_bring_34 : decode cX4_bring 34 = .ok (.iload_n 1, 1) := by decide +kernel
theorem dX4_bring_35 : decode cX4_bring 35 = .ok (.bipush 10, 2) := by decide +kernel
theorem dX4_bring_37 : decode cX4_bring 37 = .ok (.irem, 1) := by decide +kernel
theorem dX4_bring_38 : decode cX4_bring 38 = .ok (.iastore, 1) := by decide +kernel
theorem dX4_bring_39 : decode cX4_bring 39 = .ok (.aload_n 0, 1) := by decide +kernel
theorem dX4_bring_40 : decode cX4_bring 40 = .ok (.getfield 18, 3) := by decide +kernel
theorem dX4_bring_43 : decode cX4_bring 43 = .ok (.iload 4, 2) := by decide +kernel
theorem dX4_bring_45 : decode cX4_bring 45 = .ok (.iload_n 2, 1) := by decide +kernel
theorem dX4_bring_46 : decode cX4_bring 46 = .ok (.iastore, 1) := by decide +kernel
theorem dX4_bring_47 : decode cX4_bring 47 = .ok (.aload_n 0, 1) := by decide +kernel
theorem dX4_bring_48 : decode cX4_bring 48 = .ok (.getfield 21, 3) := by decide +kernel
theorem dX4_bring_51 : decode cX4_bring 51 = .ok (.iload 4, 2) := by decide +kernel
theorem dX4_bring_53 : decode cX4_bring 53 = .ok (.iconst 0, 1) := by decide +kernel
theorem dX4_bring_54 : decode cX4_bring 54 = .ok (.iastore, 1) := by decide +kernel
theorem dX4_bring_55 : decode cX4_bring 55 = .ok (.aload_n 0, 1) := by decide +kernel
theorem dX4_bring_56 : decode cX4_bring 56 = .ok (.getfield 24, 3) := by decide +kernel
theorem dX4_bring_59 : decode cX4_bring 59 = .ok (.iload 4, 2) := by decide +kernel
theorem dX4_bring_61 : decode cX4_bring 61 = .ok (.iload_n 3, 1) := by decide +kernel
theorem dX4_bring_62 : decode cX4_bring 62 = .ok (.iastore, 1) := by decide +kernel
theorem dX4_bring_63 : decode cX4_bring 63 = .ok (.aload_n 0, 1) := by decide +kernel
theorem dX4_bring_64 : decode cX4_bring 64 = .ok (.dup, 1) := by decide +kernel
theorem dX4_bring_65 : decode cX4_bring 65 = .ok (.getfield 37, 3) := by decide +kernel
theorem dX4_bring_68 : decode cX4_bring 68 = .ok (.iconst 1, 1) := by decide +kernel
theorem dX4_bring_69 : decode cX4_bring 69 = .ok (.iadd, 1) := by decide +kernel
theorem dX4_bring_70 : decode cX4_bring 70 = .ok (.putfield 37, 3) := by decide +kernel
theorem dX4_bring_73 : decode cX4_bring 73 = .ok (.iload 4, 2) := by decide +kernel
theorem dX4_bring_75 : decode cX4_bring 75 = .ok (.ireturn, 1) := by decide +kernel
theorem dX4_left_0 : decode cX4_left 0 = .ok (.iconst 0, 1) := by decide +kernel
theorem dX4_left_1 : decode cX4_left 1 = .ok (.istore_n 1, 1) := by decide +kernel
theorem dX4_left_2 : decode cX4_left 2 = .ok (.iconst 0, 1) := by decide +kernel
theorem dX4_left_3 : decode cX4_left 3 = .ok (.istore_n 2, 1) := by decide +kernel
theorem dX4_left_4 : decode cX4_left 4 = .ok (.iload_n 2, 1) := by decide +kernel
theorem dX4_left_5 : decode cX4_left 5 = .ok (.aload_n 0, 1) := by decide +kernel
theorem dX4_left_6 : decode cX4_left 6 = .ok (.getfield 37, 3) := by decide +kernel
theorem dX4_left_9 : decode cX4_left 9 = .ok (.if_icmp .ge 18, 3) := by decide +kernel
theorem dX4_left_12 : decode cX4_left 12 = .ok (.iload_n 1, 1) := by decide +kernel
theorem dX4_left_13 : decode cX4_left 13 = .ok (.aload_n 0, 1) := by decide +kernel
theorem dX4_left_14 : decode cX4_left 14 = .ok (.getfield 18, 3) := by decide +kernel
theorem dX4_left_17 : decode cX4_left 17 = .ok (.iload_n 2, 1) := by decide +kernel
theorem dX4_left_18 : decode cX4_left 18 = .ok (.iaload, 1) := by decide +kernel
theorem dX4_left_19 : decode cX4_left 19 = .ok (.iadd, 1) := by decide +kernel
theorem dX4_left_20 : decode cX4_left 20 = .ok (.istore_n 1, 1) := by decide +kernel
theorem dX4_left_21 : decode cX4_left 21 = .ok (.iinc 2 1, 3) := by decide +kernel
theorem dX4_left_24 : decode cX4_left 24 = .ok (.goto (-20), 3) := by decide +kernel
theorem dX4_left_27 : decode cX4_left 27 = .ok (.iload_n 1, 1) := by decide +kernel
theorem dX4_left_28 : decode cX4_left 28 = .ok (.ireturn, 1) := by decide +kernel
theorem dX4_leftInKeeping_0 : decode cX4_leftInKeeping 0 = .ok (.aload_n 0, 1) := by decide +kernel
theorem dX4_leftInKeeping_1 : decode cX4_leftInKeeping 1 = .ok (.invokevirtual 47, 3) := by decide +kernel
theorem dX4_leftInKeeping_4 : decode cX4_leftInKeeping 4 = .ok (.istore_n 1, 1) := by decide +kernel
theorem dX4_leftInKeeping_5 : decode cX4_leftInKeeping 5 = .ok (.iconst 0, 1) := by decide +kernel
theorem dX4_leftInKeeping_6 : decode cX4_leftInKeeping 6 = .ok (.istore_n 2, 1) := by decide +kernel
theorem dX4_leftInKeeping_7 : decode cX4_leftInKeeping 7 = .ok (.iconst 0, 1) := by decide +kernel
theorem dX4_leftInKeeping_8 : decode cX4_leftInKeeping 8 = .ok (.istore_n 3, 1) := by decide +kernel
theorem dX4_leftInKeeping_9 : decode cX4_leftInKeeping 9 = .ok (.iload_n 3, 1) := by decide +kernel
theorem dX4_leftInKeeping_10 : decode cX4_leftInKeeping 10 = .ok (.aload_n 0, 1) := by decide +kernel
theorem dX4_leftInKeeping_11 : decode cX4_leftInKeeping 11 = .ok (.getfield 37, 3) := by decide +kernel
theorem dX4_leftInKeeping_14 : decode cX4_leftInKeeping 14 = .ok (.if_icmp .ge 36, 3) := by decide +kernel
theorem dX4_leftInKeeping_17 : decode cX4_leftInKeeping 17 = .ok (.aload_n 0, 1) := by decide +kernel
theorem dX4_leftInKeeping_18 : decode cX4_leftInKeeping 18 = .ok (.getfield 18, 3) := by decide +kernel
theorem dX4_leftInKeeping_21 : decode cX4_leftInKeeping 21 = .ok (.iload_n 3, 1) := by decide +kernel
theorem dX4_leftInKeeping_22 : decode cX4_leftInKeeping 22 = .ok (.iaload, 1) := by decide +kernel
theorem dX4_leftInKeeping_23 : decode cX4_leftInKeeping 23 = .ok (.ifCond .le 21, 3) := by decide +kernel
theorem dX4_leftInKeeping_26 : decode cX4_leftInKeeping 26 = .ok (.aload_n 0, 1) := by decide +kernel
theorem dX4_leftInKeeping_27 : decode cX4_leftInKeeping 27 = .ok (.iload_n 1, 1) := by decide +kernel
theorem dX4_leftInKeeping_28 : decode cX4_leftInKeeping 28 = .ok (.iload_n 3, 1) := by decide +kernel
theorem dX4_leftInKeeping_29 : decode cX4_leftInKeeping 29 = .ok (.invokevirtual 51, 3) := by decide +kernel
theorem dX4_leftInKeeping_32 : decode cX4_leftInKeeping 32 = .ok (.ifCond .eq 12, 3) := by decide +kernel
theorem dX4_leftInKeeping_35 : decode cX4_leftInKeeping 35 = .ok (.iload_n 2, 1) := by decide +kernel
theorem dX4_leftInKeeping_36 : decode cX4_leftInKeeping 36 = .ok (.aload_n 0, 1) := by decide +kernel
theorem dX4_leftInKeeping_37 : decode cX4_leftInKeeping 37 = .ok (.getfield 18, 3) := by decide +kernel
theorem dX4_leftInKeeping_40 : decode cX4_leftInKeeping 40 = .ok (.iload_n 3, 1) := by decide +kernel
theorem dX4_leftInKeeping_41 : decode cX4_leftInKeeping 41 = .ok (.iaload, 1) := by decide +kernel
theorem dX4_leftInKeeping_42 : decode cX4_leftInKeeping 42 = .ok (.iadd, 1) := by decide +kernel
theorem dX4_leftInKeeping_43 : decode cX4_leftInKeeping 43 = .ok (.istore_n 2, 1) := by decide +kernel
theorem dX4_leftInKeeping_44 : decode cX4_leftInKeeping 44 = .ok (.iinc 3 1, 3) := by decide +kernel
theorem dX4_leftInKeeping_47 : decode cX4_leftInKeeping 47 = .ok (.goto (-38), 3) := by decide +kernel
theorem dX4_leftInKeeping_50 : decode cX4_leftInKeeping 50 = .ok (.iload_n 2, 1) := by decide +kernel
theorem dX4_leftInKeeping_51 : decode cX4_leftInKeeping 51 = .ok (.ireturn, 1) := by decide +kernel
theorem dX4_isKeptBy_0 : decode cX4_isKeptBy 0 = .ok (.iload_n 1, 1) := by decide +kernel
theorem dX4_isKeptBy_1 : decode cX4_isKeptBy 1 = .ok (.ifCond .lt 37, 3) := by decide +kernel
theorem dX4_isKeptBy_4 : decode cX4_isKeptBy 4 = .ok (.aload_n 0, 1) := by decide +kernel
theorem dX4_isKeptBy_5 : decode cX4_isKeptBy 5 = .ok (.getfield 34, 3) := by decide +kernel
theorem dX4_isKeptBy_8 : decode cX4_isKeptBy 8 = .ok (.aload_n 0, 1) := by decide +kernel
theorem dX4_isKeptBy_9 : decode cX4_isKeptBy 9 = .ok (.getfield 24, 3) := by decide +kernel
theorem dX4_isKeptBy_12 : decode cX4_isKeptBy 12 = .ok (.iload_n 2, 1) := by decide +kernel
theorem dX4_isKeptBy_13 : decode cX4_isKeptBy 13 = .ok (.iaload, 1) := by decide +kernel
theorem dX4_isKeptBy_14 : decode cX4_isKeptBy 14 = .ok (.aload_n 0, 1) := by decide +kernel
theorem dX4_isKeptBy_15 : decode cX4_isKeptBy 15 = .ok (.getfield 24, 3) := by decide +kernel
theorem dX4_isKeptBy_18 : decode cX4_isKeptBy 18 = .ok (.iload_n 1, 1) := by decide +kernel
theorem dX4_isKeptBy_19 : decode cX4_isKeptBy 19 = .ok (.iaload, 1) := by decide +kernel
theorem dX4_isKeptBy_20 : decode cX4_isKeptBy 20 = .ok (.aload_n 0, 1) := by decide +kernel
theorem dX4_isKeptBy_21 : decode cX4_isKeptBy 21 = .ok (.getfield 41, 3) := by decide +kernel
theorem dX4_isKeptBy_24 : decode cX4_isKeptBy 24 = .ok (.bipush 7, 2) := by decide +kernel
theorem dX4_isKeptBy_26 : decode cX4_isKeptBy 26 = .ok (.irem, 1) := by decide +kernel
theorem dX4_isKeptBy_27 : decode cX4_isKeptBy 27 = .ok (.invokevirtual 55, 3) := by decide +kernel
theorem dX4_isKeptBy_30 : decode cX4_isKeptBy 30 = .ok (.iconst 1, 1) := by decide +kernel
theorem dX4_isKeptBy_31 : decode cX4_isKeptBy 31 = .ok (.if_icmp .ne 7, 3) := by decide +kernel
theorem dX4_isKeptBy_34 : decode cX4_isKeptBy 34 = .ok (.iconst 1, 1) := by decide +kernel
theorem dX4_isKeptBy_35 : decode cX4_isKeptBy 35 = .ok (.goto 4, 3) := by decide +kernel
theorem dX4_isKeptBy_38 : decode cX4_isKeptBy 38 = .ok (.iconst 0, 1) := by decide +kernel
theorem dX4_isKeptBy_39 : decode cX4_isKeptBy 39 = .ok (.ireturn, 1) := by decide +kernel
theorem dX4_claimOf_0 : decode cX4_claimOf 0 = .ok (.aload_n 0, 1) := by decide +kernel
theorem dX4_claimOf_1 : decode cX4_claimOf 1 = .ok (.getfield 30, 3) := by decide +kernel
theorem dX4_claimOf_4 : decode cX4_claimOf 4 = .ok (.aload_n 0, 1) := by decide +kernel
theorem dX4_claimOf_5 : decode cX4_claimOf 5 = .ok (.iload_n 1, 1) := by decide +kernel
theorem dX4_claimOf_6 : decode cX4_claimOf 6 = .ok (.invokevirtual 61, 3) := by decide +kernel
theorem dX4_claimOf_9 : decode cX4_claimOf 9 = .ok (.aload_n 0, 1) := by decide +kernel
theorem dX4_claimOf_10 : decode cX4_claimOf 10 = .ok (.getfield 21, 3) := by decide +kernel
theorem dX4_claimOf_13 : decode cX4_claimOf 13 = .ok (.iload_n 1, 1) := by decide +kernel
theorem dX4_claimOf_14 : decode cX4_claimOf 14 = .ok (.iaload, 1) := by decide +kernel
theorem dX4_claimOf_15 : decode cX4_claimOf 15 = .ok (.aload_n 0, 1) := by decide +kernel
theorem dX4_claimOf_16 : decode cX4_claimOf 16 = .ok (.getfield 18, 3) := by decide +kernel
theorem dX4_claimOf_19 : decode cX4_claimOf 19 = .ok (.iload_n 1, 1) := by decide +kernel
theorem dX4_claimOf_20 : decode cX4_claimOf 20 = .ok (.iaload, 1) := by decide +kernel
theorem dX4_claimOf_21 : decode cX4_claimOf 21 = .ok (.invokevirtual 55, 3) := by decide +kernel
theorem dX4_claimOf_24 : decode cX4_claimOf 24 = .ok (.ireturn, 1) := by decide +kernel
theorem dX4_claimOfKind_0 : decode cX4_claimOfKind 0 = .ok (.aload_n 0, 1) := by decide +kernel
theorem dX4_claimOfKind_1 : decode cX4_claimOfKind 1 = .ok (.getfield 21, 3) := by decide +kernel
theorem dX4_claimOfKind_4 : decode cX4_claimOfKind 4 = .ok (.iload_n 1, 1) := by decide +kernel
theorem dX4_claimOfKind_5 : decode cX4_claimOfKind 5 = .ok (.iaload, 1) := by decide +kernel
theorem dX4_claimOfKind_6 : decode cX4_claimOfKind 6 = .ok (.aload_n 0, 1) := by decide +kernel
theorem dX4_claimOfKind_7 : decode cX4_claimOfKind 7 = .ok (.getfield 18, 3) := by decide +kernel
theorem dX4_claimOfKind_10 : decode cX4_claimOfKind 10 = .ok (.iload_n 1, 1) := by decide +kernel
theorem dX4_claimOfKind_11 : decode cX4_claimOfKind 11 = .ok (.iaload, 1) := by decide +kernel
theorem dX4_claimOfKind_12 : decode cX4_claimOfKind 12 = .ok (.bipush 10, 2) := by decide +kernel
theorem dX4_claimOfKind_14 : decode cX4_claimOfKind 14 = .ok (.idiv, 1) := by decide +kernel
theorem dX4_claimOfKind_15 : decode cX4_claimOfKind 15 = .ok (.iadd, 1) := by decide +kernel
theorem dX4_claimOfKind_16 : decode cX4_claimOfKind 16 = .ok (.istore_n 2, 1) := by decide +kernel
theorem dX4_claimOfKind_17 : decode cX4_claimOfKind 17 = .ok (.aload_n 0, 1) := by decide +kernel
theorem dX4_claimOfKind_18 : decode cX4_claimOfKind 18 = .ok (.getfield 9, 3) := by decide +kernel
theorem dX4_claimOfKind_21 : decode cX4_claimOfKind 21 = .ok (.iload_n 1, 1) := by decide +kernel
theorem dX4_claimOfKind_22 : decode cX4_claimOfKind 22 = .ok (.iaload, 1) := by decide +kernel
theorem dX4_claimOfKind_23 : decode cX4_claimOfKind 23 = .ok (.tableswitch 110 1 6 #[37, 46, 50, 75, 94, 101], 37) := by decide +kernel
theorem dX4_claimOfKind_60 : decode cX4_claimOfKind 60 = .ok (.iload_n 2, 1) := by decide +kernel
theorem dX4_claimOfKind_61 : decode cX4_claimOfKind 61 = .ok (.aload_n 0, 1) := by decide +kernel
theorem dX4_claimOfKind_62 : decode cX4_claimOfKind 62 = .ok (.getfield 15, 3) := by decide +kernel
theorem dX4_claimOfKind_65 : decode cX4_claimOfKind 65 = .ok (.iload_n 1, 1) := by decide +kernel
theorem dX4_claimOfKind_66 : decode cX4_claimOfKind 66 = .ok (.iaload, 1) := by decide +kernel
theorem dX4_claimOfKind_67 : decode cX4_claimOfKind 67 = .ok (.iadd, 1) := by decide +kernel
theorem dX4_claimOfKind_68 : decode cX4_claimOfKind 68 = .ok (.ireturn, 1) := by decide +kernel
theorem dX4_claimOfKind_69 : decode cX4_claimOfKind 69 = .ok (.iconst 2, 1) := by decide +kernel
theorem dX4_claimOfKind_70 : decode cX4_claimOfKind 70 = .ok (.iload_n 2, 1) := by decide +kernel
theorem dX4_claimOfKind_71 : decode cX4_claimOfKind 71 = .ok (.imul, 1) := by decide +kernel
theorem dX4_claimOfKind_72 : decode cX4_claimOfKind 72 = .ok (.ireturn, 1) := by decide +kernel
theorem dX4_claimOfKind_73 : decode cX4_claimOfKind 73 = .ok (.aload_n 0, 1) := by decide +kernel
theorem dX4_claimOfKind_74 : decode cX4_claimOfKind 74 = .ok (.getfield 41, 3) := by decide +kernel
theorem dX4_claimOfKind_77 : decode cX4_claimOfKind 77 = .ok (.bipush 7, 2) := by decide +kernel
theorem dX4_claimOfKind_79 : decode cX4_claimOfKind 79 = .ok (.irem, 1) := by decide +kernel
theorem dX4_claimOfKind_80 : decode cX4_claimOfKind 80 = .ok (.iconst 4, 1) := by decide +kernel
theorem dX4_claimOfKind_81 : decode cX4_claimOfKind 81 = .ok (.if_icmp .ne 15, 3) := by decide +kernel
theorem dX4_claimOfKind_84 : decode cX4_claimOfKind 84 = .ok (.bipush 50, 2) := by decide +kernel
theorem dX4_claimOfKind_86 : decode cX4_claimOfKind 86 = .ok (.aload_n 0, 1) := by decide +kernel
theorem dX4_claimOfKind_87 : decode cX4_claimOfKind 87 = .ok (.getfield 15, 3) := by decide +kernel
theorem dX4_claimOfKind_90 : decode cX4_claimOfKind 90 = .ok (.iload_n 1, 1) := by decide +kernel
theorem dX4_claimOfKind_91 : decode cX4_claimOfKind 91 = .ok (.iaload, 1) := by decide +kernel
theorem dX4_claimOfKind_92 : decode cX4_claimOfKind 92 = .ok (.iadd, 1) := by decide +kernel
theorem dX4_claimOfKind_93 : decode cX4_claimOfKind 93 = .ok (.goto 4, 3) := by decide +kernel
theorem dX4_claimOfKind_96 : decode cX4_claimOfKind 96 = .ok (.iload_n 2, 1) := by decide +kernel
theorem dX4_claimOfKind_97 : decode cX4_claimOfKind 97 = .ok (.ireturn, 1) := by decide +kernel
theorem dX4_claimOfKind_98 : decode cX4_claimOfKind 98 = .ok (.iload_n 2, 1) := by decide +kernel
theorem dX4_claimOfKind_99 : decode cX4_claimOfKind 99 = .ok (.aload_n 0, 1) := by decide +kernel
theorem dX4_claimOfKind_100 : decode cX4_claimOfKind 100 = .ok (.getfield 15, 3) := by decide +kernel
theorem dX4_claimOfKind_103 : decode cX4_claimOfKind 103 = .ok (.iload_n 1, 1) := by decide +kernel
theorem dX4_claimOfKind_104 : decode cX4_claimOfKind 104 = .ok (.iaload, 1) := by decide +kernel
theorem dX4_claimOfKind_105 : decode cX4_claimOfKind 105 = .ok (.iadd, 1) := by decide +kernel
theorem dX4_claimOfKind_106 : decode cX4_claimOfKind 106 = .ok (.aload_n 0, 1) := by decide +kernel
theorem dX4_claimOfKind_107 : decode cX4_claimOfKind 107 = .ok (.getfield 18, 3) := by decide +kernel
theorem dX4_claimOfKind_110 : decode cX4_claimOfKind 110 = .ok (.iload_n 1, 1) := by decide +kernel
theorem dX4_claimOfKind_111 : decode cX4_claimOfKind 111 = .ok (.iaload, 1) := by decide +kernel
theorem dX4_claimOfKind_112 : decode cX4_claimOfKind 112 = .ok (.bipush 7, 2) := by decide +kernel
theorem dX4_claimOfKind_114 : decode cX4_claimOfKind 114 = .ok (.irem, 1) := by decide +kernel
theorem dX4_claimOfKind_115 : decode cX4_claimOfKind 115 = .ok (.iadd, 1) := by decide +kernel
theorem dX4_claimOfKind_116 : decode cX4_claimOfKind 116 = .ok (.ireturn, 1) := by decide +kernel
theorem dX4_claimOfKind_117 : decode cX4_claimOfKind 117 = .ok (.iconst 2, 1) := by decide +kernel
theorem dX4_claimOfKind_118 : decode cX4_claimOfKind 118 = .ok (.iload_n 2, 1) := by decide +kernel
theorem dX4_claimOfKind_119 : decode cX4_claimOfKind 119 = .ok (.imul, 1) := by decide +kernel
theorem dX4_claimOfKind_120 : decode cX4_claimOfKind 120 = .ok (.bipush 40, 2) := by decide +kernel
theorem dX4_claimOfKind_122 : decode cX4_claimOfKind 122 = .ok (.iadd, 1) := by decide +kernel
theorem dX4_claimOfKind_123 : decode cX4_claimOfKind 123 = .ok (.ireturn, 1) := by decide +kernel
theorem dX4_claimOfKind_124 : decode cX4_claimOfKind 124 = .ok (.iload_n 2, 1) := by decide +kernel
theorem dX4_claimOfKind_125 : decode cX4_claimOfKind 125 = .ok (.aload_n 0, 1) := by decide +kernel
theorem dX4_claimOfKind_126 : decode cX4_claimOfKind 126 = .ok (.getfield 24, 3) := by decide +kernel
theorem dX4_claimOfKind_129 : decode cX4_claimOfKind 129 = .ok (.iload_n 1, 1) := by decide +kernel
theorem dX4_claimOfKind_130 : decode cX4_claimOfKind 130 = .ok (.iaload, 1) := by decide +kernel
theorem dX4_claimOfKind_131 : decode cX4_claimOfKind 131 = .ok (.isub, 1) := by decide +kernel
theorem dX4_claimOfKind_132 : decode cX4_claimOfKind 132 = .ok (.ireturn, 1) := by decide +kernel
theorem dX4_claimOfKind_133 : decode cX4_claimOfKind 133 = .ok (.iload_n 2, 1) := by decide +kernel
theorem dX4_claimOfKind_134 : decode cX4_claimOfKind 134 = .ok (.ireturn, 1) := by decide +kernel
theorem dX4_spoilOf_0 : decode cX4_spoilOf 0 = .ok (.aload_n 0, 1) := by decide +kernel
theorem dX4_spoilOf_1 : decode cX4_spoilOf 1 = .ok (.getfield 21, 3) := by decide +kernel
theorem dX4_spoilOf_4 : decode cX4_spoilOf 4 = .ok (.iload_n 1, 1) := by decide +kernel
theorem dX4_spoilOf_5 : decode cX4_spoilOf 5 = .ok (.iaload, 1) := by decide +kernel
theorem dX4_spoilOf_6 : decode cX4_spoilOf 6 = .ok (.iconst 5, 1) := by decide +kernel
theorem dX4_spoilOf_7 : decode cX4_spoilOf 7 = .ok (.idiv, 1) := by decide +kernel
theorem dX4_spoilOf_8 : decode cX4_spoilOf 8 = .ok (.istore_n 2, 1) := by decide +kernel
theorem dX4_spoilOf_9 : decode cX4_spoilOf 9 = .ok (.aload_n 0, 1) := by decide +kernel
theorem dX4_spoilOf_10 : decode cX4_spoilOf 10 = .ok (.getfield 9, 3) := by decide +kernel
theorem dX4_spoilOf_13 : decode cX4_spoilOf 13 = .ok (.iload_n 1, 1) := by decide +kernel
theorem dX4_spoilOf_14 : decode cX4_spoilOf 14 = .ok (.iaload, 1) := by decide +kernel
theorem dX4_spoilOf_15 : decode cX4_spoilOf 15 = .ok (.tableswitch 76 2 6 #[33, 37, 39, 47, 65], 33) := by decide +kernel
theorem dX4_spoilOf_48 : decode cX4_spoilOf 48 = .ok (.iload_n 2, 1) := by decide +kernel
theorem dX4_spoilOf_49 : decode cX4_spoilOf 49 = .ok (.iconst 1, 1) := by decide +kernel
theorem dX4_spoilOf_50 : decode cX4_spoilOf 50 = .ok (.iadd, 1) := by decide +kernel
theorem dX4_spoilOf_51 : decode cX4_spoilOf 51 = .ok (.ireturn, 1) := by decide +kernel
theorem dX4_spoilOf_52 : decode cX4_spoilOf 52 = .ok (.iconst 0, 1) := by decide +kernel
theorem dX4_spoilOf_53 : decode cX4_spoilOf 53 = .ok (.ireturn, 1) := by decide +kernel
theorem dX4_spoilOf_54 : decode cX4_spoilOf 54 = .ok (.iconst 0, 1) := by decide +kernel
theorem dX4_spoilOf_55 : decode cX4_spoilOf 55 = .ok (.iload_n 2, 1) := by decide +kernel
theorem dX4_spoilOf_56 : decode cX4_spoilOf 56 = .ok (.iconst 1, 1) := by decide +kernel
theorem dX4_spoilOf_57 : decode cX4_spoilOf 57 = .ok (.isub, 1) := by decide +kernel
theorem dX4_spoilOf_58 : decode cX4_spoilOf 58 = .ok (.invokestatic 65, 3) := by decide +kernel
theorem dX4_spoilOf_61 : decode cX4_spoilOf 61 = .ok (.ireturn, 1) := by decide +kernel
theorem dX4_spoilOf_62 : decode cX4_spoilOf 62 = .ok (.aload_n 0, 1) := by decide +kernel
theorem dX4_spoilOf_63 : decode cX4_spoilOf 63 = .ok (.getfield 15, 3) := by decide +kernel
theorem dX4_spoilOf_66 : decode cX4_spoilOf 66 = .ok (.iload_n 1, 1) := by decide +kernel
theorem dX4_spoilOf_67 : decode cX4_spoilOf 67 = .ok (.iaload, 1) := by decide +kernel
theorem dX4_spoilOf_68 : decode cX4_spoilOf 68 = .ok (.iconst 4, 1) := by decide +kernel
theorem dX4_spoilOf_69 : decode cX4_spoilOf 69 = .ok (.if_icmp .le 7, 3) := by decide +kernel
theorem dX4_spoilOf_72 : decode cX4_spoilOf 72 = .ok (.iconst 0, 1) := by decide +kernel
theorem dX4_spoilOf_73 : decode cX4_spoilOf 73 = .ok (.goto 6, 3) := by decide +kernel
theorem dX4_spoilOf_76 : decode cX4_spoilOf 76 = .ok (.iload_n 2, 1) := by decide +kernel
theorem dX4_spoilOf_77 : decode cX4_spoilOf 77 = .ok (.iconst 1, 1) := by decide +kernel
theorem dX4_spoilOf_78 : decode cX4_spoilOf 78 = .ok (.iadd, 1) := by decide +kernel
theorem dX4_spoilOf_79 : decode cX4_spoilOf 79 = .ok (.ireturn, 1) := by decide +kernel
theorem dX4_spoilOf_80 : decode cX4_spoilOf 80 = .ok (.iload_n 2, 1) := by decide +kernel
theorem dX4_spoilOf_81 : decode cX4_spoilOf 81 = .ok (.aload_n 0, 1) := by decide +kernel
theorem dX4_spoilOf_82 : decode cX4_spoilOf 82 = .ok (.getfield 15, 3) := by decide +kernel
theorem dX4_spoilOf_85 : decode cX4_spoilOf 85 = .ok (.iload_n 1, 1) := by decide +kernel
theorem dX4_spoilOf_86 : decode cX4_spoilOf 86 = .ok (.iaload, 1) := by decide +kernel
theorem dX4_spoilOf_87 : decode cX4_spoilOf 87 = .ok (.imul, 1) := by decide +kernel
theorem dX4_spoilOf_88 : decode cX4_spoilOf 88 = .ok (.iconst 4, 1) := by decide +kernel
theorem dX4_spoilOf_89 : decode cX4_spoilOf 89 = .ok (.idiv, 1) := by decide +kernel
theorem dX4_spoilOf_90 : decode cX4_spoilOf 90 = .ok (.ireturn, 1) := by decide +kernel
theorem dX4_spoilOf_91 : decode cX4_spoilOf 91 = .ok (.iload_n 2, 1) := by decide +kernel
theorem dX4_spoilOf_92 : decode cX4_spoilOf 92 = .ok (.ireturn, 1) := by decide +kernel
theorem dX4_sayer_0 : decode cX4_sayer 0 = .ok (.iconst (-1), 1) := by decide +kernel
theorem dX4_sayer_1 : decode cX4_sayer 1 = .ok (.istore_n 1, 1) := by decide +kernel
theorem dX4_sayer_2 : decode cX4_sayer 2 = .ok (.iconst 0, 1) := by decide +kernel
theorem dX4_sayer_3 : decode cX4_sayer 3 = .ok (.istore_n 2, 1) := by decide +kernel
theorem dX4_sayer_4 : decode cX4_sayer 4 = .ok (.iload_n 2, 1) := by decide +kernel
theorem dX4_sayer_5 : decode cX4_sayer 5 = .ok (.aload_n 0, 1) := by decide +kernel
theorem dX4_sayer_6 : decode cX4_sayer 6 = .ok (.getfield 37, 3) := by decide +kernel
theorem dX4_sayer_9 : decode cX4_sayer 9 = .ok (.if_icmp .ge 63, 3) := by decide +kernel
theorem dX4_sayer_12 : decode cX4_sayer 12 = .ok (.aload_n 0, 1) := by decide +kernel
theorem dX4_sayer_13 : decode cX4_sayer 13 = .ok (.getfield 27, 3) := by decide +kernel
theorem dX4_sayer_16 : decode cX4_sayer 16 = .ok (.iload_n 2, 1) := by decide +kernel
theorem dX4_sayer_17 : decode cX4_sayer 17 = .ok (.aload_n 0, 1) := by decide +kernel
theorem dX4_sayer_18 : decode cX4_sayer 18 = .ok (.getfield 18, 3) := by decide +kernel
theorem dX4_sayer_21 : decode cX4_sayer 21 = .ok (.iload_n 2, 1) := by decide +kernel
theorem dX4_sayer_22 : decode cX4_sayer 22 = .ok (.iaload, 1) := by decide +kernel
theorem dX4_sayer_23 : decode cX4_sayer 23 = .ok (.ifCond .le 11, 3) := by decide +kernel
theorem dX4_sayer_26 : decode cX4_sayer 26 = .ok (.aload_n 0, 1) := by decide +kernel
theorem dX4_sayer_27 : decode cX4_sayer 27 = .ok (.iload_n 2, 1) := by decide +kernel
theorem dX4_sayer_28 : decode cX4_sayer 28 = .ok (.invokevirtual 71, 3) := by decide +kernel
theorem dX4_sayer_31 : decode cX4_sayer 31 = .ok (.goto 4, 3) := by decide +kernel
theorem dX4_sayer_34 : decode cX4_sayer 34 = .ok (.iconst (-1), 1) := by decide +kernel
theorem dX4_sayer_35 : decode cX4_sayer 35 = .ok (.iastore, 1) := by decide +kernel
theorem dX4_sayer_36 : decode cX4_sayer 36 = .ok (.aload_n 0, 1) := by decide +kernel
theorem dX4_sayer_37 : decode cX4_sayer 37 = .ok (.getfield 27, 3) := by decide +kernel
theorem dX4_sayer_40 : decode cX4_sayer 40 = .ok (.iload_n 2, 1) := by decide +kernel
theorem dX4_sayer_41 : decode cX4_sayer 41 = .ok (.iaload, 1) := by decide +kernel
theorem dX4_sayer_42 : decode cX4_sayer 42 = .ok (.ifCond .lt 24, 3) := by decide +kernel
theorem dX4_sayer_45 : decode cX4_sayer 45 = .ok (.iload_n 1, 1) := by decide +kernel
theorem dX4_sayer_46 : decode cX4_sayer 46 = .ok (.ifCond .lt 18, 3) := by decide +kernel
theorem dX4_sayer_49 : decode cX4_sayer 49 = .ok (.aload_n 0, 1) := by decide +kernel
theorem dX4_sayer_50 : decode cX4_sayer 50 = .ok (.getfield 27, 3) := by decide +kernel
theorem dX4_sayer_53 : decode cX4_sayer 53 = .ok (.iload_n 2, 1) := by decide +kernel
theorem dX4_sayer_54 : decode cX4_sayer 54 = .ok (.iaload, 1) := by decide +kernel
theorem dX4_sayer_55 : decode cX4_sayer 55 = .ok (.aload_n 0, 1) := by decide +kernel
theorem dX4_sayer_56 : decode cX4_sayer 56 = .ok (.getfield 27, 3) := by decide +kernel
theorem dX4_sayer_59 : decode cX4_sayer 59 = .ok (.iload_n 1, 1) := by decide +kernel
theorem dX4_sayer_60 : decode cX4_sayer 60 = .ok (.iaload, 1) := by decide +kernel
theorem dX4_sayer_61 : decode cX4_sayer 61 = .ok (.if_icmp .le 5, 3) := by decide +kernel
theorem dX4_sayer_64 : decode cX4_sayer 64 = .ok (.iload_n 2, 1) := by decide +kernel
theorem dX4_sayer_65 : decode cX4_sayer 65 = .ok (.istore_n 1, 1) := by decide +kernel
theorem dX4_sayer_66 : decode cX4_sayer 66 = .ok (.iinc 2 1, 3) := by decide +kernel
theorem dX4_sayer_69 : decode cX4_sayer 69 = .ok (.goto (-65), 3) := by decide +kernel
theorem dX4_sayer_72 : decode cX4_sayer 72 = .ok (.iload_n 1, 1) := by decide +kernel
theorem dX4_sayer_73 : decode cX4_sayer 73 = .ok (.ireturn, 1) := by decide +kernel
theorem dX4_pass_0 : decode cX4_pass 0 = .ok (.iconst 0, 1) := by decide +kernel
theorem dX4_pass_1 : decode cX4_pass 1 = .ok (.istore_n 3, 1) := by decide +kernel
theorem dX4_pass_2 : decode cX4_pass 2 = .ok (.iload_n 3, 1) := by decide +kernel
theorem dX4_pass_3 : decode cX4_pass 3 = .ok (.iload_n 1, 1) := by decide +kernel
theorem dX4_pass_4 : decode cX4_pass 4 = .ok (.if_icmp .ge 15, 3) := by decide +kernel
theorem dX4_pass_7 : decode cX4_pass 7 = .ok (.aload_n 0, 1) := by decide +kernel
theorem dX4_pass_8 : decode cX4_pass 8 = .ok (.iload_n 2, 1) := by decide +kernel
theorem dX4_pass_9 : decode cX4_pass 9 = .ok (.invokevirtual 74, 3) := by decide +kernel
theorem dX4_pass_12 : decode cX4_pass 12 = .ok (.pop, 1) := by decide +kernel
theorem dX4_pass_13 : decode cX4_pass 13 = .ok (.iinc 3 1, 3) := by decide +kernel
theorem dX4_pass_16 : decode cX4_pass 16 = .ok (.goto (-14), 3) := by decide +kernel
theorem dX4_pass_19 : decode cX4_pass 19 = .ok (.return_, 1) := by decide +kernel
theorem dX4_dine_0 : decode cX4_dine 0 = .ok (.aload_n 0, 1) := by decide +kernel
theorem dX4_dine_1 : decode cX4_dine 1 = .ok (.aload_n 0, 1) := by decide +kernel
theorem dX4_dine_2 : decode cX4_dine 2 = .ok (.invokevirtual 47, 3) := by decide +kernel
theorem dX4_dine_5 : decode cX4_dine 5 = .ok (.iload_n 1, 1) := by decide +kernel
theorem dX4_dine_6 : decode cX4_dine 6 = .ok (.invokevirtual 77, 3) := by decide +kernel
theorem dX4_dine_9 : decode cX4_dine 9 = .ok (.istore_n 2, 1) := by decide +kernel
theorem dX4_dine_10 : decode cX4_dine 10 = .ok (.iconst 0, 1) := by decide +kernel
theorem dX4_dine_11 : decode cX4_dine 11 = .ok (.istore_n 3, 1) := by decide +kernel
theorem dX4_dine_12 : decode cX4_dine 12 = .ok (.iload_n 3, 1) := by decide +kernel
theorem dX4_dine_13 : decode cX4_dine 13 = .ok (.aload_n 0, 1) := by decide +kernel
theorem dX4_dine_14 : decode cX4_dine 14 = .ok (.getfield 37, 3) := by decide +kernel
theorem dX4_dine_17 : decode cX4_dine 17 = .ok (.if_icmp .ge 60, 3) := by decide +kernel
theorem dX4_dine_20 : decode cX4_dine 20 = .ok (.aload_n 0, 1) := by decide +kernel
theorem dX4_dine_21 : decode cX4_dine 21 = .ok (.getfield 18, 3) := by decide +kernel
theorem dX4_dine_24 : decode cX4_dine 24 = .ok (.iload_n 3, 1) := by decide +kernel
theorem dX4_dine_25 : decode cX4_dine 25 = .ok (.iaload, 1) := by decide +kernel
theorem dX4_dine_26 : decode cX4_dine 26 = .ok (.ifCond .le 45, 3) := by decide +kernel
theorem dX4_dine_29 : decode cX4_dine 29 = .ok (.aload_n 0, 1) := by decide +kernel
theorem dX4_dine_30 : decode cX4_dine 30 = .ok (.getfield 21, 3) := by decide +kernel
theorem dX4_dine_33 : decode cX4_dine 33 = .ok (.iload_n 3, 1) := by decide +kernel
theorem dX4_dine_34 : decode cX4_dine 34 = .ok (.sipush 999, 3) := by decide +kernel
theorem dX4_dine_37 : decode cX4_dine 37 = .ok (.aload_n 0, 1) := by decide +kernel
theorem dX4_dine_38 : decode cX4_dine 38 = .ok (.getfield 21, 3) := by decide +kernel
theorem dX4_dine_41 : decode cX4_dine 41 = .ok (.iload_n 3, 1) := by decide +kernel
theorem dX4_dine_42 : decode cX4_dine 42 = .ok (.iaload, 1) := by decide +kernel
theorem dX4_dine_43 : decode cX4_dine 43 = .ok (.iconst 1, 1) := by decide +kernel
theorem dX4_dine_44 : decode cX4_dine 44 = .ok (.iadd, 1) := by decide +kernel
theorem dX4_dine_45 : decode cX4_dine 45 = .ok (.invokestatic 80, 3) := by decide +kernel
theorem dX4_dine_48 : decode cX4_dine 48 = .ok (.iastore, 1) := by decide +kernel
theorem dX4_dine_49 : decode cX4_dine 49 = .ok (.aload_n 0, 1) := by decide +kernel
theorem dX4_dine_50 : decode cX4_dine 50 = .ok (.getfield 18, 3) := by decide +kernel
theorem dX4_dine_53 : decode cX4_dine 53 = .ok (.iload_n 3, 1) := by decide +kernel
theorem dX4_dine_54 : decode cX4_dine 54 = .ok (.iconst 0, 1) := by decide +kernel
theorem dX4_dine_55 : decode cX4_dine 55 = .ok (.aload_n 0, 1) := by decide +kernel
theorem dX4_dine_56 : decode cX4_dine 56 = .ok (.getfield 18, 3) := by decide +kernel
theorem dX4_dine_59 : decode cX4_dine 59 = .ok (.iload_n 3, 1) := by decide +kernel
theorem dX4_dine_60 : decode cX4_dine 60 = .ok (.iaload, 1) := by decide +kernel
theorem dX4_dine_61 : decode cX4_dine 61 = .ok (.aload_n 0, 1) := by decide +kernel
theorem dX4_dine_62 : decode cX4_dine 62 = .ok (.iload_n 3, 1) := by decide +kernel
theorem dX4_dine_63 : decode cX4_dine 63 = .ok (.invokevirtual 83, 3) := by decide +kernel
theorem dX4_dine_66 : decode cX4_dine 66 = .ok (.isub, 1) := by decide +kernel
theorem dX4_dine_67 : decode cX4_dine 67 = .ok (.invokestatic 65, 3) := by decide +kernel
theorem dX4_dine_70 : decode cX4_dine 70 = .ok (.iastore, 1) := by decide +kernel
theorem dX4_dine_71 : decode cX4_dine 71 = .ok (.iinc 3 1, 3) := by decide +kernel
theorem dX4_dine_74 : decode cX4_dine 74 = .ok (.goto (-62), 3) := by decide +kernel
theorem dX4_dine_77 : decode cX4_dine 77 = .ok (.aload_n 0, 1) := by decide +kernel
theorem dX4_dine_78 : decode cX4_dine 78 = .ok (.ldc 86, 2) := by decide +kernel
theorem dX4_dine_80 : decode cX4_dine 80 = .ok (.aload_n 0, 1) := by decide +kernel
theorem dX4_dine_81 : decode cX4_dine 81 = .ok (.getfield 44, 3) := by decide +kernel
theorem dX4_dine_84 : decode cX4_dine 84 = .ok (.iload_n 2, 1) := by decide +kernel
theorem dX4_dine_85 : decode cX4_dine 85 = .ok (.iadd, 1) := by decide +kernel
theorem dX4_dine_86 : decode cX4_dine 86 = .ok (.invokestatic 80, 3) := by decide +kernel
theorem dX4_dine_89 : decode cX4_dine 89 = .ok (.putfield 44, 3) := by decide +kernel
theorem dX4_dine_92 : decode cX4_dine 92 = .ok (.aload_n 0, 1) := by decide +kernel
theorem dX4_dine_93 : decode cX4_dine 93 = .ok (.dup, 1) := by decide +kernel
theorem dX4_dine_94 : decode cX4_dine 94 = .ok (.getfield 41, 3) := by decide +kernel
theorem dX4_dine_97 : decode cX4_dine 97 = .ok (.iconst 1, 1) := by decide +kernel
theorem dX4_dine_98 : decode cX4_dine 98 = .ok (.iadd, 1) := by decide +kernel
theorem dX4_dine_99 : decode cX4_dine 99 = .ok (.putfield 41, 3) := by decide +kernel
theorem dX4_dine_102 : decode cX4_dine 102 = .ok (.iload_n 2, 1) := by decide +kernel
theorem dX4_dine_103 : decode cX4_dine 103 = .ok (.ireturn, 1) := by decide +kernel
theorem dX4_eat_0 : decode cX4_eat 0 = .ok (.iconst 0, 1) := by decide +kernel
theorem dX4_eat_1 : decode cX4_eat 1 = .ok (.istore_n 3, 1) := by decide +kernel
theorem dX4_eat_2 : decode cX4_eat 2 = .ok (.iload_n 3, 1) := by decide +kernel
theorem dX4_eat_3 : decode cX4_eat 3 = .ok (.aload_n 0, 1) := by decide +kernel
theorem dX4_eat_4 : decode cX4_eat 4 = .ok (.getfield 37, 3) := by decide +kernel
theorem dX4_eat_7 : decode cX4_eat 7 = .ok (.if_icmp .ge 34, 3) := by decide +kernel
theorem dX4_eat_10 : decode cX4_eat 10 = .ok (.aload_n 0, 1) := by decide +kernel
theorem dX4_eat_11 : decode cX4_eat 11 = .ok (.getfield 27, 3) := by decide +kernel
theorem dX4_eat_14 : decode cX4_eat 14 = .ok (.iload_n 3, 1) := by decide +kernel
theorem dX4_eat_15 : decode cX4_eat 15 = .ok (.iaload, 1) := by decide +kernel
theorem dX4_eat_16 : decode cX4_eat 16 = .ok (.ifCond .lt 19, 3) := by decide +kernel
theorem dX4_eat_19 : decode cX4_eat 19 = .ok (.aload_n 0, 1) := by decide +kernel
theorem dX4_eat_20 : decode cX4_eat 20 = .ok (.iload_n 1, 1) := by decide +kernel
theorem dX4_eat_21 : decode cX4_eat 21 = .ok (.iload_n 3, 1) := by decide +kernel
theorem dX4_eat_22 : decode cX4_eat 22 = .ok (.invokevirtual 51, 3) := by decide +kernel
theorem dX4_eat_25 : decode cX4_eat 25 = .ok (.ifCond .ne 10, 3) := by decide +kernel
theorem dX4_eat_28 : decode cX4_eat 28 = .ok (.aload_n 0, 1) := by decide +kernel
theorem dX4_eat_29 : decode cX4_eat 29 = .ok (.getfield 27, 3) := by decide +kernel
theorem dX4_eat_32 : decode cX4_eat 32 = .ok (.iload_n 3, 1) := by decide +kernel
theorem dX4_eat_33 : decode cX4_eat 33 = .ok (.iconst (-1), 1) := by decide +kernel
theorem dX4_eat_34 : decode cX4_eat 34 = .ok (.iastore, 1) := by decide +kernel
theorem dX4_eat_35 : decode cX4_eat 35 = .ok (.iinc 3 1, 3) := by decide +kernel
theorem dX4_eat_38 : decode cX4_eat 38 = .ok (.goto (-36), 3) := by decide +kernel
theorem dX4_eat_41 : decode cX4_eat 41 = .ok (.iload_n 2, 1) := by decide +kernel
theorem dX4_eat_42 : decode cX4_eat 42 = .ok (.istore_n 3, 1) := by decide +kernel
theorem dX4_eat_43 : decode cX4_eat 43 = .ok (.iconst 0, 1) := by decide +kernel
theorem dX4_eat_44 : decode cX4_eat 44 = .ok (.istore 4, 2) := by decide +kernel
theorem dX4_eat_46 : decode cX4_eat 46 = .ok (.iload 4, 2) := by decide +kernel
theorem dX4_eat_48 : decode cX4_eat 48 = .ok (.aload_n 0, 1) := by decide +kernel
theorem dX4_eat_49 : decode cX4_eat 49 = .ok (.getfield 37, 3) := by decide +kernel
theorem dX4_eat_52 : decode cX4_eat 52 = .ok (.if_icmp .ge 64, 3) := by decide +kernel
theorem dX4_eat_55 : decode cX4_eat 55 = .ok (.iload_n 3, 1) := by decide +kernel
theorem dX4_eat_56 : decode cX4_eat 56 = .ok (.ifCond .le 60, 3) := by decide +kernel
theorem dX4_eat_59 : decode cX4_eat 59 = .ok (.aload_n 0, 1) := by decide +kernel
theorem dX4_eat_60 : decode cX4_eat 60 = .ok (.invokevirtual 87, 3) := by decide +kernel
theorem dX4_eat_63 : decode cX4_eat 63 = .ok (.istore 5, 2) := by decide +kernel
theorem dX4_eat_65 : decode cX4_eat 65 = .ok (.iload 5, 2) := by decide +kernel
theorem dX4_eat_67 : decode cX4_eat 67 = .ok (.ifCond .ge 5, 3) := by decide +kernel
theorem dX4_eat_70 : decode cX4_eat 70 = .ok (.iload_n 3, 1) := by decide +kernel
theorem dX4_eat_71 : decode cX4_eat 71 = .ok (.ireturn, 1) := by decide +kernel
theorem dX4_eat_72 : decode cX4_eat 72 = .ok (.iload_n 3, 1) := by decide +kernel
theorem dX4_eat_73 : decode cX4_eat 73 = .ok (.aload_n 0, 1) := by decide +kernel
theorem dX4_eat_74 : decode cX4_eat 74 = .ok (.getfield 18, 3) := by decide +kernel
theorem dX4_eat_77 : decode cX4_eat 77 = .ok (.iload 5, 2) := by decide +kernel
theorem dX4_eat_79 : decode cX4_eat 79 = .ok (.iaload, 1) := by decide +kernel
theorem dX4_eat_80 : decode cX4_eat 80 = .ok (.invokestatic 80, 3) := by decide +kernel
theorem dX4_eat_83 : decode cX4_eat 83 = .ok (.istore 6, 2) := by decide +kernel
theorem dX4_eat_85 : decode cX4_eat 85 = .ok (.aload_n 0, 1) := by decide +kernel
theorem dX4_eat_86 : decode cX4_eat 86 = .ok (.getfield 18, 3) := by decide +kernel
theorem dX4_eat_89 : decode cX4_eat 89 = .ok (.iload 5, 2) := by decide +kernel
theorem dX4_eat_91 : decode cX4_eat 91 = .ok (.dup2, 1) := by decide +kernel
theorem dX4_eat_92 : decode cX4_eat 92 = .ok (.iaload, 1) := by decide +kernel
theorem dX4_eat_93 : decode cX4_eat 93 = .ok (.iload 6, 2) := by decide +kernel
theorem dX4_eat_95 : decode cX4_eat 95 = .ok (.isub, 1) := by decide +kernel
theorem dX4_eat_96 : decode cX4_eat 96 = .ok (.iastore, 1) := by decide +kernel
theorem dX4_eat_97 : decode cX4_eat 97 = .ok (.iload_n 3, 1) := by decide +kernel
theorem dX4_eat_98 : decode cX4_eat 98 = .ok (.iload 6, 2) := by decide +kernel
theorem dX4_eat_100 : decode cX4_eat 100 = .ok (.isub, 1) := by decide +kernel
theorem dX4_eat_101 : decode cX4_eat 101 = .ok (.istore_n 3, 1) := by decide +kernel
theorem dX4_eat_102 : decode cX4_eat 102 = .ok (.aload_n 0, 1) := by decide +kernel
theorem dX4_eat_103 : decode cX4_eat 103 = .ok (.getfield 27, 3) := by decide +kernel
theorem dX4_eat_106 : decode cX4_eat 106 = .ok (.iload 5, 2) := by decide +kernel
theorem dX4_eat_108 : decode cX4_eat 108 = .ok (.iconst (-1), 1) := by decide +kernel
theorem dX4_eat_109 : decode cX4_eat 109 = .ok (.iastore, 1) := by decide +kernel
theorem dX4_eat_110 : decode cX4_eat 110 = .ok (.iinc 4 1, 3) := by decide +kernel
theorem dX4_eat_113 : decode cX4_eat 113 = .ok (.goto (-67), 3) := by decide +kernel
theorem dX4_eat_116 : decode cX4_eat 116 = .ok (.iload_n 3, 1) := by decide +kernel
theorem dX4_eat_117 : decode cX4_eat 117 = .ok (.ireturn, 1) := by decide +kernel
theorem dX4_leastClaim_0 : decode cX4_leastClaim 0 = .ok (.iconst (-1), 1) := by decide +kernel
theorem dX4_leastClaim_1 : decode cX4_leastClaim 1 = .ok (.istore_n 1, 1) := by decide +kernel
theorem dX4_leastClaim_2 : decode cX4_leastClaim 2 = .ok (.iconst 0, 1) := by decide +kernel
theorem dX4_leastClaim_3 : decode cX4_leastClaim 3 = .ok (.istore_n 2, 1) := by decide +kernel
theorem dX4_leastClaim_4 : decode cX4_leastClaim 4 = .ok (.iload_n 2, 1) := by decide +kernel
theorem dX4_leastClaim_5 : decode cX4_leastClaim 5 = .ok (.aload_n 0, 1) := by decide +kernel
theorem dX4_leastClaim_6 : decode cX4_leastClaim 6 = .ok (.getfield 37, 3) := by decide +kernel
theorem dX4_leastClaim_9 : decode cX4_leastClaim 9 = .ok (.if_icmp .ge 39, 3) := by decide +kernel
theorem dX4_leastClaim_12 : decode cX4_leastClaim 12 = .ok (.aload_n 0, 1) := by decide +kernel
theorem dX4_leastClaim_13 : decode cX4_leastClaim 13 = .ok (.getfield 27, 3) := by decide +kernel
theorem dX4_leastClaim_16 : decode cX4_leastClaim 16 = .ok (.iload_n 2, 1) := by decide +kernel
theorem dX4_leastClaim_17 : decode cX4_leastClaim 17 = .ok (.iaload, 1) := by decide +kernel
theorem dX4_leastClaim_18 : decode cX4_leastClaim 18 = .ok (.ifCond .lt 24, 3) := by decide +kernel
theorem dX4_leastClaim_21 : decode cX4_leastClaim 21 = .ok (.iload_n 1, 1) := by decide +kernel
theorem dX4_leastClaim_22 : decode cX4_leastClaim 22 = .ok (.ifCond .lt 18, 3) := by decide +kernel
theorem dX4_leastClaim_25 : decode cX4_leastClaim 25 = .ok (.aload_n 0, 1) := by decide +kernel
theorem dX4_leastClaim_26 : decode cX4_leastClaim 26 = .ok (.getfield 27, 3) := by decide +kernel
theorem dX4_leastClaim_29 : decode cX4_leastClaim 29 = .ok (.iload_n 2, 1) := by decide +kernel
theorem dX4_leastClaim_30 : decode cX4_leastClaim 30 = .ok (.iaload, 1) := by decide +kernel
theorem dX4_leastClaim_31 : decode cX4_leastClaim 31 = .ok (.aload_n 0, 1) := by decide +kernel
theorem dX4_leastClaim_32 : decode cX4_leastClaim 32 = .ok (.getfield 27, 3) := by decide +kernel
theorem dX4_leastClaim_35 : decode cX4_leastClaim 35 = .ok (.iload_n 1, 1) := by decide +kernel
theorem dX4_leastClaim_36 : decode cX4_leastClaim 36 = .ok (.iaload, 1) := by decide +kernel
theorem dX4_leastClaim_37 : decode cX4_leastClaim 37 = .ok (.if_icmp .ge 5, 3) := by decide +kernel
theorem dX4_leastClaim_40 : decode cX4_leastClaim 40 = .ok (.iload_n 2, 1) := by decide +kernel
theorem dX4_leastClaim_41 : decode cX4_leastClaim 41 = .ok (.istore_n 1, 1) := by decide +kernel
theorem dX4_leastClaim_42 : decode cX4_leastClaim 42 = .ok (.iinc 2 1, 3) := by decide +kernel
theorem dX4_leastClaim_45 : decode cX4_leastClaim 45 = .ok (.goto (-41), 3) := by decide +kernel
theorem dX4_leastClaim_48 : decode cX4_leastClaim 48 = .ok (.iload_n 1, 1) := by decide +kernel
theorem dX4_leastClaim_49 : decode cX4_leastClaim 49 = .ok (.ireturn, 1) := by decide +kernel
theorem dX5_init_0 : decode cX5_init 0 = .ok (.aload_n 0, 1) := by decide +kernel
theorem dX5_init_1 : decode cX5_init 1 = .ok (.invokespecial 3, 3) := by decide +kernel
theorem dX5_init_4 : decode cX5_init 4 = .ok (.aload_n 0, 1) := by decide +kernel
theorem dX5_init_5 : decode cX5_init 5 = .ok (.bipush 30, 2) := by decide +kernel
theorem dX5_init_7 : decode cX5_init 7 = .ok (.newarray .int, 2) := by decide +kernel
theorem dX5_init_9 : decode cX5_init 9 = .ok (.putfield 9, 3) := by decide +kernel
theorem dX5_init_12 : decode cX5_init 12 = .ok (.return_, 1) := by decide +kernel
theorem dX5_speak_0 : decode cX5_speak 0 = .ok (.aload_n 0, 1) := by decide +kernel
theorem dX5_speak_1 : decode cX5_speak 1 = .ok (.aload_n 1, 1) := by decide +kernel
theorem dX5_speak_2 : decode cX5_speak 2 = .ok (.getfield 15, 3) := by decide +kernel
theorem dX5_speak_5 : decode cX5_speak 5 = .ok (.iload_n 2, 1) := by decide +kernel
theorem dX5_speak_6 : decode cX5_speak 6 = .ok (.iaload, 1) := by decide +kernel
theorem dX5_speak_7 : decode cX5_speak 7 = .ok (.putfield 20, 3) := by decide +kernel
theorem dX5_speak_10 : decode cX5_speak 10 = .ok (.aload_n 0, 1) := by decide +kernel
theorem dX5_speak_11 : decode cX5_speak 11 = .ok (.iload_n 2, 1) := by decide +kernel
theorem dX5_speak_12 : decode cX5_speak 12 = .ok (.putfield 23, 3) := by decide +kernel
theorem dX5_speak_15 : decode cX5_speak 15 = .ok (.aload_n 0, 1) := by decide +kernel
theorem dX5_speak_16 : decode cX5_speak 16 = .ok (.aload_n 1, 1) := by decide +kernel
theorem dX5_speak_17 : decode cX5_speak 17 = .ok (.getfield 26, 3) := by decide +kernel
theorem dX5_speak_20 : decode cX5_speak 20 = .ok (.iload_n 2, 1) := by decide +kernel
theorem dX5_speak_21 : decode cX5_speak 21 = .ok (.iaload, 1) := by decide +kernel
theorem dX5_speak_22 : decode cX5_speak 22 = .ok (.putfield 29, 3) := by decide +kernel
theorem dX5_speak_25 : decode cX5_speak 25 = .ok (.aload_n 0, 1) := by decide +kernel
theorem dX5_speak_26 : decode cX5_speak 26 = .ok (.iconst 0, 1) := by decide +kernel
theorem dX5_speak_27 : decode cX5_speak 27 = .ok (.putfield 32, 3) := by decide +kernel
theorem dX5_speak_30 : decode cX5_speak 30 = .ok (.aload_n 0, 1) := by decide +kernel
theorem dX5_speak_31 : decode cX5_speak 31 = .ok (.iconst 0, 1) := by decide +kernel
theorem dX5_speak_32 : decode cX5_speak 32 = .ok (.putfield 35, 3) := by decide +kernel
theorem dX5_speak_35 : decode cX5_speak 35 = .ok (.aload_n 0, 1) := by decide +kernel
theorem dX5_speak_36 : decode cX5_speak 36 = .ok (.iload_n 3, 1) := by decide +kernel
theorem dX5_speak_37 : decode cX5_speak 37 = .ok (.aload_n 0, 1) := by decide +kernel
theorem dX5_speak_38 : decode cX5_speak 38 = .ok (.getfield 20, 3) := by decide +kernel
theorem dX5_speak_41 : decode cX5_speak 41 = .ok (.iload 4, 2) := by decide +kernel
theorem dX5_speak_43 : decode cX5_speak 43 = .ok (.iconst 0, 1) := by decide +kernel
theorem dX5_speak_44 : decode cX5_speak 44 = .ok (.invokevirtual 39, 3) := by decide +kernel
theorem dX5_speak_47 : decode cX5_speak 47 = .ok (.ireturn, 1) := by decide +kernel
theorem dX5_say_0 : decode cX5_say 0 = .ok (.iload_n 1, 1) := by decide +kernel
theorem dX5_say_1 : decode cX5_say 1 = .ok (.iload_n 2, 1) := by decide +kernel
theorem dX5_say_2 : decode cX5_say 2 = .ok (.invokestatic 43, 3) := by decide +kernel
theorem dX5_say_5 : decode cX5_say 5 = .ok (.istore 5, 2) := by decide +kernel
theorem dX5_say_7 : decode cX5_say 7 = .ok (.iload 5, 2) := by decide +kernel
theorem dX5_say_9 : decode cX5_say 9 = .ok (.ifCond .lt 10, 3) := by decide +kernel
theorem dX5_say_12 : decode cX5_say 12 = .ok (.iload 4, 2) := by decide +kernel
theorem dX5_say_14 : decode cX5_say 14 = .ok (.bipush 30, 2) := by decide +kernel
theorem dX5_say_16 : decode cX5_say 16 = .ok (.if_icmp .le 5, 3) := by decide +kernel
theorem dX5_say_19 : decode cX5_say 19 = .ok (.iconst 0, 1) := by decide +kernel
theorem dX5_say_20 : decode cX5_say 20 = .ok (.ireturn, 1) := by decide +kernel
theorem dX5_say_21 : decode cX5_say 21 = .ok (.getstatic 47, 3) := by decide +kernel
theorem dX5_say_24 : decode cX5_say 24 = .ok (.iload 5, 2) := by decide +kernel
theorem dX5_say_26 : decode cX5_say 26 = .ok (.iconst 4, 1) := by decide +kernel
theorem dX5_say_27 : decode cX5_say 27 = .ok (.imul, 1) := by decide +kernel
theorem dX5_say_28 : decode cX5_say 28 = .ok (.iload_n 1, 1) := by decide +kernel
theorem dX5_say_29 : decode cX5_say 29 = .ok (.iadd, 1) := by decide +kernel
theorem dX5_say_30 : decode cX5_say 30 = .ok (.iaload, 1) := by decide +kernel
theorem dX5_say_31 : decode cX5_say 31 = .ok (.istore 6, 2) := by decide +kernel
theorem dX5_say_33 : decode cX5_say 33 = .ok (.getstatic 50, 3) := by decide +kernel
theorem dX5_say_36 : decode cX5_say 36 = .ok (.iload 5, 2) := by decide +kernel
theorem dX5_say_38 : decode cX5_say 38 = .ok (.iaload, 1) := by decide +kernel
theorem dX5_say_39 : decode cX5_say 39 = .ok (.istore 7, 2) := by decide +kernel
theorem dX5_say_41 : decode cX5_say 41 = .ok (.aload_n 0, 1) := by decide +kernel
theorem dX5_say_42 : decode cX5_say 42 = .ok (.iload 6, 2) := by decide +kernel
theorem dX5_say_44 : decode cX5_say 44 = .ok (.invokevirtual 53, 3) := by decide +kernel
theorem dX5_say_47 : decode cX5_say 47 = .ok (.iload 6, 2) := by decide +kernel
theorem dX5_say_49 : decode cX5_say 49 = .ok (.lookupswitch 298 #[(10, 115), (11, 122), (12, 139), (13, 159), (20, 165), (21, 180), (30, 199), (40, 214), (50, 229), (51, 244), (60, 262), (70, 277), (71, 280)], 115) := by decide +kernel
theorem dX5_say_164 : decode cX5_say 164 = .ok (.iload_n 3, 1) := by decide +kernel
theorem dX5_say_165 : decode cX5_say 165 = .ok (.aload_n 0, 1) := by decide +kernel
theorem dX5_say_166 : decode cX5_say 166 = .ok (.getfield 23, 3) := by decide +kernel
theorem dX5_say_169 : decode cX5_say 169 = .ok (.iadd, 1) := by decide +kernel
theorem dX5_say_170 : decode cX5_say 170 = .ok (.ireturn, 1) := by decide +kernel
theorem dX5_say_171 : decode cX5_say 171 = .ok (.aload_n 0, 1) := by decide +kernel
theorem dX5_say_172 : decode cX5_say 172 = .ok (.iconst 0, 1) := by decide +kernel
theorem dX5_say_173 : decode cX5_say 173 = .ok (.aload_n 0, 1) := by decide +kernel
theorem dX5_say_174 : decode cX5_say 174 = .ok (.getfield 20, 3) := by decide +kernel
theorem dX5_say_177 : decode cX5_say 177 = .ok (.iload_n 3, 1) := by decide +kernel
theorem dX5_say_178 : decode cX5_say 178 = .ok (.iload 4, 2) := by decide +kernel
theorem dX5_say_180 : decode cX5_say 180 = .ok (.iconst 1, 1) := by decide +kernel
theorem dX5_say_181 : decode cX5_say 181 = .ok (.iadd, 1) := by decide +kernel
theorem dX5_say_182 : decode cX5_say 182 = .ok (.invokevirtual 39, 3) := by decide +kernel
theorem dX5_say_185 : decode cX5_say 185 = .ok (.iconst 2, 1) := by decide +kernel
theorem dX5_say_186 : decode cX5_say 186 = .ok (.imul, 1) := by decide +kernel
theorem dX5_say_187 : decode cX5_say 187 = .ok (.ireturn, 1) := by decide +kernel
theorem dX5_say_188 : decode cX5_say 188 = .ok (.aload_n 0, 1) := by decide +kernel
theorem dX5_say_189 : decode cX5_say 189 = .ok (.iconst 1, 1) := by decide +kernel
theorem dX5_say_190 : decode cX5_say 190 = .ok (.aload_n 0, 1) := by decide +kernel
theorem dX5_say_191 : decode cX5_say 191 = .ok (.getfield 20, 3) := by decide +kernel
theorem dX5_say_194 : decode cX5_say 194 = .ok (.iload_n 3, 1) := by decide +kernel
theorem dX5_say_195 : decode cX5_say 195 = .ok (.iload 4, 2) := by decide +kernel
theorem dX5_say_197 : decode cX5_say 197 = .ok (.iconst 1, 1) := by decide +kernel
theorem dX5_say_198 : decode cX5_say 198 = .ok (.iadd, 1) := by decide +kernel
theorem dX5_say_199 : decode cX5_say 199 = .ok (.invokevirtual 39, 3) := by decide +kernel
theorem dX5_say_202 : decode cX5_say 202 = .ok (.aload_n 0, 1) := by decide +kernel
theorem dX5_say_203 : decode cX5_say 203 = .ok (.getfield 29, 3) := by decide +kernel
theorem dX5_say_206 : decode cX5_say 206 = .ok (.isub, 1) := by decide +kernel
theorem dX5_say_207 : decode cX5_say 207 = .ok (.ireturn, 1) := by decide +kernel
theorem dX5_say_208 : decode cX5_say 208 = .ok (.aload_n 0, 1) := by decide +kernel
theorem dX5_say_209 : decode cX5_say 209 = .ok (.iload_n 3, 1) := by decide +kernel
theorem dX5_say_210 : decode cX5_say 210 = .ok (.invokevirtual 57, 3) := by decide +kernel
theorem dX5_say_213 : decode cX5_say 213 = .ok (.ireturn, 1) := by decide +kernel
theorem dX5_say_214 : decode cX5_say 214 = .ok (.aload_n 0, 1) := by decide +kernel
theorem dX5_say_215 : decode cX5_say 215 = .ok (.iconst 0, 1) := by decide +kernel
theorem dX5_say_216 : decode cX5_say 216 = .ok (.iload 7, 2) := by decide +kernel
theorem dX5_say_218 : decode cX5_say 218 = .ok (.iload_n 3, 1) := by decide +kernel
theorem dX5_say_219 : decode cX5_say 219 = .ok (.iload 4, 2) := by decide +kernel
theorem dX5_say_221 : decode cX5_say 221 = .ok (.iconst 1, 1) := by decide +kernel
theorem dX5_say_222 : decode cX5_say 222 = .ok (.iadd, 1) := by decide +kernel
theorem dX5_say_223 : decode cX5_say 223 = .ok (.invokevirtual 39, 3) := by decide +kernel
theorem dX5_say_226 : decode cX5_say 226 = .ok (.iconst 4, 1) := by decide +kernel
theorem dX5_say_227 : decode cX5_say 227 = .ok (.isub, 1) := by decide +kernel
theorem dX5_say_228 : decode cX5_say 228 = .ok (.ireturn, 1) := by decide +kernel
theorem dX5_say_229 : decode cX5_say 229 = .ok (.aload_n 0, 1) := by decide +kernel
theorem dX5_say_230 : decode cX5_say 230 = .ok (.aload_n 0, 1) := by decide +kernel
theorem dX5_say_231 : decode cX5_say 231 = .ok (.iconst 3, 1) := by decide +kernel
theorem dX5_say_232 : decode cX5_say 232 = .ok (.iload 7, 2) := by decide +kernel
theorem dX5_say_234 : decode cX5_say 234 = .ok (.iload_n 3, 1) := by decide +kernel
theorem dX5_say_235 : decode cX5_say 235 = .ok (.iload 4, 2) := by decide +kernel
theorem dX5_say_237 : decode cX5_say 237 = .ok (.iconst 1, 1) := by decide +kernel
theorem dX5_say_238 : decode cX5_say 238 = .ok (.iadd, 1) := by decide +kernel
theorem dX5_say_239 : decode cX5_say 239 = .ok (.invokevirtual 39, 3) := by decide +kernel
theorem dX5_say_242 : decode cX5_say 242 = .ok (.iload 4, 2) := by decide +kernel
theorem dX5_say_244 : decode cX5_say 244 = .ok (.invokevirtual 61, 3) := by decide +kernel
theorem dX5_say_247 : decode cX5_say 247 = .ok (.ireturn, 1) := by decide +kernel
theorem dX5_say_248 : decode cX5_say 248 = .ok (.iconst 0, 1) := by decide +kernel
theorem dX5_say_249 : decode cX5_say 249 = .ok (.aload_n 0, 1) := by decide +kernel
theorem dX5_say_250 : decode cX5_say 250 = .ok (.iconst 1, 1) := by decide +kernel
theorem dX5_say_251 : decode cX5_say 251 = .ok (.iload 7, 2) := by decide +kernel
theorem dX5_say_253 : decode cX5_say 253 = .ok (.iload_n 3, 1) := by decide +kernel
theorem dX5_say_254 : decode cX5_say 254 = .ok (.iload 4, 2) := by decide +kernel
theorem dX5_say_256 : decode cX5_say 256 = .ok (.iconst 1, 1) := by decide +kernel
theorem dX5_say_257 : decode cX5_say 257 = .ok (.iadd, 1) := by decide +kernel
theorem dX5_say_258 : decode cX5_say 258 = .ok (.invokevirtual 39, 3) := by decide +kernel
theorem dX5_say_261 : decode cX5_say 261 = .ok (.isub, 1) := by decide +kernel
theorem dX5_say_262 : decode cX5_say 262 = .ok (.ireturn, 1) := by decide +kernel
theorem dX5_say_263 : decode cX5_say 263 = .ok (.aload_n 0, 1) := by decide +kernel
theorem dX5_say_264 : decode cX5_say 264 = .ok (.iconst 2, 1) := by decide +kernel
theorem dX5_say_265 : decode cX5_say 265 = .ok (.iload 7, 2) := by decide +kernel
theorem dX5_say_267 : decode cX5_say 267 = .ok (.iload_n 3, 1) := by decide +kernel
theorem dX5_say_268 : decode cX5_say 268 = .ok (.iconst 2, 1) := by decide +kernel
theorem dX5_say_269 : decode cX5_say 269 = .ok (.idiv, 1) := by decide +kernel
theorem dX5_say_270 : decode cX5_say 270 = .ok (.iload 4, 2) := by decide +kernel
theorem dX5_say_272 : decode cX5_say 272 = .ok (.iconst 1, 1) := by decide +kernel
theorem dX5_say_273 : decode cX5_say 273 = .ok (.iadd, 1) := by decide +kernel
theorem dX5_say_274 : decode cX5_say 274 = .ok (.invokevirtual 39, 3) := by decide +kernel
theorem dX5_say_277 : decode cX5_say 277 = .ok (.ireturn, 1) := by decide +kernel
theorem dX5_say_278 : decode cX5_say 278 = .ok (.aload_n 0, 1) := by decide +kernel
theorem dX5_say_279 : decode cX5_say 279 = .ok (.iconst 0, 1) := by decide +kernel
theorem dX5_say_280 : decode cX5_say 280 = .ok (.iload 7, 2) := by decide +kernel
theorem dX5_say_282 : decode cX5_say 282 = .ok (.iload_n 3, 1) := by decide +kernel
theorem dX5_say_283 : decode cX5_say 283 = .ok (.iload 4, 2) := by decide +kernel
theorem dX5_say_285 : decode cX5_say 285 = .ok (.iconst 1, 1) := by decide +kernel
theorem dX5_say_286 : decode cX5_say 286 = .ok (.iadd, 1) := by decide +kernel
theorem dX5_say_287 : decode cX5_say 287 = .ok (.invokevirtual 39, 3) := by decide +kernel
theorem dX5_say_290 : decode cX5_say 290 = .ok (.iconst 3, 1) := by decide +kernel
theorem dX5_say_291 : decode cX5_say 291 = .ok (.imul, 1) := by decide +kernel
theorem dX5_say_292 : decode cX5_say 292 = .ok (.ireturn, 1) := by decide +kernel
theorem dX5_say_293 : decode cX5_say 293 = .ok (.aload_n 0, 1) := by decide +kernel
theorem dX5_say_294 : decode cX5_say 294 = .ok (.iconst 2, 1) := by decide +kernel
theorem dX5_say_295 : decode cX5_say 295 = .ok (.iload 7, 2) := by decide +kernel
theorem dX5_say_297 : decode cX5_say 297 = .ok (.iload_n 3, 1) := by decide +kernel
theorem dX5_say_298 : decode cX5_say 298 = .ok (.iload 4, 2) := by decide +kernel
theorem dX5_say_300 : decode cX5_say 300 = .ok (.iconst 1, 1) := by decide +kernel
theorem dX5_say_301 : decode cX5_say 301 = .ok (.iadd, 1) := by decide +kernel
theorem dX5_say_302 : decode cX5_say 302 = .ok (.invokevirtual 39, 3) := by decide +kernel
theorem dX5_say_305 : decode cX5_say 305 = .ok (.aload_n 0, 1) := by decide +kernel
theorem dX5_say_306 : decode cX5_say 306 = .ok (.getfield 23, 3) := by decide +kernel
theorem dX5_say_309 : decode cX5_say 309 = .ok (.ixor, 1) := by decide +kernel
theorem dX5_say_310 : decode cX5_say 310 = .ok (.ireturn, 1) := by decide +kernel
theorem dX5_say_311 : decode cX5_say 311 = .ok (.aload_n 0, 1) := by decide +kernel
theorem dX5_say_312 : decode cX5_say 312 = .ok (.iconst 1, 1) := by decide +kernel
theorem dX5_say_313 : decode cX5_say 313 = .ok (.iload 7, 2) := by decide +kernel
theorem dX5_say_315 : decode cX5_say 315 = .ok (.iload_n 3, 1) := by decide +kernel
theorem dX5_say_316 : decode cX5_say 316 = .ok (.iconst 1, 1) := by decide +kernel
theorem dX5_say_317 : decode cX5_say 317 = .ok (.iadd, 1) := by decide +kernel
theorem dX5_say_318 : decode cX5_say 318 = .ok (.iload 4, 2) := by decide +kernel
theorem dX5_say_320 : decode cX5_say 320 = .ok (.iconst 1, 1) := by decide +kernel
theorem dX5_say_321 : decode cX5_say 321 = .ok (.iadd, 1) := by decide +kernel
theorem dX5_say_322 : decode cX5_say 322 = .ok (.invokevirtual 39, 3) := by decide +kernel
theorem dX5_say_325 : decode cX5_say 325 = .ok (.ireturn, 1) := by decide +kernel
theorem dX5_say_326 : decode cX5_say 326 = .ok (.bipush 9, 2) := by decide +kernel
theorem dX5_say_328 : decode cX5_say 328 = .ok (.ireturn, 1) := by decide +kernel
theorem dX5_say_329 : decode cX5_say 329 = .ok (.aload_n 0, 1) := by decide +kernel
theorem dX5_say_330 : decode cX5_say 330 = .ok (.iconst 1, 1) := by decide +kernel
theorem dX5_say_331 : decode cX5_say 331 = .ok (.iload 7, 2) := by decide +kernel
theorem dX5_say_333 : decode cX5_say 333 = .ok (.iload_n 3, 1) := by decide +kernel
theorem dX5_say_334 : decode cX5_say 334 = .ok (.iload 4, 2) := by decide +kernel
theorem dX5_say_336 : decode cX5_say 336 = .ok (.iconst 1, 1) := by decide +kernel
theorem dX5_say_337 : decode cX5_say 337 = .ok (.iadd, 1) := by decide +kernel
theorem dX5_say_338 : decode cX5_say 338 = .ok (.invokevirtual 39, 3) := by decide +kernel
theorem dX5_say_341 : decode cX5_say 341 = .ok (.aload_n 0, 1) := by decide +kernel
theorem dX5_say_342 : decode cX5_say 342 = .ok (.getfield 29, 3) := by decide +kernel
theorem dX5_say_345 : decode cX5_say 345 = .ok (.iadd, 1) := by decide +kernel
theorem dX5_say_346 : decode cX5_say 346 = .ok (.ireturn, 1) := by decide +kernel
theorem dX5_say_347 : decode cX5_say 347 = .ok (.iconst 0, 1) := by decide +kernel
theorem dX5_say_348 : decode cX5_say 348 = .ok (.ireturn, 1) := by decide +kernel
theorem dX5_ownerOf_0 : decode cX5_ownerOf 0 = .ok (.iload_n 1, 1) := by decide +kernel
theorem dX5_ownerOf_1 : decode cX5_ownerOf 1 = .ok (.istore_n 2, 1) := by decide +kernel
theorem dX5_ownerOf_2 : decode cX5_ownerOf 2 = .ok (.iconst 0, 1) := by decide +kernel
theorem dX5_ownerOf_3 : decode cX5_ownerOf 3 = .ok (.istore_n 3, 1) := by decide +kernel
theorem dX5_ownerOf_4 : decode cX5_ownerOf 4 = .ok (.iload_n 3, 1) := by decide +kernel
theorem dX5_ownerOf_5 : decode cX5_ownerOf 5 = .ok (.bipush 7, 2) := by decide +kernel
theorem dX5_ownerOf_7 : decode cX5_ownerOf 7 = .ok (.if_icmp .ge 33, 3) := by decide +kernel
theorem dX5_ownerOf_10 : decode cX5_ownerOf 10 = .ok (.iload_n 2, 1) := by decide +kernel
theorem dX5_ownerOf_11 : decode cX5_ownerOf 11 = .ok (.ifCond .lt 29, 3) := by decide +kernel
theorem dX5_ownerOf_14 : decode cX5_ownerOf 14 = .ok (.getstatic 47, 3) := by decide +kernel
theorem dX5_ownerOf_17 : decode cX5_ownerOf 17 = .ok (.iload_n 2, 1) := by decide +kernel
theorem dX5_ownerOf_18 : decode cX5_ownerOf 18 = .ok (.iconst 4, 1) := by decide +kernel
theorem dX5_ownerOf_19 : decode cX5_ownerOf 19 = .ok (.imul, 1) := by decide +kernel
theorem dX5_ownerOf_20 : decode cX5_ownerOf 20 = .ok (.iload_n 0, 1) := by decide +kernel
theorem dX5_ownerOf_21 : decode cX5_ownerOf 21 = .ok (.iadd, 1) := by decide +kernel
theorem dX5_ownerOf_22 : decode cX5_ownerOf 22 = .ok (.iaload, 1) := by decide +kernel
theorem dX5_ownerOf_23 : decode cX5_ownerOf 23 = .ok (.ifCond .eq 5, 3) := by decide +kernel
theorem dX5_ownerOf_26 : decode cX5_ownerOf 26 = .ok (.iload_n 2, 1) := by decide +kernel
theorem dX5_ownerOf_27 : decode cX5_ownerOf 27 = .ok (.ireturn, 1) := by decide +kernel
theorem dX5_ownerOf_28 : decode cX5_ownerOf 28 = .ok (.getstatic 50, 3) := by decide +kernel
theorem dX5_ownerOf_31 : decode cX5_ownerOf 31 = .ok (.iload_n 2, 1) := by decide +kernel
theorem dX5_ownerOf_32 : decode cX5_ownerOf 32 = .ok (.iaload, 1) := by decide +kernel
theorem dX5_ownerOf_33 : decode cX5_ownerOf 33 = .ok (.istore_n 2, 1) := by decide +kernel
theorem dX5_ownerOf_34 : decode cX5_ownerOf 34 = .ok (.iinc 3 1, 3) := by decide +kernel
theorem dX5_ownerOf_37 : decode cX5_ownerOf 37 = .ok (.goto (-33), 3) := by decide +kernel
theorem dX5_ownerOf_40 : decode cX5_ownerOf 40 = .ok (.iconst (-1), 1) := by decide +kernel
theorem dX5_ownerOf_41 : decode cX5_ownerOf 41 = .ok (.ireturn, 1) := by decide +kernel
theorem dX5_began_0 : decode cX5_began 0 = .ok (.aload_n 0, 1) := by decide +kernel
theorem dX5_began_1 : decode cX5_began 1 = .ok (.getfield 32, 3) := by decide +kernel
theorem dX5_began_4 : decode cX5_began 4 = .ok (.bipush 30, 2) := by decide +kernel
theorem dX5_began_6 : decode cX5_began 6 = .ok (.if_icmp .ge 23, 3) := by decide +kernel
theorem dX5_began_9 : decode cX5_began 9 = .ok (.aload_n 0, 1) := by decide +kernel
theorem dX5_began_10 : decode cX5_began 10 = .ok (.getfield 9, 3) := by decide +kernel
theorem dX5_began_13 : decode cX5_began 13 = .ok (.aload_n 0, 1) := by decide +kernel
theorem dX5_began_14 : decode cX5_began 14 = .ok (.getfield 32, 3) := by decide +kernel
theorem dX5_began_17 : decode cX5_began 17 = .ok (.iload_n 1, 1) := by decide +kernel
theorem dX5_began_18 : decode cX5_began 18 = .ok (.iastore, 1) := by decide +kernel
theorem dX5_began_19 : decode cX5_began 19 = .ok (.aload_n 0, 1) := by decide +kernel
theorem dX5_began_20 : decode cX5_began 20 = .ok (.dup, 1) := by decide +kernel
theorem dX5_began_21 : decode cX5_began 21 = .ok (.getfield 32, 3) := by decide +kernel
theorem dX5_began_24 : decode cX5_began 24 = .ok (.iconst 1, 1) := by decide +kernel
theorem dX5_began_25 : decode cX5_began 25 = .ok (.iadd, 1) := by decide +kernel
theorem dX5_began_26 : decode cX5_began 26 = .ok (.putfield 32, 3) := by decide +kernel
theorem dX5_began_29 : decode cX5_began 29 = .ok (.return_, 1) := by decide +kernel
theorem dX5_part_0 : decode cX5_part 0 = .ok (.aload_n 0, 1) := by decide +kernel
theorem dX5_part_1 : decode cX5_part 1 = .ok (.getfield 29, 3) := by decide +kernel
theorem dX5_part_4 : decode cX5_part 4 = .ok (.aload_n 0, 1) := by decide +kernel
theorem dX5_part_5 : decode cX5_part 5 = .ok (.getfield 23, 3) := by decide +kernel
theorem dX5_part_8 : decode cX5_part 8 = .ok (.isub, 1) := by decide +kernel
theorem dX5_part_9 : decode cX5_part 9 = .ok (.istore_n 2, 1) := by decide +kernel
theorem dX5_part_10 : decode cX5_part 10 = .ok (.aload_n 0, 1) := by decide +kernel
theorem dX5_part_11 : decode cX5_part 11 = .ok (.iload_n 2, 1) := by decide +kernel
theorem dX5_part_12 : decode cX5_part 12 = .ok (.ifCond .ne 7, 3) := by decide +kernel
theorem dX5_part_15 : decode cX5_part 15 = .ok (.iconst 1, 1) := by decide +kernel
theorem dX5_part_16 : decode cX5_part 16 = .ok (.goto 4, 3) := by decide +kernel
theorem dX5_part_19 : decode cX5_part 19 = .ok (.iconst 0, 1) := by decide +kernel
theorem dX5_part_20 : decode cX5_part 20 = .ok (.putfield 35, 3) := by decide +kernel
theorem dX5_part_23 : decode cX5_part 23 = .ok (.aload_n 0, 1) := by decide +kernel
theorem dX5_part_24 : decode cX5_part 24 = .ok (.getfield 35, 3) := by decide +kernel
theorem dX5_part_27 : decode cX5_part 27 = .ok (.ifCond .eq 7, 3) := by decide +kernel
theorem dX5_part_30 : decode cX5_part 30 = .ok (.iconst 0, 1) := by decide +kernel
theorem dX5_part_31 : decode cX5_part 31 = .ok (.goto 6, 3) := by decide +kernel
theorem dX5_part_34 : decode cX5_part 34 = .ok (.iload_n 1, 1) := by decide +kernel
theorem dX5_part_35 : decode cX5_part 35 = .ok (.iload_n 2, 1) := by decide +kernel
theorem dX5_part_36 : decode cX5_part 36 = .ok (.idiv, 1) := by decide +kernel
theorem dX5_part_37 : decode cX5_part 37 = .ok (.ireturn, 1) := by decide +kernel
theorem dX5_partOfJoint_0 : decode cX5_partOfJoint 0 = .ok (.aload_n 0, 1) := by decide +kernel
theorem dX5_partOfJoint_1 : decode cX5_partOfJoint 1 = .ok (.getfield 35, 3) := by decide +kernel
theorem dX5_partOfJoint_4 : decode cX5_partOfJoint 4 = .ok (.ifCond .eq 7, 3) := by decide +kernel
theorem dX5_partOfJoint_7 : decode cX5_partOfJoint 7 = .ok (.iconst 0, 1) := by decide +kernel
theorem dX5_partOfJoint_8 : decode cX5_partOfJoint 8 = .ok (.goto 18, 3) := by decide +kernel
theorem dX5_partOfJoint_11 : decode cX5_partOfJoint 11 = .ok (.iload_n 1, 1) := by decide +kernel
theorem dX5_partOfJoint_12 : decode cX5_partOfJoint 12 = .ok (.aload_n 0, 1) := by decide +kernel
theorem dX5_partOfJoint_13 : decode cX5_partOfJoint 13 = .ok (.iconst 1, 1) := by decide +kernel
theorem dX5_partOfJoint_14 : decode cX5_partOfJoint 14 = .ok (.aload_n 0, 1) := by decide +kernel
theorem dX5_partOfJoint_15 : decode cX5_partOfJoint 15 = .ok (.getfield 20, 3) := by decide +kernel
theorem dX5_partOfJoint_18 : decode cX5_partOfJoint 18 = .ok (.iconst 1, 1) := by decide +kernel
theorem dX5_partOfJoint_19 : decode cX5_partOfJoint 19 = .ok (.iload_n 2, 1) := by decide +kernel
theorem dX5_partOfJoint_20 : decode cX5_partOfJoint 20 = .ok (.iconst 1, 1) := by decide +kernel
theorem dX5_partOfJoint_21 : decode cX5_partOfJoint 21 = .ok (.iadd, 1) := by decide +kernel
theorem dX5_partOfJoint_22 : decode cX5_partOfJoint 22 = .ok (.invokevirtual 39, 3) := by decide +kernel
theorem dX5_partOfJoint_25 : decode cX5_partOfJoint 25 = .ok (.iadd, 1) := by decide +kernel
theorem dX5_partOfJoint_26 : decode cX5_partOfJoint 26 = .ok (.ireturn, 1) := by decide +kernel
theorem dX6_init_0 : decode cX6_init 0 = .ok (.aload_n 0, 1) := by decide +kernel
theorem dX6_init_1 : decode cX6_init 1 = .ok (.invokespecial 3, 3) := by decide +kernel
theorem dX6_init_4 : decode cX6_init 4 = .ok (.aload_n 0, 1) := by decide +kernel
theorem dX6_init_5 : decode cX6_init 5 = .ok (.new 9, 3) := by decide +kernel
theorem dX6_init_8 : decode cX6_init 8 = .ok (.dup, 1) := by decide +kernel
theorem dX6_init_9 : decode cX6_init 9 = .ok (.invokespecial 11, 3) := by decide +kernel
theorem dX6_init_12 : decode cX6_init 12 = .ok (.putfield 12, 3) := by decide +kernel
theorem dX6_init_15 : decode cX6_init 15 = .ok (.aload_n 0, 1) := by decide +kernel
theorem dX6_init_16 : decode cX6_init 16 = .ok (.new 9, 3) := by decide +kernel
theorem dX6_init_19 : decode cX6_init 19 = .ok (.dup, 1) := by decide +kernel
theorem dX6_init_20 : decode cX6_init 20 = .ok (.invokespecial 11, 3) := by decide +kernel
theorem dX6_init_23 : decode cX6_init 23 = .ok (.putfield 16, 3) := by decide +kernel
theorem dX6_init_26 : decode cX6_init 26 = .ok (.aload_n 0, 1) := by decide +kernel
theorem dX6_init_27 : decode cX6_init 27 = .ok (.aload_n 0, 1) := by decide +kernel
theorem dX6_init_28 : decode cX6_init 28 = .ok (.getfield 12, 3) := by decide +kernel
theorem dX6_init_31 : decode cX6_init 31 = .ok (.getfield 19, 3) := by decide +kernel
theorem dX6_init_34 : decode cX6_init 34 = .ok (.putfield 23, 3) := by decide +kernel
theorem dX6_init_37 : decode cX6_init 37 = .ok (.aload_n 0, 1) := by decide +kernel
theorem dX6_init_38 : decode cX6_init 38 = .ok (.new 24, 3) := by decide +kernel
theorem dX6_init_41 : decode cX6_init 41 = .ok (.dup, 1) := by decide +kernel
theorem dX6_init_42 : decode cX6_init 42 = .ok (.aload_n 0, 1) := by decide +kernel
theorem dX6_init_43 : decode cX6_init 43 = .ok (.getfield 12, 3) := by decide +kernel
theorem dX6_init_46 : decode cX6_init 46 = .ok (.getfield 26, 3) := by decide +kernel
theorem dX6_init_49 : decode cX6_init 49 = .ok (.aload_n 0, 1) := by decide +kernel
theorem dX6_init_50 : decode cX6_init 50 = .ok (.getfield 12, 3) := by decide +kernel
theorem dX6_init_53 : decode cX6_init 53 = .ok (.getfield 30, 3) := by decide +kernel
theorem dX6_init_56 : decode cX6_init 56 = .ok (.invokespecial 33, 3) := by decide +kernel
theorem dX6_init_59 : decode cX6_init 59 = .ok (.putfield 36, 3) := by decide +kernel
theorem dX6_init_62 : decode cX6_init 62 = .ok (.aload_n 0, 1) := by decide +kernel
theorem dX6_init_63 : decode cX6_init 63 = .ok (.new 39, 3) := by decide +kernel
theorem dX6_init_66 : decode cX6_init 66 = .ok (.dup, 1) := by decide +kernel
theorem dX6_init_67 : decode cX6_init 67 = .ok (.invokespecial 41, 3) := by decide +kernel
theorem dX6_init_70 : decode cX6_init 70 = .ok (.putfield 42, 3) := by decide +kernel
theorem dX6_init_73 : decode cX6_init 73 = .ok (.aload_n 0, 1) := by decide +kernel
theorem dX6_init_74 : decode cX6_init 74 = .ok (.new 46, 3) := by decide +kernel
theorem dX6_init_77 : decode cX6_init 77 = .ok (.dup, 1) := by decide +kernel
theorem dX6_init_78 : decode cX6_init 78 = .ok (.invokespecial 48, 3) := by decide +kernel
theorem dX6_init_81 : decode cX6_init 81 = .ok (.putfield 49, 3) := by decide +kernel
theorem dX6_init_84 : decode cX6_init 84 = .ok (.aload_n 0, 1) := by decide +kernel
theorem dX6_init_85 : decode cX6_init 85 = .ok (.iconst 4, 1) := by decide +kernel
theorem dX6_init_86 : decode cX6_init 86 = .ok (.anewarray 53, 3) := by decide +kernel
theorem dX6_init_89 : decode cX6_init 89 = .ok (.putfield 55, 3) := by decide +kernel
theorem dX6_init_92 : decode cX6_init 92 = .ok (.aload_n 0, 1) := by decide +kernel
theorem dX6_init_93 : decode cX6_init 93 = .ok (.bipush 7, 2) := by decide +kernel
theorem dX6_init_95 : decode cX6_init 95 = .ok (.newarray .int, 2) := by decide +kernel
theorem dX6_init_97 : decode cX6_init 97 = .ok (.putfield 59, 3) := by decide +kernel
theorem dX6_init_100 : decode cX6_init 100 = .ok (.iconst 0, 1) := by decide +kernel
theorem dX6_init_101 : decode cX6_init 101 = .ok (.istore_n 1, 1) := by decide +kernel
theorem dX6_init_102 : decode cX6_init 102 = .ok (.iload_n 1, 1) := by decide +kernel
theorem dX6_init_103 : decode cX6_init 103 = .ok (.iconst 4, 1) := by decide +kernel
theorem dX6_init_104 : decode cX6_init 104 = .ok (.if_icmp .ge 22, 3) := by decide +kernel
theorem dX6_init_107 : decode cX6_init 107 = .ok (.aload_n 0, 1) := by decide +kernel
theorem dX6_init_108 : decode cX6_init 108 = .ok (.getfield 55, 3) := by decide +kernel
theorem dX6_init_111 : decode cX6_init 111 = .ok (.iload_n 1, 1) := by decide +kernel
theorem dX6_init_112 : decode cX6_init 112 = .ok (.new 53, 3) := by decide +kernel
theorem dX6_init_115 : decode cX6_init 115 = .ok (.dup, 1) := by decide +kernel
theorem dX6_init_116 : decode cX6_init 116 = .ok (.invokespecial 63, 3) := by decide +kernel
theorem dX6_init_119 : decode cX6_init 119 = .ok (.aastore, 1) := by decide +kernel
theorem dX6_init_120 : decode cX6_init 120 = .ok (.iinc 1 1, 3) := by decide +kernel
theorem dX6_init_123 : decode cX6_init 123 = .ok (.goto (-21), 3) := by decide +kernel
theorem dX6_init_126 : decode cX6_init 126 = .ok (.return_, 1) := by decide +kernel
theorem dX6_dish_0 : decode cX6_dish 0 = .ok (.iload_n 1, 1) := by decide +kernel
theorem dX6_dish_1 : decode cX6_dish 1 = .ok (.invokestatic 64, 3) := by decide +kernel
theorem dX6_dish_4 : decode cX6_dish 4 = .ok (.ifCond .eq 23, 3) := by decide +kernel
theorem dX6_dish_7 : decode cX6_dish 7 = .ok (.iload_n 2, 1) := by decide +kernel
theorem dX6_dish_8 : decode cX6_dish 8 = .ok (.iconst 0, 1) := by decide +kernel
theorem dX6_dish_9 : decode cX6_dish 9 = .ok (.bipush 99, 2) := by decide +kernel
theorem dX6_dish_11 : decode cX6_dish 11 = .ok (.invokestatic 68, 3) := by decide +kernel
theorem dX6_dish_14 : decode cX6_dish 14 = .ok (.ifCond .eq 13, 3) := by decide +kernel
theorem dX6_dish_17 : decode cX6_dish 17 = .ok (.iload_n 3, 1) := by decide +kernel
theorem dX6_dish_18 : decode cX6_dish 18 = .ok (.iconst 0, 1) := by decide +kernel
theorem dX6_dish_19 : decode cX6_dish 19 = .ok (.bipush 9, 2) := by decide +kernel
theorem dX6_dish_21 : decode cX6_dish 21 = .ok (.invokestatic 68, 3) := by decide +kernel
theorem dX6_dish_24 : decode cX6_dish 24 = .ok (.ifCond .ne 9, 3) := by decide +kernel
theorem dX6_dish_27 : decode cX6_dish 27 = .ok (.aload_n 0, 1) := by decide +kernel
theorem dX6_dish_28 : decode cX6_dish 28 = .ok (.iconst 1, 1) := by decide +kernel
theorem dX6_dish_29 : decode cX6_dish 29 = .ok (.invokevirtual 72, 3) := by decide +kernel
theorem dX6_dish_32 : decode cX6_dish 32 = .ok (.ireturn, 1) := by decide +kernel
theorem dX6_dish_33 : decode cX6_dish 33 = .ok (.aload_n 0, 1) := by decide +kernel
theorem dX6_dish_34 : decode cX6_dish 34 = .ok (.getfield 23, 3) := by decide +kernel
theorem dX6_dish_37 : decode cX6_dish 37 = .ok (.getfield 76, 3) := by decide +kernel
theorem dX6_dish_40 : decode cX6_dish 40 = .ok (.bipush 9, 2) := by decide +kernel
theorem dX6_dish_42 : decode cX6_dish 42 = .ok (.if_icmp .lt 9, 3) := by decide +kernel
theorem dX6_dish_45 : decode cX6_dish 45 = .ok (.aload_n 0, 1) := by decide +kernel
theorem dX6_dish_46 : decode cX6_dish 46 = .ok (.iconst 4, 1) := by decide +kernel
theorem dX6_dish_47 : decode cX6_dish 47 = .ok (.invokevirtual 72, 3) := by decide +kernel
theorem dX6_dish_50 : decode cX6_dish 50 = .ok (.ireturn, 1) := by decide +kernel
theorem dX6_dish_51 : decode cX6_dish 51 = .ok (.aload_n 0, 1) := by decide +kernel
theorem dX6_dish_52 : decode cX6_dish 52 = .ok (.getfield 23, 3) := by decide +kernel
theorem dX6_dish_55 : decode cX6_dish 55 = .ok (.iload_n 1, 1) := by decide +kernel
theorem dX6_dish_56 : decode cX6_dish 56 = .ok (.iload_n 2, 1) := by decide +kernel
theorem dX6_dish_57 : decode cX6_dish 57 = .ok (.iload_n 3, 1) := by decide +kernel
theorem dX6_dish_58 : decode cX6_dish 58 = .ok (.invokevirtual 80, 3) := by decide +kernel
theorem dX6_dish_61 : decode cX6_dish 61 = .ok (.ireturn, 1) := by decide +kernel
theorem dX6_dishIs_0 : decode cX6_dishIs 0 = .ok (.aload_n 0, 1) := by decide +kernel
theorem dX6_dishIs_1 : decode cX6_dishIs 1 = .ok (.getfield 23, 3) := by decide +kernel
theorem dX6_dishIs_4 : decode cX6_dishIs 4 = .ok (.iload_n 1, 1) := by decide +kernel
theorem dX6_dishIs_5 : decode cX6_dishIs 5 = .ok (.invokevirtual 84, 3) := by decide +kernel
theorem dX6_dishIs_8 : decode cX6_dishIs 8 = .ok (.ifCond .ne 9, 3) := by decide +kernel
theorem dX6_dishIs_11 : decode cX6_dishIs 11 = .ok (.aload_n 0, 1) := by decide +kernel
theorem dX6_dishIs_12 : decode cX6_dishIs 12 = .ok (.iconst 1, 1) := by decide +kernel
theorem dX6_dishIs_13 : decode cX6_dishIs 13 = .ok (.invokevirtual 72, 3) := by decide +kernel
theorem dX6_dishIs_16 : decode cX6_dishIs 16 = .ok (.ireturn, 1) := by decide +kernel
theorem dX6_dishIs_17 : decode cX6_dishIs 17 = .ok (.iload_n 2, 1) := by decide +kernel
theorem dX6_dishIs_18 : decode cX6_dishIs 18 = .ok (.tableswitch 138 0 7 #[46, 56, 66, 76, 86, 96, 105, 114], 46) := by decide +kernel
theorem dX6_dishIs_64 : decode cX6_dishIs 64 = .ok (.aload_n 0, 1) := by decide +kernel
theorem dX6_dishIs_65 : decode cX6_dishIs 65 = .ok (.getfield 23, 3) := by decide +kernel
theorem dX6_dishIs_68 : decode cX6_dishIs 68 = .ok (.getfield 87, 3) := by decide +kernel
theorem dX6_dishIs_71 : decode cX6_dishIs 71 = .ok (.iload_n 1, 1) := by decide +kernel
theorem dX6_dishIs_72 : decode cX6_dishIs 72 = .ok (.iaload, 1) := by decide +kernel
theorem dX6_dishIs_73 : decode cX6_dishIs 73 = .ok (.ireturn, 1) := by decide +kernel
theorem dX6_dishIs_74 : decode cX6_dishIs 74 = .ok (.aload_n 0, 1) := by decide +kernel
theorem dX6_dishIs_75 : decode cX6_dishIs 75 = .ok (.getfield 23, 3) := by decide +kernel
theorem dX6_dishIs_78 : decode cX6_dishIs 78 = .ok (.getfield 90, 3) := by decide +kernel
theorem dX6_dishIs_81 : decode cX6_dishIs 81 = .ok (.iload_n 1, 1) := by decide +kernel
theorem dX6_dishIs_82 : decode cX6_dishIs 82 = .ok (.iaload, 1) := by decide +kernel
theorem dX6_dishIs_83 : decode cX6_dishIs 83 = .ok (.ireturn, 1) := by decide +kernel
theorem dX6_dishIs_84 : decode cX6_dishIs 84 = .ok (.aload_n 0, 1) := by decide +kernel
theorem dX6_dishIs_85 : decode cX6_dishIs 85 = .ok (.getfield 23, 3) := by decide +kernel
theorem dX6_dishIs_88 : decode cX6_dishIs 88 = .ok (.getfield 93, 3) := by decide +kernel
theorem dX6_dishIs_91 : decode cX6_dishIs 91 = .ok (.iload_n 1, 1) := by decide +kernel
theorem dX6_dishIs_92 : decode cX6_dishIs 92 = .ok (.iaload, 1) := by decide +kernel
theorem dX6_dishIs_93 : decode cX6_dishIs 93 = .ok (.ireturn, 1) := by decide +kernel
theorem dX6_dishIs_94 : decode cX6_dishIs 94 = .ok (.aload_n 0, 1) := by decide +kernel
theorem dX6_dishIs_95 : decode cX6_dishIs 95 = .ok (.getfield 23, 3) := by decide +kernel
theorem dX6_dishIs_98 : decode cX6_dishIs 98 = .ok (.getfield 96, 3) := by decide +kernel
theorem dX6_dishIs_101 : decode cX6_dishIs 101 = .ok (.iload_n 1, 1) := by decide +kernel
theorem dX6_dishIs_102 : decode cX6_dishIs 102 = .ok (.iaload, 1) := by decide +kernel
theorem dX6_dishIs_103 : decode cX6_dishIs 103 = .ok (.ireturn, 1) := by decide +kernel
theorem dX6_dishIs_104 : decode cX6_dishIs 104 = .ok (.aload_n 0, 1) := by decide +kernel
theorem dX6_dishIs_105 : decode cX6_dishIs 105 = .ok (.getfield 23, 3) := by decide +kernel
theorem dX6_dishIs_108 : decode cX6_dishIs 108 = .ok (.getfield 99, 3) := by decide +kernel
theorem dX6_dishIs_111 : decode cX6_dishIs 111 = .ok (.iload_n 1, 1) := by decide +kernel
theorem dX6_dishIs_112 : decode cX6_dishIs 112 = .ok (.iaload, 1) := by decide +kernel
theorem dX6_dishIs_113 : decode cX6_dishIs 113 = .ok (.ireturn, 1) := by decide +kernel
theorem dX6_dishIs_114 : decode cX6_dishIs 114 = .ok (.aload_n 0, 1) := by decide +kernel
theorem dX6_dishIs_115 : decode cX6_dishIs 115 = .ok (.getfield 23, 3) := by decide +kernel
theorem dX6_dishIs_118 : decode cX6_dishIs 118 = .ok (.iload_n 1, 1) := by decide +kernel
theorem dX6_dishIs_119 : decode cX6_dishIs 119 = .ok (.invokevirtual 102, 3) := by decide +kernel
theorem dX6_dishIs_122 : decode cX6_dishIs 122 = .ok (.ireturn, 1) := by decide +kernel
theorem dX6_dishIs_123 : decode cX6_dishIs 123 = .ok (.aload_n 0, 1) := by decide +kernel
theorem dX6_dishIs_124 : decode cX6_dishIs 124 = .ok (.getfield 23, 3) := by decide +kernel
theorem dX6_dishIs_127 : decode cX6_dishIs 127 = .ok (.iload_n 1, 1) := by decide +kernel
theorem dX6_dishIs_128 : decode cX6_dishIs 128 = .ok (.invokevirtual 105, 3) := by decide +kernel
theorem dX6_dishIs_131 : decode cX6_dishIs 131 = .ok (.ireturn, 1) := by decide +kernel
theorem dX6_dishIs_132 : decode cX6_dishIs 132 = .ok (.aload_n 0, 1) := by decide +kernel
theorem dX6_dishIs_133 : decode cX6_dishIs 133 = .ok (.getfield 23, 3) := by decide +kernel
theorem dX6_dishIs_136 : decode cX6_dishIs 136 = .ok (.aload_n 0, 1) := by decide +kernel
theorem dX6_dishIs_137 : decode cX6_dishIs 137 = .ok (.getfield 23, 3) := by decide +kernel
theorem dX6_dishIs_140 : decode cX6_dishIs 140 = .ok (.invokevirtual 108, 3) := by decide +kernel
theorem dX6_dishIs_143 : decode cX6_dishIs 143 = .ok (.iload_n 1, 1) := by decide +kernel
theorem dX6_dishIs_144 : decode cX6_dishIs 144 = .ok (.invokevirtual 112, 3) := by decide +kernel
theorem dX6_dishIs_147 : decode cX6_dishIs 147 = .ok (.ifCond .eq 7, 3) := by decide +kernel
theorem dX6_dishIs_150 : decode cX6_dishIs 150 = .ok (.iconst 1, 1) := by decide +kernel
theorem dX6_dishIs_151 : decode cX6_dishIs 151 = .ok (.goto 4, 3) := by decide +kernel
theorem dX6_dishIs_154 : decode cX6_dishIs 154 = .ok (.iconst 0, 1) := by decide +kernel
theorem dX6_dishIs_155 : decode cX6_dishIs 155 = .ok (.ireturn, 1) := by decide +kernel
theorem dX6_dishIs_156 : decode cX6_dishIs 156 = .ok (.aload_n 0, 1) := by decide +kernel
theorem dX6_dishIs_157 : decode cX6_dishIs 157 = .ok (.iconst 1, 1) := by decide +kernel
theorem dX6_dishIs_158 : decode cX6_dishIs 158 = .ok (.invokevirtual 72, 3) := by decide +kernel
theorem dX6_dishIs_161 : decode cX6_dishIs 161 = .ok (.ireturn, 1) := by decide +kernel
theorem dX6_become_0 : decode cX6_become 0 = .ok (.aload_n 0, 1) := by decide +kernel
theorem dX6_become_1 : decode cX6_become 1 = .ok (.getfield 23, 3) := by decide +kernel
theorem dX6_become_4 : decode cX6_become 4 = .ok (.iload_n 1, 1) := by decide +kernel
theorem dX6_become_5 : decode cX6_become 5 = .ok (.invokevirtual 84, 3) := by decide +kernel
theorem dX6_become_8 : decode cX6_become 8 = .ok (.ifCond .eq 10, 3) := by decide +kernel
theorem dX6_become_11 : decode cX6_become 11 = .ok (.iload_n 2, 1) := by decide +kernel
theorem dX6_become_12 : decode cX6_become 12 = .ok (.invokestatic 64, 3) := by decide +kernel
theorem dX6_become_15 : decode cX6_become 15 = .ok (.ifCond .ne 9, 3) := by decide +kernel
theorem dX6_become_18 : decode cX6_become 18 = .ok (.aload_n 0, 1) := by decide +kernel
theorem dX6_become_19 : decode cX6_become 19 = .ok (.iconst 1, 1) := by decide +kernel
theorem dX6_become_20 : decode cX6_become 20 = .ok (.invokevirtual 72, 3) := by decide +kernel
theorem dX6_become_23 : decode cX6_become 23 = .ok (.ireturn, 1) := by decide +kernel
theorem dX6_become_24 : decode cX6_become 24 = .ok (.aload_n 0, 1) := by decide +kernel
theorem dX6_become_25 : decode cX6_become 25 = .ok (.getfield 23, 3) := by decide +kernel
theorem dX6_become_28 : decode cX6_become 28 = .ok (.getfield 87, 3) := by decide +kernel
theorem dX6_become_31 : decode cX6_become 31 = .ok (.iload_n 1, 1) := by decide +kernel
theorem dX6_become_32 : decode cX6_become 32 = .ok (.iaload, 1) := by decide +kernel
theorem dX6_become_33 : decode cX6_become 33 = .ok (.istore_n 3, 1) := by decide +kernel
theorem dX6_become_34 : decode cX6_become 34 = .ok (.aload_n 0, 1) := by decide +kernel
theorem dX6_become_35 : decode cX6_become 35 = .ok (.getfield 23, 3) := by decide +kernel
theorem dX6_become_38 : decode cX6_become 38 = .ok (.getfield 87, 3) := by decide +kernel
theorem dX6_become_41 : decode cX6_become 41 = .ok (.iload_n 1, 1) := by decide +kernel
theorem dX6_become_42 : decode cX6_become 42 = .ok (.iload_n 2, 1) := by decide +kernel
theorem dX6_become_43 : decode cX6_become 43 = .ok (.bipush 10, 2) := by decide +kernel
theorem dX6_become_45 : decode cX6_become 45 = .ok (.idiv, 1) := by decide +kernel
theorem dX6_become_46 : decode cX6_become 46 = .ok (.iastore, 1) := by decide +kernel
theorem dX6_become_47 : decode cX6_become 47 = .ok (.aload_n 0, 1) := by decide +kernel
theorem dX6_become_48 : decode cX6_become 48 = .ok (.getfield 23, 3) := by decide +kernel
theorem dX6_become_51 : decode cX6_become 51 = .ok (.getfield 90, 3) := by decide +kernel
theorem dX6_become_54 : decode cX6_become 54 = .ok (.iload_n 1, 1) := by decide +kernel
theorem dX6_become_55 : decode cX6_become 55 = .ok (.iload_n 2, 1) := by decide +kernel
theorem dX6_become_56 : decode cX6_become 56 = .ok (.bipush 10, 2) := by decide +kernel
theorem dX6_become_58 : decode cX6_become 58 = .ok (.irem, 1) := by decide +kernel
theorem dX6_become_59 : decode cX6_become 59 = .ok (.iastore, 1) := by decide +kernel
theorem dX6_become_60 : decode cX6_become 60 = .ok (.iload_n 3, 1) := by decide +kernel
theorem dX6_become_61 : decode cX6_become 61 = .ok (.ireturn, 1) := by decide +kernel
theorem dX6_as_0 : decode cX6_as 0 = .ok (.aload_n 0, 1) := by decide +kernel
theorem dX6_as_1 : decode cX6_as 1 = .ok (.getfield 23, 3) := by decide +kernel
theorem dX6_as_4 : decode cX6_as 4 = .ok (.iload_n 1, 1) := by decide +kernel
theorem dX6_as_5 : decode cX6_as 5 = .ok (.invokevirtual 84, 3) := by decide +kernel
theorem dX6_as_8 : decode cX6_as 8 = .ok (.ifCond .eq 13, 3) := by decide +kernel
theorem dX6_as_11 : decode cX6_as 11 = .ok (.iload_n 2, 1) := by decide +kernel
theorem dX6_as_12 : decode cX6_as 12 = .ok (.iconst 0, 1) := by decide +kernel
theorem dX6_as_13 : decode cX6_as 13 = .ok (.bipush 6, 2) := by decide +kernel
theorem dX6_as_15 : decode cX6_as 15 = .ok (.invokestatic 68, 3) := by decide +kernel
theorem dX6_as_18 : decode cX6_as 18 = .ok (.ifCond .ne 9, 3) := by decide +kernel
theorem dX6_as_21 : decode cX6_as 21 = .ok (.aload_n 0, 1) := by decide +kernel
theorem dX6_as_22 : decode cX6_as 22 = .ok (.iconst 1, 1) := by decide +kernel
theorem dX6_as_23 : decode cX6_as 23 = .ok (.invokevirtual 72, 3) := by decide +kernel
theorem dX6_as_26 : decode cX6_as 26 = .ok (.ireturn, 1) := by decide +kernel
theorem dX6_as_27 : decode cX6_as 27 = .ok (.aload_n 0, 1) := by decide +kernel
theorem dX6_as_28 : decode cX6_as 28 = .ok (.getfield 23, 3) := by decide +kernel
theorem dX6_as_31 : decode cX6_as 31 = .ok (.getfield 87, 3) := by decide +kernel
theorem dX6_as_34 : decode cX6_as 34 = .ok (.iload_n 1, 1) := by decide +kernel
theorem dX6_as_35 : decode cX6_as 35 = .ok (.iaload, 1) := by decide +kernel
theorem dX6_as_36 : decode cX6_as 36 = .ok (.istore_n 3, 1) := by decide +kernel
theorem dX6_as_37 : decode cX6_as 37 = .ok (.iconst 0, 1) := by decide +kernel
theorem dX6_as_38 : decode cX6_as 38 = .ok (.istore 4, 2) := by decide +kernel
theorem dX6_as_40 : decode cX6_as 40 = .ok (.iload 4, 2) := by decide +kernel
theorem dX6_as_42 : decode cX6_as 42 = .ok (.bipush 7, 2) := by decide +kernel
theorem dX6_as_44 : decode cX6_as 44 = .ok (.if_icmp .ge 34, 3) := by decide +kernel
theorem dX6_as_47 : decode cX6_as 47 = .ok (.iload_n 3, 1) := by decide +kernel
theorem dX6_as_48 : decode cX6_as 48 = .ok (.ifCond .lt 30, 3) := by decide +kernel
theorem dX6_as_51 : decode cX6_as 51 = .ok (.iload_n 3, 1) := by decide +kernel
theorem dX6_as_52 : decode cX6_as 52 = .ok (.iload_n 2, 1) := by decide +kernel
theorem dX6_as_53 : decode cX6_as 53 = .ok (.if_icmp .ne 13, 3) := by decide +kernel
theorem dX6_as_56 : decode cX6_as 56 = .ok (.aload_n 0, 1) := by decide +kernel
theorem dX6_as_57 : decode cX6_as 57 = .ok (.getfield 23, 3) := by decide +kernel
theorem dX6_as_60 : decode cX6_as 60 = .ok (.getfield 90, 3) := by decide +kernel
theorem dX6_as_63 : decode cX6_as 63 = .ok (.iload_n 1, 1) := by decide +kernel
theorem dX6_as_64 : decode cX6_as 64 = .ok (.iaload, 1) := by decide +kernel
theorem dX6_as_65 : decode cX6_as 65 = .ok (.ireturn, 1) := by decide +kernel
theorem dX6_as_66 : decode cX6_as 66 = .ok (.getstatic 116, 3) := by decide +kernel
theorem dX6_as_69 : decode cX6_as 69 = .ok (.iload_n 3, 1) := by decide +kernel
theorem dX6_as_70 : decode cX6_as 70 = .ok (.iaload, 1) := by decide +kernel
theorem dX6_as_71 : decode cX6_as 71 = .ok (.istore_n 3, 1) := by decide +kernel
theorem dX6_as_72 : decode cX6_as 72 = .ok (.iinc 4 1, 3) := by decide +kernel
theorem dX6_as_75 : decode cX6_as 75 = .ok (.goto (-35), 3) := by decide +kernel
theorem dX6_as_78 : decode cX6_as 78 = .ok (.aload_n 0, 1) := by decide +kernel
theorem dX6_as_79 : decode cX6_as 79 = .ok (.iconst 5, 1) := by decide +kernel
theorem dX6_as_80 : decode cX6_as 80 = .ok (.invokevirtual 72, 3) := by decide +kernel
theorem dX6_as_83 : decode cX6_as 83 = .ok (.ireturn, 1) := by decide +kernel
theorem dX6_serve_0 : decode cX6_serve 0 = .ok (.aload_n 0, 1) := by decide +kernel
theorem dX6_serve_1 : decode cX6_serve 1 = .ok (.getfield 23, 3) := by decide +kernel
theorem dX6_serve_4 : decode cX6_serve 4 = .ok (.iload_n 1, 1) := by decide +kernel
theorem dX6_serve_5 : decode cX6_serve 5 = .ok (.invokevirtual 84, 3) := by decide +kernel
theorem dX6_serve_8 : decode cX6_serve 8 = .ok (.ifCond .eq 13, 3) := by decide +kernel
theorem dX6_serve_11 : decode cX6_serve 11 = .ok (.iload_n 2, 1) := by decide +kernel
theorem dX6_serve_12 : decode cX6_serve 12 = .ok (.iconst 0, 1) := by decide +kernel
theorem dX6_serve_13 : decode cX6_serve 13 = .ok (.bipush 99, 2) := by decide +kernel
theorem dX6_serve_15 : decode cX6_serve 15 = .ok (.invokestatic 68, 3) := by decide +kernel
theorem dX6_serve_18 : decode cX6_serve 18 = .ok (.ifCond .ne 9, 3) := by decide +kernel
theorem dX6_serve_21 : decode cX6_serve 21 = .ok (.aload_n 0, 1) := by decide +kernel
theorem dX6_serve_22 : decode cX6_serve 22 = .ok (.iconst 1, 1) := by decide +kernel
theorem dX6_serve_23 : decode cX6_serve 23 = .ok (.invokevirtual 72, 3) := by decide +kernel
theorem dX6_serve_26 : decode cX6_serve 26 = .ok (.ireturn, 1) := by decide +kernel
theorem dX6_serve_27 : decode cX6_serve 27 = .ok (.aload_n 0, 1) := by decide +kernel
theorem dX6_serve_28 : decode cX6_serve 28 = .ok (.getfield 23, 3) := by decide +kernel
theorem dX6_serve_31 : decode cX6_serve 31 = .ok (.getfield 93, 3) := by decide +kernel
theorem dX6_serve_34 : decode cX6_serve 34 = .ok (.iload_n 1, 1) := by decide +kernel
theorem dX6_serve_35 : decode cX6_serve 35 = .ok (.iaload, 1) := by decide +kernel
theorem dX6_serve_36 : decode cX6_serve 36 = .ok (.istore_n 3, 1) := by decide +kernel
theorem dX6_serve_37 : decode cX6_serve 37 = .ok (.aload_n 0, 1) := by decide +kernel
theorem dX6_serve_38 : decode cX6_serve 38 = .ok (.getfield 23, 3) := by decide +kernel
theorem dX6_serve_41 : decode cX6_serve 41 = .ok (.getfield 93, 3) := by decide +kernel
theorem dX6_serve_44 : decode cX6_serve 44 = .ok (.iload_n 1, 1) := by decide +kernel
theorem dX6_serve_45 : decode cX6_serve 45 = .ok (.iload_n 2, 1) := by decide +kernel
theorem dX6_serve_46 : decode cX6_serve 46 = .ok (.iastore, 1) := by decide +kernel
theorem dX6_serve_47 : decode cX6_serve 47 = .ok (.iload_n 3, 1) := by decide +kernel
theorem dX6_serve_48 : decode cX6_serve 48 = .ok (.ireturn, 1) := by decide +kernel
theorem dX6_season_0 : decode cX6_season 0 = .ok (.aload_n 0, 1) := by decide +kernel
theorem dX6_season_1 : decode cX6_season 1 = .ok (.getfield 23, 3) := by decide +kernel
theorem dX6_season_4 : decode cX6_season 4 = .ok (.iload_n 1, 1) := by decide +kernel
theorem dX6_season_5 : decode cX6_season 5 = .ok (.invokevirtual 84, 3) := by decide +kernel
theorem dX6_season_8 : decode cX6_season 8 = .ok (.ifCond .eq 13, 3) := by decide +kernel
theorem dX6_season_11 : decode cX6_season 11 = .ok (.iload_n 2, 1) := by decide +kernel
theorem dX6_season_12 : decode cX6_season 12 = .ok (.iconst 0, 1) := by decide +kernel
theorem dX6_season_13 : decode cX6_season 13 = .ok (.bipush 9, 2) := by decide +kernel
theorem dX6_season_15 : decode cX6_season 15 = .ok (.invokestatic 68, 3) := by decide +kernel
theorem dX6_season_18 : decode cX6_season 18 = .ok (.ifCond .ne 9, 3) := by decide +kernel
theorem dX6_season_21 : decode cX6_season 21 = .ok (.aload_n 0, 1) := by decide +kernel
theorem dX6_season_22 : decode cX6_season 22 = .ok (.iconst 1, 1) := by decide +kernel
theorem dX6_season_23 : decode cX6_season 23 = .ok (.invokevirtual 72, 3) := by decide +kernel
theorem dX6_season_26 : decode cX6_season 26 = .ok (.ireturn, 1) := by decide +kernel
theorem dX6_season_27 : decode cX6_season 27 = .ok (.aload_n 0, 1) := by decide +kernel
theorem dX6_season_28 : decode cX6_season 28 = .ok (.getfield 23, 3) := by decide +kernel
theorem dX6_season_31 : decode cX6_season 31 = .ok (.getfield 99, 3) := by decide +kernel
theorem dX6_season_34 : decode cX6_season 34 = .ok (.iload_n 1, 1) := by decide +kernel
theorem dX6_season_35 : decode cX6_season 35 = .ok (.iaload, 1) := by decide +kernel
theorem dX6_season_36 : decode cX6_season 36 = .ok (.istore_n 3, 1) := by decide +kernel
theorem dX6_season_37 : decode cX6_season 37 = .ok (.aload_n 0, 1) := by decide +kernel
theorem dX6_season_38 : decode cX6_season 38 = .ok (.getfield 23, 3) := by decide +kernel
theorem dX6_season_41 : decode cX6_season 41 = .ok (.getfield 99, 3) := by decide +kernel
theorem dX6_season_44 : decode cX6_season 44 = .ok (.iload_n 1, 1) := by decide +kernel
theorem dX6_season_45 : decode cX6_season 45 = .ok (.iload_n 2, 1) := by decide +kernel
theorem dX6_season_46 : decode cX6_season 46 = .ok (.iastore, 1) := by decide +kernel
theorem dX6_season_47 : decode cX6_season 47 = .ok (.iload_n 3, 1) := by decide +kernel
theorem dX6_season_48 : decode cX6_season 48 = .ok (.ireturn, 1) := by decide +kernel
theorem dX6_rules_0 : decode cX6_rules 0 = .ok (.aload_n 0, 1) := by decide +kernel
theorem dX6_rules_1 : decode cX6_rules 1 = .ok (.getfield 23, 3) := by decide +kernel
theorem dX6_rules_4 : decode cX6_rules 4 = .ok (.invokevirtual 108, 3) := by decide +kernel
theorem dX6_rules_7 : decode cX6_rules 7 = .ok (.istore_n 1, 1) := by decide +kernel
theorem dX6_rules_8 : decode cX6_rules 8 = .ok (.iload_n 1, 1) := by decide +kernel
theorem dX6_rules_9 : decode cX6_rules 9 = .ok (.ifCond .ge 11, 3) := by decide +kernel
theorem dX6_rules_12 : decode cX6_rules 12 = .ok (.aload_n 0, 1) := by decide +kernel
theorem dX6_rules_13 : decode cX6_rules 13 = .ok (.iconst 2, 1) := by decide +kernel
theorem dX6_rules_14 : decode cX6_rules 14 = .ok (.invokevirtual 72, 3) := by decide +kernel
theorem dX6_rules_17 : decode cX6_rules 17 = .ok (.goto 4, 3) := by decide +kernel
theorem dX6_rules_20 : decode cX6_rules 20 = .ok (.iload_n 1, 1) := by decide +kernel
theorem dX6_rules_21 : decode cX6_rules 21 = .ok (.ireturn, 1) := by decide +kernel
theorem dX6_feed_0 : decode cX6_feed 0 = .ok (.iload_n 3, 1) := by decide +kernel
theorem dX6_feed_1 : decode cX6_feed 1 = .ok (.iconst 1, 1) := by decide +kernel
theorem dX6_feed_2 : decode cX6_feed 2 = .ok (.bipush 8, 2) := by decide +kernel
theorem dX6_feed_4 : decode cX6_feed 4 = .ok (.invokestatic 68, 3) := by decide +kernel
theorem dX6_feed_7 : decode cX6_feed 7 = .ok (.ifCond .ne 9, 3) := by decide +kernel
theorem dX6_feed_10 : decode cX6_feed 10 = .ok (.aload_n 0, 1) := by decide +kernel
theorem dX6_feed_11 : decode cX6_feed 11 = .ok (.iconst 1, 1) := by decide +kernel
theorem dX6_feed_12 : decode cX6_feed 12 = .ok (.invokevirtual 72, 3) := by decide +kernel
theorem dX6_feed_15 : decode cX6_feed 15 = .ok (.ireturn, 1) := by decide +kernel
theorem dX6_feed_16 : decode cX6_feed 16 = .ok (.aload_n 0, 1) := by decide +kernel
theorem dX6_feed_17 : decode cX6_feed 17 = .ok (.getfield 12, 3) := by decide +kernel
theorem dX6_feed_20 : decode cX6_feed 20 = .ok (.getfield 119, 3) := by decide +kernel
theorem dX6_feed_23 : decode cX6_feed 23 = .ok (.iload_n 3, 1) := by decide +kernel
theorem dX6_feed_24 : decode cX6_feed 24 = .ok (.iadd, 1) := by decide +kernel
theorem dX6_feed_25 : decode cX6_feed 25 = .ok (.bipush 60, 2) := by decide +kernel
theorem dX6_feed_27 : decode cX6_feed 27 = .ok (.if_icmp .le 9, 3) := by decide +kernel
theorem dX6_feed_30 : decode cX6_feed 30 = .ok (.aload_n 0, 1) := by decide +kernel
theorem dX6_feed_31 : decode cX6_feed 31 = .ok (.iconst 4, 1) := by decide +kernel
theorem dX6_feed_32 : decode cX6_feed 32 = .ok (.invokevirtual 72, 3) := by decide +kernel
theorem dX6_feed_35 : decode cX6_feed 35 = .ok (.ireturn, 1) := by decide +kernel
theorem dX6_feed_36 : decode cX6_feed 36 = .ok (.iconst 0, 1) := by decide +kernel
theorem dX6_feed_37 : decode cX6_feed 37 = .ok (.istore 4, 2) := by decide +kernel
theorem dX6_feed_39 : decode cX6_feed 39 = .ok (.iload 4, 2) := by decide +kernel
theorem dX6_feed_41 : decode cX6_feed 41 = .ok (.iload_n 3, 1) := by decide +kernel
theorem dX6_feed_42 : decode cX6_feed 42 = .ok (.if_icmp .ge 39, 3) := by decide +kernel
theorem dX6_feed_45 : decode cX6_feed 45 = .ok (.aload_n 0, 1) := by decide +kernel
theorem dX6_feed_46 : decode cX6_feed 46 = .ok (.getfield 12, 3) := by decide +kernel
theorem dX6_feed_49 : decode cX6_feed 49 = .ok (.getfield 122, 3) := by decide +kernel
theorem dX6_feed_52 : decode cX6_feed 52 = .ok (.aload_n 0, 1) := by decide +kernel
theorem dX6_feed_53 : decode cX6_feed 53 = .ok (.getfield 12, 3) := by decide +kernel
theorem dX6_feed_56 : decode cX6_feed 56 = .ok (.getfield 119, 3) := by decide +kernel
theorem dX6_feed_59 : decode cX6_feed 59 = .ok (.iload 4, 2) := by decide +kernel
theorem dX6_feed_61 : decode cX6_feed 61 = .ok (.iadd, 1) := by decide +kernel
theorem dX6_feed_62 : decode cX6_feed 62 = .ok (.lload_n 1, 1) := by decide +kernel
theorem dX6_feed_63 : decode cX6_feed 63 = .ok (.bipush 8, 2) := by decide +kernel
theorem dX6_feed_65 : decode cX6_feed 65 = .ok (.iload 4, 2) := by decide +kernel
theorem dX6_feed_67 : decode cX6_feed 67 = .ok (.imul, 1) := by decide +kernel
theorem dX6_feed_68 : decode cX6_feed 68 = .ok (.lushr, 1) := by decide +kernel
theorem dX6_feed_69 : decode cX6_feed 69 = .ok (.l2i, 1) := by decide +kernel
theorem dX6_feed_70 : decode cX6_feed 70 = .ok (.sipush 255, 3) := by decide +kernel
theorem dX6_feed_73 : decode cX6_feed 73 = .ok (.iand, 1) := by decide +kernel
theorem dX6_feed_74 : decode cX6_feed 74 = .ok (.iastore, 1) := by decide +kernel
theorem dX6_feed_75 : decode cX6_feed 75 = .ok (.iinc 4 1, 3) := by decide +kernel
theorem dX6_feed_78 : decode cX6_feed 78 = .ok (.goto (-39), 3) := by decide +kernel
theorem dX6_feed_81 : decode cX6_feed 81 = .ok (.aload_n 0, 1) := by decide +kernel
theorem dX6_feed_82 : decode cX6_feed 82 = .ok (.getfield 12, 3) := by decide +kernel
theorem dX6_feed_85 : decode cX6_feed 85 = .ok (.dup, 1) := by decide +kernel
theorem dX6_feed_86 : decode cX6_feed 86 = .ok (.getfield 119, 3) := by decide +kernel
theorem dX6_feed_89 : decode cX6_feed 89 = .ok (.iload_n 3, 1) := by decide +kernel
theorem dX6_feed_90 : decode cX6_feed 90 = .ok (.iadd, 1) := by decide +kernel
theorem dX6_feed_91 : decode cX6_feed 91 = .ok (.putfield 119, 3) := by decide +kernel
theorem dX6_feed_94 : decode cX6_feed 94 = .ok (.aload_n 0, 1) := by decide +kernel
theorem dX6_feed_95 : decode cX6_feed 95 = .ok (.getfield 12, 3) := by decide +kernel
theorem dX6_feed_98 : decode cX6_feed 98 = .ok (.getfield 119, 3) := by decide +kernel
theorem dX6_feed_101 : decode cX6_feed 101 = .ok (.ireturn, 1) := by decide +kernel
theorem dX6_text_0 : decode cX6_text 0 = .ok (.iload_n 1, 1) := by decide +kernel
theorem dX6_text_1 : decode cX6_text 1 = .ok (.invokestatic 125, 3) := by decide +kernel
theorem dX6_text_4 : decode cX6_text 4 = .ok (.ifCond .ne 9, 3) := by decide +kernel
theorem dX6_text_7 : decode cX6_text 7 = .ok (.aload_n 0, 1) := by decide +kernel
theorem dX6_text_8 : decode cX6_text 8 = .ok (.iconst 1, 1) := by decide +kernel
theorem dX6_text_9 : decode cX6_text 9 = .ok (.invokevirtual 72, 3) := by decide +kernel
theorem dX6_text_12 : decode cX6_text 12 = .ok (.ireturn, 1) := by decide +kernel
theorem dX6_text_13 : decode cX6_text 13 = .ok (.aload_n 0, 1) := by decide +kernel
theorem dX6_text_14 : decode cX6_text 14 = .ok (.getfield 42, 3) := by decide +kernel
theorem dX6_text_17 : decode cX6_text 17 = .ok (.aload_n 0, 1) := by decide +kernel
theorem dX6_text_18 : decode cX6_text 18 = .ok (.getfield 12, 3) := by decide +kernel
theorem dX6_text_21 : decode cX6_text 21 = .ok (.getfield 122, 3) := by decide +kernel
theorem dX6_text_24 : decode cX6_text 24 = .ok (.aload_n 0, 1) := by decide +kernel
theorem dX6_text_25 : decode cX6_text 25 = .ok (.getfield 12, 3) := by decide +kernel
theorem dX6_text_28 : decode cX6_text 28 = .ok (.getfield 119, 3) := by decide +kernel
theorem dX6_text_31 : decode cX6_text 31 = .ok (.iload_n 1, 1) := by decide +kernel
theorem dX6_text_32 : decode cX6_text 32 = .ok (.invokevirtual 128, 3) := by decide +kernel
theorem dX6_text_35 : decode cX6_text 35 = .ok (.istore_n 2, 1) := by decide +kernel
theorem dX6_text_36 : decode cX6_text 36 = .ok (.aload_n 0, 1) := by decide +kernel
theorem dX6_text_37 : decode cX6_text 37 = .ok (.getfield 12, 3) := by decide +kernel
theorem dX6_text_40 : decode cX6_text 40 = .ok (.iconst 0, 1) := by decide +kernel
theorem dX6_text_41 : decode cX6_text 41 = .ok (.putfield 119, 3) := by decide +kernel
theorem dX6_text_44 : decode cX6_text 44 = .ok (.iload_n 2, 1) := by decide +kernel
theorem dX6_text_45 : decode cX6_text 45 = .ok (.ifCond .lt 8, 3) := by decide +kernel
theorem dX6_text_48 : decode cX6_text 48 = .ok (.bipush (-10), 2) := by decide +kernel
theorem dX6_text_50 : decode cX6_text 50 = .ok (.iload_n 2, 1) := by decide +kernel
theorem dX6_text_51 : decode cX6_text 51 = .ok (.isub, 1) := by decide +kernel
theorem dX6_text_52 : decode cX6_text 52 = .ok (.ireturn, 1) := by decide +kernel
theorem dX6_text_53 : decode cX6_text 53 = .ok (.aload_n 0, 1) := by decide +kernel
theorem dX6_text_54 : decode cX6_text 54 = .ok (.iload_n 1, 1) := by decide +kernel
theorem dX6_text_55 : decode cX6_text 55 = .ok (.invokevirtual 132, 3) := by decide +kernel
theorem dX6_text_58 : decode cX6_text 58 = .ok (.aload_n 0, 1) := by decide +kernel
theorem dX6_text_59 : decode cX6_text 59 = .ok (.getfield 42, 3) := by decide +kernel
theorem dX6_text_62 : decode cX6_text 62 = .ok (.getfield 136, 3) := by decide +kernel
theorem dX6_text_65 : decode cX6_text 65 = .ok (.invokevirtual 139, 3) := by decide +kernel
theorem dX6_text_68 : decode cX6_text 68 = .ok (.iconst 1, 1) := by decide +kernel
theorem dX6_text_69 : decode cX6_text 69 = .ok (.ireturn, 1) := by decide +kernel
theorem dX6_untell_0 : decode cX6_untell 0 = .ok (.iload_n 1, 1) := by decide +kernel
theorem dX6_untell_1 : decode cX6_untell 1 = .ok (.invokestatic 125, 3) := by decide +kernel
theorem dX6_untell_4 : decode cX6_untell 4 = .ok (.ifCond .ne 9, 3) := by decide +kernel
theorem dX6_untell_7 : decode cX6_untell 7 = .ok (.aload_n 0, 1) := by decide +kernel
theorem dX6_untell_8 : decode cX6_untell 8 = .ok (.iconst 1, 1) := by decide +kernel
theorem dX6_untell_9 : decode cX6_untell 9 = .ok (.invokevirtual 72, 3) := by decide +kernel
theorem dX6_untell_12 : decode cX6_untell 12 = .ok (.ireturn, 1) := by decide +kernel
theorem dX6_untell_13 : decode cX6_untell 13 = .ok (.aload_n 0, 1) := by decide +kernel
theorem dX6_untell_14 : decode cX6_untell 14 = .ok (.iload_n 1, 1) := by decide +kernel
theorem dX6_untell_15 : decode cX6_untell 15 = .ok (.invokevirtual 132, 3) := by decide +kernel
theorem dX6_untell_18 : decode cX6_untell 18 = .ok (.invokevirtual 145, 3) := by decide +kernel
theorem dX6_untell_21 : decode cX6_untell 21 = .ok (.ifCond .eq 7, 3) := by decide +kernel
theorem dX6_untell_24 : decode cX6_untell 24 = .ok (.iconst 1, 1) := by decide +kernel
theorem dX6_untell_25 : decode cX6_untell 25 = .ok (.goto 4, 3) := by decide +kernel
theorem dX6_untell_28 : decode cX6_untell 28 = .ok (.iconst 0, 1) := by decide +kernel
theorem dX6_untell_29 : decode cX6_untell 29 = .ok (.ireturn, 1) := by decide +kernel
theorem dX6_law_0 : decode cX6_law 0 = .ok (.iload_n 1, 1) := by decide +kernel
theorem dX6_law_1 : decode cX6_law 1 = .ok (.invokestatic 125, 3) := by decide +kernel
theorem dX6_law_4 : decode cX6_law 4 = .ok (.ifCond .eq 18, 3) := by decide +kernel
theorem dX6_law_7 : decode cX6_law 7 = .ok (.aload_n 0, 1) := by decide +kernel
theorem dX6_law_8 : decode cX6_law 8 = .ok (.iload_n 1, 1) := by decide +kernel
theorem dX6_law_9 : decode cX6_law 9 = .ok (.invokevirtual 132, 3) := by decide +kernel
theorem dX6_law_12 : decode cX6_law 12 = .ok (.iload_n 2, 1) := by decide +kernel
theorem dX6_law_13 : decode cX6_law 13 = .ok (.iload_n 3, 1) := by decide +kernel
theorem dX6_law_14 : decode cX6_law 14 = .ok (.iload 4, 2) := by decide +kernel
theorem dX6_law_16 : decode cX6_law 16 = .ok (.invokevirtual 149, 3) := by decide +kernel
theorem dX6_law_19 : decode cX6_law 19 = .ok (.goto 8, 3) := by decide +kernel
theorem dX6_law_22 : decode cX6_law 22 = .ok (.aload_n 0, 1) := by decide +kernel
theorem dX6_law_23 : decode cX6_law 23 = .ok (.iconst 1, 1) := by decide +kernel
theorem dX6_law_24 : decode cX6_law 24 = .ok (.invokevirtual 72, 3) := by decide +kernel
theorem dX6_law_27 : decode cX6_law 27 = .ok (.ireturn, 1) := by decide +kernel
theorem dX6_meal_0 : decode cX6_meal 0 = .ok (.iload_n 1, 1) := by decide +kernel
theorem dX6_meal_1 : decode cX6_meal 1 = .ok (.invokestatic 152, 3) := by decide +kernel
theorem dX6_meal_4 : decode cX6_meal 4 = .ok (.ifCond .ne 9, 3) := by decide +kernel
theorem dX6_meal_7 : decode cX6_meal 7 = .ok (.aload_n 0, 1) := by decide +kernel
theorem dX6_meal_8 : decode cX6_meal 8 = .ok (.iconst 1, 1) := by decide +kernel
theorem dX6_meal_9 : decode cX6_meal 9 = .ok (.invokevirtual 72, 3) := by decide +kernel
theorem dX6_meal_12 : decode cX6_meal 12 = .ok (.ireturn, 1) := by decide +kernel
theorem dX6_meal_13 : decode cX6_meal 13 = .ok (.aload_n 0, 1) := by decide +kernel
theorem dX6_meal_14 : decode cX6_meal 14 = .ok (.getfield 23, 3) := by decide +kernel
theorem dX6_meal_17 : decode cX6_meal 17 = .ok (.getfield 155, 3) := by decide +kernel
theorem dX6_meal_20 : decode cX6_meal 20 = .ok (.sipush 9999, 3) := by decide +kernel
theorem dX6_meal_23 : decode cX6_meal 23 = .ok (.if_icmp .lt 11, 3) := by decide +kernel
theorem dX6_meal_26 : decode cX6_meal 26 = .ok (.aload_n 0, 1) := by decide +kernel
theorem dX6_meal_27 : decode cX6_meal 27 = .ok (.iconst 3, 1) := by decide +kernel
theorem dX6_meal_28 : decode cX6_meal 28 = .ok (.invokevirtual 72, 3) := by decide +kernel
theorem dX6_meal_31 : decode cX6_meal 31 = .ok (.goto 11, 3) := by decide +kernel
theorem dX6_meal_34 : decode cX6_meal 34 = .ok (.aload_n 0, 1) := by decide +kernel
theorem dX6_meal_35 : decode cX6_meal 35 = .ok (.getfield 23, 3) := by decide +kernel
theorem dX6_meal_38 : decode cX6_meal 38 = .ok (.iload_n 1, 1) := by decide +kernel
theorem dX6_meal_39 : decode cX6_meal 39 = .ok (.invokevirtual 158, 3) := by decide +kernel
theorem dX6_meal_42 : decode cX6_meal 42 = .ok (.ireturn, 1) := by decide +kernel
theorem dX6_meals_0 : decode cX6_meals 0 = .ok (.iload_n 1, 1) := by decide +kernel
theorem dX6_meals_1 : decode cX6_meals 1 = .ok (.iconst 1, 1) := by decide +kernel
theorem dX6_meals_2 : decode cX6_meals 2 = .ok (.bipush 60, 2) := by decide +kernel
theorem dX6_meals_4 : decode cX6_meals 4 = .ok (.invokestatic 68, 3) := by decide +kernel
theorem dX6_meals_7 : decode cX6_meals 7 = .ok (.ifCond .eq 10, 3) := by decide +kernel
theorem dX6_meals_10 : decode cX6_meals 10 = .ok (.iload_n 2, 1) := by decide +kernel
theorem dX6_meals_11 : decode cX6_meals 11 = .ok (.invokestatic 152, 3) := by decide +kernel
theorem dX6_meals_14 : decode cX6_meals 14 = .ok (.ifCond .ne 9, 3) := by decide +kernel
theorem dX6_meals_17 : decode cX6_meals 17 = .ok (.aload_n 0, 1) := by decide +kernel
theorem dX6_meals_18 : decode cX6_meals 18 = .ok (.iconst 1, 1) := by decide +kernel
theorem dX6_meals_19 : decode cX6_meals 19 = .ok (.invokevirtual 72, 3) := by decide +kernel
theorem dX6_meals_22 : decode cX6_meals 22 = .ok (.ireturn, 1) := by decide +kernel
theorem dX6_meals_23 : decode cX6_meals 23 = .ok (.aload_n 0, 1) := by decide +kernel
theorem dX6_meals_24 : decode cX6_meals 24 = .ok (.getfield 23, 3) := by decide +kernel
theorem dX6_meals_27 : decode cX6_meals 27 = .ok (.getfield 155, 3) := by decide +kernel
theorem dX6_meals_30 : decode cX6_meals 30 = .ok (.iload_n 1, 1) := by decide +kernel
theorem dX6_meals_31 : decode cX6_meals 31 = .ok (.iadd, 1) := by decide +kernel
theorem dX6_meals_32 : decode cX6_meals 32 = .ok (.sipush 9999, 3) := by decide +kernel
theorem dX6_meals_35 : decode cX6_meals 35 = .ok (.if_icmp .le 9, 3) := by decide +kernel
theorem dX6_meals_38 : decode cX6_meals 38 = .ok (.aload_n 0, 1) := by decide +kernel
theorem dX6_meals_39 : decode cX6_meals 39 = .ok (.iconst 3, 1) := by decide +kernel
theorem dX6_meals_40 : decode cX6_meals 40 = .ok (.invokevirtual 72, 3) := by decide +kernel
theorem dX6_meals_43 : decode cX6_meals 43 = .ok (.ireturn, 1) := by decide +kernel
theorem dX6_meals_44 : decode cX6_meals 44 = .ok (.aload_n 0, 1) := by decide +kernel
theorem dX6_meals_45 : decode cX6_meals 45 = .ok (.getfield 23, 3) := by decide +kernel
theorem dX6_meals_48 : decode cX6_meals 48 = .ok (.iload_n 1, 1) := by decide +kernel
theorem dX6_meals_49 : decode cX6_meals 49 = .ok (.iload_n 2, 1) := by decide +kernel
theorem dX6_meals_50 : decode cX6_meals 50 = .ok (.invokevirtual 161, 3) := by decide +kernel
theorem dX6_meals_53 : decode cX6_meals 53 = .ok (.aload_n 0, 1) := by decide +kernel
theorem dX6_meals_54 : decode cX6_meals 54 = .ok (.getfield 23, 3) := by decide +kernel
theorem dX6_meals_57 : decode cX6_meals 57 = .ok (.invokevirtual 165, 3) := by decide +kernel
theorem dX6_meals_60 : decode cX6_meals 60 = .ok (.ireturn, 1) := by decide +kernel
theorem dX6_loose_0 : decode cX6_loose 0 = .ok (.iload_n 1, 1) := by decide +kernel
theorem dX6_loose_1 : decode cX6_loose 1 = .ok (.iconst 1, 1) := by decide +kernel
theorem dX6_loose_2 : decode cX6_loose 2 = .ok (.bipush 30, 2) := by decide +kernel
theorem dX6_loose_4 : decode cX6_loose 4 = .ok (.invokestatic 68, 3) := by decide +kernel
theorem dX6_loose_7 : decode cX6_loose 7 = .ok (.ifCond .ne 9, 3) := by decide +kernel
theorem dX6_loose_10 : decode cX6_loose 10 = .ok (.aload_n 0, 1) := by decide +kernel
theorem dX6_loose_11 : decode cX6_loose 11 = .ok (.iconst 1, 1) := by decide +kernel
theorem dX6_loose_12 : decode cX6_loose 12 = .ok (.invokevirtual 72, 3) := by decide +kernel
theorem dX6_loose_15 : decode cX6_loose 15 = .ok (.ireturn, 1) := by decide +kernel
theorem dX6_loose_16 : decode cX6_loose 16 = .ok (.aload_n 0, 1) := by decide +kernel
theorem dX6_loose_17 : decode cX6_loose 17 = .ok (.getfield 23, 3) := by decide +kernel
theorem dX6_loose_20 : decode cX6_loose 20 = .ok (.getfield 155, 3) := by decide +kernel
theorem dX6_loose_23 : decode cX6_loose 23 = .ok (.iload_n 1, 1) := by decide +kernel
theorem dX6_loose_24 : decode cX6_loose 24 = .ok (.iadd, 1) := by decide +kernel
theorem dX6_loose_25 : decode cX6_loose 25 = .ok (.sipush 9999, 3) := by decide +kernel
theorem dX6_loose_28 : decode cX6_loose 28 = .ok (.if_icmp .le 9, 3) := by decide +kernel
theorem dX6_loose_31 : decode cX6_loose 31 = .ok (.aload_n 0, 1) := by decide +kernel
theorem dX6_loose_32 : decode cX6_loose 32 = .ok (.iconst 3, 1) := by decide +kernel
theorem dX6_loose_33 : decode cX6_loose 33 = .ok (.invokevirtual 72, 3) := by decide +kernel
theorem dX6_loose_36 : decode cX6_loose 36 = .ok (.ireturn, 1) := by decide +kernel
theorem dX6_loose_37 : decode cX6_loose 37 = .ok (.iconst 0, 1) := by decide +kernel
theorem dX6_loose_38 : decode cX6_loose 38 = .ok (.istore_n 2, 1) := by decide +kernel
theorem dX6_loose_39 : decode cX6_loose 39 = .ok (.iconst 0, 1) := by decide +kernel
theorem dX6_loose_40 : decode cX6_loose 40 = .ok (.istore_n 3, 1) := by decide +kernel
theorem dX6_loose_41 : decode cX6_loose 41 = .ok (.iload_n 3, 1) := by decide +kernel
theorem dX6_loose_42 : decode cX6_loose 42 = .ok (.iload_n 1, 1) := by decide +kernel
theorem dX6_loose_43 : decode cX6_loose 43 = .ok (.if_icmp .ge 19, 3) := by decide +kernel
theorem dX6_loose_46 : decode cX6_loose 46 = .ok (.iload_n 2, 1) := by decide +kernel
theorem dX6_loose_47 : decode cX6_loose 47 = .ok (.aload_n 0, 1) := by decide +kernel
theorem dX6_loose_48 : decode cX6_loose 48 = .ok (.getfield 12, 3) := by decide +kernel
theorem dX6_loose_51 : decode cX6_loose 51 = .ok (.invokevirtual 168, 3) := by decide +kernel
theorem dX6_loose_54 : decode cX6_loose 54 = .ok (.iadd, 1) := by decide +kernel
theorem dX6_loose_55 : decode cX6_loose 55 = .ok (.istore_n 2, 1) := by decide +kernel
theorem dX6_loose_56 : decode cX6_loose 56 = .ok (.iinc 3 1, 3) := by decide +kernel
theorem dX6_loose_59 : decode cX6_loose 59 = .ok (.goto (-18), 3) := by decide +kernel
theorem dX6_loose_62 : decode cX6_loose 62 = .ok (.iload_n 2, 1) := by decide +kernel
theorem dX6_loose_63 : decode cX6_loose 63 = .ok (.ireturn, 1) := by decide +kernel
theorem dX6_seed_0 : decode cX6_seed 0 = .ok (.aload_n 0, 1) := by decide +kernel
theorem dX6_seed_1 : decode cX6_seed 1 = .ok (.getfield 12, 3) := by decide +kernel
theorem dX6_seed_4 : decode cX6_seed 4 = .ok (.getfield 171, 3) := by decide +kernel
theorem dX6_seed_7 : decode cX6_seed 7 = .ok (.istore_n 2, 1) := by decide +kernel
theorem dX6_seed_8 : decode cX6_seed 8 = .ok (.aload_n 0, 1) := by decide +kernel
theorem dX6_seed_9 : decode cX6_seed 9 = .ok (.getfield 12, 3) := by decide +kernel
theorem dX6_seed_12 : decode cX6_seed 12 = .ok (.iload_n 1, 1) := by decide +kernel
theorem dX6_seed_13 : decode cX6_seed 13 = .ok (.putfield 171, 3) := by decide +kernel
theorem dX6_seed_16 : decode cX6_seed 16 = .ok (.iload_n 2, 1) := by decide +kernel
theorem dX6_seed_17 : decode cX6_seed 17 = .ok (.ireturn, 1) := by decide +kernel
theorem dX6_then_0 : decode cX6_then 0 = .ok (.iload_n 1, 1) := by decide +kernel
theorem dX6_then_1 : decode cX6_then 1 = .ok (.iconst 0, 1) := by decide +kernel
theorem dX6_then_2 : decode cX6_then 2 = .ok (.bipush 60, 2) := by decide +kernel
theorem dX6_then_4 : decode cX6_then 4 = .ok (.invokestatic 68, 3) := by decide +kernel
theorem dX6_then_7 : decode cX6_then 7 = .ok (.ifCond .eq 19, 3) := by decide +kernel
theorem dX6_then_10 : decode cX6_then 10 = .ok (.iload_n 2, 1) := by decide +kernel
theorem dX6_then_11 : decode cX6_then 11 = .ok (.invokestatic 152, 3) := by decide +kernel
theorem dX6_then_14 : decode cX6_then 14 = .ok (.ifCond .eq 12, 3) := by decide +kernel
theorem dX6_then_17 : decode cX6_then 17 = .ok (.iload_n 3, 1) := by decide +kernel
theorem dX6_then_18 : decode cX6_then 18 = .ok (.iconst 0, 1) := by decide +kernel
theorem dX6_then_19 : decode cX6_then 19 = .ok (.iconst 1, 1) := by decide +kernel
theorem dX6_then_20 : decode cX6_then 20 = .ok (.invokestatic 68, 3) := by decide +kernel
theorem dX6_then_23 : decode cX6_then 23 = .ok (.ifCond .ne 9, 3) := by decide +kernel
theorem dX6_then_26 : decode cX6_then 26 = .ok (.aload_n 0, 1) := by decide +kernel
theorem dX6_then_27 : decode cX6_then 27 = .ok (.iconst 1, 1) := by decide +kernel
theorem dX6_then_28 : decode cX6_then 28 = .ok (.invokevirtual 72, 3) := by decide +kernel
theorem dX6_then_31 : decode cX6_then 31 = .ok (.ireturn, 1) := by decide +kernel
theorem dX6_then_32 : decode cX6_then 32 = .ok (.aload_n 0, 1) := by decide +kernel
theorem dX6_then_33 : decode cX6_then 33 = .ok (.getfield 36, 3) := by decide +kernel
theorem dX6_then_36 : decode cX6_then 36 = .ok (.aload_n 0, 1) := by decide +kernel
theorem dX6_then_37 : decode cX6_then 37 = .ok (.getfield 23, 3) := by decide +kernel
theorem dX6_then_40 : decode cX6_then 40 = .ok (.invokevirtual 174, 3) := by decide +kernel
theorem dX6_then_43 : decode cX6_then 43 = .ok (.aload_n 0, 1) := by decide +kernel
theorem dX6_then_44 : decode cX6_then 44 = .ok (.getfield 36, 3) := by decide +kernel
theorem dX6_then_47 : decode cX6_then 47 = .ok (.iload_n 1, 1) := by decide +kernel
theorem dX6_then_48 : decode cX6_then 48 = .ok (.iload_n 2, 1) := by decide +kernel
theorem dX6_then_49 : decode cX6_then 49 = .ok (.invokevirtual 161, 3) := by decide +kernel
theorem dX6_then_52 : decode cX6_then 52 = .ok (.iload_n 3, 1) := by decide +kernel
theorem dX6_then_53 : decode cX6_then 53 = .ok (.ifCond .ne 13, 3) := by decide +kernel
theorem dX6_then_56 : decode cX6_then 56 = .ok (.aload_n 0, 1) := by decide +kernel
theorem dX6_then_57 : decode cX6_then 57 = .ok (.getfield 36, 3) := by decide +kernel
theorem dX6_then_60 : decode cX6_then 60 = .ok (.invokevirtual 165, 3) := by decide +kernel
theorem dX6_then_63 : decode cX6_then 63 = .ok (.goto 10, 3) := by decide +kernel
theorem dX6_then_66 : decode cX6_then 66 = .ok (.aload_n 0, 1) := by decide +kernel
theorem dX6_then_67 : decode cX6_then 67 = .ok (.getfield 36, 3) := by decide +kernel
theorem dX6_then_70 : decode cX6_then 70 = .ok (.invokevirtual 108, 3) := by decide +kernel
theorem dX6_then_73 : decode cX6_then 73 = .ok (.ireturn, 1) := by decide +kernel
theorem dX6_gone_0 : decode cX6_gone 0 = .ok (.aload_n 0, 1) := by decide +kernel
theorem dX6_gone_1 : decode cX6_gone 1 = .ok (.getfield 23, 3) := by decide +kernel
theorem dX6_gone_4 : decode cX6_gone 4 = .ok (.iload_n 1, 1) := by decide +kernel
theorem dX6_gone_5 : decode cX6_gone 5 = .ok (.invokevirtual 84, 3) := by decide +kernel
theorem dX6_gone_8 : decode cX6_gone 8 = .ok (.ifCond .eq 10, 3) := by decide +kernel
theorem dX6_gone_11 : decode cX6_gone 11 = .ok (.iload_n 2, 1) := by decide +kernel
theorem dX6_gone_12 : decode cX6_gone 12 = .ok (.invokestatic 152, 3) := by decide +kernel
theorem dX6_gone_15 : decode cX6_gone 15 = .ok (.ifCond .ne 9, 3) := by decide +kernel
theorem dX6_gone_18 : decode cX6_gone 18 = .ok (.aload_n 0, 1) := by decide +kernel
theorem dX6_gone_19 : decode cX6_gone 19 = .ok (.iconst 1, 1) := by decide +kernel
theorem dX6_gone_20 : decode cX6_gone 20 = .ok (.invokevirtual 72, 3) := by decide +kernel
theorem dX6_gone_23 : decode cX6_gone 23 = .ok (.ireturn, 1) := by decide +kernel
theorem dX6_gone_24 : decode cX6_gone 24 = .ok (.aload_n 0, 1) := by decide +kernel
theorem dX6_gone_25 : decode cX6_gone 25 = .ok (.getfield 36, 3) := by decide +kernel
theorem dX6_gone_28 : decode cX6_gone 28 = .ok (.aload_n 0, 1) := by decide +kernel
theorem dX6_gone_29 : decode cX6_gone 29 = .ok (.getfield 23, 3) := by decide +kernel
theorem dX6_gone_32 : decode cX6_gone 32 = .ok (.invokevirtual 174, 3) := by decide +kernel
theorem dX6_gone_35 : decode cX6_gone 35 = .ok (.iconst 0, 1) := by decide +kernel
theorem dX6_gone_36 : decode cX6_gone 36 = .ok (.istore_n 3, 1) := by decide +kernel
theorem dX6_gone_37 : decode cX6_gone 37 = .ok (.iload_n 3, 1) := by decide +kernel
theorem dX6_gone_38 : decode cX6_gone 38 = .ok (.bipush 60, 2) := by decide +kernel
theorem dX6_gone_40 : decode cX6_gone 40 = .ok (.if_icmp .gt 32, 3) := by decide +kernel
theorem dX6_gone_43 : decode cX6_gone 43 = .ok (.aload_n 0, 1) := by decide +kernel
theorem dX6_gone_44 : decode cX6_gone 44 = .ok (.getfield 36, 3) := by decide +kernel
theorem dX6_gone_47 : decode cX6_gone 47 = .ok (.getfield 93, 3) := by decide +kernel
theorem dX6_gone_50 : decode cX6_gone 50 = .ok (.iload_n 1, 1) := by decide +kernel
theorem dX6_gone_51 : decode cX6_gone 51 = .ok (.iaload, 1) := by decide +kernel
theorem dX6_gone_52 : decode cX6_gone 52 = .ok (.ifCond .ne 5, 3) := by decide +kernel
theorem dX6_gone_55 : decode cX6_gone 55 = .ok (.iload_n 3, 1) := by decide +kernel
theorem dX6_gone_56 : decode cX6_gone 56 = .ok (.ireturn, 1) := by decide +kernel
theorem dX6_gone_57 : decode cX6_gone 57 = .ok (.aload_n 0, 1) := by decide +kernel
theorem dX6_gone_58 : decode cX6_gone 58 = .ok (.getfield 36, 3) := by decide +kernel
theorem dX6_gone_61 : decode cX6_gone 61 = .ok (.iload_n 2, 1) := by decide +kernel
theorem dX6_gone_62 : decode cX6_gone 62 = .ok (.invokevirtual 158, 3) := by decide +kernel
theorem dX6_gone_65 : decode cX6_gone 65 = .ok (.pop, 1) := by decide +kernel
theorem dX6_gone_66 : decode cX6_gone 66 = .ok (.iinc 3 1, 3) := by decide +kernel
theorem dX6_gone_69 : decode cX6_gone 69 = .ok (.goto (-32), 3) := by decide +kernel
theorem dX6_gone_72 : decode cX6_gone 72 = .ok (.aload_n 0, 1) := by decide +kernel
theorem dX6_gone_73 : decode cX6_gone 73 = .ok (.iconst 2, 1) := by decide +kernel
theorem dX6_gone_74 : decode cX6_gone 74 = .ok (.invokevirtual 72, 3) := by decide +kernel
theorem dX6_gone_77 : decode cX6_gone 77 = .ok (.ireturn, 1) := by decide +kernel
theorem dX6_needs_0 : decode cX6_needs 0 = .ok (.iload_n 1, 1) := by decide +kernel
theorem dX6_needs_1 : decode cX6_needs 1 = .ok (.iconst 0, 1) := by decide +kernel
theorem dX6_needs_2 : decode cX6_needs 2 = .ok (.bipush 20, 2) := by decide +kernel
theorem dX6_needs_4 : decode cX6_needs 4 = .ok (.invokestatic 68, 3) := by decide +kernel
theorem dX6_needs_7 : decode cX6_needs 7 = .ok (.ifCond .ne 9, 3) := by decide +kernel
theorem dX6_needs_10 : decode cX6_needs 10 = .ok (.aload_n 0, 1) := by decide +kernel
theorem dX6_needs_11 : decode cX6_needs 11 = .ok (.iconst 1, 1) := by decide +kernel
theorem dX6_needs_12 : decode cX6_needs 12 = .ok (.invokevirtual 72, 3) := by decide +kernel
theorem dX6_needs_15 : decode cX6_needs 15 = .ok (.ireturn, 1) := by decide +kernel
theorem dX6_needs_16 : decode cX6_needs 16 = .ok (.iconst 0, 1) := by decide +kernel
theorem dX6_needs_17 : decode cX6_needs 17 = .ok (.istore_n 2, 1) := by decide +kernel
theorem dX6_needs_18 : decode cX6_needs 18 = .ok (.iload_n 2, 1) := by decide +kernel
theorem dX6_needs_19 : decode cX6_needs 19 = .ok (.bipush 99, 2) := by decide +kernel
theorem dX6_needs_21 : decode cX6_needs 21 = .ok (.if_icmp .gt 41, 3) := by decide +kernel
theorem dX6_needs_24 : decode cX6_needs 24 = .ok (.aload_n 0, 1) := by decide +kernel
theorem dX6_needs_25 : decode cX6_needs 25 = .ok (.getfield 36, 3) := by decide +kernel
theorem dX6_needs_28 : decode cX6_needs 28 = .ok (.aload_n 0, 1) := by decide +kernel
theorem dX6_needs_29 : decode cX6_needs 29 = .ok (.getfield 23, 3) := by decide +kernel
theorem dX6_needs_32 : decode cX6_needs 32 = .ok (.invokevirtual 174, 3) := by decide +kernel
theorem dX6_needs_35 : decode cX6_needs 35 = .ok (.aload_n 0, 1) := by decide +kernel
theorem dX6_needs_36 : decode cX6_needs 36 = .ok (.getfield 36, 3) := by decide +kernel
theorem dX6_needs_39 : decode cX6_needs 39 = .ok (.iload_n 1, 1) := by decide +kernel
theorem dX6_needs_40 : decode cX6_needs 40 = .ok (.iload_n 2, 1) := by decide +kernel
theorem dX6_needs_41 : decode cX6_needs 41 = .ok (.invokevirtual 161, 3) := by decide +kernel
theorem dX6_needs_44 : decode cX6_needs 44 = .ok (.aload_n 0, 1) := by decide +kernel
theorem dX6_needs_45 : decode cX6_needs 45 = .ok (.getfield 36, 3) := by decide +kernel
theorem dX6_needs_48 : decode cX6_needs 48 = .ok (.invokevirtual 165, 3) := by decide +kernel
theorem dX6_needs_51 : decode cX6_needs 51 = .ok (.ifCond .ne 5, 3) := by decide +kernel
theorem dX6_needs_54 : decode cX6_needs 54 = .ok (.iload_n 2, 1) := by decide +kernel
theorem dX6_needs_55 : decode cX6_needs 55 = .ok (.ireturn, 1) := by decide +kernel
theorem dX6_needs_56 : decode cX6_needs 56 = .ok (.iinc 2 1, 3) := by decide +kernel
theorem dX6_needs_59 : decode cX6_needs 59 = .ok (.goto (-41), 3) := by decide +kernel
theorem dX6_needs_62 : decode cX6_needs 62 = .ok (.aload_n 0, 1) := by decide +kernel
theorem dX6_needs_63 : decode cX6_needs 63 = .ok (.iconst 2, 1) := by decide +kernel
theorem dX6_needs_64 : decode cX6_needs 64 = .ok (.invokevirtual 72, 3) := by decide +kernel
theorem dX6_needs_67 : decode cX6_needs 67 = .ok (.ireturn, 1) := by decide +kernel
theorem dX6_clears_0 : decode cX6_clears 0 = .ok (.aload_n 0, 1) := by decide +kernel
theorem dX6_clears_1 : decode cX6_clears 1 = .ok (.getfield 23, 3) := by decide +kernel
theorem dX6_clears_4 : decode cX6_clears 4 = .ok (.iload_n 1, 1) := by decide +kernel
theorem dX6_clears_5 : decode cX6_clears 5 = .ok (.invokevirtual 84, 3) := by decide +kernel
theorem dX6_clears_8 : decode cX6_clears 8 = .ok (.ifCond .eq 30, 3) := by decide +kernel
theorem dX6_clears_11 : decode cX6_clears 11 = .ok (.iload_n 2, 1) := by decide +kernel
theorem dX6_clears_12 : decode cX6_clears 12 = .ok (.iconst 0, 1) := by decide +kernel
theorem dX6_clears_13 : decode cX6_clears 13 = .ok (.bipush 6, 2) := by decide +kernel
theorem dX6_clears_15 : decode cX6_clears 15 = .ok (.invokestatic 68, 3) := by decide +kernel
theorem dX6_clears_18 : decode cX6_clears 18 = .ok (.ifCond .eq 20, 3) := by decide +kernel
theorem dX6_clears_21 : decode cX6_clears 21 = .ok (.iload_n 3, 1) := by decide +kernel
theorem dX6_clears_22 : decode cX6_clears 22 = .ok (.invokestatic 152, 3) := by decide +kernel
theorem dX6_clears_25 : decode cX6_clears 25 = .ok (.ifCond .eq 13, 3) := by decide +kernel
theorem dX6_clears_28 : decode cX6_clears 28 = .ok (.iload 4, 2) := by decide +kernel
theorem dX6_clears_30 : decode cX6_clears 30 = .ok (.iconst 0, 1) := by decide +kernel
theorem dX6_clears_31 : decode cX6_clears 31 = .ok (.iconst 1, 1) := by decide +kernel
theorem dX6_clears_32 : decode cX6_clears 32 = .ok (.invokestatic 68, 3) := by decide +kernel
theorem dX6_clears_35 : decode cX6_clears 35 = .ok (.ifCond .ne 9, 3) := by decide +kernel
theorem dX6_clears_38 : decode cX6_clears 38 = .ok (.aload_n 0, 1) := by decide +kernel
theorem dX6_clears_39 : decode cX6_clears 39 = .ok (.iconst 1, 1) := by decide +kernel
theorem dX6_clears_40 : decode cX6_clears 40 = .ok (.invokevirtual 72, 3) := by decide +kernel
theorem dX6_clears_43 : decode cX6_clears 43 = .ok (.ireturn, 1) := by decide +kernel
theorem dX6_clears_44 : decode cX6_clears 44 = .ok (.iconst 1, 1) := by decide +kernel
theorem dX6_clears_45 : decode cX6_clears 45 = .ok (.aload_n 0, 1) := by decide +kernel
theorem dX6_clears_46 : decode cX6_clears 46 = .ok (.getfield 23, 3) := by decide +kernel
theorem dX6_clears_49 : decode cX6_clears 49 = .ok (.getfield 76, 3) := by decide +kernel
theorem dX6_clears_52 : decode cX6_clears 52 = .ok (.ishl, 1) := by decide +kernel
theorem dX6_clears_53 : decode cX6_clears 53 = .ok (.istore 5, 2) := by decide +kernel
theorem dX6_clears_55 : decode cX6_clears 55 = .ok (.iconst 0, 1) := by decide +kernel
theorem dX6_clears_56 : decode cX6_clears 56 = .ok (.istore 6, 2) := by decide +kernel
theorem dX6_clears_58 : decode cX6_clears 58 = .ok (.iload 6, 2) := by decide +kernel
theorem dX6_clears_60 : decode cX6_clears 60 = .ok (.aload_n 0, 1) := by decide +kernel
theorem dX6_clears_61 : decode cX6_clears 61 = .ok (.getfield 23, 3) := by decide +kernel
theorem dX6_clears_64 : decode cX6_clears 64 = .ok (.getfield 76, 3) := by decide +kernel
theorem dX6_clears_67 : decode cX6_clears 67 = .ok (.if_icmp .gt 60, 3) := by decide +kernel
theorem dX6_clears_70 : decode cX6_clears 70 = .ok (.iconst 0, 1) := by decide +kernel
theorem dX6_clears_71 : decode cX6_clears 71 = .ok (.istore 7, 2) := by decide +kernel
theorem dX6_clears_73 : decode cX6_clears 73 = .ok (.iload 7, 2) := by decide +kernel
theorem dX6_clears_75 : decode cX6_clears 75 = .ok (.iload 5, 2) := by decide +kernel
theorem dX6_clears_77 : decode cX6_clears 77 = .ok (.if_icmp .ge 44, 3) := by decide +kernel
theorem dX6_clears_80 : decode cX6_clears 80 = .ok (.iload 7, 2) := by decide +kernel
theorem dX6_clears_82 : decode cX6_clears 82 = .ok (.invokestatic 177, 3) := by decide +kernel
theorem dX6_clears_85 : decode cX6_clears 85 = .ok (.iload 6, 2) := by decide +kernel
theorem dX6_clears_87 : decode cX6_clears 87 = .ok (.if_icmp .ne 28, 3) := by decide +kernel
theorem dX6_clears_90 : decode cX6_clears 90 = .ok (.aload_n 0, 1) := by decide +kernel
theorem dX6_clears_91 : decode cX6_clears 91 = .ok (.iload 7, 2) := by decide +kernel
theorem dX6_clears_93 : decode cX6_clears 93 = .ok (.iload_n 1, 1) := by decide +kernel
theorem dX6_clears_94 : decode cX6_clears 94 = .ok (.iload_n 2, 1) := by decide +kernel
theorem dX6_clears_95 : decode cX6_clears 95 = .ok (.iload_n 3, 1) := by decide +kernel
theorem dX6_clears_96 : decode cX6_clears 96 = .ok (.invokevirtual 182, 3) := by decide +kernel
theorem dX6_clears_99 : decode cX6_clears 99 = .ok (.ifCond .eq 16, 3) := by decide +kernel
theorem dX6_clears_102 : decode cX6_clears 102 = .ok (.iload 4, 2) := by decide +kernel
theorem dX6_clears_104 : decode cX6_clears 104 = .ok (.ifCond .ne 8, 3) := by decide +kernel
theorem dX6_clears_107 : decode cX6_clears 107 = .ok (.iload 6, 2) := by decide +kernel
theorem dX6_clears_109 : decode cX6_clears 109 = .ok (.goto 5, 3) := by decide +kernel
theorem dX6_clears_112 : decode cX6_clears 112 = .ok (.iload 7, 2) := by decide +kernel
theorem dX6_clears_114 : decode cX6_clears 114 = .ok (.ireturn, 1) := by decide +kernel
theorem dX6_clears_115 : decode cX6_clears 115 = .ok (.iinc 7 1, 3) := by decide +kernel
theorem dX6_clears_118 : decode cX6_clears 118 = .ok (.goto (-45), 3) := by decide +kernel
theorem dX6_clears_121 : decode cX6_clears 121 = .ok (.iinc 6 1, 3) := by decide +kernel
theorem dX6_clears_124 : decode cX6_clears 124 = .ok (.goto (-66), 3) := by decide +kernel
theorem dX6_clears_127 : decode cX6_clears 127 = .ok (.aload_n 0, 1) := by decide +kernel
theorem dX6_clears_128 : decode cX6_clears 128 = .ok (.iconst 2, 1) := by decide +kernel
theorem dX6_clears_129 : decode cX6_clears 129 = .ok (.invokevirtual 72, 3) := by decide +kernel
theorem dX6_clears_132 : decode cX6_clears 132 = .ok (.ireturn, 1) := by decide +kernel
theorem dX6_brings_0 : decode cX6_brings 0 = .ok (.iload_n 1, 1) := by decide +kernel
theorem dX6_brings_1 : decode cX6_brings 1 = .ok (.iconst 1, 1) := by decide +kernel
theorem dX6_brings_2 : decode cX6_brings 2 = .ok (.bipush 99, 2) := by decide +kernel
theorem dX6_brings_4 : decode cX6_brings 4 = .ok (.invokestatic 68, 3) := by decide +kernel
theorem dX6_brings_7 : decode cX6_brings 7 = .ok (.ifCond .eq 12, 3) := by decide +kernel
theorem dX6_brings_10 : decode cX6_brings 10 = .ok (.iload_n 2, 1) := by decide +kernel
theorem dX6_brings_11 : decode cX6_brings 11 = .ok (.iconst 0, 1) := by decide +kernel
theorem dX6_brings_12 : decode cX6_brings 12 = .ok (.iconst 1, 1) := by decide +kernel
theorem dX6_brings_13 : decode cX6_brings 13 = .ok (.invokestatic 68, 3) := by decide +kernel
theorem dX6_brings_16 : decode cX6_brings 16 = .ok (.ifCond .ne 9, 3) := by decide +kernel
theorem dX6_brings_19 : decode cX6_brings 19 = .ok (.aload_n 0, 1) := by decide +kernel
theorem dX6_brings_20 : decode cX6_brings 20 = .ok (.iconst 1, 1) := by decide +kernel
theorem dX6_brings_21 : decode cX6_brings 21 = .ok (.invokevirtual 72, 3) := by decide +kernel
theorem dX6_brings_24 : decode cX6_brings 24 = .ok (.ireturn, 1) := by decide +kernel
theorem dX6_brings_25 : decode cX6_brings 25 = .ok (.aload_n 0, 1) := by decide +kernel
theorem dX6_brings_26 : decode cX6_brings 26 = .ok (.getfield 23, 3) := by decide +kernel
theorem dX6_brings_29 : decode cX6_brings 29 = .ok (.invokevirtual 165, 3) := by decide +kernel
theorem dX6_brings_32 : decode cX6_brings 32 = .ok (.ifCond .eq 15, 3) := by decide +kernel
theorem dX6_brings_35 : decode cX6_brings 35 = .ok (.aload_n 0, 1) := by decide +kernel
theorem dX6_brings_36 : decode cX6_brings 36 = .ok (.getfield 23, 3) := by decide +kernel
theorem dX6_brings_39 : decode cX6_brings 39 = .ok (.getfield 76, 3) := by decide +kernel
theorem dX6_brings_42 : decode cX6_brings 42 = .ok (.bipush 9, 2) := by decide +kernel
theorem dX6_brings_44 : decode cX6_brings 44 = .ok (.if_icmp .lt 9, 3) := by decide +kernel
theorem dX6_brings_47 : decode cX6_brings 47 = .ok (.aload_n 0, 1) := by decide +kernel
theorem dX6_brings_48 : decode cX6_brings 48 = .ok (.iconst 3, 1) := by decide +kernel
theorem dX6_brings_49 : decode cX6_brings 49 = .ok (.invokevirtual 72, 3) := by decide +kernel
theorem dX6_brings_52 : decode cX6_brings 52 = .ok (.ireturn, 1) := by decide +kernel
theorem dX6_brings_53 : decode cX6_brings 53 = .ok (.aload_n 0, 1) := by decide +kernel
theorem dX6_brings_54 : decode cX6_brings 54 = .ok (.getfield 36, 3) := by decide +kernel
theorem dX6_brings_57 : decode cX6_brings 57 = .ok (.aload_n 0, 1) := by decide +kernel
theorem dX6_brings_58 : decode cX6_brings 58 = .ok (.getfield 23, 3) := by decide +kernel
theorem dX6_brings_61 : decode cX6_brings 61 = .ok (.invokevirtual 174, 3) := by decide +kernel
theorem dX6_brings_64 : decode cX6_brings 64 = .ok (.aload_n 0, 1) := by decide +kernel
theorem dX6_brings_65 : decode cX6_brings 65 = .ok (.getfield 36, 3) := by decide +kernel
theorem dX6_brings_68 : decode cX6_brings 68 = .ok (.iconst 0, 1) := by decide +kernel
theorem dX6_brings_69 : decode cX6_brings 69 = .ok (.iload_n 1, 1) := by decide +kernel
theorem dX6_brings_70 : decode cX6_brings 70 = .ok (.iconst 0, 1) := by decide +kernel
theorem dX6_brings_71 : decode cX6_brings 71 = .ok (.invokevirtual 80, 3) := by decide +kernel
theorem dX6_brings_74 : decode cX6_brings 74 = .ok (.istore_n 3, 1) := by decide +kernel
theorem dX6_brings_75 : decode cX6_brings 75 = .ok (.iconst 0, 1) := by decide +kernel
theorem dX6_brings_76 : decode cX6_brings 76 = .ok (.istore 4, 2) := by decide +kernel
theorem dX6_brings_78 : decode cX6_brings 78 = .ok (.iconst (-1), 1) := by decide +kernel
theorem dX6_brings_79 : decode cX6_brings 79 = .ok (.istore 5, 2) := by decide +kernel
theorem dX6_brings_81 : decode cX6_brings 81 = .ok (.iconst 0, 1) := by decide +kernel
theorem dX6_brings_82 : decode cX6_brings 82 = .ok (.istore 6, 2) := by decide +kernel
theorem dX6_brings_84 : decode cX6_brings 84 = .ok (.iload 6, 2) := by decide +kernel
theorem dX6_brings_86 : decode cX6_brings 86 = .ok (.bipush 9, 2) := by decide +kernel
theorem dX6_brings_88 : decode cX6_brings 88 = .ok (.if_icmp .gt 44, 3) := by decide +kernel
theorem dX6_brings_91 : decode cX6_brings 91 = .ok (.aload_n 0, 1) := by decide +kernel
theorem dX6_brings_92 : decode cX6_brings 92 = .ok (.getfield 36, 3) := by decide +kernel
theorem dX6_brings_95 : decode cX6_brings 95 = .ok (.getfield 99, 3) := by decide +kernel
theorem dX6_brings_98 : decode cX6_brings 98 = .ok (.iload_n 3, 1) := by decide +kernel
theorem dX6_brings_99 : decode cX6_brings 99 = .ok (.iload 6, 2) := by decide +kernel
theorem dX6_brings_101 : decode cX6_brings 101 = .ok (.iastore, 1) := by decide +kernel
theorem dX6_brings_102 : decode cX6_brings 102 = .ok (.aload_n 0, 1) := by decide +kernel
theorem dX6_brings_103 : decode cX6_brings 103 = .ok (.getfield 36, 3) := by decide +kernel
theorem dX6_brings_106 : decode cX6_brings 106 = .ok (.invokevirtual 186, 3) := by decide +kernel
theorem dX6_brings_109 : decode cX6_brings 109 = .ok (.istore 7, 2) := by decide +kernel
theorem dX6_brings_111 : decode cX6_brings 111 = .ok (.iload 7, 2) := by decide +kernel
theorem dX6_brings_113 : decode cX6_brings 113 = .ok (.iload 5, 2) := by decide +kernel
theorem dX6_brings_115 : decode cX6_brings 115 = .ok (.if_icmp .le 11, 3) := by decide +kernel
theorem dX6_brings_118 : decode cX6_brings 118 = .ok (.iload 7, 2) := by decide +kernel
theorem dX6_brings_120 : decode cX6_brings 120 = .ok (.istore 5, 2) := by decide +kernel
theorem dX6_brings_122 : decode cX6_brings 122 = .ok (.iload 6, 2) := by decide +kernel
theorem dX6_brings_124 : decode cX6_brings 124 = .ok (.istore 4, 2) := by decide +kernel
theorem dX6_brings_126 : decode cX6_brings 126 = .ok (.iinc 6 1, 3) := by decide +kernel
theorem dX6_brings_129 : decode cX6_brings 129 = .ok (.goto (-45), 3) := by decide +kernel
theorem dX6_brings_132 : decode cX6_brings 132 = .ok (.iload_n 2, 1) := by decide +kernel
theorem dX6_brings_133 : decode cX6_brings 133 = .ok (.ifCond .ne 8, 3) := by decide +kernel
theorem dX6_brings_136 : decode cX6_brings 136 = .ok (.iload 4, 2) := by decide +kernel
theorem dX6_brings_138 : decode cX6_brings 138 = .ok (.goto 5, 3) := by decide +kernel
theorem dX6_brings_141 : decode cX6_brings 141 = .ok (.iload 5, 2) := by decide +kernel
theorem dX6_brings_143 : decode cX6_brings 143 = .ok (.ireturn, 1) := by decide +kernel
theorem dX6_odds_0 : decode cX6_odds 0 = .ok (.iload_n 1, 1) := by decide +kernel
theorem dX6_odds_1 : decode cX6_odds 1 = .ok (.iconst 0, 1) := by decide +kernel
theorem dX6_odds_2 : decode cX6_odds 2 = .ok (.iconst 1, 1) := by decide +kernel
theorem dX6_odds_3 : decode cX6_odds 3 = .ok (.invokestatic 68, 3) := by decide +kernel
theorem dX6_odds_6 : decode cX6_odds 6 = .ok (.ifCond .ne 9, 3) := by decide +kernel
theorem dX6_odds_9 : decode cX6_odds 9 = .ok (.aload_n 0, 1) := by decide +kernel
theorem dX6_odds_10 : decode cX6_odds 10 = .ok (.iconst 1, 1) := by decide +kernel
theorem dX6_odds_11 : decode cX6_odds 11 = .ok (.invokevirtual 72, 3) := by decide +kernel
theorem dX6_odds_14 : decode cX6_odds 14 = .ok (.ireturn, 1) := by decide +kernel
theorem dX6_odds_15 : decode cX6_odds 15 = .ok (.aload_n 0, 1) := by decide +kernel
theorem dX6_odds_16 : decode cX6_odds 16 = .ok (.getfield 23, 3) := by decide +kernel
theorem dX6_odds_19 : decode cX6_odds 19 = .ok (.invokevirtual 165, 3) := by decide +kernel
theorem dX6_odds_22 : decode cX6_odds 22 = .ok (.istore_n 2, 1) := by decide +kernel
theorem dX6_odds_23 : decode cX6_odds 23 = .ok (.iload_n 2, 1) := by decide +kernel
theorem dX6_odds_24 : decode cX6_odds 24 = .ok (.ifCond .ne 9, 3) := by decide +kernel
theorem dX6_odds_27 : decode cX6_odds 27 = .ok (.aload_n 0, 1) := by decide +kernel
theorem dX6_odds_28 : decode cX6_odds 28 = .ok (.iconst 3, 1) := by decide +kernel
theorem dX6_odds_29 : decode cX6_odds 29 = .ok (.invokevirtual 72, 3) := by decide +kernel
theorem dX6_odds_32 : decode cX6_odds 32 = .ok (.ireturn, 1) := by decide +kernel
theorem dX6_odds_33 : decode cX6_odds 33 = .ok (.aload_n 0, 1) := by decide +kernel
theorem dX6_odds_34 : decode cX6_odds 34 = .ok (.getfield 23, 3) := by decide +kernel
theorem dX6_odds_37 : decode cX6_odds 37 = .ok (.invokevirtual 186, 3) := by decide +kernel
theorem dX6_odds_40 : decode cX6_odds 40 = .ok (.istore_n 3, 1) := by decide +kernel
theorem dX6_odds_41 : decode cX6_odds 41 = .ok (.iload_n 2, 1) := by decide +kernel
theorem dX6_odds_42 : decode cX6_odds 42 = .ok (.iload_n 3, 1) := by decide +kernel
theorem dX6_odds_43 : decode cX6_odds 43 = .ok (.invokestatic 189, 3) := by decide +kernel
theorem dX6_odds_46 : decode cX6_odds 46 = .ok (.istore 4, 2) := by decide +kernel
theorem dX6_odds_48 : decode cX6_odds 48 = .ok (.iload_n 1, 1) := by decide +kernel
theorem dX6_odds_49 : decode cX6_odds 49 = .ok (.ifCond .ne 7, 3) := by decide +kernel
theorem dX6_odds_52 : decode cX6_odds 52 = .ok (.iload_n 3, 1) := by decide +kernel
theorem dX6_odds_53 : decode cX6_odds 53 = .ok (.goto 4, 3) := by decide +kernel
theorem dX6_odds_56 : decode cX6_odds 56 = .ok (.iload_n 2, 1) := by decide +kernel
theorem dX6_odds_57 : decode cX6_odds 57 = .ok (.iload 4, 2) := by decide +kernel
theorem dX6_odds_59 : decode cX6_odds 59 = .ok (.idiv, 1) := by decide +kernel
theorem dX6_odds_60 : decode cX6_odds 60 = .ok (.ireturn, 1) := by decide +kernel
theorem dX6_fits_0 : decode cX6_fits 0 = .ok (.iload_n 1, 1) := by decide +kernel
theorem dX6_fits_1 : decode cX6_fits 1 = .ok (.invokestatic 193, 3) := by decide +kernel
theorem dX6_fits_4 : decode cX6_fits 4 = .ok (.ifCond .eq 12, 3) := by decide +kernel
theorem dX6_fits_7 : decode cX6_fits 7 = .ok (.iload_n 2, 1) := by decide +kernel
theorem dX6_fits_8 : decode cX6_fits 8 = .ok (.iconst 0, 1) := by decide +kernel
theorem dX6_fits_9 : decode cX6_fits 9 = .ok (.iconst 1, 1) := by decide +kernel
theorem dX6_fits_10 : decode cX6_fits 10 = .ok (.invokestatic 68, 3) := by decide +kernel
theorem dX6_fits_13 : decode cX6_fits 13 = .ok (.ifCond .ne 9, 3) := by decide +kernel
theorem dX6_fits_16 : decode cX6_fits 16 = .ok (.aload_n 0, 1) := by decide +kernel
theorem dX6_fits_17 : decode cX6_fits 17 = .ok (.iconst 1, 1) := by decide +kernel
theorem dX6_fits_18 : decode cX6_fits 18 = .ok (.invokevirtual 72, 3) := by decide +kernel
theorem dX6_fits_21 : decode cX6_fits 21 = .ok (.ireturn, 1) := by decide +kernel
theorem dX6_fits_22 : decode cX6_fits 22 = .ok (.aload_n 0, 1) := by decide +kernel
theorem dX6_fits_23 : decode cX6_fits 23 = .ok (.getfield 55, 3) := by decide +kernel
theorem dX6_fits_26 : decode cX6_fits 26 = .ok (.iload_n 1, 1) := by decide +kernel
theorem dX6_fits_27 : decode cX6_fits 27 = .ok (.aaload, 1) := by decide +kernel
theorem dX6_fits_28 : decode cX6_fits 28 = .ok (.invokevirtual 196, 3) := by decide +kernel
theorem dX6_fits_31 : decode cX6_fits 31 = .ok (.ifCond .eq 9, 3) := by decide +kernel
theorem dX6_fits_34 : decode cX6_fits 34 = .ok (.aload_n 0, 1) := by decide +kernel
theorem dX6_fits_35 : decode cX6_fits 35 = .ok (.iconst 2, 1) := by decide +kernel
theorem dX6_fits_36 : decode cX6_fits 36 = .ok (.invokevirtual 72, 3) := by decide +kernel
theorem dX6_fits_39 : decode cX6_fits 39 = .ok (.ireturn, 1) := by decide +kernel
theorem dX6_fits_40 : decode cX6_fits 40 = .ok (.iconst 0, 1) := by decide +kernel
theorem dX6_fits_41 : decode cX6_fits 41 = .ok (.istore_n 3, 1) := by decide +kernel
theorem dX6_fits_42 : decode cX6_fits 42 = .ok (.iconst (-1), 1) := by decide +kernel
theorem dX6_fits_43 : decode cX6_fits 43 = .ok (.istore 4, 2) := by decide +kernel
theorem dX6_fits_45 : decode cX6_fits 45 = .ok (.iconst 0, 1) := by decide +kernel
theorem dX6_fits_46 : decode cX6_fits 46 = .ok (.istore 5, 2) := by decide +kernel
theorem dX6_fits_48 : decode cX6_fits 48 = .ok (.iload 5, 2) := by decide +kernel
theorem dX6_fits_50 : decode cX6_fits 50 = .ok (.bipush 99, 2) := by decide +kernel
theorem dX6_fits_52 : decode cX6_fits 52 = .ok (.if_icmp .gt 60, 3) := by decide +kernel
theorem dX6_fits_55 : decode cX6_fits 55 = .ok (.aload_n 0, 1) := by decide +kernel
theorem dX6_fits_56 : decode cX6_fits 56 = .ok (.getfield 36, 3) := by decide +kernel
theorem dX6_fits_59 : decode cX6_fits 59 = .ok (.aload_n 0, 1) := by decide +kernel
theorem dX6_fits_60 : decode cX6_fits 60 = .ok (.getfield 23, 3) := by decide +kernel
theorem dX6_fits_63 : decode cX6_fits 63 = .ok (.invokevirtual 174, 3) := by decide +kernel
theorem dX6_fits_66 : decode cX6_fits 66 = .ok (.aload_n 0, 1) := by decide +kernel
theorem dX6_fits_67 : decode cX6_fits 67 = .ok (.getfield 36, 3) := by decide +kernel
theorem dX6_fits_70 : decode cX6_fits 70 = .ok (.iload 5, 2) := by decide +kernel
theorem dX6_fits_72 : decode cX6_fits 72 = .ok (.invokevirtual 158, 3) := by decide +kernel
theorem dX6_fits_75 : decode cX6_fits 75 = .ok (.pop, 1) := by decide +kernel
theorem dX6_fits_76 : decode cX6_fits 76 = .ok (.aload_n 0, 1) := by decide +kernel
theorem dX6_fits_77 : decode cX6_fits 77 = .ok (.aload_n 0, 1) := by decide +kernel
theorem dX6_fits_78 : decode cX6_fits 78 = .ok (.getfield 55, 3) := by decide +kernel
theorem dX6_fits_81 : decode cX6_fits 81 = .ok (.iload_n 1, 1) := by decide +kernel
theorem dX6_fits_82 : decode cX6_fits 82 = .ok (.aaload, 1) := by decide +kernel
theorem dX6_fits_83 : decode cX6_fits 83 = .ok (.invokevirtual 199, 3) := by decide +kernel
theorem dX6_fits_86 : decode cX6_fits 86 = .ok (.ifCond .eq 20, 3) := by decide +kernel
theorem dX6_fits_89 : decode cX6_fits 89 = .ok (.iinc 3 1, 3) := by decide +kernel
theorem dX6_fits_92 : decode cX6_fits 92 = .ok (.iload 4, 2) := by decide +kernel
theorem dX6_fits_94 : decode cX6_fits 94 = .ok (.ifCond .ge 8, 3) := by decide +kernel
theorem dX6_fits_97 : decode cX6_fits 97 = .ok (.iload 5, 2) := by decide +kernel
theorem dX6_fits_99 : decode cX6_fits 99 = .ok (.goto 5, 3) := by decide +kernel
theorem dX6_fits_102 : decode cX6_fits 102 = .ok (.iload 4, 2) := by decide +kernel
theorem dX6_fits_104 : decode cX6_fits 104 = .ok (.istore 4, 2) := by decide +kernel
theorem dX6_fits_106 : decode cX6_fits 106 = .ok (.iinc 5 1, 3) := by decide +kernel
theorem dX6_fits_109 : decode cX6_fits 109 = .ok (.goto (-61), 3) := by decide +kernel
theorem dX6_fits_112 : decode cX6_fits 112 = .ok (.iload_n 2, 1) := by decide +kernel
theorem dX6_fits_113 : decode cX6_fits 113 = .ok (.ifCond .ne 5, 3) := by decide +kernel
theorem dX6_fits_116 : decode cX6_fits 116 = .ok (.iload_n 3, 1) := by decide +kernel
theorem dX6_fits_117 : decode cX6_fits 117 = .ok (.ireturn, 1) := by decide +kernel
theorem dX6_fits_118 : decode cX6_fits 118 = .ok (.iload 4, 2) := by decide +kernel
theorem dX6_fits_120 : decode cX6_fits 120 = .ok (.ifCond .ge 11, 3) := by decide +kernel
theorem dX6_fits_123 : decode cX6_fits 123 = .ok (.aload_n 0, 1) := by decide +kernel
theorem dX6_fits_124 : decode cX6_fits 124 = .ok (.iconst 2, 1) := by decide +kernel
theorem dX6_fits_125 : decode cX6_fits 125 = .ok (.invokevirtual 72, 3) := by decide +kernel
theorem dX6_fits_128 : decode cX6_fits 128 = .ok (.goto 5, 3) := by decide +kernel
theorem dX6_fits_131 : decode cX6_fits 131 = .ok (.iload 4, 2) := by decide +kernel
theorem dX6_fits_133 : decode cX6_fits 133 = .ok (.ireturn, 1) := by decide +kernel
theorem dX6_voice_0 : decode cX6_voice 0 = .ok (.aload_n 0, 1) := by decide +kernel
theorem dX6_voice_1 : decode cX6_voice 1 = .ok (.getfield 23, 3) := by decide +kernel
theorem dX6_voice_4 : decode cX6_voice 4 = .ok (.iload_n 1, 1) := by decide +kernel
theorem dX6_voice_5 : decode cX6_voice 5 = .ok (.invokevirtual 84, 3) := by decide +kernel
theorem dX6_voice_8 : decode cX6_voice 8 = .ok (.ifCond .eq 12, 3) := by decide +kernel
theorem dX6_voice_11 : decode cX6_voice 11 = .ok (.iload_n 2, 1) := by decide +kernel
theorem dX6_voice_12 : decode cX6_voice 12 = .ok (.iconst 0, 1) := by decide +kernel
theorem dX6_voice_13 : decode cX6_voice 13 = .ok (.iconst 3, 1) := by decide +kernel
theorem dX6_voice_14 : decode cX6_voice 14 = .ok (.invokestatic 68, 3) := by decide +kernel
theorem dX6_voice_17 : decode cX6_voice 17 = .ok (.ifCond .ne 9, 3) := by decide +kernel
theorem dX6_voice_20 : decode cX6_voice 20 = .ok (.aload_n 0, 1) := by decide +kernel
theorem dX6_voice_21 : decode cX6_voice 21 = .ok (.iconst 1, 1) := by decide +kernel
theorem dX6_voice_22 : decode cX6_voice 22 = .ok (.invokevirtual 72, 3) := by decide +kernel
theorem dX6_voice_25 : decode cX6_voice 25 = .ok (.ireturn, 1) := by decide +kernel
theorem dX6_voice_26 : decode cX6_voice 26 = .ok (.aload_n 0, 1) := by decide +kernel
theorem dX6_voice_27 : decode cX6_voice 27 = .ok (.getfield 49, 3) := by decide +kernel
theorem dX6_voice_30 : decode cX6_voice 30 = .ok (.aload_n 0, 1) := by decide +kernel
theorem dX6_voice_31 : decode cX6_voice 31 = .ok (.getfield 23, 3) := by decide +kernel
theorem dX6_voice_34 : decode cX6_voice 34 = .ok (.iload_n 1, 1) := by decide +kernel
theorem dX6_voice_35 : decode cX6_voice 35 = .ok (.iload_n 2, 1) := by decide +kernel
theorem dX6_voice_36 : decode cX6_voice 36 = .ok (.iload_n 3, 1) := by decide +kernel
theorem dX6_voice_37 : decode cX6_voice 37 = .ok (.invokevirtual 203, 3) := by decide +kernel
theorem dX6_voice_40 : decode cX6_voice 40 = .ok (.istore 4, 2) := by decide +kernel
theorem dX6_voice_42 : decode cX6_voice 42 = .ok (.aload_n 0, 1) := by decide +kernel
theorem dX6_voice_43 : decode cX6_voice 43 = .ok (.getfield 49, 3) := by decide +kernel
theorem dX6_voice_46 : decode cX6_voice 46 = .ok (.getfield 207, 3) := by decide +kernel
theorem dX6_voice_49 : decode cX6_voice 49 = .ok (.ifCond .eq 12, 3) := by decide +kernel
theorem dX6_voice_52 : decode cX6_voice 52 = .ok (.aload_n 0, 1) := by decide +kernel
theorem dX6_voice_53 : decode cX6_voice 53 = .ok (.bipush 6, 2) := by decide +kernel
theorem dX6_voice_55 : decode cX6_voice 55 = .ok (.invokevirtual 72, 3) := by decide +kernel
theorem dX6_voice_58 : decode cX6_voice 58 = .ok (.goto 5, 3) := by decide +kernel
theorem dX6_voice_61 : decode cX6_voice 61 = .ok (.iload 4, 2) := by decide +kernel
theorem dX6_voice_63 : decode cX6_voice 63 = .ok (.ireturn, 1) := by decide +kernel
theorem dX6_body_0 : decode cX6_body 0 = .ok (.iload_n 1, 1) := by decide +kernel
theorem dX6_body_1 : decode cX6_body 1 = .ok (.iconst 0, 1) := by decide +kernel
theorem dX6_body_2 : decode cX6_body 2 = .ok (.aload_n 0, 1) := by decide +kernel
theorem dX6_body_3 : decode cX6_body 3 = .ok (.getfield 49, 3) := by decide +kernel
theorem dX6_body_6 : decode cX6_body 6 = .ok (.getfield 211, 3) := by decide +kernel
theorem dX6_body_9 : decode cX6_body 9 = .ok (.iconst 1, 1) := by decide +kernel
theorem dX6_body_10 : decode cX6_body 10 = .ok (.isub, 1) := by decide +kernel
theorem dX6_body_11 : decode cX6_body 11 = .ok (.invokestatic 68, 3) := by decide +kernel
theorem dX6_body_14 : decode cX6_body 14 = .ok (.ifCond .eq 15, 3) := by decide +kernel
theorem dX6_body_17 : decode cX6_body 17 = .ok (.aload_n 0, 1) := by decide +kernel
theorem dX6_body_18 : decode cX6_body 18 = .ok (.getfield 49, 3) := by decide +kernel
theorem dX6_body_21 : decode cX6_body 21 = .ok (.getfield 214, 3) := by decide +kernel
theorem dX6_body_24 : decode cX6_body 24 = .ok (.iload_n 1, 1) := by decide +kernel
theorem dX6_body_25 : decode cX6_body 25 = .ok (.iaload, 1) := by decide +kernel
theorem dX6_body_26 : decode cX6_body 26 = .ok (.goto 8, 3) := by decide +kernel
theorem dX6_body_29 : decode cX6_body 29 = .ok (.aload_n 0, 1) := by decide +kernel
theorem dX6_body_30 : decode cX6_body 30 = .ok (.iconst 2, 1) := by decide +kernel
theorem dX6_body_31 : decode cX6_body 31 = .ok (.invokevirtual 72, 3) := by decide +kernel
theorem dX6_body_34 : decode cX6_body 34 = .ok (.ireturn, 1) := by decide +kernel
theorem dX6_sheet_0 : decode cX6_sheet 0 = .ok (.iload_n 1, 1) := by decide +kernel
theorem dX6_sheet_1 : decode cX6_sheet 1 = .ok (.invokestatic 193, 3) := by decide +kernel
theorem dX6_sheet_4 : decode cX6_sheet 4 = .ok (.ifCond .eq 25, 3) := by decide +kernel
theorem dX6_sheet_7 : decode cX6_sheet 7 = .ok (.iload_n 2, 1) := by decide +kernel
theorem dX6_sheet_8 : decode cX6_sheet 8 = .ok (.ifCond .eq 27, 3) := by decide +kernel
theorem dX6_sheet_11 : decode cX6_sheet 11 = .ok (.iload_n 2, 1) := by decide +kernel
theorem dX6_sheet_12 : decode cX6_sheet 12 = .ok (.bipush 8, 2) := by decide +kernel
theorem dX6_sheet_14 : decode cX6_sheet 14 = .ok (.if_icmp .eq 21, 3) := by decide +kernel
theorem dX6_sheet_17 : decode cX6_sheet 17 = .ok (.iload_n 2, 1) := by decide +kernel
theorem dX6_sheet_18 : decode cX6_sheet 18 = .ok (.bipush 16, 2) := by decide +kernel
theorem dX6_sheet_20 : decode cX6_sheet 20 = .ok (.if_icmp .eq 15, 3) := by decide +kernel
theorem dX6_sheet_23 : decode cX6_sheet 23 = .ok (.iload_n 2, 1) := by decide +kernel
theorem dX6_sheet_24 : decode cX6_sheet 24 = .ok (.bipush 32, 2) := by decide +kernel
theorem dX6_sheet_26 : decode cX6_sheet 26 = .ok (.if_icmp .eq 9, 3) := by decide +kernel
theorem dX6_sheet_29 : decode cX6_sheet 29 = .ok (.aload_n 0, 1) := by decide +kernel
theorem dX6_sheet_30 : decode cX6_sheet 30 = .ok (.iconst 1, 1) := by decide +kernel
theorem dX6_sheet_31 : decode cX6_sheet 31 = .ok (.invokevirtual 72, 3) := by decide +kernel
theorem dX6_sheet_34 : decode cX6_sheet 34 = .ok (.ireturn, 1) := by decide +kernel
theorem dX6_sheet_35 : decode cX6_sheet 35 = .ok (.iload_n 2, 1) := by decide +kernel
theorem dX6_sheet_36 : decode cX6_sheet 36 = .ok (.ifCond .eq 13, 3) := by decide +kernel
theorem dX6_sheet_39 : decode cX6_sheet 39 = .ok (.iload_n 3, 1) := by decide +kernel
theorem dX6_sheet_40 : decode cX6_sheet 40 = .ok (.ifCond .ge 9, 3) := by decide +kernel
theorem dX6_sheet_43 : decode cX6_sheet 43 = .ok (.aload_n 0, 1) := by decide +kernel
theorem dX6_sheet_44 : decode cX6_sheet 44 = .ok (.iconst 3, 1) := by decide +kernel
theorem dX6_sheet_45 : decode cX6_sheet 45 = .ok (.invokevirtual 72, 3) := by decide +kernel
theorem dX6_sheet_48 : decode cX6_sheet 48 = .ok (.ireturn, 1) := by decide +kernel
theorem dX6_sheet_49 : decode cX6_sheet 49 = .ok (.iload_n 2, 1) := by decide +kernel
theorem dX6_sheet_50 : decode cX6_sheet 50 = .ok (.ifCond .eq 15, 3) := by decide +kernel
theorem dX6_sheet_53 : decode cX6_sheet 53 = .ok (.iload_n 3, 1) := by decide +kernel
theorem dX6_sheet_54 : decode cX6_sheet 54 = .ok (.bipush 24, 2) := by decide +kernel
theorem dX6_sheet_56 : decode cX6_sheet 56 = .ok (.if_icmp .le 9, 3) := by decide +kernel
theorem dX6_sheet_59 : decode cX6_sheet 59 = .ok (.aload_n 0, 1) := by decide +kernel
theorem dX6_sheet_60 : decode cX6_sheet 60 = .ok (.iconst 1, 1) := by decide +kernel
theorem dX6_sheet_61 : decode cX6_sheet 61 = .ok (.invokevirtual 72, 3) := by decide +kernel
theorem dX6_sheet_64 : decode cX6_sheet 64 = .ok (.ireturn, 1) := by decide +kernel
theorem dX6_sheet_65 : decode cX6_sheet 65 = .ok (.aload_n 0, 1) := by decide +kernel
theorem dX6_sheet_66 : decode cX6_sheet 66 = .ok (.getfield 55, 3) := by decide +kernel
theorem dX6_sheet_69 : decode cX6_sheet 69 = .ok (.iload_n 1, 1) := by decide +kernel
theorem dX6_sheet_70 : decode cX6_sheet 70 = .ok (.aaload, 1) := by decide +kernel
theorem dX6_sheet_71 : decode cX6_sheet 71 = .ok (.iload_n 2, 1) := by decide +kernel
theorem dX6_sheet_72 : decode cX6_sheet 72 = .ok (.iload_n 2, 1) := by decide +kernel
theorem dX6_sheet_73 : decode cX6_sheet 73 = .ok (.ifCond .ne 7, 3) := by decide +kernel
theorem dX6_sheet_76 : decode cX6_sheet 76 = .ok (.iconst 0, 1) := by decide +kernel
theorem dX6_sheet_77 : decode cX6_sheet 77 = .ok (.goto 4, 3) := by decide +kernel
theorem dX6_sheet_80 : decode cX6_sheet 80 = .ok (.iload_n 3, 1) := by decide +kernel
theorem dX6_sheet_81 : decode cX6_sheet 81 = .ok (.invokevirtual 217, 3) := by decide +kernel
theorem dX6_sheet_84 : decode cX6_sheet 84 = .ok (.iconst 1, 1) := by decide +kernel
theorem dX6_sheet_85 : decode cX6_sheet 85 = .ok (.ireturn, 1) := by decide +kernel
theorem dX6_put_0 : decode cX6_put 0 = .ok (.iload_n 1, 1) := by decide +kernel
theorem dX6_put_1 : decode cX6_put 1 = .ok (.invokestatic 193, 3) := by decide +kernel
theorem dX6_put_4 : decode cX6_put 4 = .ok (.ifCond .ne 9, 3) := by decide +kernel
theorem dX6_put_7 : decode cX6_put 7 = .ok (.aload_n 0, 1) := by decide +kernel
theorem dX6_put_8 : decode cX6_put 8 = .ok (.iconst 1, 1) := by decide +kernel
theorem dX6_put_9 : decode cX6_put 9 = .ok (.invokevirtual 72, 3) := by decide +kernel
theorem dX6_put_12 : decode cX6_put 12 = .ok (.ireturn, 1) := by decide +kernel
theorem dX6_put_13 : decode cX6_put 13 = .ok (.aload_n 0, 1) := by decide +kernel
theorem dX6_put_14 : decode cX6_put 14 = .ok (.getfield 55, 3) := by decide +kernel
theorem dX6_put_17 : decode cX6_put 17 = .ok (.iload_n 1, 1) := by decide +kernel
theorem dX6_put_18 : decode cX6_put 18 = .ok (.aaload, 1) := by decide +kernel
theorem dX6_put_19 : decode cX6_put 19 = .ok (.astore 4, 2) := by decide +kernel
theorem dX6_put_21 : decode cX6_put 21 = .ok (.aload 4, 2) := by decide +kernel
theorem dX6_put_23 : decode cX6_put 23 = .ok (.invokevirtual 196, 3) := by decide +kernel
theorem dX6_put_26 : decode cX6_put 26 = .ok (.ifCond .eq 9, 3) := by decide +kernel
theorem dX6_put_29 : decode cX6_put 29 = .ok (.aload_n 0, 1) := by decide +kernel
theorem dX6_put_30 : decode cX6_put 30 = .ok (.iconst 2, 1) := by decide +kernel
theorem dX6_put_31 : decode cX6_put 31 = .ok (.invokevirtual 72, 3) := by decide +kernel
theorem dX6_put_34 : decode cX6_put 34 = .ok (.ireturn, 1) := by decide +kernel
theorem dX6_put_35 : decode cX6_put 35 = .ok (.iload_n 2, 1) := by decide +kernel
theorem dX6_put_36 : decode cX6_put 36 = .ok (.iconst 0, 1) := by decide +kernel
theorem dX6_put_37 : decode cX6_put 37 = .ok (.aload 4, 2) := by decide +kernel
theorem dX6_put_39 : decode cX6_put 39 = .ok (.getfield 220, 3) := by decide +kernel
theorem dX6_put_42 : decode cX6_put 42 = .ok (.iconst 1, 1) := by decide +kernel
theorem dX6_put_43 : decode cX6_put 43 = .ok (.isub, 1) := by decide +kernel
theorem dX6_put_44 : decode cX6_put 44 = .ok (.invokestatic 68, 3) := by decide +kernel
theorem dX6_put_47 : decode cX6_put 47 = .ok (.ifCond .ne 9, 3) := by decide +kernel
theorem dX6_put_50 : decode cX6_put 50 = .ok (.aload_n 0, 1) := by decide +kernel
theorem dX6_put_51 : decode cX6_put 51 = .ok (.iconst 1, 1) := by decide +kernel
theorem dX6_put_52 : decode cX6_put 52 = .ok (.invokevirtual 72, 3) := by decide +kernel
theorem dX6_put_55 : decode cX6_put 55 = .ok (.ireturn, 1) := by decide +kernel
theorem dX6_put_56 : decode cX6_put 56 = .ok (.aload 4, 2) := by decide +kernel
theorem dX6_put_58 : decode cX6_put 58 = .ok (.iload_n 2, 1) := by decide +kernel
theorem dX6_put_59 : decode cX6_put 59 = .ok (.iload_n 3, 1) := by decide +kernel
theorem dX6_put_60 : decode cX6_put 60 = .ok (.invokevirtual 223, 3) := by decide +kernel
theorem dX6_put_63 : decode cX6_put 63 = .ok (.iconst 1, 1) := by decide +kernel
theorem dX6_put_64 : decode cX6_put 64 = .ok (.ireturn, 1) := by decide +kernel
theorem dX6_move_0 : decode cX6_move 0 = .ok (.iload_n 1, 1) := by decide +kernel
theorem dX6_move_1 : decode cX6_move 1 = .ok (.invokestatic 193, 3) := by decide +kernel
theorem dX6_move_4 : decode cX6_move 4 = .ok (.ifCond .eq 10, 3) := by decide +kernel
theorem dX6_move_7 : decode cX6_move 7 = .ok (.iload_n 3, 1) := by decide +kernel
theorem dX6_move_8 : decode cX6_move 8 = .ok (.invokestatic 193, 3) := by decide +kernel
theorem dX6_move_11 : decode cX6_move 11 = .ok (.ifCond .ne 9, 3) := by decide +kernel
theorem dX6_move_14 : decode cX6_move 14 = .ok (.aload_n 0, 1) := by decide +kernel
theorem dX6_move_15 : decode cX6_move 15 = .ok (.iconst 1, 1) := by decide +kernel
theorem dX6_move_16 : decode cX6_move 16 = .ok (.invokevirtual 72, 3) := by decide +kernel
theorem dX6_move_19 : decode cX6_move 19 = .ok (.ireturn, 1) := by decide +kernel
theorem dX6_move_20 : decode cX6_move 20 = .ok (.aload_n 0, 1) := by decide +kernel
theorem dX6_move_21 : decode cX6_move 21 = .ok (.getfield 55, 3) := by decide +kernel
theorem dX6_move_24 : decode cX6_move 24 = .ok (.iload_n 1, 1) := by decide +kernel
theorem dX6_move_25 : decode cX6_move 25 = .ok (.aaload, 1) := by decide +kernel
theorem dX6_move_26 : decode cX6_move 26 = .ok (.astore 6, 2) := by decide +kernel
theorem dX6_move_28 : decode cX6_move 28 = .ok (.aload_n 0, 1) := by decide +kernel
theorem dX6_move_29 : decode cX6_move 29 = .ok (.getfield 55, 3) := by decide +kernel
theorem dX6_move_32 : decode cX6_move 32 = .ok (.iload_n 3, 1) := by decide +kernel
theorem dX6_move_33 : decode cX6_move 33 = .ok (.aaload, 1) := by decide +kernel
theorem dX6_move_34 : decode cX6_move 34 = .ok (.astore 7, 2) := by decide +kernel
theorem dX6_move_36 : decode cX6_move 36 = .ok (.aload 6, 2) := by decide +kernel
theorem dX6_move_38 : decode cX6_move 38 = .ok (.invokevirtual 196, 3) := by decide +kernel
theorem dX6_move_41 : decode cX6_move 41 = .ok (.ifCond .ne 11, 3) := by decide +kernel
theorem dX6_move_44 : decode cX6_move 44 = .ok (.aload 7, 2) := by decide +kernel
theorem dX6_move_46 : decode cX6_move 46 = .ok (.invokevirtual 196, 3) := by decide +kernel
theorem dX6_move_49 : decode cX6_move 49 = .ok (.ifCond .eq 9, 3) := by decide +kernel
theorem dX6_move_52 : decode cX6_move 52 = .ok (.aload_n 0, 1) := by decide +kernel
theorem dX6_move_53 : decode cX6_move 53 = .ok (.iconst 2, 1) := by decide +kernel
theorem dX6_move_54 : decode cX6_move 54 = .ok (.invokevirtual 72, 3) := by decide +kernel
theorem dX6_move_57 : decode cX6_move 57 = .ok (.ireturn, 1) := by decide +kernel
theorem dX6_move_58 : decode cX6_move 58 = .ok (.aload 6, 2) := by decide +kernel
theorem dX6_move_60 : decode cX6_move 60 = .ok (.getfield 226, 3) := by decide +kernel
theorem dX6_move_63 : decode cX6_move 63 = .ok (.aload 7, 2) := by decide +kernel
theorem dX6_move_65 : decode cX6_move 65 = .ok (.getfield 226, 3) := by decide +kernel
theorem dX6_move_68 : decode cX6_move 68 = .ok (.if_icmp .eq 9, 3) := by decide +kernel
theorem dX6_move_71 : decode cX6_move 71 = .ok (.aload_n 0, 1) := by decide +kernel
theorem dX6_move_72 : decode cX6_move 72 = .ok (.iconst 5, 1) := by decide +kernel
theorem dX6_move_73 : decode cX6_move 73 = .ok (.invokevirtual 72, 3) := by decide +kernel
theorem dX6_move_76 : decode cX6_move 76 = .ok (.ireturn, 1) := by decide +kernel
theorem dX6_move_77 : decode cX6_move 77 = .ok (.aload 6, 2) := by decide +kernel
theorem dX6_move_79 : decode cX6_move 79 = .ok (.iload_n 2, 1) := by decide +kernel
theorem dX6_move_80 : decode cX6_move 80 = .ok (.iload 5, 2) := by decide +kernel
theorem dX6_move_82 : decode cX6_move 82 = .ok (.invokevirtual 229, 3) := by decide +kernel
theorem dX6_move_85 : decode cX6_move 85 = .ok (.ifCond .eq 15, 3) := by decide +kernel
theorem dX6_move_88 : decode cX6_move 88 = .ok (.aload 7, 2) := by decide +kernel
theorem dX6_move_90 : decode cX6_move 90 = .ok (.iload 4, 2) := by decide +kernel
theorem dX6_move_92 : decode cX6_move 92 = .ok (.iload 5, 2) := by decide +kernel
theorem dX6_move_94 : decode cX6_move 94 = .ok (.invokevirtual 229, 3) := by decide +kernel
theorem dX6_move_97 : decode cX6_move 97 = .ok (.ifCond .ne 9, 3) := by decide +kernel
theorem dX6_move_100 : decode cX6_move 100 = .ok (.aload_n 0, 1) := by decide +kernel
theorem dX6_move_101 : decode cX6_move 101 = .ok (.iconst 1, 1) := by decide +kernel
theorem dX6_move_102 : decode cX6_move 102 = .ok (.invokevirtual 72, 3) := by decide +kernel
theorem dX6_move_105 : decode cX6_move 105 = .ok (.ireturn, 1) := by decide +kernel
theorem dX6_move_106 : decode cX6_move 106 = .ok (.aload 6, 2) := by decide +kernel
theorem dX6_move_108 : decode cX6_move 108 = .ok (.getfield 232, 3) := by decide +kernel
theorem dX6_move_111 : decode cX6_move 111 = .ok (.iload_n 2, 1) := by decide +kernel
theorem dX6_move_112 : decode cX6_move 112 = .ok (.aload 7, 2) := by decide +kernel
theorem dX6_move_114 : decode cX6_move 114 = .ok (.getfield 232, 3) := by decide +kernel
theorem dX6_move_117 : decode cX6_move 117 = .ok (.iload 4, 2) := by decide +kernel
theorem dX6_move_119 : decode cX6_move 119 = .ok (.iload 5, 2) := by decide +kernel
theorem dX6_move_121 : decode cX6_move 121 = .ok (.invokestatic 235, 3) := by decide +kernel
theorem dX6_move_124 : decode cX6_move 124 = .ok (.iload 5, 2) := by decide +kernel
theorem dX6_move_126 : decode cX6_move 126 = .ok (.ireturn, 1) := by decide +kernel
theorem dX6_serves_0 : decode cX6_serves 0 = .ok (.iload_n 1, 1) := by decide +kernel
theorem dX6_serves_1 : decode cX6_serves 1 = .ok (.invokestatic 193, 3) := by decide +kernel
theorem dX6_serves_4 : decode cX6_serves 4 = .ok (.ifCond .ne 9, 3) := by decide +kernel
theorem dX6_serves_7 : decode cX6_serves 7 = .ok (.aload_n 0, 1) := by decide +kernel
theorem dX6_serves_8 : decode cX6_serves 8 = .ok (.iconst 1, 1) := by decide +kernel
theorem dX6_serves_9 : decode cX6_serves 9 = .ok (.invokevirtual 72, 3) := by decide +kernel
theorem dX6_serves_12 : decode cX6_serves 12 = .ok (.ireturn, 1) := by decide +kernel
theorem dX6_serves_13 : decode cX6_serves 13 = .ok (.aload_n 0, 1) := by decide +kernel
theorem dX6_serves_14 : decode cX6_serves 14 = .ok (.getfield 55, 3) := by decide +kernel
theorem dX6_serves_17 : decode cX6_serves 17 = .ok (.iload_n 1, 1) := by decide +kernel
theorem dX6_serves_18 : decode cX6_serves 18 = .ok (.aaload, 1) := by decide +kernel
theorem dX6_serves_19 : decode cX6_serves 19 = .ok (.astore_n 2, 1) := by decide +kernel
theorem dX6_serves_20 : decode cX6_serves 20 = .ok (.aload_n 2, 1) := by decide +kernel
theorem dX6_serves_21 : decode cX6_serves 21 = .ok (.invokevirtual 196, 3) := by decide +kernel
theorem dX6_serves_24 : decode cX6_serves 24 = .ok (.ifCond .eq 9, 3) := by decide +kernel
theorem dX6_serves_27 : decode cX6_serves 27 = .ok (.aload_n 0, 1) := by decide +kernel
theorem dX6_serves_28 : decode cX6_serves 28 = .ok (.iconst 2, 1) := by decide +kernel
theorem dX6_serves_29 : decode cX6_serves 29 = .ok (.invokevirtual 72, 3) := by decide +kernel
theorem dX6_serves_32 : decode cX6_serves 32 = .ok (.ireturn, 1) := by decide +kernel
theorem dX6_serves_33 : decode cX6_serves 33 = .ok (.iconst 0, 1) := by decide +kernel
theorem dX6_serves_34 : decode cX6_serves 34 = .ok (.istore_n 3, 1) := by decide +kernel
theorem dX6_serves_35 : decode cX6_serves 35 = .ok (.iload_n 3, 1) := by decide +kernel
theorem dX6_serves_36 : decode cX6_serves 36 = .ok (.aload_n 2, 1) := by decide +kernel
theorem dX6_serves_37 : decode cX6_serves 37 = .ok (.getfield 220, 3) := by decide +kernel
theorem dX6_serves_40 : decode cX6_serves 40 = .ok (.if_icmp .ge 52, 3) := by decide +kernel
theorem dX6_serves_43 : decode cX6_serves 43 = .ok (.aload_n 0, 1) := by decide +kernel
theorem dX6_serves_44 : decode cX6_serves 44 = .ok (.getfield 23, 3) := by decide +kernel
theorem dX6_serves_47 : decode cX6_serves 47 = .ok (.iload_n 3, 1) := by decide +kernel
theorem dX6_serves_48 : decode cX6_serves 48 = .ok (.invokevirtual 84, 3) := by decide +kernel
theorem dX6_serves_51 : decode cX6_serves 51 = .ok (.ifCond .eq 18, 3) := by decide +kernel
theorem dX6_serves_54 : decode cX6_serves 54 = .ok (.aload_n 2, 1) := by decide +kernel
theorem dX6_serves_55 : decode cX6_serves 55 = .ok (.getfield 232, 3) := by decide +kernel
theorem dX6_serves_58 : decode cX6_serves 58 = .ok (.iload_n 3, 1) := by decide +kernel
theorem dX6_serves_59 : decode cX6_serves 59 = .ok (.iaload, 1) := by decide +kernel
theorem dX6_serves_60 : decode cX6_serves 60 = .ok (.iconst 0, 1) := by decide +kernel
theorem dX6_serves_61 : decode cX6_serves 61 = .ok (.bipush 99, 2) := by decide +kernel
theorem dX6_serves_63 : decode cX6_serves 63 = .ok (.invokestatic 68, 3) := by decide +kernel
theorem dX6_serves_66 : decode cX6_serves 66 = .ok (.ifCond .ne 5, 3) := by decide +kernel
theorem dX6_serves_69 : decode cX6_serves 69 = .ok (.iload_n 3, 1) := by decide +kernel
theorem dX6_serves_70 : decode cX6_serves 70 = .ok (.ireturn, 1) := by decide +kernel
theorem dX6_serves_71 : decode cX6_serves 71 = .ok (.aload_n 0, 1) := by decide +kernel
theorem dX6_serves_72 : decode cX6_serves 72 = .ok (.getfield 23, 3) := by decide +kernel
theorem dX6_serves_75 : decode cX6_serves 75 = .ok (.getfield 93, 3) := by decide +kernel
theorem dX6_serves_78 : decode cX6_serves 78 = .ok (.iload_n 3, 1) := by decide +kernel
theorem dX6_serves_79 : decode cX6_serves 79 = .ok (.aload_n 2, 1) := by decide +kernel
theorem dX6_serves_80 : decode cX6_serves 80 = .ok (.getfield 232, 3) := by decide +kernel
theorem dX6_serves_83 : decode cX6_serves 83 = .ok (.iload_n 3, 1) := by decide +kernel
theorem dX6_serves_84 : decode cX6_serves 84 = .ok (.iaload, 1) := by decide +kernel
theorem dX6_serves_85 : decode cX6_serves 85 = .ok (.iastore, 1) := by decide +kernel
theorem dX6_serves_86 : decode cX6_serves 86 = .ok (.iinc 3 1, 3) := by decide +kernel
theorem dX6_serves_89 : decode cX6_serves 89 = .ok (.goto (-54), 3) := by decide +kernel
theorem dX6_serves_92 : decode cX6_serves 92 = .ok (.aload_n 2, 1) := by decide +kernel
theorem dX6_serves_93 : decode cX6_serves 93 = .ok (.getfield 220, 3) := by decide +kernel
theorem dX6_serves_96 : decode cX6_serves 96 = .ok (.ireturn, 1) := by decide +kernel
theorem dX6_judge_0 : decode cX6_judge 0 = .ok (.iload_n 1, 1) := by decide +kernel
theorem dX6_judge_1 : decode cX6_judge 1 = .ok (.invokestatic 193, 3) := by decide +kernel
theorem dX6_judge_4 : decode cX6_judge 4 = .ok (.ifCond .ne 9, 3) := by decide +kernel
theorem dX6_judge_7 : decode cX6_judge 7 = .ok (.aload_n 0, 1) := by decide +kernel
theorem dX6_judge_8 : decode cX6_judge 8 = .ok (.iconst 1, 1) := by decide +kernel
theorem dX6_judge_9 : decode cX6_judge 9 = .ok (.invokevirtual 72, 3) := by decide +kernel
theorem dX6_judge_12 : decode cX6_judge 12 = .ok (.ireturn, 1) := by decide +kernel
theorem dX6_judge_13 : decode cX6_judge 13 = .ok (.aload_n 0, 1) := by decide +kernel
theorem dX6_judge_14 : decode cX6_judge 14 = .ok (.getfield 55, 3) := by decide +kernel
theorem dX6_judge_17 : decode cX6_judge 17 = .ok (.iload_n 1, 1) := by decide +kernel
theorem dX6_judge_18 : decode cX6_judge 18 = .ok (.aaload, 1) := by decide +kernel
theorem dX6_judge_19 : decode cX6_judge 19 = .ok (.astore_n 2, 1) := by decide +kernel
theorem dX6_judge_20 : decode cX6_judge 20 = .ok (.aload_n 2, 1) := by decide +kernel
theorem dX6_judge_21 : decode cX6_judge 21 = .ok (.invokevirtual 196, 3) := by decide +kernel
theorem dX6_judge_24 : decode cX6_judge 24 = .ok (.ifCond .eq 9, 3) := by decide +kernel
theorem dX6_judge_27 : decode cX6_judge 27 = .ok (.aload_n 0, 1) := by decide +kernel
theorem dX6_judge_28 : decode cX6_judge 28 = .ok (.iconst 2, 1) := by decide +kernel
theorem dX6_judge_29 : decode cX6_judge 29 = .ok (.invokevirtual 72, 3) := by decide +kernel
theorem dX6_judge_32 : decode cX6_judge 32 = .ok (.ireturn, 1) := by decide +kernel
theorem dX6_judge_33 : decode cX6_judge 33 = .ok (.iconst 0, 1) := by decide +kernel
theorem dX6_judge_34 : decode cX6_judge 34 = .ok (.istore_n 3, 1) := by decide +kernel
theorem dX6_judge_35 : decode cX6_judge 35 = .ok (.iload_n 3, 1) := by decide +kernel
theorem dX6_judge_36 : decode cX6_judge 36 = .ok (.aload_n 2, 1) := by decide +kernel
theorem dX6_judge_37 : decode cX6_judge 37 = .ok (.getfield 220, 3) := by decide +kernel
theorem dX6_judge_40 : decode cX6_judge 40 = .ok (.if_icmp .ge 39, 3) := by decide +kernel
theorem dX6_judge_43 : decode cX6_judge 43 = .ok (.aload_n 0, 1) := by decide +kernel
theorem dX6_judge_44 : decode cX6_judge 44 = .ok (.getfield 23, 3) := by decide +kernel
theorem dX6_judge_47 : decode cX6_judge 47 = .ok (.iload_n 3, 1) := by decide +kernel
theorem dX6_judge_48 : decode cX6_judge 48 = .ok (.invokevirtual 84, 3) := by decide +kernel
theorem dX6_judge_51 : decode cX6_judge 51 = .ok (.ifCond .eq 20, 3) := by decide +kernel
theorem dX6_judge_54 : decode cX6_judge 54 = .ok (.aload_n 2, 1) := by decide +kernel
theorem dX6_judge_55 : decode cX6_judge 55 = .ok (.getfield 232, 3) := by decide +kernel
theorem dX6_judge_58 : decode cX6_judge 58 = .ok (.iload_n 3, 1) := by decide +kernel
theorem dX6_judge_59 : decode cX6_judge 59 = .ok (.iaload, 1) := by decide +kernel
theorem dX6_judge_60 : decode cX6_judge 60 = .ok (.aload_n 0, 1) := by decide +kernel
theorem dX6_judge_61 : decode cX6_judge 61 = .ok (.getfield 23, 3) := by decide +kernel
theorem dX6_judge_64 : decode cX6_judge 64 = .ok (.iload_n 3, 1) := by decide +kernel
theorem dX6_judge_65 : decode cX6_judge 65 = .ok (.invokevirtual 102, 3) := by decide +kernel
theorem dX6_judge_68 : decode cX6_judge 68 = .ok (.if_icmp .eq 5, 3) := by decide +kernel
theorem dX6_judge_71 : decode cX6_judge 71 = .ok (.iload_n 3, 1) := by decide +kernel
theorem dX6_judge_72 : decode cX6_judge 72 = .ok (.ireturn, 1) := by decide +kernel
theorem dX6_judge_73 : decode cX6_judge 73 = .ok (.iinc 3 1, 3) := by decide +kernel
theorem dX6_judge_76 : decode cX6_judge 76 = .ok (.goto (-41), 3) := by decide +kernel
theorem dX6_judge_79 : decode cX6_judge 79 = .ok (.aload_n 2, 1) := by decide +kernel
theorem dX6_judge_80 : decode cX6_judge 80 = .ok (.getfield 220, 3) := by decide +kernel
theorem dX6_judge_83 : decode cX6_judge 83 = .ok (.ireturn, 1) := by decide +kernel
theorem dX6_image_0 : decode cX6_image 0 = .ok (.aload_n 0, 1) := by decide +kernel
theorem dX6_image_1 : decode cX6_image 1 = .ok (.getfield 16, 3) := by decide +kernel
theorem dX6_image_4 : decode cX6_image 4 = .ok (.aload_n 0, 1) := by decide +kernel
theorem dX6_image_5 : decode cX6_image 5 = .ok (.getfield 12, 3) := by decide +kernel
theorem dX6_image_8 : decode cX6_image 8 = .ok (.invokevirtual 241, 3) := by decide +kernel
theorem dX6_image_11 : decode cX6_image 11 = .ok (.aload_n 0, 1) := by decide +kernel
theorem dX6_image_12 : decode cX6_image 12 = .ok (.dup, 1) := by decide +kernel
theorem dX6_image_13 : decode cX6_image 13 = .ok (.getfield 244, 3) := by decide +kernel
theorem dX6_image_16 : decode cX6_image 16 = .ok (.iconst 1, 1) := by decide +kernel
theorem dX6_image_17 : decode cX6_image 17 = .ok (.iadd, 1) := by decide +kernel
theorem dX6_image_18 : decode cX6_image 18 = .ok (.putfield 244, 3) := by decide +kernel
theorem dX6_image_21 : decode cX6_image 21 = .ok (.aload_n 0, 1) := by decide +kernel
theorem dX6_image_22 : decode cX6_image 22 = .ok (.getfield 244, 3) := by decide +kernel
theorem dX6_image_25 : decode cX6_image 25 = .ok (.ireturn, 1) := by decide +kernel
theorem dX6_restore_0 : decode cX6_restore 0 = .ok (.aload_n 0, 1) := by decide +kernel
theorem dX6_restore_1 : decode cX6_restore 1 = .ok (.getfield 244, 3) := by decide +kernel
theorem dX6_restore_4 : decode cX6_restore 4 = .ok (.ifCond .ne 9, 3) := by decide +kernel
theorem dX6_restore_7 : decode cX6_restore 7 = .ok (.aload_n 0, 1) := by decide +kernel
theorem dX6_restore_8 : decode cX6_restore 8 = .ok (.iconst 2, 1) := by decide +kernel
theorem dX6_restore_9 : decode cX6_restore 9 = .ok (.invokevirtual 72, 3) := by decide +kernel
theorem dX6_restore_12 : decode cX6_restore 12 = .ok (.ireturn, 1) := by decide +kernel
theorem dX6_restore_13 : decode cX6_restore 13 = .ok (.aload_n 0, 1) := by decide +kernel
theorem dX6_restore_14 : decode cX6_restore 14 = .ok (.getfield 12, 3) := by decide +kernel
theorem dX6_restore_17 : decode cX6_restore 17 = .ok (.aload_n 0, 1) := by decide +kernel
theorem dX6_restore_18 : decode cX6_restore 18 = .ok (.getfield 16, 3) := by decide +kernel
theorem dX6_restore_21 : decode cX6_restore 21 = .ok (.invokevirtual 241, 3) := by decide +kernel
theorem dX6_restore_24 : decode cX6_restore 24 = .ok (.aload_n 0, 1) := by decide +kernel
theorem dX6_restore_25 : decode cX6_restore 25 = .ok (.getfield 23, 3) := by decide +kernel
theorem dX6_restore_28 : decode cX6_restore 28 = .ok (.getfield 155, 3) := by decide +kernel
theorem dX6_restore_31 : decode cX6_restore 31 = .ok (.ireturn, 1) := by decide +kernel
theorem dX6_tell_0 : decode cX6_tell 0 = .ok (.aload_n 0, 1) := by decide +kernel
theorem dX6_tell_1 : decode cX6_tell 1 = .ok (.getfield 12, 3) := by decide +kernel
theorem dX6_tell_4 : decode cX6_tell 4 = .ok (.getfield 247, 3) := by decide +kernel
theorem dX6_tell_7 : decode cX6_tell 7 = .ok (.bipush 24, 2) := by decide +kernel
theorem dX6_tell_9 : decode cX6_tell 9 = .ok (.if_icmp .lt 9, 3) := by decide +kernel
theorem dX6_tell_12 : decode cX6_tell 12 = .ok (.aload_n 0, 1) := by decide +kernel
theorem dX6_tell_13 : decode cX6_tell 13 = .ok (.iconst 4, 1) := by decide +kernel
theorem dX6_tell_14 : decode cX6_tell 14 = .ok (.invokevirtual 72, 3) := by decide +kernel
theorem dX6_tell_17 : decode cX6_tell 17 = .ok (.ireturn, 1) := by decide +kernel
theorem dX6_tell_18 : decode cX6_tell 18 = .ok (.aload_n 0, 1) := by decide +kernel
theorem dX6_tell_19 : decode cX6_tell 19 = .ok (.getfield 12, 3) := by decide +kernel
theorem dX6_tell_22 : decode cX6_tell 22 = .ok (.getfield 250, 3) := by decide +kernel
theorem dX6_tell_25 : decode cX6_tell 25 = .ok (.aload_n 0, 1) := by decide +kernel
theorem dX6_tell_26 : decode cX6_tell 26 = .ok (.getfield 12, 3) := by decide +kernel
theorem dX6_tell_29 : decode cX6_tell 29 = .ok (.getfield 247, 3) := by decide +kernel
theorem dX6_tell_32 : decode cX6_tell 32 = .ok (.iload_n 1, 1) := by decide +kernel
theorem dX6_tell_33 : decode cX6_tell 33 = .ok (.iastore, 1) := by decide +kernel
theorem dX6_tell_34 : decode cX6_tell 34 = .ok (.aload_n 0, 1) := by decide +kernel
theorem dX6_tell_35 : decode cX6_tell 35 = .ok (.getfield 12, 3) := by decide +kernel
theorem dX6_tell_38 : decode cX6_tell 38 = .ok (.dup, 1) := by decide +kernel
theorem dX6_tell_39 : decode cX6_tell 39 = .ok (.getfield 247, 3) := by decide +kernel
theorem dX6_tell_42 : decode cX6_tell 42 = .ok (.iconst 1, 1) := by decide +kernel
theorem dX6_tell_43 : decode cX6_tell 43 = .ok (.iadd, 1) := by decide +kernel
theorem dX6_tell_44 : decode cX6_tell 44 = .ok (.putfield 247, 3) := by decide +kernel
theorem dX6_tell_47 : decode cX6_tell 47 = .ok (.aload_n 0, 1) := by decide +kernel
theorem dX6_tell_48 : decode cX6_tell 48 = .ok (.getfield 12, 3) := by decide +kernel
theorem dX6_tell_51 : decode cX6_tell 51 = .ok (.getfield 247, 3) := by decide +kernel
theorem dX6_tell_54 : decode cX6_tell 54 = .ok (.ireturn, 1) := by decide +kernel
theorem dX6_check_0 : decode cX6_check 0 = .ok (.aload_n 0, 1) := by decide +kernel
theorem dX6_check_1 : decode cX6_check 1 = .ok (.getfield 12, 3) := by decide +kernel
theorem dX6_check_4 : decode cX6_check 4 = .ok (.getfield 247, 3) := by decide +kernel
theorem dX6_check_7 : decode cX6_check 7 = .ok (.istore_n 1, 1) := by decide +kernel
theorem dX6_check_8 : decode cX6_check 8 = .ok (.aload_n 0, 1) := by decide +kernel
theorem dX6_check_9 : decode cX6_check 9 = .ok (.getfield 12, 3) := by decide +kernel
theorem dX6_check_12 : decode cX6_check 12 = .ok (.iconst 0, 1) := by decide +kernel
theorem dX6_check_13 : decode cX6_check 13 = .ok (.putfield 247, 3) := by decide +kernel
theorem dX6_check_16 : decode cX6_check 16 = .ok (.iconst 0, 1) := by decide +kernel
theorem dX6_check_17 : decode cX6_check 17 = .ok (.istore_n 2, 1) := by decide +kernel
theorem dX6_check_18 : decode cX6_check 18 = .ok (.iload_n 2, 1) := by decide +kernel
theorem dX6_check_19 : decode cX6_check 19 = .ok (.iload_n 1, 1) := by decide +kernel
theorem dX6_check_20 : decode cX6_check 20 = .ok (.if_icmp .ge 45, 3) := by decide +kernel
theorem dX6_check_23 : decode cX6_check 23 = .ok (.aload_n 0, 1) := by decide +kernel
theorem dX6_check_24 : decode cX6_check 24 = .ok (.getfield 23, 3) := by decide +kernel
theorem dX6_check_27 : decode cX6_check 27 = .ok (.iload_n 2, 1) := by decide +kernel
theorem dX6_check_28 : decode cX6_check 28 = .ok (.invokevirtual 84, 3) := by decide +kernel
theorem dX6_check_31 : decode cX6_check 31 = .ok (.ifCond .eq 24, 3) := by decide +kernel
theorem dX6_check_34 : decode cX6_check 34 = .ok (.aload_n 0, 1) := by decide +kernel
theorem dX6_check_35 : decode cX6_check 35 = .ok (.getfield 12, 3) := by decide +kernel
theorem dX6_check_38 : decode cX6_check 38 = .ok (.getfield 250, 3) := by decide +kernel
theorem dX6_check_41 : decode cX6_check 41 = .ok (.iload_n 2, 1) := by decide +kernel
theorem dX6_check_42 : decode cX6_check 42 = .ok (.iaload, 1) := by decide +kernel
theorem dX6_check_43 : decode cX6_check 43 = .ok (.aload_n 0, 1) := by decide +kernel
theorem dX6_check_44 : decode cX6_check 44 = .ok (.getfield 23, 3) := by decide +kernel
theorem dX6_check_47 : decode cX6_check 47 = .ok (.getfield 96, 3) := by decide +kernel
theorem dX6_check_50 : decode cX6_check 50 = .ok (.iload_n 2, 1) := by decide +kernel
theorem dX6_check_51 : decode cX6_check 51 = .ok (.iaload, 1) := by decide +kernel
theorem dX6_check_52 : decode cX6_check 52 = .ok (.if_icmp .eq 7, 3) := by decide +kernel
theorem dX6_check_55 : decode cX6_check 55 = .ok (.iconst 1, 1) := by decide +kernel
theorem dX6_check_56 : decode cX6_check 56 = .ok (.iload_n 2, 1) := by decide +kernel
theorem dX6_check_57 : decode cX6_check 57 = .ok (.iadd, 1) := by decide +kernel
theorem dX6_check_58 : decode cX6_check 58 = .ok (.ireturn, 1) := by decide +kernel
theorem dX6_check_59 : decode cX6_check 59 = .ok (.iinc 2 1, 3) := by decide +kernel
theorem dX6_check_62 : decode cX6_check 62 = .ok (.goto (-44), 3) := by decide +kernel
theorem dX6_check_65 : decode cX6_check 65 = .ok (.iconst 0, 1) := by decide +kernel
theorem dX6_check_66 : decode cX6_check 66 = .ok (.ireturn, 1) := by decide +kernel
theorem dX6_count_0 : decode cX6_count 0 = .ok (.iload_n 1, 1) := by decide +kernel
theorem dX6_count_1 : decode cX6_count 1 = .ok (.tableswitch 111 0 7 #[47, 55, 63, 71, 79, 87, 95, 103], 47) := by decide +kernel
theorem dX6_count_48 : decode cX6_count 48 = .ok (.aload_n 0, 1) := by decide +kernel
theorem dX6_count_49 : decode cX6_count 49 = .ok (.getfield 23, 3) := by decide +kernel
theorem dX6_count_52 : decode cX6_count 52 = .ok (.getfield 76, 3) := by decide +kernel
theorem dX6_count_55 : decode cX6_count 55 = .ok (.ireturn, 1) := by decide +kernel
theorem dX6_count_56 : decode cX6_count 56 = .ok (.aload_n 0, 1) := by decide +kernel
theorem dX6_count_57 : decode cX6_count 57 = .ok (.getfield 23, 3) := by decide +kernel
theorem dX6_count_60 : decode cX6_count 60 = .ok (.invokevirtual 165, 3) := by decide +kernel
theorem dX6_count_63 : decode cX6_count 63 = .ok (.ireturn, 1) := by decide +kernel
theorem dX6_count_64 : decode cX6_count 64 = .ok (.aload_n 0, 1) := by decide +kernel
theorem dX6_count_65 : decode cX6_count 65 = .ok (.getfield 23, 3) := by decide +kernel
theorem dX6_count_68 : decode cX6_count 68 = .ok (.getfield 155, 3) := by decide +kernel
theorem dX6_count_71 : decode cX6_count 71 = .ok (.ireturn, 1) := by decide +kernel
theorem dX6_count_72 : decode cX6_count 72 = .ok (.aload_n 0, 1) := by decide +kernel
theorem dX6_count_73 : decode cX6_count 73 = .ok (.getfield 23, 3) := by decide +kernel
theorem dX6_count_76 : decode cX6_count 76 = .ok (.getfield 253, 3) := by decide +kernel
theorem dX6_count_79 : decode cX6_count 79 = .ok (.ireturn, 1) := by decide +kernel
theorem dX6_count_80 : decode cX6_count 80 = .ok (.aload_n 0, 1) := by decide +kernel
theorem dX6_count_81 : decode cX6_count 81 = .ok (.getfield 12, 3) := by decide +kernel
theorem dX6_count_84 : decode cX6_count 84 = .ok (.getfield 119, 3) := by decide +kernel
theorem dX6_count_87 : decode cX6_count 87 = .ok (.ireturn, 1) := by decide +kernel
theorem dX6_count_88 : decode cX6_count 88 = .ok (.aload_n 0, 1) := by decide +kernel
theorem dX6_count_89 : decode cX6_count 89 = .ok (.getfield 12, 3) := by decide +kernel
theorem dX6_count_92 : decode cX6_count 92 = .ok (.getfield 247, 3) := by decide +kernel
theorem dX6_count_95 : decode cX6_count 95 = .ok (.ireturn, 1) := by decide +kernel
theorem dX6_count_96 : decode cX6_count 96 = .ok (.aload_n 0, 1) := by decide +kernel
theorem dX6_count_97 : decode cX6_count 97 = .ok (.getfield 49, 3) := by decide +kernel
theorem dX6_count_100 : decode cX6_count 100 = .ok (.getfield 211, 3) := by decide +kernel
theorem dX6_count_103 : decode cX6_count 103 = .ok (.ireturn, 1) := by decide +kernel
theorem dX6_count_104 : decode cX6_count 104 = .ok (.aload_n 0, 1) := by decide +kernel
theorem dX6_count_105 : decode cX6_count 105 = .ok (.getfield 12, 3) := by decide +kernel
theorem dX6_count_108 : decode cX6_count 108 = .ok (.getfield 171, 3) := by decide +kernel
theorem dX6_count_111 : decode cX6_count 111 = .ok (.ireturn, 1) := by decide +kernel
theorem dX6_count_112 : decode cX6_count 112 = .ok (.aload_n 0, 1) := by decide +kernel
theorem dX6_count_113 : decode cX6_count 113 = .ok (.iconst 1, 1) := by decide +kernel
theorem dX6_count_114 : decode cX6_count 114 = .ok (.invokevirtual 72, 3) := by decide +kernel
theorem dX6_count_117 : decode cX6_count 117 = .ok (.ireturn, 1) := by decide +kernel
theorem dX6_told_0 : decode cX6_told 0 = .ok (.iload_n 1, 1) := by decide +kernel
theorem dX6_told_1 : decode cX6_told 1 = .ok (.iconst 1, 1) := by decide +kernel
theorem dX6_told_2 : decode cX6_told 2 = .ok (.bipush 6, 2) := by decide +kernel
theorem dX6_told_4 : decode cX6_told 4 = .ok (.invokestatic 68, 3) := by decide +kernel
theorem dX6_told_7 : decode cX6_told 7 = .ok (.ifCond .eq 12, 3) := by decide +kernel
theorem dX6_told_10 : decode cX6_told 10 = .ok (.aload_n 0, 1) := by decide +kernel
theorem dX6_told_11 : decode cX6_told 11 = .ok (.getfield 59, 3) := by decide +kernel
theorem dX6_told_14 : decode cX6_told 14 = .ok (.iload_n 1, 1) := by decide +kernel
theorem dX6_told_15 : decode cX6_told 15 = .ok (.iaload, 1) := by decide +kernel
theorem dX6_told_16 : decode cX6_told 16 = .ok (.goto 8, 3) := by decide +kernel
theorem dX6_told_19 : decode cX6_told 19 = .ok (.aload_n 0, 1) := by decide +kernel
theorem dX6_told_20 : decode cX6_told 20 = .ok (.iconst 1, 1) := by decide +kernel
theorem dX6_told_21 : decode cX6_told 21 = .ok (.invokevirtual 72, 3) := by decide +kernel
theorem dX6_told_24 : decode cX6_told 24 = .ok (.ireturn, 1) := by decide +kernel
theorem dX6_wrong_0 : decode cX6_wrong 0 = .ok (.aload_n 0, 1) := by decide +kernel
theorem dX6_wrong_1 : decode cX6_wrong 1 = .ok (.getfield 59, 3) := by decide +kernel
theorem dX6_wrong_4 : decode cX6_wrong 4 = .ok (.iload_n 1, 1) := by decide +kernel
theorem dX6_wrong_5 : decode cX6_wrong 5 = .ok (.dup2, 1) := by decide +kernel
theorem dX6_wrong_6 : decode cX6_wrong 6 = .ok (.iaload, 1) := by decide +kernel
theorem dX6_wrong_7 : decode cX6_wrong 7 = .ok (.iconst 1, 1) := by decide +kernel
theorem dX6_wrong_8 : decode cX6_wrong 8 = .ok (.iadd, 1) := by decide +kernel
theorem dX6_wrong_9 : decode cX6_wrong 9 = .ok (.iastore, 1) := by decide +kernel
theorem dX6_wrong_10 : decode cX6_wrong 10 = .ok (.ldc_w 256, 3) := by decide +kernel
theorem dX6_wrong_13 : decode cX6_wrong 13 = .ok (.iload_n 1, 1) := by decide +kernel
theorem dX6_wrong_14 : decode cX6_wrong 14 = .ok (.isub, 1) := by decide +kernel
theorem dX6_wrong_15 : decode cX6_wrong 15 = .ok (.ireturn, 1) := by decide +kernel
theorem dX6_within_0 : decode cX6_within 0 = .ok (.iload_n 0, 1) := by decide +kernel
theorem dX6_within_1 : decode cX6_within 1 = .ok (.iload_n 1, 1) := by decide +kernel
theorem dX6_within_2 : decode cX6_within 2 = .ok (.if_icmp .lt 12, 3) := by decide +kernel
theorem dX6_within_5 : decode cX6_within 5 = .ok (.iload_n 0, 1) := by decide +kernel
theorem dX6_within_6 : decode cX6_within 6 = .ok (.iload_n 2, 1) := by decide +kernel
theorem dX6_within_7 : decode cX6_within 7 = .ok (.if_icmp .gt 7, 3) := by decide +kernel
theorem dX6_within_10 : decode cX6_within 10 = .ok (.iconst 1, 1) := by decide +kernel
theorem dX6_within_11 : decode cX6_within 11 = .ok (.goto 4, 3) := by decide +kernel
theorem dX6_within_14 : decode cX6_within 14 = .ok (.iconst 0, 1) := by decide +kernel
theorem dX6_within_15 : decode cX6_within 15 = .ok (.ireturn, 1) := by decide +kernel
theorem dX6_isKm_0 : decode cX6_isKm 0 = .ok (.iload_n 0, 1) := by decide +kernel
theorem dX6_isKm_1 : decode cX6_isKm 1 = .ok (.iconst 0, 1) := by decide +kernel
theorem dX6_isKm_2 : decode cX6_isKm 2 = .ok (.bipush 69, 2) := by decide +kernel
theorem dX6_isKm_4 : decode cX6_isKm 4 = .ok (.invokestatic 68, 3) := by decide +kernel
theorem dX6_isKm_7 : decode cX6_isKm 7 = .ok (.ireturn, 1) := by decide +kernel
theorem dX6_isHunger_0 : decode cX6_isHunger 0 = .ok (.iload_n 0, 1) := by decide +kernel
theorem dX6_isHunger_1 : decode cX6_isHunger 1 = .ok (.iconst 0, 1) := by decide +kernel
theorem dX6_isHunger_2 : decode cX6_isHunger 2 = .ok (.bipush 99, 2) := by decide +kernel
theorem dX6_isHunger_4 : decode cX6_isHunger 4 = .ok (.invokestatic 68, 3) := by decide +kernel
theorem dX6_isHunger_7 : decode cX6_isHunger 7 = .ok (.ireturn, 1) := by decide +kernel
theorem dX6_isUse_0 : decode cX6_isUse 0 = .ok (.iload_n 0, 1) := by decide +kernel
theorem dX6_isUse_1 : decode cX6_isUse 1 = .ok (.iconst 0, 1) := by decide +kernel
theorem dX6_isUse_2 : decode cX6_isUse 2 = .ok (.iconst 1, 1) := by decide +kernel
theorem dX6_isUse_3 : decode cX6_isUse 3 = .ok (.invokestatic 68, 3) := by decide +kernel
theorem dX6_isUse_6 : decode cX6_isUse 6 = .ok (.ireturn, 1) := by decide +kernel
theorem dX6_isSheet_0 : decode cX6_isSheet 0 = .ok (.iload_n 0, 1) := by decide +kernel
theorem dX6_isSheet_1 : decode cX6_isSheet 1 = .ok (.iconst 0, 1) := by decide +kernel
theorem dX6_isSheet_2 : decode cX6_isSheet 2 = .ok (.iconst 3, 1) := by decide +kernel
theorem dX6_isSheet_3 : decode cX6_isSheet 3 = .ok (.invokestatic 68, 3) := by decide +kernel
theorem dX6_isSheet_6 : decode cX6_isSheet 6 = .ok (.ireturn, 1) := by decide +kernel
theorem dX6_lawOf_0 : decode cX6_lawOf 0 = .ok (.iload_n 1, 1) := by decide +kernel
theorem dX6_lawOf_1 : decode cX6_lawOf 1 = .ok (.ifCond .ne 13, 3) := by decide +kernel
theorem dX6_lawOf_4 : decode cX6_lawOf 4 = .ok (.aload_n 0, 1) := by decide +kernel
theorem dX6_lawOf_5 : decode cX6_lawOf 5 = .ok (.getfield 12, 3) := by decide +kernel
theorem dX6_lawOf_8 : decode cX6_lawOf 8 = .ok (.getfield 26, 3) := by decide +kernel
theorem dX6_lawOf_11 : decode cX6_lawOf 11 = .ok (.goto 10, 3) := by decide +kernel
theorem dX6_lawOf_14 : decode cX6_lawOf 14 = .ok (.aload_n 0, 1) := by decide +kernel
theorem dX6_lawOf_15 : decode cX6_lawOf 15 = .ok (.getfield 12, 3) := by decide +kernel
theorem dX6_lawOf_18 : decode cX6_lawOf 18 = .ok (.getfield 30, 3) := by decide +kernel
theorem dX6_lawOf_21 : decode cX6_lawOf 21 = .ok (.areturn, 1) := by decide +kernel
theorem dX6_rulesWithout_0 : decode cX6_rulesWithout 0 = .ok (.aload_n 0, 1) := by decide +kernel
theorem dX6_rulesWithout_1 : decode cX6_rulesWithout 1 = .ok (.getfield 36, 3) := by decide +kernel
theorem dX6_rulesWithout_4 : decode cX6_rulesWithout 4 = .ok (.aload_n 0, 1) := by decide +kernel
theorem dX6_rulesWithout_5 : decode cX6_rulesWithout 5 = .ok (.getfield 23, 3) := by decide +kernel
theorem dX6_rulesWithout_8 : decode cX6_rulesWithout 8 = .ok (.invokevirtual 174, 3) := by decide +kernel
theorem dX6_rulesWithout_11 : decode cX6_rulesWithout 11 = .ok (.iconst 0, 1) := by decide +kernel
theorem dX6_rulesWithout_12 : decode cX6_rulesWithout 12 = .ok (.istore 5, 2) := by decide +kernel
theorem dX6_rulesWithout_14 : decode cX6_rulesWithout 14 = .ok (.iload 5, 2) := by decide +kernel
theorem dX6_rulesWithout_16 : decode cX6_rulesWithout 16 = .ok (.aload_n 0, 1) := by decide +kernel
theorem dX6_rulesWithout_17 : decode cX6_rulesWithout 17 = .ok (.getfield 36, 3) := by decide +kernel
theorem dX6_rulesWithout_20 : decode cX6_rulesWithout 20 = .ok (.getfield 76, 3) := by decide +kernel
theorem dX6_rulesWithout_23 : decode cX6_rulesWithout 23 = .ok (.if_icmp .ge 30, 3) := by decide +kernel
theorem dX6_rulesWithout_26 : decode cX6_rulesWithout 26 = .ok (.iload_n 1, 1) := by decide +kernel
theorem dX6_rulesWithout_27 : decode cX6_rulesWithout 27 = .ok (.iload 5, 2) := by decide +kernel
theorem dX6_rulesWithout_29 : decode cX6_rulesWithout 29 = .ok (.ishr, 1) := by decide +kernel
theorem dX6_rulesWithout_30 : decode cX6_rulesWithout 30 = .ok (.iconst 1, 1) := by decide +kernel
theorem dX6_rulesWithout_31 : decode cX6_rulesWithout 31 = .ok (.iand, 1) := by decide +kernel
theorem dX6_rulesWithout_32 : decode cX6_rulesWithout 32 = .ok (.iconst 1, 1) := by decide +kernel
theorem dX6_rulesWithout_33 : decode cX6_rulesWithout 33 = .ok (.if_icmp .ne 14, 3) := by decide +kernel
theorem dX6_rulesWithout_36 : decode cX6_rulesWithout 36 = .ok (.aload_n 0, 1) := by decide +kernel
theorem dX6_rulesWithout_37 : decode cX6_rulesWithout 37 = .ok (.getfield 36, 3) := by decide +kernel
theorem dX6_rulesWithout_40 : decode cX6_rulesWithout 40 = .ok (.getfield 93, 3) := by decide +kernel
theorem dX6_rulesWithout_43 : decode cX6_rulesWithout 43 = .ok (.iload 5, 2) := by decide +kernel
theorem dX6_rulesWithout_45 : decode cX6_rulesWithout 45 = .ok (.iconst 0, 1) := by decide +kernel
theorem dX6_rulesWithout_46 : decode cX6_rulesWithout 46 = .ok (.iastore, 1) := by decide +kernel
theorem dX6_rulesWithout_47 : decode cX6_rulesWithout 47 = .ok (.iinc 5 1, 3) := by decide +kernel
theorem dX6_rulesWithout_50 : decode cX6_rulesWithout 50 = .ok (.goto (-36), 3) := by decide +kernel
theorem dX6_rulesWithout_53 : decode cX6_rulesWithout 53 = .ok (.iconst 0, 1) := by decide +kernel
theorem dX6_rulesWithout_54 : decode cX6_rulesWithout 54 = .ok (.istore 5, 2) := by decide +kernel
theorem dX6_rulesWithout_56 : decode cX6_rulesWithout 56 = .ok (.iload 5, 2) := by decide +kernel
theorem dX6_rulesWithout_58 : decode cX6_rulesWithout 58 = .ok (.iload_n 3, 1) := by decide +kernel
theorem dX6_rulesWithout_59 : decode cX6_rulesWithout 59 = .ok (.if_icmp .ge 33, 3) := by decide +kernel
theorem dX6_rulesWithout_62 : decode cX6_rulesWithout 62 = .ok (.aload_n 0, 1) := by decide +kernel
theorem dX6_rulesWithout_63 : decode cX6_rulesWithout 63 = .ok (.getfield 36, 3) := by decide +kernel
theorem dX6_rulesWithout_66 : decode cX6_rulesWithout 66 = .ok (.getfield 93, 3) := by decide +kernel
theorem dX6_rulesWithout_69 : decode cX6_rulesWithout 69 = .ok (.iload_n 2, 1) := by decide +kernel
theorem dX6_rulesWithout_70 : decode cX6_rulesWithout 70 = .ok (.iaload, 1) := by decide +kernel
theorem dX6_rulesWithout_71 : decode cX6_rulesWithout 71 = .ok (.ifCond .ne 5, 3) := by decide +kernel
theorem dX6_rulesWithout_74 : decode cX6_rulesWithout 74 = .ok (.iconst 0, 1) := by decide +kernel
theorem dX6_rulesWithout_75 : decode cX6_rulesWithout 75 = .ok (.ireturn, 1) := by decide +kernel
theorem dX6_rulesWithout_76 : decode cX6_rulesWithout 76 = .ok (.aload_n 0, 1) := by decide +kernel
theorem dX6_rulesWithout_77 : decode cX6_rulesWithout 77 = .ok (.getfield 36, 3) := by decide +kernel
theorem dX6_rulesWithout_80 : decode cX6_rulesWithout 80 = .ok (.iload 4, 2) := by decide +kernel
theorem dX6_rulesWithout_82 : decode cX6_rulesWithout 82 = .ok (.invokevirtual 158, 3) := by decide +kernel
theorem dX6_rulesWithout_85 : decode cX6_rulesWithout 85 = .ok (.pop, 1) := by decide +kernel
theorem dX6_rulesWithout_86 : decode cX6_rulesWithout 86 = .ok (.iinc 5 1, 3) := by decide +kernel
theorem dX6_rulesWithout_89 : decode cX6_rulesWithout 89 = .ok (.goto (-33), 3) := by decide +kernel
theorem dX6_rulesWithout_92 : decode cX6_rulesWithout 92 = .ok (.aload_n 0, 1) := by decide +kernel
theorem dX6_rulesWithout_93 : decode cX6_rulesWithout 93 = .ok (.getfield 36, 3) := by decide +kernel
theorem dX6_rulesWithout_96 : decode cX6_rulesWithout 96 = .ok (.invokevirtual 108, 3) := by decide +kernel
theorem dX6_rulesWithout_99 : decode cX6_rulesWithout 99 = .ok (.iload_n 2, 1) := by decide +kernel
theorem dX6_rulesWithout_100 : decode cX6_rulesWithout 100 = .ok (.if_icmp .ne 7, 3) := by decide +kernel
theorem dX6_rulesWithout_103 : decode cX6_rulesWithout 103 = .ok (.iconst 1, 1) := by decide +kernel
theorem dX6_rulesWithout_104 : decode cX6_rulesWithout 104 = .ok (.goto 4, 3) := by decide +kernel
theorem dX6_rulesWithout_107 : decode cX6_rulesWithout 107 = .ok (.iconst 0, 1) := by decide +kernel
theorem dX6_rulesWithout_108 : decode cX6_rulesWithout 108 = .ok (.ireturn, 1) := by decide +kernel
theorem dX6_tellsSizes_0 : decode cX6_tellsSizes 0 = .ok (.iconst 0, 1) := by decide +kernel
theorem dX6_tellsSizes_1 : decode cX6_tellsSizes 1 = .ok (.istore_n 2, 1) := by decide +kernel
theorem dX6_tellsSizes_2 : decode cX6_tellsSizes 2 = .ok (.iload_n 2, 1) := by decide +kernel
theorem dX6_tellsSizes_3 : decode cX6_tellsSizes 3 = .ok (.aload_n 1, 1) := by decide +kernel
theorem dX6_tellsSizes_4 : decode cX6_tellsSizes 4 = .ok (.getfield 220, 3) := by decide +kernel
theorem dX6_tellsSizes_7 : decode cX6_tellsSizes 7 = .ok (.if_icmp .ge 40, 3) := by decide +kernel
theorem dX6_tellsSizes_10 : decode cX6_tellsSizes 10 = .ok (.aload_n 0, 1) := by decide +kernel
theorem dX6_tellsSizes_11 : decode cX6_tellsSizes 11 = .ok (.getfield 36, 3) := by decide +kernel
theorem dX6_tellsSizes_14 : decode cX6_tellsSizes 14 = .ok (.iload_n 2, 1) := by decide +kernel
theorem dX6_tellsSizes_15 : decode cX6_tellsSizes 15 = .ok (.invokevirtual 84, 3) := by decide +kernel
theorem dX6_tellsSizes_18 : decode cX6_tellsSizes 18 = .ok (.ifCond .eq 21, 3) := by decide +kernel
theorem dX6_tellsSizes_21 : decode cX6_tellsSizes 21 = .ok (.aload_n 1, 1) := by decide +kernel
theorem dX6_tellsSizes_22 : decode cX6_tellsSizes 22 = .ok (.getfield 232, 3) := by decide +kernel
theorem dX6_tellsSizes_25 : decode cX6_tellsSizes 25 = .ok (.iload_n 2, 1) := by decide +kernel
theorem dX6_tellsSizes_26 : decode cX6_tellsSizes 26 = .ok (.iaload, 1) := by decide +kernel
theorem dX6_tellsSizes_27 : decode cX6_tellsSizes 27 = .ok (.aload_n 0, 1) := by decide +kernel
theorem dX6_tellsSizes_28 : decode cX6_tellsSizes 28 = .ok (.getfield 36, 3) := by decide +kernel
theorem dX6_tellsSizes_31 : decode cX6_tellsSizes 31 = .ok (.getfield 93, 3) := by decide +kernel
theorem dX6_tellsSizes_34 : decode cX6_tellsSizes 34 = .ok (.iload_n 2, 1) := by decide +kernel
theorem dX6_tellsSizes_35 : decode cX6_tellsSizes 35 = .ok (.iaload, 1) := by decide +kernel
theorem dX6_tellsSizes_36 : decode cX6_tellsSizes 36 = .ok (.if_icmp .eq 5, 3) := by decide +kernel
theorem dX6_tellsSizes_39 : decode cX6_tellsSizes 39 = .ok (.iconst 0, 1) := by decide +kernel
theorem dX6_tellsSizes_40 : decode cX6_tellsSizes 40 = .ok (.ireturn, 1) := by decide +kernel
theorem dX6_tellsSizes_41 : decode cX6_tellsSizes 41 = .ok (.iinc 2 1, 3) := by decide +kernel
theorem dX6_tellsSizes_44 : decode cX6_tellsSizes 44 = .ok (.goto (-42), 3) := by decide +kernel
theorem dX6_tellsSizes_47 : decode cX6_tellsSizes 47 = .ok (.iconst 1, 1) := by decide +kernel
theorem dX6_tellsSizes_48 : decode cX6_tellsSizes 48 = .ok (.ireturn, 1) := by decide +kernel
theorem dX6_commonDivisor_0 : decode cX6_commonDivisor 0 = .ok (.iconst 0, 1) := by decide +kernel
theorem dX6_commonDivisor_1 : decode cX6_commonDivisor 1 = .ok (.istore_n 2, 1) := by decide +kernel
theorem dX6_commonDivisor_2 : decode cX6_commonDivisor 2 = .ok (.iload_n 2, 1) := by decide +kernel
theorem dX6_commonDivisor_3 : decode cX6_commonDivisor 3 = .ok (.bipush 100, 2) := by decide +kernel
theorem dX6_commonDivisor_5 : decode cX6_commonDivisor 5 = .ok (.if_icmp .ge 21, 3) := by decide +kernel
theorem dX6_commonDivisor_8 : decode cX6_commonDivisor 8 = .ok (.iload_n 1, 1) := by decide +kernel
theorem dX6_commonDivisor_9 : decode cX6_commonDivisor 9 = .ok (.ifCond .eq 17, 3) := by decide +kernel
theorem dX6_commonDivisor_12 : decode cX6_commonDivisor 12 = .ok (.iload_n 0, 1) := by decide +kernel
theorem dX6_commonDivisor_13 : decode cX6_commonDivisor 13 = .ok (.iload_n 1, 1) := by decide +kernel
theorem dX6_commonDivisor_14 : decode cX6_commonDivisor 14 = .ok (.irem, 1) := by decide +kernel
theorem dX6_commonDivisor_15 : decode cX6_commonDivisor 15 = .ok (.istore_n 3, 1) := by decide +kernel
theorem dX6_commonDivisor_16 : decode cX6_commonDivisor 16 = .ok (.iload_n 1, 1) := by decide +kernel
theorem dX6_commonDivisor_17 : decode cX6_commonDivisor 17 = .ok (.istore_n 0, 1) := by decide +kernel
theorem dX6_commonDivisor_18 : decode cX6_commonDivisor 18 = .ok (.iload_n 3, 1) := by decide +kernel
theorem dX6_commonDivisor_19 : decode cX6_commonDivisor 19 = .ok (.istore_n 1, 1) := by decide +kernel
theorem dX6_commonDivisor_20 : decode cX6_commonDivisor 20 = .ok (.iinc 2 1, 3) := by decide +kernel
theorem dX6_commonDivisor_23 : decode cX6_commonDivisor 23 = .ok (.goto (-21), 3) := by decide +kernel
theorem dX6_commonDivisor_26 : decode cX6_commonDivisor 26 = .ok (.iload_n 0, 1) := by decide +kernel
theorem dX6_commonDivisor_27 : decode cX6_commonDivisor 27 = .ok (.ifCond .ne 7, 3) := by decide +kernel
theorem dX6_commonDivisor_30 : decode cX6_commonDivisor 30 = .ok (.iconst 1, 1) := by decide +kernel
theorem dX6_commonDivisor_31 : decode cX6_commonDivisor 31 = .ok (.goto 4, 3) := by decide +kernel
theorem dX6_commonDivisor_34 : decode cX6_commonDivisor 34 = .ok (.iload_n 0, 1) := by decide +kernel
theorem dX6_commonDivisor_35 : decode cX6_commonDivisor 35 = .ok (.ireturn, 1) := by decide +kernel
theorem dJ6_bitCount_0f7a4_0 : decode cJ6_bitCount_0f7a4 0 = .ok (.iload_n 0, 1) := by decide +kernel
theorem dJ6_bitCount_0f7a4_1 : decode cJ6_bitCount_0f7a4 1 = .ok (.iload_n 0, 1) := by decide +kernel
theorem dJ6_bitCount_0f7a4_2 : decode cJ6_bitCount_0f7a4 2 = .ok (.iconst 1, 1) := by decide +kernel
theorem dJ6_bitCount_0f7a4_3 : decode cJ6_bitCount_0f7a4 3 = .ok (.iushr, 1) := by decide +kernel
theorem dJ6_bitCount_0f7a4_4 : decode cJ6_bitCount_0f7a4 4 = .ok (.ldc_w 265, 3) := by decide +kernel
theorem dJ6_bitCount_0f7a4_7 : decode cJ6_bitCount_0f7a4 7 = .ok (.iand, 1) := by decide +kernel
theorem dJ6_bitCount_0f7a4_8 : decode cJ6_bitCount_0f7a4 8 = .ok (.isub, 1) := by decide +kernel
theorem dJ6_bitCount_0f7a4_9 : decode cJ6_bitCount_0f7a4 9 = .ok (.istore_n 0, 1) := by decide +kernel
theorem dJ6_bitCount_0f7a4_10 : decode cJ6_bitCount_0f7a4 10 = .ok (.iload_n 0, 1) := by decide +kernel
theorem dJ6_bitCount_0f7a4_11 : decode cJ6_bitCount_0f7a4 11 = .ok (.ldc_w 266, 3) := by decide +kernel
theorem dJ6_bitCount_0f7a4_14 : decode cJ6_bitCount_0f7a4 14 = .ok (.iand, 1) := by decide +kernel
theorem dJ6_bitCount_0f7a4_15 : decode cJ6_bitCount_0f7a4 15 = .ok (.iload_n 0, 1) := by decide +kernel
theorem dJ6_bitCount_0f7a4_16 : decode cJ6_bitCount_0f7a4 16 = .ok (.iconst 2, 1) := by decide +kernel
theorem dJ6_bitCount_0f7a4_17 : decode cJ6_bitCount_0f7a4 17 = .ok (.iushr, 1) := by decide +kernel
theorem dJ6_bitCount_0f7a4_18 : decode cJ6_bitCount_0f7a4 18 = .ok (.ldc_w 266, 3) := by decide +kernel
theorem dJ6_bitCount_0f7a4_21 : decode cJ6_bitCount_0f7a4 21 = .ok (.iand, 1) := by decide +kernel
theorem dJ6_bitCount_0f7a4_22 : decode cJ6_bitCount_0f7a4 22 = .ok (.iadd, 1) := by decide +kernel
theorem dJ6_bitCount_0f7a4_23 : decode cJ6_bitCount_0f7a4 23 = .ok (.istore_n 0, 1) := by decide +kernel
theorem dJ6_bitCount_0f7a4_24 : decode cJ6_bitCount_0f7a4 24 = .ok (.iload_n 0, 1) := by decide +kernel
theorem dJ6_bitCount_0f7a4_25 : decode cJ6_bitCount_0f7a4 25 = .ok (.iload_n 0, 1) := by decide +kernel
theorem dJ6_bitCount_0f7a4_26 : decode cJ6_bitCount_0f7a4 26 = .ok (.iconst 4, 1) := by decide +kernel
theorem dJ6_bitCount_0f7a4_27 : decode cJ6_bitCount_0f7a4 27 = .ok (.iushr, 1) := by decide +kernel
theorem dJ6_bitCount_0f7a4_28 : decode cJ6_bitCount_0f7a4 28 = .ok (.iadd, 1) := by decide +kernel
theorem dJ6_bitCount_0f7a4_29 : decode cJ6_bitCount_0f7a4 29 = .ok (.ldc_w 267, 3) := by decide +kernel
theorem dJ6_bitCount_0f7a4_32 : decode cJ6_bitCount_0f7a4 32 = .ok (.iand, 1) := by decide +kernel
theorem dJ6_bitCount_0f7a4_33 : decode cJ6_bitCount_0f7a4 33 = .ok (.istore_n 0, 1) := by decide +kernel
theorem dJ6_bitCount_0f7a4_34 : decode cJ6_bitCount_0f7a4 34 = .ok (.iload_n 0, 1) := by decide +kernel
theorem dJ6_bitCount_0f7a4_35 : decode cJ6_bitCount_0f7a4 35 = .ok (.iload_n 0, 1) := by decide +kernel
theorem dJ6_bitCount_0f7a4_36 : decode cJ6_bitCount_0f7a4 36 = .ok (.bipush 8, 2) := by decide +kernel
theorem dJ6_bitCount_0f7a4_38 : decode cJ6_bitCount_0f7a4 38 = .ok (.iushr, 1) := by decide +kernel
theorem dJ6_bitCount_0f7a4_39 : decode cJ6_bitCount_0f7a4 39 = .ok (.iadd, 1) := by decide +kernel
theorem dJ6_bitCount_0f7a4_40 : decode cJ6_bitCount_0f7a4 40 = .ok (.istore_n 0, 1) := by decide +kernel
theorem dJ6_bitCount_0f7a4_41 : decode cJ6_bitCount_0f7a4 41 = .ok (.iload_n 0, 1) := by decide +kernel
theorem dJ6_bitCount_0f7a4_42 : decode cJ6_bitCount_0f7a4 42 = .ok (.iload_n 0, 1) := by decide +kernel
theorem dJ6_bitCount_0f7a4_43 : decode cJ6_bitCount_0f7a4 43 = .ok (.bipush 16, 2) := by decide +kernel
theorem dJ6_bitCount_0f7a4_45 : decode cJ6_bitCount_0f7a4 45 = .ok (.iushr, 1) := by decide +kernel
theorem dJ6_bitCount_0f7a4_46 : decode cJ6_bitCount_0f7a4 46 = .ok (.iadd, 1) := by decide +kernel
theorem dJ6_bitCount_0f7a4_47 : decode cJ6_bitCount_0f7a4 47 = .ok (.istore_n 0, 1) := by decide +kernel
theorem dJ6_bitCount_0f7a4_48 : decode cJ6_bitCount_0f7a4 48 = .ok (.iload_n 0, 1) := by decide +kernel
theorem dJ6_bitCount_0f7a4_49 : decode cJ6_bitCount_0f7a4 49 = .ok (.bipush 63, 2) := by decide +kernel
theorem dJ6_bitCount_0f7a4_51 : decode cJ6_bitCount_0f7a4 51 = .ok (.iand, 1) := by decide +kernel
theorem dJ6_bitCount_0f7a4_52 : decode cJ6_bitCount_0f7a4 52 = .ok (.ireturn, 1) := by decide +kernel
theorem dJ9_abs_067f4_0 : decode cJ9_abs_067f4 0 = .ok (.lload_n 0, 1) := by decide +kernel
theorem dJ9_abs_067f4_1 : decode cJ9_abs_067f4 1 = .ok (.lconst 0, 1) := by decide +kernel
theorem dJ9_abs_067f4_2 : decode cJ9_abs_067f4 2 = .ok (.lcmp, 1) := by decide +kernel
theorem dJ9_abs_067f4_3 : decode cJ9_abs_067f4 3 = .ok (.ifCond .ge 8, 3) := by decide +kernel
theorem dJ9_abs_067f4_6 : decode cJ9_abs_067f4 6 = .ok (.lload_n 0, 1) := by decide +kernel
theorem dJ9_abs_067f4_7 : decode cJ9_abs_067f4 7 = .ok (.lneg, 1) := by decide +kernel
theorem dJ9_abs_067f4_8 : decode cJ9_abs_067f4 8 = .ok (.goto 4, 3) := by decide +kernel
theorem dJ9_abs_067f4_11 : decode cJ9_abs_067f4 11 = .ok (.lload_n 0, 1) := by decide +kernel
theorem dJ9_abs_067f4_12 : decode cJ9_abs_067f4 12 = .ok (.lreturn, 1) := by decide +kernel
theorem dJ9_max_7cf53_0 : decode cJ9_max_7cf53 0 = .ok (.iload_n 0, 1) := by decide +kernel
theorem dJ9_max_7cf53_1 : decode cJ9_max_7cf53 1 = .ok (.iload_n 1, 1) := by decide +kernel
theorem dJ9_max_7cf53_2 : decode cJ9_max_7cf53 2 = .ok (.if_icmp .lt 7, 3) := by decide +kernel
theorem dJ9_max_7cf53_5 : decode cJ9_max_7cf53 5 = .ok (.iload_n 0, 1) := by decide +kernel
theorem dJ9_max_7cf53_6 : decode cJ9_max_7cf53 6 = .ok (.goto 4, 3) := by decide +kernel
theorem dJ9_max_7cf53_9 : decode cJ9_max_7cf53 9 = .ok (.iload_n 1, 1) := by decide +kernel
theorem dJ9_max_7cf53_10 : decode cJ9_max_7cf53 10 = .ok (.ireturn, 1) := by decide +kernel
theorem dJ9_min_7cf53_0 : decode cJ9_min_7cf53 0 = .ok (.iload_n 0, 1) := by decide +kernel
theorem dJ9_min_7cf53_1 : decode cJ9_min_7cf53 1 = .ok (.iload_n 1, 1) := by decide +kernel
theorem dJ9_min_7cf53_2 : decode cJ9_min_7cf53 2 = .ok (.if_icmp .gt 7, 3) := by decide +kernel
theorem dJ9_min_7cf53_5 : decode cJ9_min_7cf53 5 = .ok (.iload_n 0, 1) := by decide +kernel
theorem dJ9_min_7cf53_6 : decode cJ9_min_7cf53 6 = .ok (.goto 4, 3) := by decide +kernel
theorem dJ9_min_7cf53_9 : decode cJ9_min_7cf53 9 = .ok (.iload_n 1, 1) := by decide +kernel
theorem dJ9_min_7cf53_10 : decode cJ9_min_7cf53 10 = .ok (.ireturn, 1) := by decide +kernel
