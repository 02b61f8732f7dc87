theorem dX0_init_0 : decode cX0_init 0 = .ok (.aload_n 0, 1) := by decide +kernel
theorem dX0_init_1 : decode cX0_init 1 = .ok (.invokespecial 3, 3) := by decide +kernel
theorem dX0_init_4 : decode cX0_init 4 = .ok (.aload_n 0, 1) := by decide +kernel
theorem dX0_init_5 : decode cX0_init 5 = .ok (.iconst 4, 1) := by decide +kernel
theorem dX0_init_6 : decode cX0_init 6 = .ok (.putfield 11, 3) := by decide +kernel
theorem dX0_init_9 : decode cX0_init 9 = .ok (.aload_n 0, 1) := by decide +kernel
theorem dX0_init_10 : decode cX0_init 10 = .ok (.iconst 0, 1) := by decide +kernel
theorem dX0_init_11 : decode cX0_init 11 = .ok (.putfield 15, 3) := by decide +kernel
theorem dX0_init_14 : decode cX0_init 14 = .ok (.aload_n 0, 1) := by decide +kernel
theorem dX0_init_15 : decode cX0_init 15 = .ok (.iconst 0, 1) := by decide +kernel
theorem dX0_init_16 : decode cX0_init 16 = .ok (.putfield 18, 3) := by decide +kernel
theorem dX0_init_19 : decode cX0_init 19 = .ok (.return_, 1) := by decide +kernel
theorem dX0_become_0 : decode cX0_become 0 = .ok (.aload_n 0, 1) := by decide +kernel
theorem dX0_become_1 : decode cX0_become 1 = .ok (.iload_n 1, 1) := by decide +kernel
theorem dX0_become_2 : decode cX0_become 2 = .ok (.putfield 11, 3) := by decide +kernel
theorem dX0_become_5 : decode cX0_become 5 = .ok (.aload_n 0, 1) := by decide +kernel
theorem dX0_become_6 : decode cX0_become 6 = .ok (.iload_n 2, 1) := by decide +kernel
theorem dX0_become_7 : decode cX0_become 7 = .ok (.putfield 15, 3) := by decide +kernel
theorem dX0_become_10 : decode cX0_become 10 = .ok (.aload_n 0, 1) := by decide +kernel
theorem dX0_become_11 : decode cX0_become 11 = .ok (.iload_n 3, 1) := by decide +kernel
theorem dX0_become_12 : decode cX0_become 12 = .ok (.putfield 18, 3) := by decide +kernel
theorem dX0_become_15 : decode cX0_become 15 = .ok (.return_, 1) := by decide +kernel
theorem dX0_kindOf_0 : decode cX0_kindOf 0 = .ok (.aload_n 0, 1) := by decide +kernel
theorem dX0_kindOf_1 : decode cX0_kindOf 1 = .ok (.getfield 11, 3) := by decide +kernel
theorem dX0_kindOf_4 : decode cX0_kindOf 4 = .ok (.ireturn, 1) := by decide +kernel
theorem dX0_doer_0 : decode cX0_doer 0 = .ok (.aload_n 0, 1) := by decide +kernel
theorem dX0_doer_1 : decode cX0_doer 1 = .ok (.getfield 15, 3) := by decide +kernel
theorem dX0_doer_4 : decode cX0_doer 4 = .ok (.ireturn, 1) := by decide +kernel
theorem dX0_target_0 : decode cX0_target 0 = .ok (.aload_n 0, 1) := by decide +kernel
theorem dX0_target_1 : decode cX0_target 1 = .ok (.getfield 18, 3) := by decide +kernel
theorem dX0_target_4 : decode cX0_target 4 = .ok (.ireturn, 1) := by decide +kernel
theorem dX0_draw_0 : decode cX0_draw 0 = .ok (.iload_n 1, 1) := by decide +kernel
theorem dX0_draw_1 : decode cX0_draw 1 = .ok (.bipush 6, 2) := by decide +kernel
theorem dX0_draw_3 : decode cX0_draw 3 = .ok (.irem, 1) := by decide +kernel
theorem dX0_draw_4 : decode cX0_draw 4 = .ok (.istore_n 3, 1) := by decide +kernel
theorem dX0_draw_5 : decode cX0_draw 5 = .ok (.iload_n 1, 1) := by decide +kernel
theorem dX0_draw_6 : decode cX0_draw 6 = .ok (.bipush 48, 2) := by decide +kernel
theorem dX0_draw_8 : decode cX0_draw 8 = .ok (.idiv, 1) := by decide +kernel
theorem dX0_draw_9 : decode cX0_draw 9 = .ok (.istore 4, 2) := by decide +kernel
theorem dX0_draw_11 : decode cX0_draw 11 = .ok (.iconst 1, 1) := by decide +kernel
theorem dX0_draw_12 : decode cX0_draw 12 = .ok (.iload 4, 2) := by decide +kernel
theorem dX0_draw_14 : decode cX0_draw 14 = .ok (.bipush 12, 2) := by decide +kernel
theorem dX0_draw_16 : decode cX0_draw 16 = .ok (.irem, 1) := by decide +kernel
theorem dX0_draw_17 : decode cX0_draw 17 = .ok (.iadd, 1) := by decide +kernel
theorem dX0_draw_18 : decode cX0_draw 18 = .ok (.istore 5, 2) := by decide +kernel
theorem dX0_draw_20 : decode cX0_draw 20 = .ok (.iload_n 1, 1) := by decide +kernel
theorem dX0_draw_21 : decode cX0_draw 21 = .ok (.bipush 6, 2) := by decide +kernel
theorem dX0_draw_23 : decode cX0_draw 23 = .ok (.idiv, 1) := by decide +kernel
theorem dX0_draw_24 : decode cX0_draw 24 = .ok (.bipush 8, 2) := by decide +kernel
theorem dX0_draw_26 : decode cX0_draw 26 = .ok (.irem, 1) := by decide +kernel
theorem dX0_draw_27 : decode cX0_draw 27 = .ok (.tableswitch 89 0 5 #[37, 37, 37, 37, 53, 64], 37) := by decide +kernel
theorem dX0_draw_64 : decode cX0_draw 64 = .ok (.aload_n 0, 1) := by decide +kernel
theorem dX0_draw_65 : decode cX0_draw 65 = .ok (.iconst 0, 1) := by decide +kernel
theorem dX0_draw_66 : decode cX0_draw 66 = .ok (.iload_n 3, 1) := by decide +kernel
theorem dX0_draw_67 : decode cX0_draw 67 = .ok (.iload 4, 2) := by decide +kernel
theorem dX0_draw_69 : decode cX0_draw 69 = .ok (.iload_n 3, 1) := by decide +kernel
theorem dX0_draw_70 : decode cX0_draw 70 = .ok (.aload_n 2, 1) := by decide +kernel
theorem dX0_draw_71 : decode cX0_draw 71 = .ok (.invokestatic 21, 3) := by decide +kernel
theorem dX0_draw_74 : decode cX0_draw 74 = .ok (.invokevirtual 25, 3) := by decide +kernel
theorem dX0_draw_77 : decode cX0_draw 77 = .ok (.goto 46, 3) := by decide +kernel
theorem dX0_draw_80 : decode cX0_draw 80 = .ok (.aload_n 0, 1) := by decide +kernel
theorem dX0_draw_81 : decode cX0_draw 81 = .ok (.iconst 1, 1) := by decide +kernel
theorem dX0_draw_82 : decode cX0_draw 82 = .ok (.iload_n 3, 1) := by decide +kernel
theorem dX0_draw_83 : decode cX0_draw 83 = .ok (.iload 5, 2) := by decide +kernel
theorem dX0_draw_85 : decode cX0_draw 85 = .ok (.invokevirtual 25, 3) := by decide +kernel
theorem dX0_draw_88 : decode cX0_draw 88 = .ok (.goto 35, 3) := by decide +kernel
theorem dX0_draw_91 : decode cX0_draw 91 = .ok (.aload_n 0, 1) := by decide +kernel
theorem dX0_draw_92 : decode cX0_draw 92 = .ok (.iload 4, 2) := by decide +kernel
theorem dX0_draw_94 : decode cX0_draw 94 = .ok (.bipush 12, 2) := by decide +kernel
theorem dX0_draw_96 : decode cX0_draw 96 = .ok (.idiv, 1) := by decide +kernel
theorem dX0_draw_97 : decode cX0_draw 97 = .ok (.iconst 2, 1) := by decide +kernel
theorem dX0_draw_98 : decode cX0_draw 98 = .ok (.irem, 1) := by decide +kernel
theorem dX0_draw_99 : decode cX0_draw 99 = .ok (.ifCond .ne 7, 3) := by decide +kernel
theorem dX0_draw_102 : decode cX0_draw 102 = .ok (.iconst 2, 1) := by decide +kernel
theorem dX0_draw_103 : decode cX0_draw 103 = .ok (.goto 4, 3) := by decide +kernel
theorem dX0_draw_106 : decode cX0_draw 106 = .ok (.iconst 3, 1) := by decide +kernel
theorem dX0_draw_107 : decode cX0_draw 107 = .ok (.iload_n 3, 1) := by decide +kernel
theorem dX0_draw_108 : decode cX0_draw 108 = .ok (.iload 5, 2) := by decide +kernel
theorem dX0_draw_110 : decode cX0_draw 110 = .ok (.invokevirtual 25, 3) := by decide +kernel
theorem dX0_draw_113 : decode cX0_draw 113 = .ok (.goto 10, 3) := by decide +kernel
theorem dX0_draw_116 : decode cX0_draw 116 = .ok (.aload_n 0, 1) := by decide +kernel
theorem dX0_draw_117 : decode cX0_draw 117 = .ok (.iconst 4, 1) := by decide +kernel
theorem dX0_draw_118 : decode cX0_draw 118 = .ok (.iload_n 3, 1) := by decide +kernel
theorem dX0_draw_119 : decode cX0_draw 119 = .ok (.iconst 0, 1) := by decide +kernel
theorem dX0_draw_120 : decode cX0_draw 120 = .ok (.invokevirtual 25, 3) := by decide +kernel
theorem dX0_draw_123 : decode cX0_draw 123 = .ok (.return_, 1) := by decide +kernel
theorem dX0_drawnPlace_0 : decode cX0_drawnPlace 0 = .ok (.aload_n 2, 1) := by decide +kernel
theorem dX0_drawnPlace_1 : decode cX0_drawnPlace 1 = .ok (.iload_n 1, 1) := by decide +kernel
theorem dX0_drawnPlace_2 : decode cX0_drawnPlace 2 = .ok (.invokevirtual 29, 3) := by decide +kernel
theorem dX0_drawnPlace_5 : decode cX0_drawnPlace 5 = .ok (.istore_n 3, 1) := by decide +kernel
theorem dX0_drawnPlace_6 : decode cX0_drawnPlace 6 = .ok (.iload_n 3, 1) := by decide +kernel
theorem dX0_drawnPlace_7 : decode cX0_drawnPlace 7 = .ok (.ifCond .le 11, 3) := by decide +kernel
theorem dX0_drawnPlace_10 : decode cX0_drawnPlace 10 = .ok (.iconst 1, 1) := by decide +kernel
theorem dX0_drawnPlace_11 : decode cX0_drawnPlace 11 = .ok (.iload_n 0, 1) := by decide +kernel
theorem dX0_drawnPlace_12 : decode cX0_drawnPlace 12 = .ok (.iload_n 3, 1) := by decide +kernel
theorem dX0_drawnPlace_13 : decode cX0_drawnPlace 13 = .ok (.irem, 1) := by decide +kernel
theorem dX0_drawnPlace_14 : decode cX0_drawnPlace 14 = .ok (.iadd, 1) := by decide +kernel
theorem dX0_drawnPlace_15 : decode cX0_drawnPlace 15 = .ok (.goto 4, 3) := by decide +kernel
theorem dX0_drawnPlace_18 : decode cX0_drawnPlace 18 = .ok (.iconst 1, 1) := by decide +kernel
theorem dX0_drawnPlace_19 : decode cX0_drawnPlace 19 = .ok (.istore 4, 2) := by decide +kernel
theorem dX0_drawnPlace_21 : decode cX0_drawnPlace 21 = .ok (.iload_n 0, 1) := by decide +kernel
theorem dX0_drawnPlace_22 : decode cX0_drawnPlace 22 = .ok (.iconst 4, 1) := by decide +kernel
theorem dX0_drawnPlace_23 : decode cX0_drawnPlace 23 = .ok (.idiv, 1) := by decide +kernel
theorem dX0_drawnPlace_24 : decode cX0_drawnPlace 24 = .ok (.iconst 4, 1) := by decide +kernel
theorem dX0_drawnPlace_25 : decode cX0_drawnPlace 25 = .ok (.irem, 1) := by decide +kernel
theorem dX0_drawnPlace_26 : decode cX0_drawnPlace 26 = .ok (.ifCond .eq 17, 3) := by decide +kernel
theorem dX0_drawnPlace_29 : decode cX0_drawnPlace 29 = .ok (.aload_n 2, 1) := by decide +kernel
theorem dX0_drawnPlace_30 : decode cX0_drawnPlace 30 = .ok (.iload_n 1, 1) := by decide +kernel
theorem dX0_drawnPlace_31 : decode cX0_drawnPlace 31 = .ok (.invokevirtual 35, 3) := by decide +kernel
theorem dX0_drawnPlace_34 : decode cX0_drawnPlace 34 = .ok (.iload 4, 2) := by decide +kernel
theorem dX0_drawnPlace_36 : decode cX0_drawnPlace 36 = .ok (.iadd, 1) := by decide +kernel
theorem dX0_drawnPlace_37 : decode cX0_drawnPlace 37 = .ok (.bipush 13, 2) := by decide +kernel
theorem dX0_drawnPlace_39 : decode cX0_drawnPlace 39 = .ok (.invokestatic 38, 3) := by decide +kernel
theorem dX0_drawnPlace_42 : decode cX0_drawnPlace 42 = .ok (.ireturn, 1) := by decide +kernel
theorem dX0_drawnPlace_43 : decode cX0_drawnPlace 43 = .ok (.aload_n 2, 1) := by decide +kernel
theorem dX0_drawnPlace_44 : decode cX0_drawnPlace 44 = .ok (.iload_n 1, 1) := by decide +kernel
theorem dX0_drawnPlace_45 : decode cX0_drawnPlace 45 = .ok (.invokevirtual 35, 3) := by decide +kernel
theorem dX0_drawnPlace_48 : decode cX0_drawnPlace 48 = .ok (.iload 4, 2) := by decide +kernel
theorem dX0_drawnPlace_50 : decode cX0_drawnPlace 50 = .ok (.isub, 1) := by decide +kernel
theorem dX0_drawnPlace_51 : decode cX0_drawnPlace 51 = .ok (.iconst 0, 1) := by decide +kernel
theorem dX0_drawnPlace_52 : decode cX0_drawnPlace 52 = .ok (.invokestatic 44, 3) := by decide +kernel
theorem dX0_drawnPlace_55 : decode cX0_drawnPlace 55 = .ok (.ireturn, 1) := by decide +kernel
theorem dX1_init_0 : decode cX1_init 0 = .ok (.aload_n 0, 1) := by decide +kernel
theorem dX1_init_1 : decode cX1_init 1 = .ok (.invokespecial 3, 3) := by decide +kernel
theorem dX1_init_4 : decode cX1_init 4 = .ok (.aload_n 0, 1) := by decide +kernel
theorem dX1_init_5 : decode cX1_init 5 = .ok (.bipush 13, 2) := by decide +kernel
theorem dX1_init_7 : decode cX1_init 7 = .ok (.newarray .int, 2) := by decide +kernel
theorem dX1_init_9 : decode cX1_init 9 = .ok (.putfield 9, 3) := by decide +kernel
theorem dX1_init_12 : decode cX1_init 12 = .ok (.aload_n 0, 1) := by decide +kernel
theorem dX1_init_13 : decode cX1_init 13 = .ok (.bipush 13, 2) := by decide +kernel
theorem dX1_init_15 : decode cX1_init 15 = .ok (.newarray .int, 2) := by decide +kernel
theorem dX1_init_17 : decode cX1_init 17 = .ok (.putfield 15, 3) := by decide +kernel
theorem dX1_init_20 : decode cX1_init 20 = .ok (.aload_n 0, 1) := by decide +kernel
theorem dX1_init_21 : decode cX1_init 21 = .ok (.iconst 0, 1) := by decide +kernel
theorem dX1_init_22 : decode cX1_init 22 = .ok (.putfield 18, 3) := by decide +kernel
theorem dX1_init_25 : decode cX1_init 25 = .ok (.aload_n 0, 1) := by decide +kernel
theorem dX1_init_26 : decode cX1_init 26 = .ok (.bipush 6, 2) := by decide +kernel
theorem dX1_init_28 : decode cX1_init 28 = .ok (.newarray .int, 2) := by decide +kernel
theorem dX1_init_30 : decode cX1_init 30 = .ok (.putfield 22, 3) := by decide +kernel
theorem dX1_init_33 : decode cX1_init 33 = .ok (.aload_n 0, 1) := by decide +kernel
theorem dX1_init_34 : decode cX1_init 34 = .ok (.bipush 6, 2) := by decide +kernel
theorem dX1_init_36 : decode cX1_init 36 = .ok (.newarray .int, 2) := by decide +kernel
theorem dX1_init_38 : decode cX1_init 38 = .ok (.putfield 25, 3) := by decide +kernel
theorem dX1_init_41 : decode cX1_init 41 = .ok (.aload_n 0, 1) := by decide +kernel
theorem dX1_init_42 : decode cX1_init 42 = .ok (.bipush 6, 2) := by decide +kernel
theorem dX1_init_44 : decode cX1_init 44 = .ok (.newarray .int, 2) := by decide +kernel
theorem dX1_init_46 : decode cX1_init 46 = .ok (.putfield 28, 3) := by decide +kernel
theorem dX1_init_49 : decode cX1_init 49 = .ok (.aload_n 0, 1) := by decide +kernel
theorem dX1_init_50 : decode cX1_init 50 = .ok (.iconst 0, 1) := by decide +kernel
theorem dX1_init_51 : decode cX1_init 51 = .ok (.putfield 31, 3) := by decide +kernel
theorem dX1_init_54 : decode cX1_init 54 = .ok (.aload_n 0, 1) := by decide +kernel
theorem dX1_init_55 : decode cX1_init 55 = .ok (.iconst 0, 1) := by decide +kernel
theorem dX1_init_56 : decode cX1_init 56 = .ok (.putfield 34, 3) := by decide +kernel
theorem dX1_init_59 : decode cX1_init 59 = .ok (.aload_n 0, 1) := by decide +kernel
theorem dX1_init_60 : decode cX1_init 60 = .ok (.iconst 0, 1) := by decide +kernel
theorem dX1_init_61 : decode cX1_init 61 = .ok (.putfield 37, 3) := by decide +kernel
theorem dX1_init_64 : decode cX1_init 64 = .ok (.aload_n 0, 1) := by decide +kernel
theorem dX1_init_65 : decode cX1_init 65 = .ok (.iconst 0, 1) := by decide +kernel
theorem dX1_init_66 : decode cX1_init 66 = .ok (.putfield 40, 3) := by decide +kernel
theorem dX1_init_69 : decode cX1_init 69 = .ok (.aload_n 0, 1) := by decide +kernel
theorem dX1_init_70 : decode cX1_init 70 = .ok (.iconst 0, 1) := by decide +kernel
theorem dX1_init_71 : decode cX1_init 71 = .ok (.putfield 43, 3) := by decide +kernel
theorem dX1_init_74 : decode cX1_init 74 = .ok (.aload_n 0, 1) := by decide +kernel
theorem dX1_init_75 : decode cX1_init 75 = .ok (.getfield 9, 3) := by decide +kernel
theorem dX1_init_78 : decode cX1_init 78 = .ok (.iconst (-1), 1) := by decide +kernel
theorem dX1_init_79 : decode cX1_init 79 = .ok (.invokestatic 46, 3) := by decide +kernel
theorem dX1_init_82 : decode cX1_init 82 = .ok (.aload_n 0, 1) := by decide +kernel
theorem dX1_init_83 : decode cX1_init 83 = .ok (.getfield 15, 3) := by decide +kernel
theorem dX1_init_86 : decode cX1_init 86 = .ok (.iconst (-1), 1) := by decide +kernel
theorem dX1_init_87 : decode cX1_init 87 = .ok (.invokestatic 46, 3) := by decide +kernel
theorem dX1_init_90 : decode cX1_init 90 = .ok (.aload_n 0, 1) := by decide +kernel
theorem dX1_init_91 : decode cX1_init 91 = .ok (.getfield 22, 3) := by decide +kernel
theorem dX1_init_94 : decode cX1_init 94 = .ok (.iconst 2, 1) := by decide +kernel
theorem dX1_init_95 : decode cX1_init 95 = .ok (.invokestatic 46, 3) := by decide +kernel
theorem dX1_init_98 : decode cX1_init 98 = .ok (.aload_n 0, 1) := by decide +kernel
theorem dX1_init_99 : decode cX1_init 99 = .ok (.getfield 25, 3) := by decide +kernel
theorem dX1_init_102 : decode cX1_init 102 = .ok (.iconst 5, 1) := by decide +kernel
theorem dX1_init_103 : decode cX1_init 103 = .ok (.invokestatic 46, 3) := by decide +kernel
theorem dX1_init_106 : decode cX1_init 106 = .ok (.return_, 1) := by decide +kernel
theorem dX1_copyFrom_0 : decode cX1_copyFrom 0 = .ok (.aload_n 1, 1) := by decide +kernel
theorem dX1_copyFrom_1 : decode cX1_copyFrom 1 = .ok (.getfield 9, 3) := by decide +kernel
theorem dX1_copyFrom_4 : decode cX1_copyFrom 4 = .ok (.iconst 0, 1) := by decide +kernel
theorem dX1_copyFrom_5 : decode cX1_copyFrom 5 = .ok (.aload_n 0, 1) := by decide +kernel
theorem dX1_copyFrom_6 : decode cX1_copyFrom 6 = .ok (.getfield 9, 3) := by decide +kernel
theorem dX1_copyFrom_9 : decode cX1_copyFrom 9 = .ok (.iconst 0, 1) := by decide +kernel
theorem dX1_copyFrom_10 : decode cX1_copyFrom 10 = .ok (.bipush 13, 2) := by decide +kernel
theorem dX1_copyFrom_12 : decode cX1_copyFrom 12 = .ok (.invokestatic 52, 3) := by decide +kernel
theorem dX1_copyFrom_15 : decode cX1_copyFrom 15 = .ok (.aload_n 1, 1) := by decide +kernel
theorem dX1_copyFrom_16 : decode cX1_copyFrom 16 = .ok (.getfield 15, 3) := by decide +kernel
theorem dX1_copyFrom_19 : decode cX1_copyFrom 19 = .ok (.iconst 0, 1) := by decide +kernel
theorem dX1_copyFrom_20 : decode cX1_copyFrom 20 = .ok (.aload_n 0, 1) := by decide +kernel
theorem dX1_copyFrom_21 : decode cX1_copyFrom 21 = .ok (.getfield 15, 3) := by decide +kernel
theorem dX1_copyFrom_24 : decode cX1_copyFrom 24 = .ok (.iconst 0, 1) := by decide +kernel
theorem dX1_copyFrom_25 : decode cX1_copyFrom 25 = .ok (.bipush 13, 2) := by decide +kernel
theorem dX1_copyFrom_27 : decode cX1_copyFrom 27 = .ok (.invokestatic 52, 3) := by decide +kernel
theorem dX1_copyFrom_30 : decode cX1_copyFrom 30 = .ok (.aload_n 1, 1) := by decide +kernel
theorem dX1_copyFrom_31 : decode cX1_copyFrom 31 = .ok (.getfield 22, 3) := by decide +kernel
theorem dX1_copyFrom_34 : decode cX1_copyFrom 34 = .ok (.iconst 0, 1) := by decide +kernel
theorem dX1_copyFrom_35 : decode cX1_copyFrom 35 = .ok (.aload_n 0, 1) := by decide +kernel
theorem dX1_copyFrom_36 : decode cX1_copyFrom 36 = .ok (.getfield 22, 3) := by decide +kernel
theorem dX1_copyFrom_39 : decode cX1_copyFrom 39 = .ok (.iconst 0, 1) := by decide +kernel
theorem dX1_copyFrom_40 : decode cX1_copyFrom 40 = .ok (.bipush 6, 2) := by decide +kernel
theorem dX1_copyFrom_42 : decode cX1_copyFrom 42 = .ok (.invokestatic 52, 3) := by decide +kernel
theorem dX1_copyFrom_45 : decode cX1_copyFrom 45 = .ok (.aload_n 1, 1) := by decide +kernel
theorem dX1_copyFrom_46 : decode cX1_copyFrom 46 = .ok (.getfield 25, 3) := by decide +kernel
theorem dX1_copyFrom_49 : decode cX1_copyFrom 49 = .ok (.iconst 0, 1) := by decide +kernel
theorem dX1_copyFrom_50 : decode cX1_copyFrom 50 = .ok (.aload_n 0, 1) := by decide +kernel
theorem dX1_copyFrom_51 : decode cX1_copyFrom 51 = .ok (.getfield 25, 3) := by decide +kernel
theorem dX1_copyFrom_54 : decode cX1_copyFrom 54 = .ok (.iconst 0, 1) := by decide +kernel
theorem dX1_copyFrom_55 : decode cX1_copyFrom 55 = .ok (.bipush 6, 2) := by decide +kernel
theorem dX1_copyFrom_57 : decode cX1_copyFrom 57 = .ok (.invokestatic 52, 3) := by decide +kernel
theorem dX1_copyFrom_60 : decode cX1_copyFrom 60 = .ok (.aload_n 1, 1) := by decide +kernel
theorem dX1_copyFrom_61 : decode cX1_copyFrom 61 = .ok (.getfield 28, 3) := by decide +kernel
theorem dX1_copyFrom_64 : decode cX1_copyFrom 64 = .ok (.iconst 0, 1) := by decide +kernel
theorem dX1_copyFrom_65 : decode cX1_copyFrom 65 = .ok (.aload_n 0, 1) := by decide +kernel
theorem dX1_copyFrom_66 : decode cX1_copyFrom 66 = .ok (.getfield 28, 3) := by decide +kernel
theorem dX1_copyFrom_69 : decode cX1_copyFrom 69 = .ok (.iconst 0, 1) := by decide +kernel
theorem dX1_copyFrom_70 : decode cX1_copyFrom 70 = .ok (.bipush 6, 2) := by decide +kernel
theorem dX1_copyFrom_72 : decode cX1_copyFrom 72 = .ok (.invokestatic 52, 3) := by decide +kernel
theorem dX1_copyFrom_75 : decode cX1_copyFrom 75 = .ok (.aload_n 0, 1) := by decide +kernel
theorem dX1_copyFrom_76 : decode cX1_copyFrom 76 = .ok (.aload_n 1, 1) := by decide +kernel
theorem dX1_copyFrom_77 : decode cX1_copyFrom 77 = .ok (.getfield 18, 3) := by decide +kernel
theorem dX1_copyFrom_80 : decode cX1_copyFrom 80 = .ok (.putfield 18, 3) := by decide +kernel
theorem dX1_copyFrom_83 : decode cX1_copyFrom 83 = .ok (.aload_n 0, 1) := by decide +kernel
theorem dX1_copyFrom_84 : decode cX1_copyFrom 84 = .ok (.aload_n 1, 1) := by decide +kernel
theorem dX1_copyFrom_85 : decode cX1_copyFrom 85 = .ok (.getfield 31, 3) := by decide +kernel
theorem dX1_copyFrom_88 : decode cX1_copyFrom 88 = .ok (.putfield 31, 3) := by decide +kernel
theorem dX1_copyFrom_91 : decode cX1_copyFrom 91 = .ok (.aload_n 0, 1) := by decide +kernel
theorem dX1_copyFrom_92 : decode cX1_copyFrom 92 = .ok (.aload_n 1, 1) := by decide +kernel
theorem dX1_copyFrom_93 : decode cX1_copyFrom 93 = .ok (.getfield 34, 3) := by decide +kernel
theorem dX1_copyFrom_96 : decode cX1_copyFrom 96 = .ok (.putfield 34, 3) := by decide +kernel
theorem dX1_copyFrom_99 : decode cX1_copyFrom 99 = .ok (.aload_n 0, 1) := by decide +kernel
theorem dX1_copyFrom_100 : decode cX1_copyFrom 100 = .ok (.aload_n 1, 1) := by decide +kernel
theorem dX1_copyFrom_101 : decode cX1_copyFrom 101 = .ok (.getfield 37, 3) := by decide +kernel
theorem dX1_copyFrom_104 : decode cX1_copyFrom 104 = .ok (.putfield 37, 3) := by decide +kernel
theorem dX1_copyFrom_107 : decode cX1_copyFrom 107 = .ok (.aload_n 0, 1) := by decide +kernel
theorem dX1_copyFrom_108 : decode cX1_copyFrom 108 = .ok (.aload_n 1, 1) := by decide +kernel
theorem dX1_copyFrom_109 : decode cX1_copyFrom 109 = .ok (.getfield 40, 3) := by decide +kernel
theorem dX1_copyFrom_112 : decode cX1_copyFrom 112 = .ok (.putfield 40, 3) := by decide +kernel
theorem dX1_copyFrom_115 : decode cX1_copyFrom 115 = .ok (.aload_n 0, 1) := by decide +kernel
theorem dX1_copyFrom_116 : decode cX1_copyFrom 116 = .ok (.aload_n 1, 1) := by decide +kernel
theorem dX1_copyFrom_117 : decode cX1_copyFrom 117 = .ok (.getfield 43, 3) := by decide +kernel
theorem dX1_copyFrom_120 : decode cX1_copyFrom 120 = .ok (.putfield 43, 3) := by decide +kernel
theorem dX1_copyFrom_123 : decode cX1_copyFrom 123 = .ok (.return_, 1) := by decide +kernel
theorem dX1_ownerOf_0 : decode cX1_ownerOf 0 = .ok (.iload_n 1, 1) := by decide +kernel
theorem dX1_ownerOf_1 : decode cX1_ownerOf 1 = .ok (.invokestatic 58, 3) := by decide +kernel
theorem dX1_ownerOf_4 : decode cX1_ownerOf 4 = .ok (.ifCond .eq 12, 3) := by decide +kernel
theorem dX1_ownerOf_7 : decode cX1_ownerOf 7 = .ok (.aload_n 0, 1) := by decide +kernel
theorem dX1_ownerOf_8 : decode cX1_ownerOf 8 = .ok (.getfield 9, 3) := by decide +kernel
theorem dX1_ownerOf_11 : decode cX1_ownerOf 11 = .ok (.iload_n 1, 1) := by decide +kernel
theorem dX1_ownerOf_12 : decode cX1_ownerOf 12 = .ok (.iaload, 1) := by decide +kernel
theorem dX1_ownerOf_13 : decode cX1_ownerOf 13 = .ok (.goto 4, 3) := by decide +kernel
theorem dX1_ownerOf_16 : decode cX1_ownerOf 16 = .ok (.iconst (-1), 1) := by decide +kernel
theorem dX1_ownerOf_17 : decode cX1_ownerOf 17 = .ok (.ireturn, 1) := by decide +kernel
theorem dX1_leaserOf_0 : decode cX1_leaserOf 0 = .ok (.iload_n 1, 1) := by decide +kernel
theorem dX1_leaserOf_1 : decode cX1_leaserOf 1 = .ok (.invokestatic 58, 3) := by decide +kernel
theorem dX1_leaserOf_4 : decode cX1_leaserOf 4 = .ok (.ifCond .eq 12, 3) := by decide +kernel
theorem dX1_leaserOf_7 : decode cX1_leaserOf 7 = .ok (.aload_n 0, 1) := by decide +kernel
theorem dX1_leaserOf_8 : decode cX1_leaserOf 8 = .ok (.getfield 15, 3) := by decide +kernel
theorem dX1_leaserOf_11 : decode cX1_leaserOf 11 = .ok (.iload_n 1, 1) := by decide +kernel
theorem dX1_leaserOf_12 : decode cX1_leaserOf 12 = .ok (.iaload, 1) := by decide +kernel
theorem dX1_leaserOf_13 : decode cX1_leaserOf 13 = .ok (.goto 4, 3) := by decide +kernel
theorem dX1_leaserOf_16 : decode cX1_leaserOf 16 = .ok (.iconst (-1), 1) := by decide +kernel
theorem dX1_leaserOf_17 : decode cX1_leaserOf 17 = .ok (.ireturn, 1) := by decide +kernel
theorem dX1_isMissing_0 : decode cX1_isMissing 0 = .ok (.aload_n 0, 1) := by decide +kernel
theorem dX1_isMissing_1 : decode cX1_isMissing 1 = .ok (.getfield 18, 3) := by decide +kernel
theorem dX1_isMissing_4 : decode cX1_isMissing 4 = .ok (.iload_n 1, 1) := by decide +kernel
theorem dX1_isMissing_5 : decode cX1_isMissing 5 = .ok (.invokestatic 62, 3) := by decide +kernel
theorem dX1_isMissing_8 : decode cX1_isMissing 8 = .ok (.iand, 1) := by decide +kernel
theorem dX1_isMissing_9 : decode cX1_isMissing 9 = .ok (.ifCond .eq 7, 3) := by decide +kernel
theorem dX1_isMissing_12 : decode cX1_isMissing 12 = .ok (.iconst 1, 1) := by decide +kernel
theorem dX1_isMissing_13 : decode cX1_isMissing 13 = .ok (.goto 4, 3) := by decide +kernel
theorem dX1_isMissing_16 : decode cX1_isMissing 16 = .ok (.iconst 0, 1) := by decide +kernel
theorem dX1_isMissing_17 : decode cX1_isMissing 17 = .ok (.ireturn, 1) := by decide +kernel
theorem dX1_rungsMissing_0 : decode cX1_rungsMissing 0 = .ok (.aload_n 0, 1) := by decide +kernel
theorem dX1_rungsMissing_1 : decode cX1_rungsMissing 1 = .ok (.getfield 18, 3) := by decide +kernel
theorem dX1_rungsMissing_4 : decode cX1_rungsMissing 4 = .ok (.ireturn, 1) := by decide +kernel
theorem dX1_setRung_0 : decode cX1_setRung 0 = .ok (.iload_n 1, 1) := by decide +kernel
theorem dX1_setRung_1 : decode cX1_setRung 1 = .ok (.invokestatic 58, 3) := by decide +kernel
theorem dX1_setRung_4 : decode cX1_setRung 4 = .ok (.ifCond .eq 49, 3) := by decide +kernel
theorem dX1_setRung_7 : decode cX1_setRung 7 = .ok (.aload_n 0, 1) := by decide +kernel
theorem dX1_setRung_8 : decode cX1_setRung 8 = .ok (.getfield 9, 3) := by decide +kernel
theorem dX1_setRung_11 : decode cX1_setRung 11 = .ok (.iload_n 1, 1) := by decide +kernel
theorem dX1_setRung_12 : decode cX1_setRung 12 = .ok (.iload_n 2, 1) := by decide +kernel
theorem dX1_setRung_13 : decode cX1_setRung 13 = .ok (.iastore, 1) := by decide +kernel
theorem dX1_setRung_14 : decode cX1_setRung 14 = .ok (.aload_n 0, 1) := by decide +kernel
theorem dX1_setRung_15 : decode cX1_setRung 15 = .ok (.getfield 15, 3) := by decide +kernel
theorem dX1_setRung_18 : decode cX1_setRung 18 = .ok (.iload_n 1, 1) := by decide +kernel
theorem dX1_setRung_19 : decode cX1_setRung 19 = .ok (.iload_n 3, 1) := by decide +kernel
theorem dX1_setRung_20 : decode cX1_setRung 20 = .ok (.iastore, 1) := by decide +kernel
theorem dX1_setRung_21 : decode cX1_setRung 21 = .ok (.aload_n 0, 1) := by decide +kernel
theorem dX1_setRung_22 : decode cX1_setRung 22 = .ok (.iload 4, 2) := by decide +kernel
theorem dX1_setRung_24 : decode cX1_setRung 24 = .ok (.ifCond .eq 15, 3) := by decide +kernel
theorem dX1_setRung_27 : decode cX1_setRung 27 = .ok (.aload_n 0, 1) := by decide +kernel
theorem dX1_setRung_28 : decode cX1_setRung 28 = .ok (.getfield 18, 3) := by decide +kernel
theorem dX1_setRung_31 : decode cX1_setRung 31 = .ok (.iload_n 1, 1) := by decide +kernel
theorem dX1_setRung_32 : decode cX1_setRung 32 = .ok (.invokestatic 62, 3) := by decide +kernel
theorem dX1_setRung_35 : decode cX1_setRung 35 = .ok (.ior, 1) := by decide +kernel
theorem dX1_setRung_36 : decode cX1_setRung 36 = .ok (.goto 14, 3) := by decide +kernel
theorem dX1_setRung_39 : decode cX1_setRung 39 = .ok (.aload_n 0, 1) := by decide +kernel
theorem dX1_setRung_40 : decode cX1_setRung 40 = .ok (.getfield 18, 3) := by decide +kernel
theorem dX1_setRung_43 : decode cX1_setRung 43 = .ok (.iload_n 1, 1) := by decide +kernel
theorem dX1_setRung_44 : decode cX1_setRung 44 = .ok (.invokestatic 62, 3) := by decide +kernel
theorem dX1_setRung_47 : decode cX1_setRung 47 = .ok (.iconst (-1), 1) := by decide +kernel
theorem dX1_setRung_48 : decode cX1_setRung 48 = .ok (.ixor, 1) := by decide +kernel
theorem dX1_setRung_49 : decode cX1_setRung 49 = .ok (.iand, 1) := by decide +kernel
theorem dX1_setRung_50 : decode cX1_setRung 50 = .ok (.putfield 18, 3) := by decide +kernel
theorem dX1_setRung_53 : decode cX1_setRung 53 = .ok (.return_, 1) := by decide +kernel
theorem dX1_strideOf_0 : decode cX1_strideOf 0 = .ok (.iload_n 1, 1) := by decide +kernel
theorem dX1_strideOf_1 : decode cX1_strideOf 1 = .ok (.invokestatic 66, 3) := by decide +kernel
theorem dX1_strideOf_4 : decode cX1_strideOf 4 = .ok (.ifCond .eq 12, 3) := by decide +kernel
theorem dX1_strideOf_7 : decode cX1_strideOf 7 = .ok (.aload_n 0, 1) := by decide +kernel
theorem dX1_strideOf_8 : decode cX1_strideOf 8 = .ok (.getfield 22, 3) := by decide +kernel
theorem dX1_strideOf_11 : decode cX1_strideOf 11 = .ok (.iload_n 1, 1) := by decide +kernel
theorem dX1_strideOf_12 : decode cX1_strideOf 12 = .ok (.iaload, 1) := by decide +kernel
theorem dX1_strideOf_13 : decode cX1_strideOf 13 = .ok (.goto 4, 3) := by decide +kernel
theorem dX1_strideOf_16 : decode cX1_strideOf 16 = .ok (.iconst 1, 1) := by decide +kernel
theorem dX1_strideOf_17 : decode cX1_strideOf 17 = .ok (.ireturn, 1) := by decide +kernel
theorem dX1_coinsOf_0 : decode cX1_coinsOf 0 = .ok (.iload_n 1, 1) := by decide +kernel
theorem dX1_coinsOf_1 : decode cX1_coinsOf 1 = .ok (.invokestatic 66, 3) := by decide +kernel
theorem dX1_coinsOf_4 : decode cX1_coinsOf 4 = .ok (.ifCond .eq 12, 3) := by decide +kernel
theorem dX1_coinsOf_7 : decode cX1_coinsOf 7 = .ok (.aload_n 0, 1) := by decide +kernel
theorem dX1_coinsOf_8 : decode cX1_coinsOf 8 = .ok (.getfield 25, 3) := by decide +kernel
theorem dX1_coinsOf_11 : decode cX1_coinsOf 11 = .ok (.iload_n 1, 1) := by decide +kernel
theorem dX1_coinsOf_12 : decode cX1_coinsOf 12 = .ok (.iaload, 1) := by decide +kernel
theorem dX1_coinsOf_13 : decode cX1_coinsOf 13 = .ok (.goto 4, 3) := by decide +kernel
theorem dX1_coinsOf_16 : decode cX1_coinsOf 16 = .ok (.iconst 0, 1) := by decide +kernel
theorem dX1_coinsOf_17 : decode cX1_coinsOf 17 = .ok (.ireturn, 1) := by decide +kernel
theorem dX1_placeOf_0 : decode cX1_placeOf 0 = .ok (.iload_n 1, 1) := by decide +kernel
theorem dX1_placeOf_1 : decode cX1_placeOf 1 = .ok (.invokestatic 66, 3) := by decide +kernel
theorem dX1_placeOf_4 : decode cX1_placeOf 4 = .ok (.ifCond .eq 12, 3) := by decide +kernel
theorem dX1_placeOf_7 : decode cX1_placeOf 7 = .ok (.aload_n 0, 1) := by decide +kernel
theorem dX1_placeOf_8 : decode cX1_placeOf 8 = .ok (.getfield 28, 3) := by decide +kernel
theorem dX1_placeOf_11 : decode cX1_placeOf 11 = .ok (.iload_n 1, 1) := by decide +kernel
theorem dX1_placeOf_12 : decode cX1_placeOf 12 = .ok (.iaload, 1) := by decide +kernel
theorem dX1_placeOf_13 : decode cX1_placeOf 13 = .ok (.goto 4, 3) := by decide +kernel
theorem dX1_placeOf_16 : decode cX1_placeOf 16 = .ok (.iconst 0, 1) := by decide +kernel
theorem dX1_placeOf_17 : decode cX1_placeOf 17 = .ok (.ireturn, 1) := by decide +kernel
theorem dX1_hasStepped_0 : decode cX1_hasStepped 0 = .ok (.iload_n 1, 1) := by decide +kernel
theorem dX1_hasStepped_1 : decode cX1_hasStepped 1 = .ok (.invokestatic 66, 3) := by decide +kernel
theorem dX1_hasStepped_4 : decode cX1_hasStepped 4 = .ok (.ifCond .eq 18, 3) := by decide +kernel
theorem dX1_hasStepped_7 : decode cX1_hasStepped 7 = .ok (.aload_n 0, 1) := by decide +kernel
theorem dX1_hasStepped_8 : decode cX1_hasStepped 8 = .ok (.getfield 31, 3) := by decide +kernel
theorem dX1_hasStepped_11 : decode cX1_hasStepped 11 = .ok (.iconst 1, 1) := by decide +kernel
theorem dX1_hasStepped_12 : decode cX1_hasStepped 12 = .ok (.iload_n 1, 1) := by decide +kernel
theorem dX1_hasStepped_13 : decode cX1_hasStepped 13 = .ok (.ishl, 1) := by decide +kernel
theorem dX1_hasStepped_14 : decode cX1_hasStepped 14 = .ok (.iand, 1) := by decide +kernel
theorem dX1_hasStepped_15 : decode cX1_hasStepped 15 = .ok (.ifCond .eq 7, 3) := by decide +kernel
theorem dX1_hasStepped_18 : decode cX1_hasStepped 18 = .ok (.iconst 1, 1) := by decide +kernel
theorem dX1_hasStepped_19 : decode cX1_hasStepped 19 = .ok (.goto 4, 3) := by decide +kernel
theorem dX1_hasStepped_22 : decode cX1_hasStepped 22 = .ok (.iconst 0, 1) := by decide +kernel
theorem dX1_hasStepped_23 : decode cX1_hasStepped 23 = .ok (.ireturn, 1) := by decide +kernel
theorem dX1_menStepped_0 : decode cX1_menStepped 0 = .ok (.aload_n 0, 1) := by decide +kernel
theorem dX1_menStepped_1 : decode cX1_menStepped 1 = .ok (.getfield 31, 3) := by decide +kernel
theorem dX1_menStepped_4 : decode cX1_menStepped 4 = .ok (.ireturn, 1) := by decide +kernel
theorem dX1_setMan_0 : decode cX1_setMan 0 = .ok (.iload_n 1, 1) := by decide +kernel
theorem dX1_setMan_1 : decode cX1_setMan 1 = .ok (.invokestatic 66, 3) := by decide +kernel
theorem dX1_setMan_4 : decode cX1_setMan 4 = .ok (.ifCond .eq 39, 3) := by decide +kernel
theorem dX1_setMan_7 : decode cX1_setMan 7 = .ok (.aload_n 0, 1) := by decide +kernel
theorem dX1_setMan_8 : decode cX1_setMan 8 = .ok (.getfield 22, 3) := by decide +kernel
theorem dX1_setMan_11 : decode cX1_setMan 11 = .ok (.iload_n 1, 1) := by decide +kernel
theorem dX1_setMan_12 : decode cX1_setMan 12 = .ok (.iload_n 2, 1) := by decide +kernel
theorem dX1_setMan_13 : decode cX1_setMan 13 = .ok (.iastore, 1) := by decide +kernel
theorem dX1_setMan_14 : decode cX1_setMan 14 = .ok (.aload_n 0, 1) := by decide +kernel
theorem dX1_setMan_15 : decode cX1_setMan 15 = .ok (.getfield 25, 3) := by decide +kernel
theorem dX1_setMan_18 : decode cX1_setMan 18 = .ok (.iload_n 1, 1) := by decide +kernel
theorem dX1_setMan_19 : decode cX1_setMan 19 = .ok (.iload_n 3, 1) := by decide +kernel
theorem dX1_setMan_20 : decode cX1_setMan 20 = .ok (.iastore, 1) := by decide +kernel
theorem dX1_setMan_21 : decode cX1_setMan 21 = .ok (.aload_n 0, 1) := by decide +kernel
theorem dX1_setMan_22 : decode cX1_setMan 22 = .ok (.getfield 28, 3) := by decide +kernel
theorem dX1_setMan_25 : decode cX1_setMan 25 = .ok (.iload_n 1, 1) := by decide +kernel
theorem dX1_setMan_26 : decode cX1_setMan 26 = .ok (.iload 4, 2) := by decide +kernel
theorem dX1_setMan_28 : decode cX1_setMan 28 = .ok (.iastore, 1) := by decide +kernel
theorem dX1_setMan_29 : decode cX1_setMan 29 = .ok (.aload_n 0, 1) := by decide +kernel
theorem dX1_setMan_30 : decode cX1_setMan 30 = .ok (.dup, 1) := by decide +kernel
theorem dX1_setMan_31 : decode cX1_setMan 31 = .ok (.getfield 31, 3) := by decide +kernel
theorem dX1_setMan_34 : decode cX1_setMan 34 = .ok (.iconst 1, 1) := by decide +kernel
theorem dX1_setMan_35 : decode cX1_setMan 35 = .ok (.iload_n 1, 1) := by decide +kernel
theorem dX1_setMan_36 : decode cX1_setMan 36 = .ok (.ishl, 1) := by decide +kernel
theorem dX1_setMan_37 : decode cX1_setMan 37 = .ok (.iconst (-1), 1) := by decide +kernel
theorem dX1_setMan_38 : decode cX1_setMan 38 = .ok (.ixor, 1) := by decide +kernel
theorem dX1_setMan_39 : decode cX1_setMan 39 = .ok (.iand, 1) := by decide +kernel
theorem dX1_setMan_40 : decode cX1_setMan 40 = .ok (.putfield 31, 3) := by decide +kernel
theorem dX1_setMan_43 : decode cX1_setMan 43 = .ok (.return_, 1) := by decide +kernel
theorem dX1_beatNow_0 : decode cX1_beatNow 0 = .ok (.aload_n 0, 1) := by decide +kernel
theorem dX1_beatNow_1 : decode cX1_beatNow 1 = .ok (.getfield 34, 3) := by decide +kernel
theorem dX1_beatNow_4 : decode cX1_beatNow 4 = .ok (.ireturn, 1) := by decide +kernel
theorem dX1_menOnRoof_0 : decode cX1_menOnRoof 0 = .ok (.iconst 0, 1) := by decide +kernel
theorem dX1_menOnRoof_1 : decode cX1_menOnRoof 1 = .ok (.istore_n 1, 1) := by decide +kernel
theorem dX1_menOnRoof_2 : decode cX1_menOnRoof 2 = .ok (.iconst 0, 1) := by decide +kernel
theorem dX1_menOnRoof_3 : decode cX1_menOnRoof 3 = .ok (.istore_n 2, 1) := by decide +kernel
theorem dX1_menOnRoof_4 : decode cX1_menOnRoof 4 = .ok (.iload_n 2, 1) := by decide +kernel
theorem dX1_menOnRoof_5 : decode cX1_menOnRoof 5 = .ok (.bipush 6, 2) := by decide +kernel
theorem dX1_menOnRoof_7 : decode cX1_menOnRoof 7 = .ok (.if_icmp .ge 26, 3) := by decide +kernel
theorem dX1_menOnRoof_10 : decode cX1_menOnRoof 10 = .ok (.aload_n 0, 1) := by decide +kernel
theorem dX1_menOnRoof_11 : decode cX1_menOnRoof 11 = .ok (.getfield 28, 3) := by decide +kernel
theorem dX1_menOnRoof_14 : decode cX1_menOnRoof 14 = .ok (.iload_n 2, 1) := by decide +kernel
theorem dX1_menOnRoof_15 : decode cX1_menOnRoof 15 = .ok (.iaload, 1) := by decide +kernel
theorem dX1_menOnRoof_16 : decode cX1_menOnRoof 16 = .ok (.bipush 13, 2) := by decide +kernel
theorem dX1_menOnRoof_18 : decode cX1_menOnRoof 18 = .ok (.if_icmp .ne 9, 3) := by decide +kernel
theorem dX1_menOnRoof_21 : decode cX1_menOnRoof 21 = .ok (.iload_n 1, 1) := by decide +kernel
theorem dX1_menOnRoof_22 : decode cX1_menOnRoof 22 = .ok (.iconst 1, 1) := by decide +kernel
theorem dX1_menOnRoof_23 : decode cX1_menOnRoof 23 = .ok (.iload_n 2, 1) := by decide +kernel
theorem dX1_menOnRoof_24 : decode cX1_menOnRoof 24 = .ok (.ishl, 1) := by decide +kernel
theorem dX1_menOnRoof_25 : decode cX1_menOnRoof 25 = .ok (.ior, 1) := by decide +kernel
theorem dX1_menOnRoof_26 : decode cX1_menOnRoof 26 = .ok (.istore_n 1, 1) := by decide +kernel
theorem dX1_menOnRoof_27 : decode cX1_menOnRoof 27 = .ok (.iinc 2 1, 3) := by decide +kernel
theorem dX1_menOnRoof_30 : decode cX1_menOnRoof 30 = .ok (.goto (-26), 3) := by decide +kernel
theorem dX1_menOnRoof_33 : decode cX1_menOnRoof 33 = .ok (.iload_n 1, 1) := by decide +kernel
theorem dX1_menOnRoof_34 : decode cX1_menOnRoof 34 = .ok (.ireturn, 1) := by decide +kernel
theorem dX1_firstManOn_0 : decode cX1_firstManOn 0 = .ok (.iconst 0, 1) := by decide +kernel
theorem dX1_firstManOn_1 : decode cX1_firstManOn 1 = .ok (.istore_n 2, 1) := by decide +kernel
theorem dX1_firstManOn_2 : decode cX1_firstManOn 2 = .ok (.iload_n 2, 1) := by decide +kernel
theorem dX1_firstManOn_3 : decode cX1_firstManOn 3 = .ok (.bipush 6, 2) := by decide +kernel
theorem dX1_firstManOn_5 : decode cX1_firstManOn 5 = .ok (.if_icmp .ge 21, 3) := by decide +kernel
theorem dX1_firstManOn_8 : decode cX1_firstManOn 8 = .ok (.aload_n 0, 1) := by decide +kernel
theorem dX1_firstManOn_9 : decode cX1_firstManOn 9 = .ok (.getfield 28, 3) := by decide +kernel
theorem dX1_firstManOn_12 : decode cX1_firstManOn 12 = .ok (.iload_n 2, 1) := by decide +kernel
theorem dX1_firstManOn_13 : decode cX1_firstManOn 13 = .ok (.iaload, 1) := by decide +kernel
theorem dX1_firstManOn_14 : decode cX1_firstManOn 14 = .ok (.iload_n 1, 1) := by decide +kernel
theorem dX1_firstManOn_15 : decode cX1_firstManOn 15 = .ok (.if_icmp .ne 5, 3) := by decide +kernel
theorem dX1_firstManOn_18 : decode cX1_firstManOn 18 = .ok (.iload_n 2, 1) := by decide +kernel
theorem dX1_firstManOn_19 : decode cX1_firstManOn 19 = .ok (.ireturn, 1) := by decide +kernel
theorem dX1_firstManOn_20 : decode cX1_firstManOn 20 = .ok (.iinc 2 1, 3) := by decide +kernel
theorem dX1_firstManOn_23 : decode cX1_firstManOn 23 = .ok (.goto (-21), 3) := by decide +kernel
theorem dX1_firstManOn_26 : decode cX1_firstManOn 26 = .ok (.iconst (-1), 1) := by decide +kernel
theorem dX1_firstManOn_27 : decode cX1_firstManOn 27 = .ok (.ireturn, 1) := by decide +kernel
theorem dX1_mayBeOn_0 : decode cX1_mayBeOn 0 = .ok (.iload_n 2, 1) := by decide +kernel
theorem dX1_mayBeOn_1 : decode cX1_mayBeOn 1 = .ok (.iconst 1, 1) := by decide +kernel
theorem dX1_mayBeOn_2 : decode cX1_mayBeOn 2 = .ok (.if_icmp .lt 22, 3) := by decide +kernel
theorem dX1_mayBeOn_5 : decode cX1_mayBeOn 5 = .ok (.iload_n 2, 1) := by decide +kernel
theorem dX1_mayBeOn_6 : decode cX1_mayBeOn 6 = .ok (.bipush 12, 2) := by decide +kernel
theorem dX1_mayBeOn_8 : decode cX1_mayBeOn 8 = .ok (.if_icmp .gt 16, 3) := by decide +kernel
theorem dX1_mayBeOn_11 : decode cX1_mayBeOn 11 = .ok (.aload_n 0, 1) := by decide +kernel
theorem dX1_mayBeOn_12 : decode cX1_mayBeOn 12 = .ok (.getfield 18, 3) := by decide +kernel
theorem dX1_mayBeOn_15 : decode cX1_mayBeOn 15 = .ok (.iload_n 2, 1) := by decide +kernel
theorem dX1_mayBeOn_16 : decode cX1_mayBeOn 16 = .ok (.iconst 1, 1) := by decide +kernel
theorem dX1_mayBeOn_17 : decode cX1_mayBeOn 17 = .ok (.isub, 1) := by decide +kernel
theorem dX1_mayBeOn_18 : decode cX1_mayBeOn 18 = .ok (.ishr, 1) := by decide +kernel
theorem dX1_mayBeOn_19 : decode cX1_mayBeOn 19 = .ok (.iconst 1, 1) := by decide +kernel
theorem dX1_mayBeOn_20 : decode cX1_mayBeOn 20 = .ok (.iand, 1) := by decide +kernel
theorem dX1_mayBeOn_21 : decode cX1_mayBeOn 21 = .ok (.ifCond .eq 5, 3) := by decide +kernel
theorem dX1_mayBeOn_24 : decode cX1_mayBeOn 24 = .ok (.iconst 0, 1) := by decide +kernel
theorem dX1_mayBeOn_25 : decode cX1_mayBeOn 25 = .ok (.ireturn, 1) := by decide +kernel
theorem dX1_mayBeOn_26 : decode cX1_mayBeOn 26 = .ok (.aload_n 0, 1) := by decide +kernel
theorem dX1_mayBeOn_27 : decode cX1_mayBeOn 27 = .ok (.getfield 9, 3) := by decide +kernel
theorem dX1_mayBeOn_30 : decode cX1_mayBeOn 30 = .ok (.iload_n 2, 1) := by decide +kernel
theorem dX1_mayBeOn_31 : decode cX1_mayBeOn 31 = .ok (.iaload, 1) := by decide +kernel
theorem dX1_mayBeOn_32 : decode cX1_mayBeOn 32 = .ok (.iconst (-1), 1) := by decide +kernel
theorem dX1_mayBeOn_33 : decode cX1_mayBeOn 33 = .ok (.if_icmp .eq 23, 3) := by decide +kernel
theorem dX1_mayBeOn_36 : decode cX1_mayBeOn 36 = .ok (.aload_n 0, 1) := by decide +kernel
theorem dX1_mayBeOn_37 : decode cX1_mayBeOn 37 = .ok (.getfield 9, 3) := by decide +kernel
theorem dX1_mayBeOn_40 : decode cX1_mayBeOn 40 = .ok (.iload_n 2, 1) := by decide +kernel
theorem dX1_mayBeOn_41 : decode cX1_mayBeOn 41 = .ok (.iaload, 1) := by decide +kernel
theorem dX1_mayBeOn_42 : decode cX1_mayBeOn 42 = .ok (.iload_n 1, 1) := by decide +kernel
theorem dX1_mayBeOn_43 : decode cX1_mayBeOn 43 = .ok (.if_icmp .eq 13, 3) := by decide +kernel
theorem dX1_mayBeOn_46 : decode cX1_mayBeOn 46 = .ok (.aload_n 0, 1) := by decide +kernel
theorem dX1_mayBeOn_47 : decode cX1_mayBeOn 47 = .ok (.getfield 15, 3) := by decide +kernel
theorem dX1_mayBeOn_50 : decode cX1_mayBeOn 50 = .ok (.iload_n 2, 1) := by decide +kernel
theorem dX1_mayBeOn_51 : decode cX1_mayBeOn 51 = .ok (.iaload, 1) := by decide +kernel
theorem dX1_mayBeOn_52 : decode cX1_mayBeOn 52 = .ok (.iload_n 1, 1) := by decide +kernel
theorem dX1_mayBeOn_53 : decode cX1_mayBeOn 53 = .ok (.if_icmp .ne 7, 3) := by decide +kernel
theorem dX1_mayBeOn_56 : decode cX1_mayBeOn 56 = .ok (.iconst 1, 1) := by decide +kernel
theorem dX1_mayBeOn_57 : decode cX1_mayBeOn 57 = .ok (.goto 4, 3) := by decide +kernel
theorem dX1_mayBeOn_60 : decode cX1_mayBeOn 60 = .ok (.iconst 0, 1) := by decide +kernel
theorem dX1_mayBeOn_61 : decode cX1_mayBeOn 61 = .ok (.ireturn, 1) := by decide +kernel
theorem dX1_rungsOpenTo_0 : decode cX1_rungsOpenTo 0 = .ok (.iconst 0, 1) := by decide +kernel
theorem dX1_rungsOpenTo_1 : decode cX1_rungsOpenTo 1 = .ok (.istore_n 2, 1) := by decide +kernel
theorem dX1_rungsOpenTo_2 : decode cX1_rungsOpenTo 2 = .ok (.iconst 1, 1) := by decide +kernel
theorem dX1_rungsOpenTo_3 : decode cX1_rungsOpenTo 3 = .ok (.istore_n 3, 1) := by decide +kernel
theorem dX1_rungsOpenTo_4 : decode cX1_rungsOpenTo 4 = .ok (.iload_n 3, 1) := by decide +kernel
theorem dX1_rungsOpenTo_5 : decode cX1_rungsOpenTo 5 = .ok (.bipush 12, 2) := by decide +kernel
theorem dX1_rungsOpenTo_7 : decode cX1_rungsOpenTo 7 = .ok (.if_icmp .gt 25, 3) := by decide +kernel
theorem dX1_rungsOpenTo_10 : decode cX1_rungsOpenTo 10 = .ok (.aload_n 0, 1) := by decide +kernel
theorem dX1_rungsOpenTo_11 : decode cX1_rungsOpenTo 11 = .ok (.iload_n 1, 1) := by decide +kernel
theorem dX1_rungsOpenTo_12 : decode cX1_rungsOpenTo 12 = .ok (.iload_n 3, 1) := by decide +kernel
theorem dX1_rungsOpenTo_13 : decode cX1_rungsOpenTo 13 = .ok (.invokevirtual 69, 3) := by decide +kernel
theorem dX1_rungsOpenTo_16 : decode cX1_rungsOpenTo 16 = .ok (.ifCond .eq 10, 3) := by decide +kernel
theorem dX1_rungsOpenTo_19 : decode cX1_rungsOpenTo 19 = .ok (.iload_n 2, 1) := by decide +kernel
theorem dX1_rungsOpenTo_20 : decode cX1_rungsOpenTo 20 = .ok (.iload_n 3, 1) := by decide +kernel
theorem dX1_rungsOpenTo_21 : decode cX1_rungsOpenTo 21 = .ok (.invokestatic 62, 3) := by decide +kernel
theorem dX1_rungsOpenTo_24 : decode cX1_rungsOpenTo 24 = .ok (.ior, 1) := by decide +kernel
theorem dX1_rungsOpenTo_25 : decode cX1_rungsOpenTo 25 = .ok (.istore_n 2, 1) := by decide +kernel
theorem dX1_rungsOpenTo_26 : decode cX1_rungsOpenTo 26 = .ok (.iinc 3 1, 3) := by decide +kernel
theorem dX1_rungsOpenTo_29 : decode cX1_rungsOpenTo 29 = .ok (.goto (-25), 3) := by decide +kernel
theorem dX1_rungsOpenTo_32 : decode cX1_rungsOpenTo 32 = .ok (.iload_n 2, 1) := by decide +kernel
theorem dX1_rungsOpenTo_33 : decode cX1_rungsOpenTo 33 = .ok (.ireturn, 1) := by decide +kernel
theorem dX1_rungsToLease_0 : decode cX1_rungsToLease 0 = .ok (.iconst 0, 1) := by decide +kernel
theorem dX1_rungsToLease_1 : decode cX1_rungsToLease 1 = .ok (.istore_n 1, 1) := by decide +kernel
theorem dX1_rungsToLease_2 : decode cX1_rungsToLease 2 = .ok (.iconst 1, 1) := by decide +kernel
theorem dX1_rungsToLease_3 : decode cX1_rungsToLease 3 = .ok (.istore_n 2, 1) := by decide +kernel
theorem dX1_rungsToLease_4 : decode cX1_rungsToLease 4 = .ok (.iload_n 2, 1) := by decide +kernel
theorem dX1_rungsToLease_5 : decode cX1_rungsToLease 5 = .ok (.bipush 12, 2) := by decide +kernel
theorem dX1_rungsToLease_7 : decode cX1_rungsToLease 7 = .ok (.if_icmp .gt 44, 3) := by decide +kernel
theorem dX1_rungsToLease_10 : decode cX1_rungsToLease 10 = .ok (.aload_n 0, 1) := by decide +kernel
theorem dX1_rungsToLease_11 : decode cX1_rungsToLease 11 = .ok (.iload_n 2, 1) := by decide +kernel
theorem dX1_rungsToLease_12 : decode cX1_rungsToLease 12 = .ok (.invokevirtual 73, 3) := by decide +kernel
theorem dX1_rungsToLease_15 : decode cX1_rungsToLease 15 = .ok (.ifCond .ne 30, 3) := by decide +kernel
theorem dX1_rungsToLease_18 : decode cX1_rungsToLease 18 = .ok (.aload_n 0, 1) := by decide +kernel
theorem dX1_rungsToLease_19 : decode cX1_rungsToLease 19 = .ok (.getfield 9, 3) := by decide +kernel
theorem dX1_rungsToLease_22 : decode cX1_rungsToLease 22 = .ok (.iload_n 2, 1) := by decide +kernel
theorem dX1_rungsToLease_23 : decode cX1_rungsToLease 23 = .ok (.iaload, 1) := by decide +kernel
theorem dX1_rungsToLease_24 : decode cX1_rungsToLease 24 = .ok (.iconst (-1), 1) := by decide +kernel
theorem dX1_rungsToLease_25 : decode cX1_rungsToLease 25 = .ok (.if_icmp .eq 20, 3) := by decide +kernel
theorem dX1_rungsToLease_28 : decode cX1_rungsToLease 28 = .ok (.aload_n 0, 1) := by decide +kernel
theorem dX1_rungsToLease_29 : decode cX1_rungsToLease 29 = .ok (.getfield 15, 3) := by decide +kernel
theorem dX1_rungsToLease_32 : decode cX1_rungsToLease 32 = .ok (.iload_n 2, 1) := by decide +kernel
theorem dX1_rungsToLease_33 : decode cX1_rungsToLease 33 = .ok (.iaload, 1) := by decide +kernel
theorem dX1_rungsToLease_34 : decode cX1_rungsToLease 34 = .ok (.iconst (-1), 1) := by decide +kernel
theorem dX1_rungsToLease_35 : decode cX1_rungsToLease 35 = .ok (.if_icmp .ne 10, 3) := by decide +kernel
theorem dX1_rungsToLease_38 : decode cX1_rungsToLease 38 = .ok (.iload_n 1, 1) := by decide +kernel
theorem dX1_rungsToLease_39 : decode cX1_rungsToLease 39 = .ok (.iload_n 2, 1) := by decide +kernel
theorem dX1_rungsToLease_40 : decode cX1_rungsToLease 40 = .ok (.invokestatic 62, 3) := by decide +kernel
theorem dX1_rungsToLease_43 : decode cX1_rungsToLease 43 = .ok (.ior, 1) := by decide +kernel
theorem dX1_rungsToLease_44 : decode cX1_rungsToLease 44 = .ok (.istore_n 1, 1) := by decide +kernel
theorem dX1_rungsToLease_45 : decode cX1_rungsToLease 45 = .ok (.iinc 2 1, 3) := by decide +kernel
theorem dX1_rungsToLease_48 : decode cX1_rungsToLease 48 = .ok (.goto (-44), 3) := by decide +kernel
theorem dX1_rungsToLease_51 : decode cX1_rungsToLease 51 = .ok (.iload_n 1, 1) := by decide +kernel
theorem dX1_rungsToLease_52 : decode cX1_rungsToLease 52 = .ok (.ireturn, 1) := by decide +kernel
theorem dX1_reasonAgainst_0 : decode cX1_reasonAgainst 0 = .ok (.aload_n 1, 1) := by decide +kernel
theorem dX1_reasonAgainst_1 : decode cX1_reasonAgainst 1 = .ok (.invokevirtual 76, 3) := by decide +kernel
theorem dX1_reasonAgainst_4 : decode cX1_reasonAgainst 4 = .ok (.tableswitch 94 0 3 #[32, 45, 58, 76], 32) := by decide +kernel
theorem dX1_reasonAgainst_36 : decode cX1_reasonAgainst 36 = .ok (.aload_n 0, 1) := by decide +kernel
theorem dX1_reasonAgainst_37 : decode cX1_reasonAgainst 37 = .ok (.aload_n 1, 1) := by decide +kernel
theorem dX1_reasonAgainst_38 : decode cX1_reasonAgainst 38 = .ok (.invokevirtual 82, 3) := by decide +kernel
theorem dX1_reasonAgainst_41 : decode cX1_reasonAgainst 41 = .ok (.aload_n 1, 1) := by decide +kernel
theorem dX1_reasonAgainst_42 : decode cX1_reasonAgainst 42 = .ok (.invokevirtual 85, 3) := by decide +kernel
theorem dX1_reasonAgainst_45 : decode cX1_reasonAgainst 45 = .ok (.invokevirtual 88, 3) := by decide +kernel
theorem dX1_reasonAgainst_48 : decode cX1_reasonAgainst 48 = .ok (.ireturn, 1) := by decide +kernel
theorem dX1_reasonAgainst_49 : decode cX1_reasonAgainst 49 = .ok (.aload_n 0, 1) := by decide +kernel
theorem dX1_reasonAgainst_50 : decode cX1_reasonAgainst 50 = .ok (.aload_n 1, 1) := by decide +kernel
theorem dX1_reasonAgainst_51 : decode cX1_reasonAgainst 51 = .ok (.invokevirtual 82, 3) := by decide +kernel
theorem dX1_reasonAgainst_54 : decode cX1_reasonAgainst 54 = .ok (.aload_n 1, 1) := by decide +kernel
theorem dX1_reasonAgainst_55 : decode cX1_reasonAgainst 55 = .ok (.invokevirtual 85, 3) := by decide +kernel
theorem dX1_reasonAgainst_58 : decode cX1_reasonAgainst 58 = .ok (.invokevirtual 92, 3) := by decide +kernel
theorem dX1_reasonAgainst_61 : decode cX1_reasonAgainst 61 = .ok (.ireturn, 1) := by decide +kernel
theorem dX1_reasonAgainst_62 : decode cX1_reasonAgainst 62 = .ok (.aload_n 0, 1) := by decide +kernel
theorem dX1_reasonAgainst_63 : decode cX1_reasonAgainst 63 = .ok (.aload_n 1, 1) := by decide +kernel
theorem dX1_reasonAgainst_64 : decode cX1_reasonAgainst 64 = .ok (.invokevirtual 85, 3) := by decide +kernel
theorem dX1_reasonAgainst_67 : decode cX1_reasonAgainst 67 = .ok (.invokevirtual 73, 3) := by decide +kernel
theorem dX1_reasonAgainst_70 : decode cX1_reasonAgainst 70 = .ok (.ifCond .eq 8, 3) := by decide +kernel
theorem dX1_reasonAgainst_73 : decode cX1_reasonAgainst 73 = .ok (.bipush 9, 2) := by decide +kernel
theorem dX1_reasonAgainst_75 : decode cX1_reasonAgainst 75 = .ok (.goto 4, 3) := by decide +kernel
theorem dX1_reasonAgainst_78 : decode cX1_reasonAgainst 78 = .ok (.iconst 0, 1) := by decide +kernel
theorem dX1_reasonAgainst_79 : decode cX1_reasonAgainst 79 = .ok (.ireturn, 1) := by decide +kernel
theorem dX1_reasonAgainst_80 : decode cX1_reasonAgainst 80 = .ok (.aload_n 0, 1) := by decide +kernel
theorem dX1_reasonAgainst_81 : decode cX1_reasonAgainst 81 = .ok (.aload_n 1, 1) := by decide +kernel
theorem dX1_reasonAgainst_82 : decode cX1_reasonAgainst 82 = .ok (.invokevirtual 85, 3) := by decide +kernel
theorem dX1_reasonAgainst_85 : decode cX1_reasonAgainst 85 = .ok (.invokevirtual 73, 3) := by decide +kernel
theorem dX1_reasonAgainst_88 : decode cX1_reasonAgainst 88 = .ok (.ifCond .eq 7, 3) := by decide +kernel
theorem dX1_reasonAgainst_91 : decode cX1_reasonAgainst 91 = .ok (.iconst 0, 1) := by decide +kernel
theorem dX1_reasonAgainst_92 : decode cX1_reasonAgainst 92 = .ok (.goto 5, 3) := by decide +kernel
theorem dX1_reasonAgainst_95 : decode cX1_reasonAgainst 95 = .ok (.bipush 9, 2) := by decide +kernel
theorem dX1_reasonAgainst_97 : decode cX1_reasonAgainst 97 = .ok (.ireturn, 1) := by decide +kernel
theorem dX1_reasonAgainst_98 : decode cX1_reasonAgainst 98 = .ok (.aload_n 0, 1) := by decide +kernel
theorem dX1_reasonAgainst_99 : decode cX1_reasonAgainst 99 = .ok (.getfield 34, 3) := by decide +kernel
theorem dX1_reasonAgainst_102 : decode cX1_reasonAgainst 102 = .ok (.bipush 99, 2) := by decide +kernel
theorem dX1_reasonAgainst_104 : decode cX1_reasonAgainst 104 = .ok (.if_icmp .lt 8, 3) := by decide +kernel
theorem dX1_reasonAgainst_107 : decode cX1_reasonAgainst 107 = .ok (.bipush 10, 2) := by decide +kernel
theorem dX1_reasonAgainst_109 : decode cX1_reasonAgainst 109 = .ok (.goto 4, 3) := by decide +kernel
theorem dX1_reasonAgainst_112 : decode cX1_reasonAgainst 112 = .ok (.iconst 0, 1) := by decide +kernel
theorem dX1_reasonAgainst_113 : decode cX1_reasonAgainst 113 = .ok (.ireturn, 1) := by decide +kernel
theorem dX1_reasonAgainstStep_0 : decode cX1_reasonAgainstStep 0 = .ok (.aload_n 0, 1) := by decide +kernel
theorem dX1_reasonAgainstStep_1 : decode cX1_reasonAgainstStep 1 = .ok (.iload_n 1, 1) := by decide +kernel
theorem dX1_reasonAgainstStep_2 : decode cX1_reasonAgainstStep 2 = .ok (.invokevirtual 95, 3) := by decide +kernel
theorem dX1_reasonAgainstStep_5 : decode cX1_reasonAgainstStep 5 = .ok (.ifCond .eq 5, 3) := by decide +kernel
theorem dX1_reasonAgainstStep_8 : decode cX1_reasonAgainstStep 8 = .ok (.iconst 1, 1) := by decide +kernel
theorem dX1_reasonAgainstStep_9 : decode cX1_reasonAgainstStep 9 = .ok (.ireturn, 1) := by decide +kernel
theorem dX1_reasonAgainstStep_10 : decode cX1_reasonAgainstStep 10 = .ok (.iload_n 2, 1) := by decide +kernel
theorem dX1_reasonAgainstStep_11 : decode cX1_reasonAgainstStep 11 = .ok (.aload_n 0, 1) := by decide +kernel
theorem dX1_reasonAgainstStep_12 : decode cX1_reasonAgainstStep 12 = .ok (.iload_n 1, 1) := by decide +kernel
theorem dX1_reasonAgainstStep_13 : decode cX1_reasonAgainstStep 13 = .ok (.invokevirtual 98, 3) := by decide +kernel
theorem dX1_reasonAgainstStep_16 : decode cX1_reasonAgainstStep 16 = .ok (.isub, 1) := by decide +kernel
theorem dX1_reasonAgainstStep_17 : decode cX1_reasonAgainstStep 17 = .ok (.invokestatic 101, 3) := by decide +kernel
theorem dX1_reasonAgainstStep_20 : decode cX1_reasonAgainstStep 20 = .ok (.istore_n 3, 1) := by decide +kernel
theorem dX1_reasonAgainstStep_21 : decode cX1_reasonAgainstStep 21 = .ok (.iload_n 3, 1) := by decide +kernel
theorem dX1_reasonAgainstStep_22 : decode cX1_reasonAgainstStep 22 = .ok (.ifCond .eq 12, 3) := by decide +kernel
theorem dX1_reasonAgainstStep_25 : decode cX1_reasonAgainstStep 25 = .ok (.iload_n 3, 1) := by decide +kernel
theorem dX1_reasonAgainstStep_26 : decode cX1_reasonAgainstStep 26 = .ok (.aload_n 0, 1) := by decide +kernel
theorem dX1_reasonAgainstStep_27 : decode cX1_reasonAgainstStep 27 = .ok (.iload_n 1, 1) := by decide +kernel
theorem dX1_reasonAgainstStep_28 : decode cX1_reasonAgainstStep 28 = .ok (.invokevirtual 106, 3) := by decide +kernel
theorem dX1_reasonAgainstStep_31 : decode cX1_reasonAgainstStep 31 = .ok (.if_icmp .le 5, 3) := by decide +kernel
theorem dX1_reasonAgainstStep_34 : decode cX1_reasonAgainstStep 34 = .ok (.iconst 2, 1) := by decide +kernel
theorem dX1_reasonAgainstStep_35 : decode cX1_reasonAgainstStep 35 = .ok (.ireturn, 1) := by decide +kernel
theorem dX1_reasonAgainstStep_36 : decode cX1_reasonAgainstStep 36 = .ok (.iload_n 2, 1) := by decide +kernel
theorem dX1_reasonAgainstStep_37 : decode cX1_reasonAgainstStep 37 = .ok (.invokestatic 58, 3) := by decide +kernel
theorem dX1_reasonAgainstStep_40 : decode cX1_reasonAgainstStep 40 = .ok (.ifCond .ne 5, 3) := by decide +kernel
theorem dX1_reasonAgainstStep_43 : decode cX1_reasonAgainstStep 43 = .ok (.iconst 0, 1) := by decide +kernel
theorem dX1_reasonAgainstStep_44 : decode cX1_reasonAgainstStep 44 = .ok (.ireturn, 1) := by decide +kernel
theorem dX1_reasonAgainstStep_45 : decode cX1_reasonAgainstStep 45 = .ok (.aload_n 0, 1) := by decide +kernel
theorem dX1_reasonAgainstStep_46 : decode cX1_reasonAgainstStep 46 = .ok (.iload_n 2, 1) := by decide +kernel
theorem dX1_reasonAgainstStep_47 : decode cX1_reasonAgainstStep 47 = .ok (.invokevirtual 73, 3) := by decide +kernel
theorem dX1_reasonAgainstStep_50 : decode cX1_reasonAgainstStep 50 = .ok (.ifCond .eq 5, 3) := by decide +kernel
theorem dX1_reasonAgainstStep_53 : decode cX1_reasonAgainstStep 53 = .ok (.iconst 3, 1) := by decide +kernel
theorem dX1_reasonAgainstStep_54 : decode cX1_reasonAgainstStep 54 = .ok (.ireturn, 1) := by decide +kernel
theorem dX1_reasonAgainstStep_55 : decode cX1_reasonAgainstStep 55 = .ok (.aload_n 0, 1) := by decide +kernel
theorem dX1_reasonAgainstStep_56 : decode cX1_reasonAgainstStep 56 = .ok (.iload_n 1, 1) := by decide +kernel
theorem dX1_reasonAgainstStep_57 : decode cX1_reasonAgainstStep 57 = .ok (.iload_n 2, 1) := by decide +kernel
theorem dX1_reasonAgainstStep_58 : decode cX1_reasonAgainstStep 58 = .ok (.invokevirtual 69, 3) := by decide +kernel
theorem dX1_reasonAgainstStep_61 : decode cX1_reasonAgainstStep 61 = .ok (.ifCond .ne 5, 3) := by decide +kernel
theorem dX1_reasonAgainstStep_64 : decode cX1_reasonAgainstStep 64 = .ok (.iconst 4, 1) := by decide +kernel
theorem dX1_reasonAgainstStep_65 : decode cX1_reasonAgainstStep 65 = .ok (.ireturn, 1) := by decide +kernel
theorem dX1_reasonAgainstStep_66 : decode cX1_reasonAgainstStep 66 = .ok (.aload_n 0, 1) := by decide +kernel
theorem dX1_reasonAgainstStep_67 : decode cX1_reasonAgainstStep 67 = .ok (.iload_n 2, 1) := by decide +kernel
theorem dX1_reasonAgainstStep_68 : decode cX1_reasonAgainstStep 68 = .ok (.invokevirtual 109, 3) := by decide +kernel
theorem dX1_reasonAgainstStep_71 : decode cX1_reasonAgainstStep 71 = .ok (.iconst (-1), 1) := by decide +kernel
theorem dX1_reasonAgainstStep_72 : decode cX1_reasonAgainstStep 72 = .ok (.if_icmp .eq 7, 3) := by decide +kernel
theorem dX1_reasonAgainstStep_75 : decode cX1_reasonAgainstStep 75 = .ok (.iconst 5, 1) := by decide +kernel
theorem dX1_reasonAgainstStep_76 : decode cX1_reasonAgainstStep 76 = .ok (.goto 4, 3) := by decide +kernel
theorem dX1_reasonAgainstStep_79 : decode cX1_reasonAgainstStep 79 = .ok (.iconst 0, 1) := by decide +kernel
theorem dX1_reasonAgainstStep_80 : decode cX1_reasonAgainstStep 80 = .ok (.ireturn, 1) := by decide +kernel
theorem dX1_reasonAgainstLease_0 : decode cX1_reasonAgainstLease 0 = .ok (.aload_n 0, 1) := by decide +kernel
theorem dX1_reasonAgainstLease_1 : decode cX1_reasonAgainstLease 1 = .ok (.iload_n 2, 1) := by decide +kernel
theorem dX1_reasonAgainstLease_2 : decode cX1_reasonAgainstLease 2 = .ok (.invokevirtual 73, 3) := by decide +kernel
theorem dX1_reasonAgainstLease_5 : decode cX1_reasonAgainstLease 5 = .ok (.ifCond .eq 5, 3) := by decide +kernel
theorem dX1_reasonAgainstLease_8 : decode cX1_reasonAgainstLease 8 = .ok (.iconst 3, 1) := by decide +kernel
theorem dX1_reasonAgainstLease_9 : decode cX1_reasonAgainstLease 9 = .ok (.ireturn, 1) := by decide +kernel
theorem dX1_reasonAgainstLease_10 : decode cX1_reasonAgainstLease 10 = .ok (.aload_n 0, 1) := by decide +kernel
theorem dX1_reasonAgainstLease_11 : decode cX1_reasonAgainstLease 11 = .ok (.iload_n 2, 1) := by decide +kernel
theorem dX1_reasonAgainstLease_12 : decode cX1_reasonAgainstLease 12 = .ok (.invokevirtual 112, 3) := by decide +kernel
theorem dX1_reasonAgainstLease_15 : decode cX1_reasonAgainstLease 15 = .ok (.iload_n 1, 1) := by decide +kernel
theorem dX1_reasonAgainstLease_16 : decode cX1_reasonAgainstLease 16 = .ok (.if_icmp .eq 12, 3) := by decide +kernel
theorem dX1_reasonAgainstLease_19 : decode cX1_reasonAgainstLease 19 = .ok (.aload_n 0, 1) := by decide +kernel
theorem dX1_reasonAgainstLease_20 : decode cX1_reasonAgainstLease 20 = .ok (.iload_n 2, 1) := by decide +kernel
theorem dX1_reasonAgainstLease_21 : decode cX1_reasonAgainstLease 21 = .ok (.invokevirtual 112, 3) := by decide +kernel
theorem dX1_reasonAgainstLease_24 : decode cX1_reasonAgainstLease 24 = .ok (.iconst (-1), 1) := by decide +kernel
theorem dX1_reasonAgainstLease_25 : decode cX1_reasonAgainstLease 25 = .ok (.if_icmp .ne 6, 3) := by decide +kernel
theorem dX1_reasonAgainstLease_28 : decode cX1_reasonAgainstLease 28 = .ok (.bipush 6, 2) := by decide +kernel
theorem dX1_reasonAgainstLease_30 : decode cX1_reasonAgainstLease 30 = .ok (.ireturn, 1) := by decide +kernel
theorem dX1_reasonAgainstLease_31 : decode cX1_reasonAgainstLease 31 = .ok (.aload_n 0, 1) := by decide +kernel
theorem dX1_reasonAgainstLease_32 : decode cX1_reasonAgainstLease 32 = .ok (.iload_n 2, 1) := by decide +kernel
theorem dX1_reasonAgainstLease_33 : decode cX1_reasonAgainstLease 33 = .ok (.invokevirtual 115, 3) := by decide +kernel
theorem dX1_reasonAgainstLease_36 : decode cX1_reasonAgainstLease 36 = .ok (.iconst (-1), 1) := by decide +kernel
theorem dX1_reasonAgainstLease_37 : decode cX1_reasonAgainstLease 37 = .ok (.if_icmp .eq 6, 3) := by decide +kernel
theorem dX1_reasonAgainstLease_40 : decode cX1_reasonAgainstLease 40 = .ok (.bipush 7, 2) := by decide +kernel
theorem dX1_reasonAgainstLease_42 : decode cX1_reasonAgainstLease 42 = .ok (.ireturn, 1) := by decide +kernel
theorem dX1_reasonAgainstLease_43 : decode cX1_reasonAgainstLease 43 = .ok (.aload_n 0, 1) := by decide +kernel
theorem dX1_reasonAgainstLease_44 : decode cX1_reasonAgainstLease 44 = .ok (.iload_n 1, 1) := by decide +kernel
theorem dX1_reasonAgainstLease_45 : decode cX1_reasonAgainstLease 45 = .ok (.invokevirtual 118, 3) := by decide +kernel
theorem dX1_reasonAgainstLease_48 : decode cX1_reasonAgainstLease 48 = .ok (.ifCond .gt 8, 3) := by decide +kernel
theorem dX1_reasonAgainstLease_51 : decode cX1_reasonAgainstLease 51 = .ok (.bipush 8, 2) := by decide +kernel
theorem dX1_reasonAgainstLease_53 : decode cX1_reasonAgainstLease 53 = .ok (.goto 4, 3) := by decide +kernel
theorem dX1_reasonAgainstLease_56 : decode cX1_reasonAgainstLease 56 = .ok (.iconst 0, 1) := by decide +kernel
theorem dX1_reasonAgainstLease_57 : decode cX1_reasonAgainstLease 57 = .ok (.ireturn, 1) := by decide +kernel
theorem dX1_perform_0 : decode cX1_perform 0 = .ok (.aload_n 1, 1) := by decide +kernel
theorem dX1_perform_1 : decode cX1_perform 1 = .ok (.invokevirtual 76, 3) := by decide +kernel
theorem dX1_perform_4 : decode cX1_perform 4 = .ok (.tableswitch 90 0 3 #[32, 47, 62, 76], 32) := by decide +kernel
theorem dX1_perform_36 : decode cX1_perform 36 = .ok (.aload_n 0, 1) := by decide +kernel
theorem dX1_perform_37 : decode cX1_perform 37 = .ok (.aload_n 1, 1) := by decide +kernel
theorem dX1_perform_38 : decode cX1_perform 38 = .ok (.invokevirtual 82, 3) := by decide +kernel
theorem dX1_perform_41 : decode cX1_perform 41 = .ok (.aload_n 1, 1) := by decide +kernel
theorem dX1_perform_42 : decode cX1_perform 42 = .ok (.invokevirtual 85, 3) := by decide +kernel
theorem dX1_perform_45 : decode cX1_perform 45 = .ok (.invokevirtual 121, 3) := by decide +kernel
theorem dX1_perform_48 : decode cX1_perform 48 = .ok (.goto 61, 3) := by decide +kernel
theorem dX1_perform_51 : decode cX1_perform 51 = .ok (.aload_n 0, 1) := by decide +kernel
theorem dX1_perform_52 : decode cX1_perform 52 = .ok (.aload_n 1, 1) := by decide +kernel
theorem dX1_perform_53 : decode cX1_perform 53 = .ok (.invokevirtual 82, 3) := by decide +kernel
theorem dX1_perform_56 : decode cX1_perform 56 = .ok (.aload_n 1, 1) := by decide +kernel
theorem dX1_perform_57 : decode cX1_perform 57 = .ok (.invokevirtual 85, 3) := by decide +kernel
theorem dX1_perform_60 : decode cX1_perform 60 = .ok (.invokevirtual 125, 3) := by decide +kernel
theorem dX1_perform_63 : decode cX1_perform 63 = .ok (.goto 46, 3) := by decide +kernel
theorem dX1_perform_66 : decode cX1_perform 66 = .ok (.aload_n 0, 1) := by decide +kernel
theorem dX1_perform_67 : decode cX1_perform 67 = .ok (.aload_n 1, 1) := by decide +kernel
theorem dX1_perform_68 : decode cX1_perform 68 = .ok (.invokevirtual 85, 3) := by decide +kernel
theorem dX1_perform_71 : decode cX1_perform 71 = .ok (.iconst (-1), 1) := by decide +kernel
theorem dX1_perform_72 : decode cX1_perform 72 = .ok (.iconst (-1), 1) := by decide +kernel
theorem dX1_perform_73 : decode cX1_perform 73 = .ok (.iconst 1, 1) := by decide +kernel
theorem dX1_perform_74 : decode cX1_perform 74 = .ok (.invokevirtual 128, 3) := by decide +kernel
theorem dX1_perform_77 : decode cX1_perform 77 = .ok (.goto 32, 3) := by decide +kernel
theorem dX1_perform_80 : decode cX1_perform 80 = .ok (.aload_n 0, 1) := by decide +kernel
theorem dX1_perform_81 : decode cX1_perform 81 = .ok (.aload_n 1, 1) := by decide +kernel
theorem dX1_perform_82 : decode cX1_perform 82 = .ok (.invokevirtual 85, 3) := by decide +kernel
theorem dX1_perform_85 : decode cX1_perform 85 = .ok (.iconst (-1), 1) := by decide +kernel
theorem dX1_perform_86 : decode cX1_perform 86 = .ok (.iconst (-1), 1) := by decide +kernel
theorem dX1_perform_87 : decode cX1_perform 87 = .ok (.iconst 0, 1) := by decide +kernel
theorem dX1_perform_88 : decode cX1_perform 88 = .ok (.invokevirtual 128, 3) := by decide +kernel
theorem dX1_perform_91 : decode cX1_perform 91 = .ok (.goto 18, 3) := by decide +kernel
theorem dX1_perform_94 : decode cX1_perform 94 = .ok (.aload_n 0, 1) := by decide +kernel
theorem dX1_perform_95 : decode cX1_perform 95 = .ok (.dup, 1) := by decide +kernel
theorem dX1_perform_96 : decode cX1_perform 96 = .ok (.getfield 34, 3) := by decide +kernel
theorem dX1_perform_99 : decode cX1_perform 99 = .ok (.iconst 1, 1) := by decide +kernel
theorem dX1_perform_100 : decode cX1_perform 100 = .ok (.iadd, 1) := by decide +kernel
theorem dX1_perform_101 : decode cX1_perform 101 = .ok (.putfield 34, 3) := by decide +kernel
theorem dX1_perform_104 : decode cX1_perform 104 = .ok (.aload_n 0, 1) := by decide +kernel
theorem dX1_perform_105 : decode cX1_perform 105 = .ok (.iconst 0, 1) := by decide +kernel
theorem dX1_perform_106 : decode cX1_perform 106 = .ok (.putfield 31, 3) := by decide +kernel
theorem dX1_perform_109 : decode cX1_perform 109 = .ok (.return_, 1) := by decide +kernel
theorem dX1_moveTo_0 : decode cX1_moveTo 0 = .ok (.iload_n 1, 1) := by decide +kernel
theorem dX1_moveTo_1 : decode cX1_moveTo 1 = .ok (.invokestatic 66, 3) := by decide +kernel
theorem dX1_moveTo_4 : decode cX1_moveTo 4 = .ok (.ifCond .eq 22, 3) := by decide +kernel
theorem dX1_moveTo_7 : decode cX1_moveTo 7 = .ok (.aload_n 0, 1) := by decide +kernel
theorem dX1_moveTo_8 : decode cX1_moveTo 8 = .ok (.getfield 28, 3) := by decide +kernel
theorem dX1_moveTo_11 : decode cX1_moveTo 11 = .ok (.iload_n 1, 1) := by decide +kernel
theorem dX1_moveTo_12 : decode cX1_moveTo 12 = .ok (.iload_n 2, 1) := by decide +kernel
theorem dX1_moveTo_13 : decode cX1_moveTo 13 = .ok (.iastore, 1) := by decide +kernel
theorem dX1_moveTo_14 : decode cX1_moveTo 14 = .ok (.aload_n 0, 1) := by decide +kernel
theorem dX1_moveTo_15 : decode cX1_moveTo 15 = .ok (.dup, 1) := by decide +kernel
theorem dX1_moveTo_16 : decode cX1_moveTo 16 = .ok (.getfield 31, 3) := by decide +kernel
theorem dX1_moveTo_19 : decode cX1_moveTo 19 = .ok (.iconst 1, 1) := by decide +kernel
theorem dX1_moveTo_20 : decode cX1_moveTo 20 = .ok (.iload_n 1, 1) := by decide +kernel
theorem dX1_moveTo_21 : decode cX1_moveTo 21 = .ok (.ishl, 1) := by decide +kernel
theorem dX1_moveTo_22 : decode cX1_moveTo 22 = .ok (.ior, 1) := by decide +kernel
theorem dX1_moveTo_23 : decode cX1_moveTo 23 = .ok (.putfield 31, 3) := by decide +kernel
theorem dX1_moveTo_26 : decode cX1_moveTo 26 = .ok (.return_, 1) := by decide +kernel
theorem dX1_leaseTo_0 : decode cX1_leaseTo 0 = .ok (.iload_n 2, 1) := by decide +kernel
theorem dX1_leaseTo_1 : decode cX1_leaseTo 1 = .ok (.invokestatic 58, 3) := by decide +kernel
theorem dX1_leaseTo_4 : decode cX1_leaseTo 4 = .ok (.ifCond .eq 12, 3) := by decide +kernel
theorem dX1_leaseTo_7 : decode cX1_leaseTo 7 = .ok (.aload_n 0, 1) := by decide +kernel
theorem dX1_leaseTo_8 : decode cX1_leaseTo 8 = .ok (.getfield 9, 3) := by decide +kernel
theorem dX1_leaseTo_11 : decode cX1_leaseTo 11 = .ok (.iload_n 2, 1) := by decide +kernel
theorem dX1_leaseTo_12 : decode cX1_leaseTo 12 = .ok (.iaload, 1) := by decide +kernel
theorem dX1_leaseTo_13 : decode cX1_leaseTo 13 = .ok (.goto 4, 3) := by decide +kernel
theorem dX1_leaseTo_16 : decode cX1_leaseTo 16 = .ok (.iconst (-1), 1) := by decide +kernel
theorem dX1_leaseTo_17 : decode cX1_leaseTo 17 = .ok (.istore_n 3, 1) := by decide +kernel
theorem dX1_leaseTo_18 : decode cX1_leaseTo 18 = .ok (.iload_n 2, 1) := by decide +kernel
theorem dX1_leaseTo_19 : decode cX1_leaseTo 19 = .ok (.invokestatic 58, 3) := by decide +kernel
theorem dX1_leaseTo_22 : decode cX1_leaseTo 22 = .ok (.ifCond .eq 44, 3) := by decide +kernel
theorem dX1_leaseTo_25 : decode cX1_leaseTo 25 = .ok (.iload_n 1, 1) := by decide +kernel
theorem dX1_leaseTo_26 : decode cX1_leaseTo 26 = .ok (.invokestatic 66, 3) := by decide +kernel
theorem dX1_leaseTo_29 : decode cX1_leaseTo 29 = .ok (.ifCond .eq 37, 3) := by decide +kernel
theorem dX1_leaseTo_32 : decode cX1_leaseTo 32 = .ok (.iload_n 3, 1) := by decide +kernel
theorem dX1_leaseTo_33 : decode cX1_leaseTo 33 = .ok (.invokestatic 66, 3) := by decide +kernel
theorem dX1_leaseTo_36 : decode cX1_leaseTo 36 = .ok (.ifCond .eq 30, 3) := by decide +kernel
theorem dX1_leaseTo_39 : decode cX1_leaseTo 39 = .ok (.aload_n 0, 1) := by decide +kernel
theorem dX1_leaseTo_40 : decode cX1_leaseTo 40 = .ok (.getfield 15, 3) := by decide +kernel
theorem dX1_leaseTo_43 : decode cX1_leaseTo 43 = .ok (.iload_n 2, 1) := by decide +kernel
theorem dX1_leaseTo_44 : decode cX1_leaseTo 44 = .ok (.iload_n 1, 1) := by decide +kernel
theorem dX1_leaseTo_45 : decode cX1_leaseTo 45 = .ok (.iastore, 1) := by decide +kernel
theorem dX1_leaseTo_46 : decode cX1_leaseTo 46 = .ok (.aload_n 0, 1) := by decide +kernel
theorem dX1_leaseTo_47 : decode cX1_leaseTo 47 = .ok (.getfield 25, 3) := by decide +kernel
theorem dX1_leaseTo_50 : decode cX1_leaseTo 50 = .ok (.iload_n 1, 1) := by decide +kernel
theorem dX1_leaseTo_51 : decode cX1_leaseTo 51 = .ok (.dup2, 1) := by decide +kernel
theorem dX1_leaseTo_52 : decode cX1_leaseTo 52 = .ok (.iaload, 1) := by decide +kernel
theorem dX1_leaseTo_53 : decode cX1_leaseTo 53 = .ok (.iconst 1, 1) := by decide +kernel
theorem dX1_leaseTo_54 : decode cX1_leaseTo 54 = .ok (.isub, 1) := by decide +kernel
theorem dX1_leaseTo_55 : decode cX1_leaseTo 55 = .ok (.iastore, 1) := by decide +kernel
theorem dX1_leaseTo_56 : decode cX1_leaseTo 56 = .ok (.aload_n 0, 1) := by decide +kernel
theorem dX1_leaseTo_57 : decode cX1_leaseTo 57 = .ok (.getfield 25, 3) := by decide +kernel
theorem dX1_leaseTo_60 : decode cX1_leaseTo 60 = .ok (.iload_n 3, 1) := by decide +kernel
theorem dX1_leaseTo_61 : decode cX1_leaseTo 61 = .ok (.dup2, 1) := by decide +kernel
theorem dX1_leaseTo_62 : decode cX1_leaseTo 62 = .ok (.iaload, 1) := by decide +kernel
theorem dX1_leaseTo_63 : decode cX1_leaseTo 63 = .ok (.iconst 1, 1) := by decide +kernel
theorem dX1_leaseTo_64 : decode cX1_leaseTo 64 = .ok (.iadd, 1) := by decide +kernel
theorem dX1_leaseTo_65 : decode cX1_leaseTo 65 = .ok (.iastore, 1) := by decide +kernel
theorem dX1_leaseTo_66 : decode cX1_leaseTo 66 = .ok (.return_, 1) := by decide +kernel
theorem dX1_addSight_0 : decode cX1_addSight 0 = .ok (.aload_n 0, 1) := by decide +kernel
theorem dX1_addSight_1 : decode cX1_addSight 1 = .ok (.getfield 37, 3) := by decide +kernel
theorem dX1_addSight_4 : decode cX1_addSight 4 = .ok (.bipush 8, 2) := by decide +kernel
theorem dX1_addSight_6 : decode cX1_addSight 6 = .ok (.if_icmp .lt 5, 3) := by decide +kernel
theorem dX1_addSight_9 : decode cX1_addSight 9 = .ok (.iconst 0, 1) := by decide +kernel
theorem dX1_addSight_10 : decode cX1_addSight 10 = .ok (.ireturn, 1) := by decide +kernel
theorem dX1_addSight_11 : decode cX1_addSight 11 = .ok (.iload_n 2, 1) := by decide +kernel
theorem dX1_addSight_12 : decode cX1_addSight 12 = .ok (.ifCond .eq 19, 3) := by decide +kernel
theorem dX1_addSight_15 : decode cX1_addSight 15 = .ok (.aload_n 0, 1) := by decide +kernel
theorem dX1_addSight_16 : decode cX1_addSight 16 = .ok (.dup, 1) := by decide +kernel
theorem dX1_addSight_17 : decode cX1_addSight 17 = .ok (.getfield 40, 3) := by decide +kernel
theorem dX1_addSight_20 : decode cX1_addSight 20 = .ok (.iload_n 1, 1) := by decide +kernel
theorem dX1_addSight_21 : decode cX1_addSight 21 = .ok (.invokestatic 62, 3) := by decide +kernel
theorem dX1_addSight_24 : decode cX1_addSight 24 = .ok (.ior, 1) := by decide +kernel
theorem dX1_addSight_25 : decode cX1_addSight 25 = .ok (.putfield 40, 3) := by decide +kernel
theorem dX1_addSight_28 : decode cX1_addSight 28 = .ok (.goto 16, 3) := by decide +kernel
theorem dX1_addSight_31 : decode cX1_addSight 31 = .ok (.aload_n 0, 1) := by decide +kernel
theorem dX1_addSight_32 : decode cX1_addSight 32 = .ok (.dup, 1) := by decide +kernel
theorem dX1_addSight_33 : decode cX1_addSight 33 = .ok (.getfield 43, 3) := by decide +kernel
theorem dX1_addSight_36 : decode cX1_addSight 36 = .ok (.iload_n 1, 1) := by decide +kernel
theorem dX1_addSight_37 : decode cX1_addSight 37 = .ok (.invokestatic 62, 3) := by decide +kernel
theorem dX1_addSight_40 : decode cX1_addSight 40 = .ok (.ior, 1) := by decide +kernel
theorem dX1_addSight_41 : decode cX1_addSight 41 = .ok (.putfield 43, 3) := by decide +kernel
theorem dX1_addSight_44 : decode cX1_addSight 44 = .ok (.aload_n 0, 1) := by decide +kernel
theorem dX1_addSight_45 : decode cX1_addSight 45 = .ok (.dup, 1) := by decide +kernel
theorem dX1_addSight_46 : decode cX1_addSight 46 = .ok (.getfield 37, 3) := by decide +kernel
theorem dX1_addSight_49 : decode cX1_addSight 49 = .ok (.iconst 1, 1) := by decide +kernel
theorem dX1_addSight_50 : decode cX1_addSight 50 = .ok (.iadd, 1) := by decide +kernel
theorem dX1_addSight_51 : decode cX1_addSight 51 = .ok (.putfield 37, 3) := by decide +kernel
theorem dX1_addSight_54 : decode cX1_addSight 54 = .ok (.iconst 1, 1) := by decide +kernel
theorem dX1_addSight_55 : decode cX1_addSight 55 = .ok (.ireturn, 1) := by decide +kernel
theorem dX1_clearSights_0 : decode cX1_clearSights 0 = .ok (.aload_n 0, 1) := by decide +kernel
theorem dX1_clearSights_1 : decode cX1_clearSights 1 = .ok (.iconst 0, 1) := by decide +kernel
theorem dX1_clearSights_2 : decode cX1_clearSights 2 = .ok (.putfield 37, 3) := by decide +kernel
theorem dX1_clearSights_5 : decode cX1_clearSights 5 = .ok (.aload_n 0, 1) := by decide +kernel
theorem dX1_clearSights_6 : decode cX1_clearSights 6 = .ok (.iconst 0, 1) := by decide +kernel
theorem dX1_clearSights_7 : decode cX1_clearSights 7 = .ok (.putfield 40, 3) := by decide +kernel
theorem dX1_clearSights_10 : decode cX1_clearSights 10 = .ok (.aload_n 0, 1) := by decide +kernel
theorem dX1_clearSights_11 : decode cX1_clearSights 11 = .ok (.iconst 0, 1) := by decide +kernel
theorem dX1_clearSights_12 : decode cX1_clearSights 12 = .ok (.putfield 43, 3) := by decide +kernel
theorem dX1_clearSights_15 : decode cX1_clearSights 15 = .ok (.return_, 1) := by decide +kernel
theorem dX1_sightCount_0 : decode cX1_sightCount 0 = .ok (.aload_n 0, 1) := by decide +kernel
theorem dX1_sightCount_1 : decode cX1_sightCount 1 = .ok (.getfield 37, 3) := by decide +kernel
theorem dX1_sightCount_4 : decode cX1_sightCount 4 = .ok (.ireturn, 1) := by decide +kernel
theorem dX1_sightsFit_0 : decode cX1_sightsFit 0 = .ok (.iload_n 1, 1) := by decide +kernel
theorem dX1_sightsFit_1 : decode cX1_sightsFit 1 = .ok (.aload_n 0, 1) := by decide +kernel
theorem dX1_sightsFit_2 : decode cX1_sightsFit 2 = .ok (.getfield 40, 3) := by decide +kernel
theorem dX1_sightsFit_5 : decode cX1_sightsFit 5 = .ok (.iand, 1) := by decide +kernel
theorem dX1_sightsFit_6 : decode cX1_sightsFit 6 = .ok (.aload_n 0, 1) := by decide +kernel
theorem dX1_sightsFit_7 : decode cX1_sightsFit 7 = .ok (.getfield 40, 3) := by decide +kernel
theorem dX1_sightsFit_10 : decode cX1_sightsFit 10 = .ok (.if_icmp .ne 16, 3) := by decide +kernel
theorem dX1_sightsFit_13 : decode cX1_sightsFit 13 = .ok (.iload_n 1, 1) := by decide +kernel
theorem dX1_sightsFit_14 : decode cX1_sightsFit 14 = .ok (.aload_n 0, 1) := by decide +kernel
theorem dX1_sightsFit_15 : decode cX1_sightsFit 15 = .ok (.getfield 43, 3) := by decide +kernel
theorem dX1_sightsFit_18 : decode cX1_sightsFit 18 = .ok (.iand, 1) := by decide +kernel
theorem dX1_sightsFit_19 : decode cX1_sightsFit 19 = .ok (.ifCond .ne 7, 3) := by decide +kernel
theorem dX1_sightsFit_22 : decode cX1_sightsFit 22 = .ok (.iconst 1, 1) := by decide +kernel
theorem dX1_sightsFit_23 : decode cX1_sightsFit 23 = .ok (.goto 4, 3) := by decide +kernel
theorem dX1_sightsFit_26 : decode cX1_sightsFit 26 = .ok (.iconst 0, 1) := by decide +kernel
theorem dX1_sightsFit_27 : decode cX1_sightsFit 27 = .ok (.ireturn, 1) := by decide +kernel
theorem dX2_canWin_0 : decode cX2_canWin 0 = .ok (.iload_n 0, 1) := by decide +kernel
theorem dX2_canWin_1 : decode cX2_canWin 1 = .ok (.invokestatic 9, 3) := by decide +kernel
theorem dX2_canWin_4 : decode cX2_canWin 4 = .ok (.ifCond .eq 7, 3) := by decide +kernel
theorem dX2_canWin_7 : decode cX2_canWin 7 = .ok (.iconst 1, 1) := by decide +kernel
theorem dX2_canWin_8 : decode cX2_canWin 8 = .ok (.goto 4, 3) := by decide +kernel
theorem dX2_canWin_11 : decode cX2_canWin 11 = .ok (.iconst 0, 1) := by decide +kernel
theorem dX2_canWin_12 : decode cX2_canWin 12 = .ok (.ireturn, 1) := by decide +kernel
theorem dX2_leastWinningMove_0 : decode cX2_leastWinningMove 0 = .ok (.iload_n 0, 1) := by decide +kernel
theorem dX2_leastWinningMove_1 : decode cX2_leastWinningMove 1 = .ok (.invokestatic 15, 3) := by decide +kernel
theorem dX2_leastWinningMove_4 : decode cX2_leastWinningMove 4 = .ok (.ifCond .ne 6, 3) := by decide +kernel
theorem dX2_leastWinningMove_7 : decode cX2_leastWinningMove 7 = .ok (.bipush (-6), 2) := by decide +kernel
theorem dX2_leastWinningMove_9 : decode cX2_leastWinningMove 9 = .ok (.ireturn, 1) := by decide +kernel
theorem dX2_leastWinningMove_10 : decode cX2_leastWinningMove 10 = .ok (.iconst 0, 1) := by decide +kernel
theorem dX2_leastWinningMove_11 : decode cX2_leastWinningMove 11 = .ok (.istore_n 1, 1) := by decide +kernel
theorem dX2_leastWinningMove_12 : decode cX2_leastWinningMove 12 = .ok (.iconst 1, 1) := by decide +kernel
theorem dX2_leastWinningMove_13 : decode cX2_leastWinningMove 13 = .ok (.istore_n 2, 1) := by decide +kernel
theorem dX2_leastWinningMove_14 : decode cX2_leastWinningMove 14 = .ok (.iload_n 2, 1) := by decide +kernel
theorem dX2_leastWinningMove_15 : decode cX2_leastWinningMove 15 = .ok (.bipush 12, 2) := by decide +kernel
theorem dX2_leastWinningMove_17 : decode cX2_leastWinningMove 17 = .ok (.if_icmp .gt 64, 3) := by decide +kernel
theorem dX2_leastWinningMove_20 : decode cX2_leastWinningMove 20 = .ok (.iload_n 0, 1) := by decide +kernel
theorem dX2_leastWinningMove_21 : decode cX2_leastWinningMove 21 = .ok (.iload_n 2, 1) := by decide +kernel
theorem dX2_leastWinningMove_22 : decode cX2_leastWinningMove 22 = .ok (.invokestatic 19, 3) := by decide +kernel
theorem dX2_leastWinningMove_25 : decode cX2_leastWinningMove 25 = .ok (.iand, 1) := by decide +kernel
theorem dX2_leastWinningMove_26 : decode cX2_leastWinningMove 26 = .ok (.ifCond .ne 6, 3) := by decide +kernel
theorem dX2_leastWinningMove_29 : decode cX2_leastWinningMove 29 = .ok (.goto 46, 3) := by decide +kernel
theorem dX2_leastWinningMove_32 : decode cX2_leastWinningMove 32 = .ok (.iload_n 1, 1) := by decide +kernel
theorem dX2_leastWinningMove_33 : decode cX2_leastWinningMove 33 = .ok (.iconst 1, 1) := by decide +kernel
theorem dX2_leastWinningMove_34 : decode cX2_leastWinningMove 34 = .ok (.iadd, 1) := by decide +kernel
theorem dX2_leastWinningMove_35 : decode cX2_leastWinningMove 35 = .ok (.istore_n 3, 1) := by decide +kernel
theorem dX2_leastWinningMove_36 : decode cX2_leastWinningMove 36 = .ok (.iload_n 3, 1) := by decide +kernel
theorem dX2_leastWinningMove_37 : decode cX2_leastWinningMove 37 = .ok (.iload_n 2, 1) := by decide +kernel
theorem dX2_leastWinningMove_38 : decode cX2_leastWinningMove 38 = .ok (.if_icmp .ge 35, 3) := by decide +kernel
theorem dX2_leastWinningMove_41 : decode cX2_leastWinningMove 41 = .ok (.iload_n 0, 1) := by decide +kernel
theorem dX2_leastWinningMove_42 : decode cX2_leastWinningMove 42 = .ok (.iload_n 2, 1) := by decide +kernel
theorem dX2_leastWinningMove_43 : decode cX2_leastWinningMove 43 = .ok (.invokestatic 19, 3) := by decide +kernel
theorem dX2_leastWinningMove_46 : decode cX2_leastWinningMove 46 = .ok (.iconst (-1), 1) := by decide +kernel
theorem dX2_leastWinningMove_47 : decode cX2_leastWinningMove 47 = .ok (.ixor, 1) := by decide +kernel
theorem dX2_leastWinningMove_48 : decode cX2_leastWinningMove 48 = .ok (.iand, 1) := by decide +kernel
theorem dX2_leastWinningMove_49 : decode cX2_leastWinningMove 49 = .ok (.iload_n 3, 1) := by decide +kernel
theorem dX2_leastWinningMove_50 : decode cX2_leastWinningMove 50 = .ok (.invokestatic 19, 3) := by decide +kernel
theorem dX2_leastWinningMove_53 : decode cX2_leastWinningMove 53 = .ok (.ior, 1) := by decide +kernel
theorem dX2_leastWinningMove_54 : decode cX2_leastWinningMove 54 = .ok (.invokestatic 15, 3) := by decide +kernel
theorem dX2_leastWinningMove_57 : decode cX2_leastWinningMove 57 = .ok (.ifCond .ne 10, 3) := by decide +kernel
theorem dX2_leastWinningMove_60 : decode cX2_leastWinningMove 60 = .ok (.bipush 100, 2) := by decide +kernel
theorem dX2_leastWinningMove_62 : decode cX2_leastWinningMove 62 = .ok (.iload_n 2, 1) := by decide +kernel
theorem dX2_leastWinningMove_63 : decode cX2_leastWinningMove 63 = .ok (.imul, 1) := by decide +kernel
theorem dX2_leastWinningMove_64 : decode cX2_leastWinningMove 64 = .ok (.iload_n 3, 1) := by decide +kernel
theorem dX2_leastWinningMove_65 : decode cX2_leastWinningMove 65 = .ok (.iadd, 1) := by decide +kernel
theorem dX2_leastWinningMove_66 : decode cX2_leastWinningMove 66 = .ok (.ireturn, 1) := by decide +kernel
theorem dX2_leastWinningMove_67 : decode cX2_leastWinningMove 67 = .ok (.iinc 3 1, 3) := by decide +kernel
theorem dX2_leastWinningMove_70 : decode cX2_leastWinningMove 70 = .ok (.goto (-34), 3) := by decide +kernel
theorem dX2_leastWinningMove_73 : decode cX2_leastWinningMove 73 = .ok (.iload_n 2, 1) := by decide +kernel
theorem dX2_leastWinningMove_74 : decode cX2_leastWinningMove 74 = .ok (.istore_n 1, 1) := by decide +kernel
theorem dX2_leastWinningMove_75 : decode cX2_leastWinningMove 75 = .ok (.iinc 2 1, 3) := by decide +kernel
theorem dX2_leastWinningMove_78 : decode cX2_leastWinningMove 78 = .ok (.goto (-64), 3) := by decide +kernel
theorem dX2_leastWinningMove_81 : decode cX2_leastWinningMove 81 = .ok (.bipush (-6), 2) := by decide +kernel
theorem dX2_leastWinningMove_83 : decode cX2_leastWinningMove 83 = .ok (.ireturn, 1) := by decide +kernel
theorem dX2_heapsOf_0 : decode cX2_heapsOf 0 = .ok (.iconst 0, 1) := by decide +kernel
theorem dX2_heapsOf_1 : decode cX2_heapsOf 1 = .ok (.istore_n 1, 1) := by decide +kernel
theorem dX2_heapsOf_2 : decode cX2_heapsOf 2 = .ok (.iconst 0, 1) := by decide +kernel
theorem dX2_heapsOf_3 : decode cX2_heapsOf 3 = .ok (.istore_n 2, 1) := by decide +kernel
theorem dX2_heapsOf_4 : decode cX2_heapsOf 4 = .ok (.bipush 12, 2) := by decide +kernel
theorem dX2_heapsOf_6 : decode cX2_heapsOf 6 = .ok (.istore_n 3, 1) := by decide +kernel
theorem dX2_heapsOf_7 : decode cX2_heapsOf 7 = .ok (.iload_n 3, 1) := by decide +kernel
theorem dX2_heapsOf_8 : decode cX2_heapsOf 8 = .ok (.iconst 1, 1) := by decide +kernel
theorem dX2_heapsOf_9 : decode cX2_heapsOf 9 = .ok (.if_icmp .lt 40, 3) := by decide +kernel
theorem dX2_heapsOf_12 : decode cX2_heapsOf 12 = .ok (.iload_n 0, 1) := by decide +kernel
theorem dX2_heapsOf_13 : decode cX2_heapsOf 13 = .ok (.iload_n 3, 1) := by decide +kernel
theorem dX2_heapsOf_14 : decode cX2_heapsOf 14 = .ok (.invokestatic 19, 3) := by decide +kernel
theorem dX2_heapsOf_17 : decode cX2_heapsOf 17 = .ok (.iand, 1) := by decide +kernel
theorem dX2_heapsOf_18 : decode cX2_heapsOf 18 = .ok (.ifCond .ne 6, 3) := by decide +kernel
theorem dX2_heapsOf_21 : decode cX2_heapsOf 21 = .ok (.goto 22, 3) := by decide +kernel
theorem dX2_heapsOf_24 : decode cX2_heapsOf 24 = .ok (.iload_n 2, 1) := by decide +kernel
theorem dX2_heapsOf_25 : decode cX2_heapsOf 25 = .ok (.ifCond .ne 8, 3) := by decide +kernel
theorem dX2_heapsOf_28 : decode cX2_heapsOf 28 = .ok (.iload_n 3, 1) := by decide +kernel
theorem dX2_heapsOf_29 : decode cX2_heapsOf 29 = .ok (.istore_n 2, 1) := by decide +kernel
theorem dX2_heapsOf_30 : decode cX2_heapsOf 30 = .ok (.goto 13, 3) := by decide +kernel
theorem dX2_heapsOf_33 : decode cX2_heapsOf 33 = .ok (.iload_n 1, 1) := by decide +kernel
theorem dX2_heapsOf_34 : decode cX2_heapsOf 34 = .ok (.iload_n 2, 1) := by decide +kernel
theorem dX2_heapsOf_35 : decode cX2_heapsOf 35 = .ok (.iload_n 3, 1) := by decide +kernel
theorem dX2_heapsOf_36 : decode cX2_heapsOf 36 = .ok (.isub, 1) := by decide +kernel
theorem dX2_heapsOf_37 : decode cX2_heapsOf 37 = .ok (.iconst 1, 1) := by decide +kernel
theorem dX2_heapsOf_38 : decode cX2_heapsOf 38 = .ok (.isub, 1) := by decide +kernel
theorem dX2_heapsOf_39 : decode cX2_heapsOf 39 = .ok (.ixor, 1) := by decide +kernel
theorem dX2_heapsOf_40 : decode cX2_heapsOf 40 = .ok (.istore_n 1, 1) := by decide +kernel
theorem dX2_heapsOf_41 : decode cX2_heapsOf 41 = .ok (.iconst 0, 1) := by decide +kernel
theorem dX2_heapsOf_42 : decode cX2_heapsOf 42 = .ok (.istore_n 2, 1) := by decide +kernel
theorem dX2_heapsOf_43 : decode cX2_heapsOf 43 = .ok (.iinc 3 (-1), 3) := by decide +kernel
theorem dX2_heapsOf_46 : decode cX2_heapsOf 46 = .ok (.goto (-39), 3) := by decide +kernel
theorem dX2_heapsOf_49 : decode cX2_heapsOf 49 = .ok (.iload_n 2, 1) := by decide +kernel
theorem dX2_heapsOf_50 : decode cX2_heapsOf 50 = .ok (.ifCond .ne 7, 3) := by decide +kernel
theorem dX2_heapsOf_53 : decode cX2_heapsOf 53 = .ok (.iload_n 1, 1) := by decide +kernel
theorem dX2_heapsOf_54 : decode cX2_heapsOf 54 = .ok (.goto 8, 3) := by decide +kernel
theorem dX2_heapsOf_57 : decode cX2_heapsOf 57 = .ok (.iload_n 1, 1) := by decide +kernel
theorem dX2_heapsOf_58 : decode cX2_heapsOf 58 = .ok (.iload_n 2, 1) := by decide +kernel
theorem dX2_heapsOf_59 : decode cX2_heapsOf 59 = .ok (.iconst 1, 1) := by decide +kernel
theorem dX2_heapsOf_60 : decode cX2_heapsOf 60 = .ok (.isub, 1) := by decide +kernel
theorem dX2_heapsOf_61 : decode cX2_heapsOf 61 = .ok (.ixor, 1) := by decide +kernel
theorem dX2_heapsOf_62 : decode cX2_heapsOf 62 = .ok (.ireturn, 1) := by decide +kernel
theorem dX3_init_0 : decode cX3_init 0 = .ok (.aload_n 0, 1) := by decide +kernel
theorem dX3_init_1 : decode cX3_init 1 = .ok (.invokespecial 3, 3) := by decide +kernel
theorem dX3_init_4 : decode cX3_init 4 = .ok (.aload_n 0, 1) := by decide +kernel
theorem dX3_init_5 : decode cX3_init 5 = .ok (.bipush 13, 2) := by decide +kernel
theorem dX3_init_7 : decode cX3_init 7 = .ok (.newarray .long, 2) := by decide +kernel
theorem dX3_init_9 : decode cX3_init 9 = .ok (.putfield 9, 3) := by decide +kernel
theorem dX3_init_12 : decode cX3_init 12 = .ok (.aload_n 0, 1) := by decide +kernel
theorem dX3_init_13 : decode cX3_init 13 = .ok (.lconst 0, 1) := by decide +kernel
theorem dX3_init_14 : decode cX3_init 14 = .ok (.putfield 15, 3) := by decide +kernel
theorem dX3_init_17 : decode cX3_init 17 = .ok (.aload_n 0, 1) := by decide +kernel
theorem dX3_init_18 : decode cX3_init 18 = .ok (.lconst 1, 1) := by decide +kernel
theorem dX3_init_19 : decode cX3_init 19 = .ok (.putfield 19, 3) := by decide +kernel
theorem dX3_init_22 : decode cX3_init 22 = .ok (.return_, 1) := by decide +kernel
theorem dX3_chanceOn_0 : decode cX3_chanceOn 0 = .ok (.aload_n 0, 1) := by decide +kernel
theorem dX3_chanceOn_1 : decode cX3_chanceOn 1 = .ok (.iload_n 1, 1) := by decide +kernel
theorem dX3_chanceOn_2 : decode cX3_chanceOn 2 = .ok (.invokevirtual 22, 3) := by decide +kernel
theorem dX3_chanceOn_5 : decode cX3_chanceOn 5 = .ok (.aload_n 0, 1) := by decide +kernel
theorem dX3_chanceOn_6 : decode cX3_chanceOn 6 = .ok (.iload_n 2, 1) := by decide +kernel
theorem dX3_chanceOn_7 : decode cX3_chanceOn 7 = .ok (.invokestatic 26, 3) := by decide +kernel
theorem dX3_chanceOn_10 : decode cX3_chanceOn 10 = .ok (.ifCond .eq 12, 3) := by decide +kernel
theorem dX3_chanceOn_13 : decode cX3_chanceOn 13 = .ok (.aload_n 0, 1) := by decide +kernel
theorem dX3_chanceOn_14 : decode cX3_chanceOn 14 = .ok (.getfield 9, 3) := by decide +kernel
theorem dX3_chanceOn_17 : decode cX3_chanceOn 17 = .ok (.iload_n 2, 1) := by decide +kernel
theorem dX3_chanceOn_18 : decode cX3_chanceOn 18 = .ok (.laload, 1) := by decide +kernel
theorem dX3_chanceOn_19 : decode cX3_chanceOn 19 = .ok (.goto 4, 3) := by decide +kernel
theorem dX3_chanceOn_22 : decode cX3_chanceOn 22 = .ok (.lconst 0, 1) := by decide +kernel
theorem dX3_chanceOn_23 : decode cX3_chanceOn 23 = .ok (.putfield 15, 3) := by decide +kernel
theorem dX3_chanceOn_26 : decode cX3_chanceOn 26 = .ok (.aload_n 0, 1) := by decide +kernel
theorem dX3_chanceOn_27 : decode cX3_chanceOn 27 = .ok (.iload_n 1, 1) := by decide +kernel
theorem dX3_chanceOn_28 : decode cX3_chanceOn 28 = .ok (.iload_n 2, 1) := by decide +kernel
theorem dX3_chanceOn_29 : decode cX3_chanceOn 29 = .ok (.invokestatic 30, 3) := by decide +kernel
theorem dX3_chanceOn_32 : decode cX3_chanceOn 32 = .ok (.putfield 19, 3) := by decide +kernel
theorem dX3_chanceOn_35 : decode cX3_chanceOn 35 = .ok (.return_, 1) := by decide +kernel
theorem dX3_meanStepsTo_0 : decode cX3_meanStepsTo 0 = .ok (.aload_n 0, 1) := by decide +kernel
theorem dX3_meanStepsTo_1 : decode cX3_meanStepsTo 1 = .ok (.iload_n 1, 1) := by decide +kernel
theorem dX3_meanStepsTo_2 : decode cX3_meanStepsTo 2 = .ok (.invokevirtual 22, 3) := by decide +kernel
theorem dX3_meanStepsTo_5 : decode cX3_meanStepsTo 5 = .ok (.aload_n 0, 1) := by decide +kernel
theorem dX3_meanStepsTo_6 : decode cX3_meanStepsTo 6 = .ok (.lconst 0, 1) := by decide +kernel
theorem dX3_meanStepsTo_7 : decode cX3_meanStepsTo 7 = .ok (.putfield 15, 3) := by decide +kernel
theorem dX3_meanStepsTo_10 : decode cX3_meanStepsTo 10 = .ok (.iconst 0, 1) := by decide +kernel
theorem dX3_meanStepsTo_11 : decode cX3_meanStepsTo 11 = .ok (.istore_n 3, 1) := by decide +kernel
theorem dX3_meanStepsTo_12 : decode cX3_meanStepsTo 12 = .ok (.iload_n 3, 1) := by decide +kernel
theorem dX3_meanStepsTo_13 : decode cX3_meanStepsTo 13 = .ok (.iload_n 2, 1) := by decide +kernel
theorem dX3_meanStepsTo_14 : decode cX3_meanStepsTo 14 = .ok (.if_icmp .ge 40, 3) := by decide +kernel
theorem dX3_meanStepsTo_17 : decode cX3_meanStepsTo 17 = .ok (.iload_n 3, 1) := by decide +kernel
theorem dX3_meanStepsTo_18 : decode cX3_meanStepsTo 18 = .ok (.bipush 12, 2) := by decide +kernel
theorem dX3_meanStepsTo_20 : decode cX3_meanStepsTo 20 = .ok (.if_icmp .gt 34, 3) := by decide +kernel
theorem dX3_meanStepsTo_23 : decode cX3_meanStepsTo 23 = .ok (.aload_n 0, 1) := by decide +kernel
theorem dX3_meanStepsTo_24 : decode cX3_meanStepsTo 24 = .ok (.dup, 1) := by decide +kernel
theorem dX3_meanStepsTo_25 : decode cX3_meanStepsTo 25 = .ok (.getfield 15, 3) := by decide +kernel
theorem dX3_meanStepsTo_28 : decode cX3_meanStepsTo 28 = .ok (.aload_n 0, 1) := by decide +kernel
theorem dX3_meanStepsTo_29 : decode cX3_meanStepsTo 29 = .ok (.getfield 9, 3) := by decide +kernel
theorem dX3_meanStepsTo_32 : decode cX3_meanStepsTo 32 = .ok (.iload_n 3, 1) := by decide +kernel
theorem dX3_meanStepsTo_33 : decode cX3_meanStepsTo 33 = .ok (.laload, 1) := by decide +kernel
theorem dX3_meanStepsTo_34 : decode cX3_meanStepsTo 34 = .ok (.iload_n 1, 1) := by decide +kernel
theorem dX3_meanStepsTo_35 : decode cX3_meanStepsTo 35 = .ok (.iload_n 2, 1) := by decide +kernel
theorem dX3_meanStepsTo_36 : decode cX3_meanStepsTo 36 = .ok (.iconst 1, 1) := by decide +kernel
theorem dX3_meanStepsTo_37 : decode cX3_meanStepsTo 37 = .ok (.isub, 1) := by decide +kernel
theorem dX3_meanStepsTo_38 : decode cX3_meanStepsTo 38 = .ok (.iload_n 3, 1) := by decide +kernel
theorem dX3_meanStepsTo_39 : decode cX3_meanStepsTo 39 = .ok (.isub, 1) := by decide +kernel
theorem dX3_meanStepsTo_40 : decode cX3_meanStepsTo 40 = .ok (.invokestatic 30, 3) := by decide +kernel
theorem dX3_meanStepsTo_43 : decode cX3_meanStepsTo 43 = .ok (.lmul, 1) := by decide +kernel
theorem dX3_meanStepsTo_44 : decode cX3_meanStepsTo 44 = .ok (.ladd, 1) := by decide +kernel
theorem dX3_meanStepsTo_45 : decode cX3_meanStepsTo 45 = .ok (.putfield 15, 3) := by decide +kernel
theorem dX3_meanStepsTo_48 : decode cX3_meanStepsTo 48 = .ok (.iinc 3 1, 3) := by decide +kernel
theorem dX3_meanStepsTo_51 : decode cX3_meanStepsTo 51 = .ok (.goto (-39), 3) := by decide +kernel
theorem dX3_meanStepsTo_54 : decode cX3_meanStepsTo 54 = .ok (.aload_n 0, 1) := by decide +kernel
theorem dX3_meanStepsTo_55 : decode cX3_meanStepsTo 55 = .ok (.iload_n 1, 1) := by decide +kernel
theorem dX3_meanStepsTo_56 : decode cX3_meanStepsTo 56 = .ok (.iload_n 2, 1) := by decide +kernel
theorem dX3_meanStepsTo_57 : decode cX3_meanStepsTo 57 = .ok (.iconst 1, 1) := by decide +kernel
theorem dX3_meanStepsTo_58 : decode cX3_meanStepsTo 58 = .ok (.isub, 1) := by decide +kernel
theorem dX3_meanStepsTo_59 : decode cX3_meanStepsTo 59 = .ok (.invokestatic 30, 3) := by decide +kernel
theorem dX3_meanStepsTo_62 : decode cX3_meanStepsTo 62 = .ok (.putfield 19, 3) := by decide +kernel
theorem dX3_meanStepsTo_65 : decode cX3_meanStepsTo 65 = .ok (.return_, 1) := by decide +kernel
theorem dX3_reckonChances_0 : decode cX3_reckonChances 0 = .ok (.aload_n 0, 1) := by decide +kernel
theorem dX3_reckonChances_1 : decode cX3_reckonChances 1 = .ok (.getfield 9, 3) := by decide +kernel
theorem dX3_reckonChances_4 : decode cX3_reckonChances 4 = .ok (.iconst 0, 1) := by decide +kernel
theorem dX3_reckonChances_5 : decode cX3_reckonChances 5 = .ok (.lconst 1, 1) := by decide +kernel
theorem dX3_reckonChances_6 : decode cX3_reckonChances 6 = .ok (.lastore, 1) := by decide +kernel
theorem dX3_reckonChances_7 : decode cX3_reckonChances 7 = .ok (.iconst 1, 1) := by decide +kernel
theorem dX3_reckonChances_8 : decode cX3_reckonChances 8 = .ok (.istore_n 2, 1) := by decide +kernel
theorem dX3_reckonChances_9 : decode cX3_reckonChances 9 = .ok (.iload_n 2, 1) := by decide +kernel
theorem dX3_reckonChances_10 : decode cX3_reckonChances 10 = .ok (.bipush 12, 2) := by decide +kernel
theorem dX3_reckonChances_12 : decode cX3_reckonChances 12 = .ok (.if_icmp .gt 60, 3) := by decide +kernel
theorem dX3_reckonChances_15 : decode cX3_reckonChances 15 = .ok (.lconst 0, 1) := by decide +kernel
theorem dX3_reckonChances_16 : decode cX3_reckonChances 16 = .ok (.lstore_n 3, 1) := by decide +kernel
theorem dX3_reckonChances_17 : decode cX3_reckonChances 17 = .ok (.iconst 1, 1) := by decide +kernel
theorem dX3_reckonChances_18 : decode cX3_reckonChances 18 = .ok (.istore 5, 2) := by decide +kernel
theorem dX3_reckonChances_20 : decode cX3_reckonChances 20 = .ok (.iload 5, 2) := by decide +kernel
theorem dX3_reckonChances_22 : decode cX3_reckonChances 22 = .ok (.iload_n 1, 1) := by decide +kernel
theorem dX3_reckonChances_23 : decode cX3_reckonChances 23 = .ok (.if_icmp .gt 36, 3) := by decide +kernel
theorem dX3_reckonChances_26 : decode cX3_reckonChances 26 = .ok (.iload 5, 2) := by decide +kernel
theorem dX3_reckonChances_28 : decode cX3_reckonChances 28 = .ok (.iload_n 2, 1) := by decide +kernel
theorem dX3_reckonChances_29 : decode cX3_reckonChances 29 = .ok (.if_icmp .gt 30, 3) := by decide +kernel
theorem dX3_reckonChances_32 : decode cX3_reckonChances 32 = .ok (.lload_n 3, 1) := by decide +kernel
theorem dX3_reckonChances_33 : decode cX3_reckonChances 33 = .ok (.aload_n 0, 1) := by decide +kernel
theorem dX3_reckonChances_34 : decode cX3_reckonChances 34 = .ok (.getfield 9, 3) := by decide +kernel
theorem dX3_reckonChances_37 : decode cX3_reckonChances 37 = .ok (.iload_n 2, 1) := by decide +kernel
theorem dX3_reckonChances_38 : decode cX3_reckonChances 38 = .ok (.iload 5, 2) := by decide +kernel
theorem dX3_reckonChances_40 : decode cX3_reckonChances 40 = .ok (.isub, 1) := by decide +kernel
theorem dX3_reckonChances_41 : decode cX3_reckonChances 41 = .ok (.laload, 1) := by decide +kernel
theorem dX3_reckonChances_42 : decode cX3_reckonChances 42 = .ok (.iload_n 1, 1) := by decide +kernel
theorem dX3_reckonChances_43 : decode cX3_reckonChances 43 = .ok (.iload 5, 2) := by decide +kernel
theorem dX3_reckonChances_45 : decode cX3_reckonChances 45 = .ok (.iconst 1, 1) := by decide +kernel
theorem dX3_reckonChances_46 : decode cX3_reckonChances 46 = .ok (.isub, 1) := by decide +kernel
theorem dX3_reckonChances_47 : decode cX3_reckonChances 47 = .ok (.invokestatic 30, 3) := by decide +kernel
theorem dX3_reckonChances_50 : decode cX3_reckonChances 50 = .ok (.lmul, 1) := by decide +kernel
theorem dX3_reckonChances_51 : decode cX3_reckonChances 51 = .ok (.ladd, 1) := by decide +kernel
theorem dX3_reckonChances_52 : decode cX3_reckonChances 52 = .ok (.lstore_n 3, 1) := by decide +kernel
theorem dX3_reckonChances_53 : decode cX3_reckonChances 53 = .ok (.iinc 5 1, 3) := by decide +kernel
theorem dX3_reckonChances_56 : decode cX3_reckonChances 56 = .ok (.goto (-36), 3) := by decide +kernel
theorem dX3_reckonChances_59 : decode cX3_reckonChances 59 = .ok (.aload_n 0, 1) := by decide +kernel
theorem dX3_reckonChances_60 : decode cX3_reckonChances 60 = .ok (.getfield 9, 3) := by decide +kernel
theorem dX3_reckonChances_63 : decode cX3_reckonChances 63 = .ok (.iload_n 2, 1) := by decide +kernel
theorem dX3_reckonChances_64 : decode cX3_reckonChances 64 = .ok (.lload_n 3, 1) := by decide +kernel
theorem dX3_reckonChances_65 : decode cX3_reckonChances 65 = .ok (.lastore, 1) := by decide +kernel
theorem dX3_reckonChances_66 : decode cX3_reckonChances 66 = .ok (.iinc 2 1, 3) := by decide +kernel
theorem dX3_reckonChances_69 : decode cX3_reckonChances 69 = .ok (.goto (-60), 3) := by decide +kernel
theorem dX3_reckonChances_72 : decode cX3_reckonChances 72 = .ok (.return_, 1) := by decide +kernel
theorem dX3_power_0 : decode cX3_power 0 = .ok (.lconst 1, 1) := by decide +kernel
theorem dX3_power_1 : decode cX3_power 1 = .ok (.lstore_n 2, 1) := by decide +kernel
theorem dX3_power_2 : decode cX3_power 2 = .ok (.iconst 0, 1) := by decide +kernel
theorem dX3_power_3 : decode cX3_power 3 = .ok (.istore 4, 2) := by decide +kernel
theorem dX3_power_5 : decode cX3_power 5 = .ok (.iload 4, 2) := by decide +kernel
theorem dX3_power_7 : decode cX3_power 7 = .ok (.iload_n 1, 1) := by decide +kernel
theorem dX3_power_8 : decode cX3_power 8 = .ok (.if_icmp .ge 21, 3) := by decide +kernel
theorem dX3_power_11 : decode cX3_power 11 = .ok (.iload 4, 2) := by decide +kernel
theorem dX3_power_13 : decode cX3_power 13 = .ok (.bipush 12, 2) := by decide +kernel
theorem dX3_power_15 : decode cX3_power 15 = .ok (.if_icmp .ge 14, 3) := by decide +kernel
theorem dX3_power_18 : decode cX3_power 18 = .ok (.lload_n 2, 1) := by decide +kernel
theorem dX3_power_19 : decode cX3_power 19 = .ok (.iload_n 0, 1) := by decide +kernel
theorem dX3_power_20 : decode cX3_power 20 = .ok (.i2l, 1) := by decide +kernel
theorem dX3_power_21 : decode cX3_power 21 = .ok (.lmul, 1) := by decide +kernel
theorem dX3_power_22 : decode cX3_power 22 = .ok (.lstore_n 2, 1) := by decide +kernel
theorem dX3_power_23 : decode cX3_power 23 = .ok (.iinc 4 1, 3) := by decide +kernel
theorem dX3_power_26 : decode cX3_power 26 = .ok (.goto (-21), 3) := by decide +kernel
theorem dX3_power_29 : decode cX3_power 29 = .ok (.lload_n 2, 1) := by decide +kernel
theorem dX3_power_30 : decode cX3_power 30 = .ok (.lreturn, 1) := by decide +kernel
theorem dX3_upperNumber_0 : decode cX3_upperNumber 0 = .ok (.aload_n 0, 1) := by decide +kernel
theorem dX3_upperNumber_1 : decode cX3_upperNumber 1 = .ok (.getfield 15, 3) := by decide +kernel
theorem dX3_upperNumber_4 : decode cX3_upperNumber 4 = .ok (.lreturn, 1) := by decide +kernel
theorem dX3_lowerNumber_0 : decode cX3_lowerNumber 0 = .ok (.aload_n 0, 1) := by decide +kernel
theorem dX3_lowerNumber_1 : decode cX3_lowerNumber 1 = .ok (.getfield 19, 3) := by decide +kernel
theorem dX3_lowerNumber_4 : decode cX3_lowerNumber 4 = .ok (.lreturn, 1) := by decide +kernel
theorem dX4_init_0 : decode cX4_init 0 = .ok (.aload_n 0, 1) := by decide +kernel
theorem dX4_init_1 : decode cX4_init 1 = .ok (.invokespecial 3, 3) := by decide +kernel
theorem dX4_init_4 : decode cX4_init 4 = .ok (.aload_n 0, 1) := by decide +kernel
theorem dX4_init_5 : decode cX4_init 5 = .ok (.new 9, 3) := by decide +kernel
theorem dX4_init_8 : decode cX4_init 8 = .ok (.dup, 1) := by decide +kernel
theorem dX4_init_9 : decode cX4_init 9 = .ok (.invokespecial 11, 3) := by decide +kernel
theorem dX4_init_12 : decode cX4_init 12 = .ok (.putfield 12, 3) := by decide +kernel
theorem dX4_init_15 : decode cX4_init 15 = .ok (.aload_n 0, 1) := by decide +kernel
theorem dX4_init_16 : decode cX4_init 16 = .ok (.new 18, 3) := by decide +kernel
theorem dX4_init_19 : decode cX4_init 19 = .ok (.dup, 1) := by decide +kernel
theorem dX4_init_20 : decode cX4_init 20 = .ok (.invokespecial 20, 3) := by decide +kernel
theorem dX4_init_23 : decode cX4_init 23 = .ok (.putfield 21, 3) := by decide +kernel
theorem dX4_init_26 : decode cX4_init 26 = .ok (.aload_n 0, 1) := by decide +kernel
theorem dX4_init_27 : decode cX4_init 27 = .ok (.iconst 0, 1) := by decide +kernel
theorem dX4_init_28 : decode cX4_init 28 = .ok (.putfield 25, 3) := by decide +kernel
theorem dX4_init_31 : decode cX4_init 31 = .ok (.aload_n 0, 1) := by decide +kernel
theorem dX4_init_32 : decode cX4_init 32 = .ok (.iconst 0, 1) := by decide +kernel
theorem dX4_init_33 : decode cX4_init 33 = .ok (.putfield 29, 3) := by decide +kernel
theorem dX4_init_36 : decode cX4_init 36 = .ok (.aload_n 0, 1) := by decide +kernel
theorem dX4_init_37 : decode cX4_init 37 = .ok (.iconst 0, 1) := by decide +kernel
theorem dX4_init_38 : decode cX4_init 38 = .ok (.putfield 32, 3) := by decide +kernel
theorem dX4_init_41 : decode cX4_init 41 = .ok (.aload_n 0, 1) := by decide +kernel
theorem dX4_init_42 : decode cX4_init 42 = .ok (.bipush (-6), 2) := by decide +kernel
theorem dX4_init_44 : decode cX4_init 44 = .ok (.putfield 35, 3) := by decide +kernel
theorem dX4_init_47 : decode cX4_init 47 = .ok (.aload_n 0, 1) := by decide +kernel
theorem dX4_init_48 : decode cX4_init 48 = .ok (.bipush (-6), 2) := by decide +kernel
theorem dX4_init_50 : decode cX4_init 50 = .ok (.putfield 38, 3) := by decide +kernel
theorem dX4_init_53 : decode cX4_init 53 = .ok (.aload_n 0, 1) := by decide +kernel
theorem dX4_init_54 : decode cX4_init 54 = .ok (.iconst 0, 1) := by decide +kernel
theorem dX4_init_55 : decode cX4_init 55 = .ok (.putfield 41, 3) := by decide +kernel
theorem dX4_init_58 : decode cX4_init 58 = .ok (.return_, 1) := by decide +kernel
theorem dX4_begin_0 : decode cX4_begin 0 = .ok (.aload_n 0, 1) := by decide +kernel
theorem dX4_begin_1 : decode cX4_begin 1 = .ok (.getfield 12, 3) := by decide +kernel
theorem dX4_begin_4 : decode cX4_begin 4 = .ok (.aload_n 1, 1) := by decide +kernel
theorem dX4_begin_5 : decode cX4_begin 5 = .ok (.invokevirtual 44, 3) := by decide +kernel
theorem dX4_begin_8 : decode cX4_begin 8 = .ok (.aload_n 0, 1) := by decide +kernel
theorem dX4_begin_9 : decode cX4_begin 9 = .ok (.iconst 0, 1) := by decide +kernel
theorem dX4_begin_10 : decode cX4_begin 10 = .ok (.putfield 25, 3) := by decide +kernel
theorem dX4_begin_13 : decode cX4_begin 13 = .ok (.aload_n 0, 1) := by decide +kernel
theorem dX4_begin_14 : decode cX4_begin 14 = .ok (.iconst 0, 1) := by decide +kernel
theorem dX4_begin_15 : decode cX4_begin 15 = .ok (.putfield 29, 3) := by decide +kernel
theorem dX4_begin_18 : decode cX4_begin 18 = .ok (.aload_n 0, 1) := by decide +kernel
theorem dX4_begin_19 : decode cX4_begin 19 = .ok (.iconst 0, 1) := by decide +kernel
theorem dX4_begin_20 : decode cX4_begin 20 = .ok (.putfield 32, 3) := by decide +kernel
theorem dX4_begin_23 : decode cX4_begin 23 = .ok (.aload_n 0, 1) := by decide +kernel
theorem dX4_begin_24 : decode cX4_begin 24 = .ok (.bipush (-6), 2) := by decide +kernel
theorem dX4_begin_26 : decode cX4_begin 26 = .ok (.putfield 35, 3) := by decide +kernel
theorem dX4_begin_29 : decode cX4_begin 29 = .ok (.aload_n 0, 1) := by decide +kernel
theorem dX4_begin_30 : decode cX4_begin 30 = .ok (.bipush (-6), 2) := by decide +kernel
theorem dX4_begin_32 : decode cX4_begin 32 = .ok (.putfield 38, 3) := by decide +kernel
theorem dX4_begin_35 : decode cX4_begin 35 = .ok (.aload_n 0, 1) := by decide +kernel
theorem dX4_begin_36 : decode cX4_begin 36 = .ok (.iconst 0, 1) := by decide +kernel
theorem dX4_begin_37 : decode cX4_begin 37 = .ok (.putfield 41, 3) := by decide +kernel
theorem dX4_begin_40 : decode cX4_begin 40 = .ok (.return_, 1) := by decide +kernel
theorem dX4_burn_0 : decode cX4_burn 0 = .ok (.aload_n 0, 1) := by decide +kernel
theorem dX4_burn_1 : decode cX4_burn 1 = .ok (.aload_n 2, 1) := by decide +kernel
theorem dX4_burn_2 : decode cX4_burn 2 = .ok (.invokevirtual 48, 3) := by decide +kernel
theorem dX4_burn_5 : decode cX4_burn 5 = .ok (.aload_n 1, 1) := by decide +kernel
theorem dX4_burn_6 : decode cX4_burn 6 = .ok (.invokevirtual 51, 3) := by decide +kernel
theorem dX4_burn_9 : decode cX4_burn 9 = .ok (.bipush (-6), 2) := by decide +kernel
theorem dX4_burn_11 : decode cX4_burn 11 = .ok (.if_icmp .eq 5, 3) := by decide +kernel
theorem dX4_burn_14 : decode cX4_burn 14 = .ok (.iconst 0, 1) := by decide +kernel
theorem dX4_burn_15 : decode cX4_burn 15 = .ok (.ireturn, 1) := by decide +kernel
theorem dX4_burn_16 : decode cX4_burn 16 = .ok (.iconst 0, 1) := by decide +kernel
theorem dX4_burn_17 : decode cX4_burn 17 = .ok (.istore_n 3, 1) := by decide +kernel
theorem dX4_burn_18 : decode cX4_burn 18 = .ok (.iconst 0, 1) := by decide +kernel
theorem dX4_burn_19 : decode cX4_burn 19 = .ok (.istore 4, 2) := by decide +kernel
theorem dX4_burn_21 : decode cX4_burn 21 = .ok (.iload 4, 2) := by decide +kernel
theorem dX4_burn_23 : decode cX4_burn 23 = .ok (.bipush 60, 2) := by decide +kernel
theorem dX4_burn_25 : decode cX4_burn 25 = .ok (.if_icmp .ge 51, 3) := by decide +kernel
theorem dX4_burn_28 : decode cX4_burn 28 = .ok (.iload_n 3, 1) := by decide +kernel
theorem dX4_burn_29 : decode cX4_burn 29 = .ok (.aload_n 1, 1) := by decide +kernel
theorem dX4_burn_30 : decode cX4_burn 30 = .ok (.invokevirtual 57, 3) := by decide +kernel
theorem dX4_burn_33 : decode cX4_burn 33 = .ok (.if_icmp .ge 43, 3) := by decide +kernel
theorem dX4_burn_36 : decode cX4_burn 36 = .ok (.aload_n 1, 1) := by decide +kernel
theorem dX4_burn_37 : decode cX4_burn 37 = .ok (.iload_n 3, 1) := by decide +kernel
theorem dX4_burn_38 : decode cX4_burn 38 = .ok (.invokevirtual 60, 3) := by decide +kernel
theorem dX4_burn_41 : decode cX4_burn 41 = .ok (.istore 5, 2) := by decide +kernel
theorem dX4_burn_43 : decode cX4_burn 43 = .ok (.aload_n 1, 1) := by decide +kernel
theorem dX4_burn_44 : decode cX4_burn 44 = .ok (.iload_n 3, 1) := by decide +kernel
theorem dX4_burn_45 : decode cX4_burn 45 = .ok (.iload 5, 2) := by decide +kernel
theorem dX4_burn_47 : decode cX4_burn 47 = .ok (.aload_n 0, 1) := by decide +kernel
theorem dX4_burn_48 : decode cX4_burn 48 = .ok (.getfield 21, 3) := by decide +kernel
theorem dX4_burn_51 : decode cX4_burn 51 = .ok (.invokevirtual 64, 3) := by decide +kernel
theorem dX4_burn_54 : decode cX4_burn 54 = .ok (.aload_n 0, 1) := by decide +kernel
theorem dX4_burn_55 : decode cX4_burn 55 = .ok (.aload_n 0, 1) := by decide +kernel
theorem dX4_burn_56 : decode cX4_burn 56 = .ok (.getfield 21, 3) := by decide +kernel
theorem dX4_burn_59 : decode cX4_burn 59 = .ok (.invokevirtual 68, 3) := by decide +kernel
theorem dX4_burn_62 : decode cX4_burn 62 = .ok (.ifCond .ne 5, 3) := by decide +kernel
theorem dX4_burn_65 : decode cX4_burn 65 = .ok (.iconst 0, 1) := by decide +kernel
theorem dX4_burn_66 : decode cX4_burn 66 = .ok (.ireturn, 1) := by decide +kernel
theorem dX4_burn_67 : decode cX4_burn 67 = .ok (.iload 5, 2) := by decide +kernel
theorem dX4_burn_69 : decode cX4_burn 69 = .ok (.istore_n 3, 1) := by decide +kernel
theorem dX4_burn_70 : decode cX4_burn 70 = .ok (.iinc 4 1, 3) := by decide +kernel
theorem dX4_burn_73 : decode cX4_burn 73 = .ok (.goto (-52), 3) := by decide +kernel
theorem dX4_burn_76 : decode cX4_burn 76 = .ok (.iconst 1, 1) := by decide +kernel
theorem dX4_burn_77 : decode cX4_burn 77 = .ok (.ireturn, 1) := by decide +kernel
theorem dX4_attempt_0 : decode cX4_attempt 0 = .ok (.aload_n 0, 1) := by decide +kernel
theorem dX4_attempt_1 : decode cX4_attempt 1 = .ok (.aload_n 0, 1) := by decide +kernel
theorem dX4_attempt_2 : decode cX4_attempt 2 = .ok (.getfield 12, 3) := by decide +kernel
theorem dX4_attempt_5 : decode cX4_attempt 5 = .ok (.aload_n 1, 1) := by decide +kernel
theorem dX4_attempt_6 : decode cX4_attempt 6 = .ok (.invokevirtual 72, 3) := by decide +kernel
theorem dX4_attempt_9 : decode cX4_attempt 9 = .ok (.putfield 41, 3) := by decide +kernel
theorem dX4_attempt_12 : decode cX4_attempt 12 = .ok (.aload_n 0, 1) := by decide +kernel
theorem dX4_attempt_13 : decode cX4_attempt 13 = .ok (.getfield 41, 3) := by decide +kernel
theorem dX4_attempt_16 : decode cX4_attempt 16 = .ok (.ifCond .eq 5, 3) := by decide +kernel
theorem dX4_attempt_19 : decode cX4_attempt 19 = .ok (.iconst 0, 1) := by decide +kernel
theorem dX4_attempt_20 : decode cX4_attempt 20 = .ok (.ireturn, 1) := by decide +kernel
theorem dX4_attempt_21 : decode cX4_attempt 21 = .ok (.aload_n 0, 1) := by decide +kernel
theorem dX4_attempt_22 : decode cX4_attempt 22 = .ok (.getfield 12, 3) := by decide +kernel
theorem dX4_attempt_25 : decode cX4_attempt 25 = .ok (.aload_n 1, 1) := by decide +kernel
theorem dX4_attempt_26 : decode cX4_attempt 26 = .ok (.invokevirtual 76, 3) := by decide +kernel
theorem dX4_attempt_29 : decode cX4_attempt 29 = .ok (.aload_n 0, 1) := by decide +kernel
theorem dX4_attempt_30 : decode cX4_attempt 30 = .ok (.aload_n 1, 1) := by decide +kernel
theorem dX4_attempt_31 : decode cX4_attempt 31 = .ok (.invokevirtual 80, 3) := by decide +kernel
theorem dX4_attempt_34 : decode cX4_attempt 34 = .ok (.aload_n 0, 1) := by decide +kernel
theorem dX4_attempt_35 : decode cX4_attempt 35 = .ok (.dup, 1) := by decide +kernel
theorem dX4_attempt_36 : decode cX4_attempt 36 = .ok (.getfield 25, 3) := by decide +kernel
theorem dX4_attempt_39 : decode cX4_attempt 39 = .ok (.iconst 1, 1) := by decide +kernel
theorem dX4_attempt_40 : decode cX4_attempt 40 = .ok (.iadd, 1) := by decide +kernel
theorem dX4_attempt_41 : decode cX4_attempt 41 = .ok (.putfield 25, 3) := by decide +kernel
theorem dX4_attempt_44 : decode cX4_attempt 44 = .ok (.iconst 1, 1) := by decide +kernel
theorem dX4_attempt_45 : decode cX4_attempt 45 = .ok (.ireturn, 1) := by decide +kernel
theorem dX4_count_0 : decode cX4_count 0 = .ok (.aload_n 1, 1) := by decide +kernel
theorem dX4_count_1 : decode cX4_count 1 = .ok (.invokevirtual 83, 3) := by decide +kernel
theorem dX4_count_4 : decode cX4_count 4 = .ok (.iconst 1, 1) := by decide +kernel
theorem dX4_count_5 : decode cX4_count 5 = .ok (.if_icmp .ne 13, 3) := by decide +kernel
theorem dX4_count_8 : decode cX4_count 8 = .ok (.aload_n 0, 1) := by decide +kernel
theorem dX4_count_9 : decode cX4_count 9 = .ok (.dup, 1) := by decide +kernel
theorem dX4_count_10 : decode cX4_count 10 = .ok (.getfield 32, 3) := by decide +kernel
theorem dX4_count_13 : decode cX4_count 13 = .ok (.iconst 1, 1) := by decide +kernel
theorem dX4_count_14 : decode cX4_count 14 = .ok (.iadd, 1) := by decide +kernel
theorem dX4_count_15 : decode cX4_count 15 = .ok (.putfield 32, 3) := by decide +kernel
theorem dX4_count_18 : decode cX4_count 18 = .ok (.aload_n 1, 1) := by decide +kernel
theorem dX4_count_19 : decode cX4_count 19 = .ok (.invokevirtual 83, 3) := by decide +kernel
theorem dX4_count_22 : decode cX4_count 22 = .ok (.ifCond .eq 4, 3) := by decide +kernel
theorem dX4_count_25 : decode cX4_count 25 = .ok (.return_, 1) := by decide +kernel
theorem dX4_count_26 : decode cX4_count 26 = .ok (.aload_n 0, 1) := by decide +kernel
theorem dX4_count_27 : decode cX4_count 27 = .ok (.dup, 1) := by decide +kernel
theorem dX4_count_28 : decode cX4_count 28 = .ok (.getfield 29, 3) := by decide +kernel
theorem dX4_count_31 : decode cX4_count 31 = .ok (.iconst 1, 1) := by decide +kernel
theorem dX4_count_32 : decode cX4_count 32 = .ok (.iadd, 1) := by decide +kernel
theorem dX4_count_33 : decode cX4_count 33 = .ok (.putfield 29, 3) := by decide +kernel
theorem dX4_count_36 : decode cX4_count 36 = .ok (.aload_n 1, 1) := by decide +kernel
theorem dX4_count_37 : decode cX4_count 37 = .ok (.invokevirtual 86, 3) := by decide +kernel
theorem dX4_count_40 : decode cX4_count 40 = .ok (.bipush 13, 2) := by decide +kernel
theorem dX4_count_42 : decode cX4_count 42 = .ok (.if_icmp .ne 28, 3) := by decide +kernel
theorem dX4_count_45 : decode cX4_count 45 = .ok (.aload_n 0, 1) := by decide +kernel
theorem dX4_count_46 : decode cX4_count 46 = .ok (.getfield 35, 3) := by decide +kernel
theorem dX4_count_49 : decode cX4_count 49 = .ok (.bipush (-6), 2) := by decide +kernel
theorem dX4_count_51 : decode cX4_count 51 = .ok (.if_icmp .ne 19, 3) := by decide +kernel
theorem dX4_count_54 : decode cX4_count 54 = .ok (.aload_n 0, 1) := by decide +kernel
theorem dX4_count_55 : decode cX4_count 55 = .ok (.aload_n 0, 1) := by decide +kernel
theorem dX4_count_56 : decode cX4_count 56 = .ok (.getfield 25, 3) := by decide +kernel
theorem dX4_count_59 : decode cX4_count 59 = .ok (.putfield 35, 3) := by decide +kernel
theorem dX4_count_62 : decode cX4_count 62 = .ok (.aload_n 0, 1) := by decide +kernel
theorem dX4_count_63 : decode cX4_count 63 = .ok (.aload_n 1, 1) := by decide +kernel
theorem dX4_count_64 : decode cX4_count 64 = .ok (.invokevirtual 89, 3) := by decide +kernel
theorem dX4_count_67 : decode cX4_count 67 = .ok (.putfield 38, 3) := by decide +kernel
theorem dX4_count_70 : decode cX4_count 70 = .ok (.return_, 1) := by decide +kernel
theorem dX4_reason_0 : decode cX4_reason 0 = .ok (.aload_n 0, 1) := by decide +kernel
theorem dX4_reason_1 : decode cX4_reason 1 = .ok (.getfield 41, 3) := by decide +kernel
theorem dX4_reason_4 : decode cX4_reason 4 = .ok (.ireturn, 1) := by decide +kernel
theorem dX4_actsDone_0 : decode cX4_actsDone 0 = .ok (.aload_n 0, 1) := by decide +kernel
theorem dX4_actsDone_1 : decode cX4_actsDone 1 = .ok (.getfield 25, 3) := by decide +kernel
theorem dX4_actsDone_4 : decode cX4_actsDone 4 = .ok (.ireturn, 1) := by decide +kernel
theorem dX4_stepsMade_0 : decode cX4_stepsMade 0 = .ok (.aload_n 0, 1) := by decide +kernel
theorem dX4_stepsMade_1 : decode cX4_stepsMade 1 = .ok (.getfield 29, 3) := by decide +kernel
theorem dX4_stepsMade_4 : decode cX4_stepsMade 4 = .ok (.ireturn, 1) := by decide +kernel
theorem dX4_coinsPaid_0 : decode cX4_coinsPaid 0 = .ok (.aload_n 0, 1) := by decide +kernel
theorem dX4_coinsPaid_1 : decode cX4_coinsPaid 1 = .ok (.getfield 32, 3) := by decide +kernel
theorem dX4_coinsPaid_4 : decode cX4_coinsPaid 4 = .ok (.ireturn, 1) := by decide +kernel
theorem dX4_firstActUp_0 : decode cX4_firstActUp 0 = .ok (.aload_n 0, 1) := by decide +kernel
theorem dX4_firstActUp_1 : decode cX4_firstActUp 1 = .ok (.getfield 35, 3) := by decide +kernel
theorem dX4_firstActUp_4 : decode cX4_firstActUp 4 = .ok (.ireturn, 1) := by decide +kernel
theorem dX4_firstManUp_0 : decode cX4_firstManUp 0 = .ok (.aload_n 0, 1) := by decide +kernel
theorem dX4_firstManUp_1 : decode cX4_firstManUp 1 = .ok (.getfield 38, 3) := by decide +kernel
theorem dX4_firstManUp_4 : decode cX4_firstManUp 4 = .ok (.ireturn, 1) := by decide +kernel
theorem dX4_behindIt_0 : decode cX4_behindIt 0 = .ok (.aload_n 0, 1) := by decide +kernel
theorem dX4_behindIt_1 : decode cX4_behindIt 1 = .ok (.getfield 12, 3) := by decide +kernel
theorem dX4_behindIt_4 : decode cX4_behindIt 4 = .ok (.areturn, 1) := by decide +kernel
theorem dX5_init_0 : decode cX5_init 0 = .ok (.aload_n 0, 1) := by decide +kernel
theorem dX5_init_1 : decode cX5_init 1 = .ok (.invokespecial 3, 3) := by decide +kernel
theorem dX5_init_4 : decode cX5_init 4 = .ok (.aload_n 0, 1) := by decide +kernel
theorem dX5_init_5 : decode cX5_init 5 = .ok (.bipush 60, 2) := by decide +kernel
theorem dX5_init_7 : decode cX5_init 7 = .ok (.newarray .char, 2) := by decide +kernel
theorem dX5_init_9 : decode cX5_init 9 = .ok (.putfield 9, 3) := by decide +kernel
theorem dX5_init_12 : decode cX5_init 12 = .ok (.aload_n 0, 1) := by decide +kernel
theorem dX5_init_13 : decode cX5_init 13 = .ok (.iconst 0, 1) := by decide +kernel
theorem dX5_init_14 : decode cX5_init 14 = .ok (.putfield 15, 3) := by decide +kernel
theorem dX5_init_17 : decode cX5_init 17 = .ok (.return_, 1) := by decide +kernel
theorem dX5_add_0 : decode cX5_add 0 = .ok (.aload_n 0, 1) := by decide +kernel
theorem dX5_add_1 : decode cX5_add 1 = .ok (.getfield 15, 3) := by decide +kernel
theorem dX5_add_4 : decode cX5_add 4 = .ok (.ifCond .lt 12, 3) := by decide +kernel
theorem dX5_add_7 : decode cX5_add 7 = .ok (.aload_n 0, 1) := by decide +kernel
theorem dX5_add_8 : decode cX5_add 8 = .ok (.getfield 15, 3) := by decide +kernel
theorem dX5_add_11 : decode cX5_add 11 = .ok (.bipush 60, 2) := by decide +kernel
theorem dX5_add_13 : decode cX5_add 13 = .ok (.if_icmp .lt 5, 3) := by decide +kernel
theorem dX5_add_16 : decode cX5_add 16 = .ok (.iconst 0, 1) := by decide +kernel
theorem dX5_add_17 : decode cX5_add 17 = .ok (.ireturn, 1) := by decide +kernel
theorem dX5_add_18 : decode cX5_add 18 = .ok (.aload_n 0, 1) := by decide +kernel
theorem dX5_add_19 : decode cX5_add 19 = .ok (.getfield 9, 3) := by decide +kernel
theorem dX5_add_22 : decode cX5_add 22 = .ok (.aload_n 0, 1) := by decide +kernel
theorem dX5_add_23 : decode cX5_add 23 = .ok (.getfield 15, 3) := by decide +kernel
theorem dX5_add_26 : decode cX5_add 26 = .ok (.iload_n 1, 1) := by decide +kernel
theorem dX5_add_27 : decode cX5_add 27 = .ok (.i2c, 1) := by decide +kernel
theorem dX5_add_28 : decode cX5_add 28 = .ok (.castore, 1) := by decide +kernel
theorem dX5_add_29 : decode cX5_add 29 = .ok (.aload_n 0, 1) := by decide +kernel
theorem dX5_add_30 : decode cX5_add 30 = .ok (.dup, 1) := by decide +kernel
theorem dX5_add_31 : decode cX5_add 31 = .ok (.getfield 15, 3) := by decide +kernel
theorem dX5_add_34 : decode cX5_add 34 = .ok (.iconst 1, 1) := by decide +kernel
theorem dX5_add_35 : decode cX5_add 35 = .ok (.iadd, 1) := by decide +kernel
theorem dX5_add_36 : decode cX5_add 36 = .ok (.putfield 15, 3) := by decide +kernel
theorem dX5_add_39 : decode cX5_add 39 = .ok (.iconst 1, 1) := by decide +kernel
theorem dX5_add_40 : decode cX5_add 40 = .ok (.ireturn, 1) := by decide +kernel
theorem dX5_clear_0 : decode cX5_clear 0 = .ok (.aload_n 0, 1) := by decide +kernel
theorem dX5_clear_1 : decode cX5_clear 1 = .ok (.iconst 0, 1) := by decide +kernel
theorem dX5_clear_2 : decode cX5_clear 2 = .ok (.putfield 15, 3) := by decide +kernel
theorem dX5_clear_5 : decode cX5_clear 5 = .ok (.return_, 1) := by decide +kernel
theorem dX5_size_0 : decode cX5_size 0 = .ok (.aload_n 0, 1) := by decide +kernel
theorem dX5_size_1 : decode cX5_size 1 = .ok (.getfield 15, 3) := by decide +kernel
theorem dX5_size_4 : decode cX5_size 4 = .ok (.ireturn, 1) := by decide +kernel
theorem dX5_signAt_0 : decode cX5_signAt 0 = .ok (.iload_n 1, 1) := by decide +kernel
theorem dX5_signAt_1 : decode cX5_signAt 1 = .ok (.ifCond .lt 26, 3) := by decide +kernel
theorem dX5_signAt_4 : decode cX5_signAt 4 = .ok (.iload_n 1, 1) := by decide +kernel
theorem dX5_signAt_5 : decode cX5_signAt 5 = .ok (.aload_n 0, 1) := by decide +kernel
theorem dX5_signAt_6 : decode cX5_signAt 6 = .ok (.getfield 15, 3) := by decide +kernel
theorem dX5_signAt_9 : decode cX5_signAt 9 = .ok (.if_icmp .ge 18, 3) := by decide +kernel
theorem dX5_signAt_12 : decode cX5_signAt 12 = .ok (.iload_n 1, 1) := by decide +kernel
theorem dX5_signAt_13 : decode cX5_signAt 13 = .ok (.bipush 60, 2) := by decide +kernel
theorem dX5_signAt_15 : decode cX5_signAt 15 = .ok (.if_icmp .ge 12, 3) := by decide +kernel
theorem dX5_signAt_18 : decode cX5_signAt 18 = .ok (.aload_n 0, 1) := by decide +kernel
theorem dX5_signAt_19 : decode cX5_signAt 19 = .ok (.getfield 9, 3) := by decide +kernel
theorem dX5_signAt_22 : decode cX5_signAt 22 = .ok (.iload_n 1, 1) := by decide +kernel
theorem dX5_signAt_23 : decode cX5_signAt 23 = .ok (.caload, 1) := by decide +kernel
theorem dX5_signAt_24 : decode cX5_signAt 24 = .ok (.goto 4, 3) := by decide +kernel
theorem dX5_signAt_27 : decode cX5_signAt 27 = .ok (.iconst 0, 1) := by decide +kernel
theorem dX5_signAt_28 : decode cX5_signAt 28 = .ok (.ireturn, 1) := by decide +kernel
theorem dX5_firstFault_0 : decode cX5_firstFault 0 = .ok (.iconst 0, 1) := by decide +kernel
theorem dX5_firstFault_1 : decode cX5_firstFault 1 = .ok (.istore_n 1, 1) := by decide +kernel
theorem dX5_firstFault_2 : decode cX5_firstFault 2 = .ok (.iconst 0, 1) := by decide +kernel
theorem dX5_firstFault_3 : decode cX5_firstFault 3 = .ok (.istore_n 2, 1) := by decide +kernel
theorem dX5_firstFault_4 : decode cX5_firstFault 4 = .ok (.iload_n 2, 1) := by decide +kernel
theorem dX5_firstFault_5 : decode cX5_firstFault 5 = .ok (.bipush 60, 2) := by decide +kernel
theorem dX5_firstFault_7 : decode cX5_firstFault 7 = .ok (.if_icmp .ge 43, 3) := by decide +kernel
theorem dX5_firstFault_10 : decode cX5_firstFault 10 = .ok (.iload_n 1, 1) := by decide +kernel
theorem dX5_firstFault_11 : decode cX5_firstFault 11 = .ok (.aload_n 0, 1) := by decide +kernel
theorem dX5_firstFault_12 : decode cX5_firstFault 12 = .ok (.getfield 15, 3) := by decide +kernel
theorem dX5_firstFault_15 : decode cX5_firstFault 15 = .ok (.if_icmp .ge 35, 3) := by decide +kernel
theorem dX5_firstFault_18 : decode cX5_firstFault 18 = .ok (.aload_n 0, 1) := by decide +kernel
theorem dX5_firstFault_19 : decode cX5_firstFault 19 = .ok (.iload_n 1, 1) := by decide +kernel
theorem dX5_firstFault_20 : decode cX5_firstFault 20 = .ok (.invokevirtual 19, 3) := by decide +kernel
theorem dX5_firstFault_23 : decode cX5_firstFault 23 = .ok (.istore_n 3, 1) := by decide +kernel
theorem dX5_firstFault_24 : decode cX5_firstFault 24 = .ok (.aload_n 0, 1) := by decide +kernel
theorem dX5_firstFault_25 : decode cX5_firstFault 25 = .ok (.iload_n 1, 1) := by decide +kernel
theorem dX5_firstFault_26 : decode cX5_firstFault 26 = .ok (.iload_n 3, 1) := by decide +kernel
theorem dX5_firstFault_27 : decode cX5_firstFault 27 = .ok (.invokevirtual 23, 3) := by decide +kernel
theorem dX5_firstFault_30 : decode cX5_firstFault 30 = .ok (.istore 4, 2) := by decide +kernel
theorem dX5_firstFault_32 : decode cX5_firstFault 32 = .ok (.iload 4, 2) := by decide +kernel
theorem dX5_firstFault_34 : decode cX5_firstFault 34 = .ok (.bipush (-6), 2) := by decide +kernel
theorem dX5_firstFault_36 : decode cX5_firstFault 36 = .ok (.if_icmp .eq 6, 3) := by decide +kernel
theorem dX5_firstFault_39 : decode cX5_firstFault 39 = .ok (.iload 4, 2) := by decide +kernel
theorem dX5_firstFault_41 : decode cX5_firstFault 41 = .ok (.ireturn, 1) := by decide +kernel
theorem dX5_firstFault_42 : decode cX5_firstFault 42 = .ok (.iload_n 3, 1) := by decide +kernel
theorem dX5_firstFault_43 : decode cX5_firstFault 43 = .ok (.istore_n 1, 1) := by decide +kernel
theorem dX5_firstFault_44 : decode cX5_firstFault 44 = .ok (.iinc 2 1, 3) := by decide +kernel
theorem dX5_firstFault_47 : decode cX5_firstFault 47 = .ok (.goto (-43), 3) := by decide +kernel
theorem dX5_firstFault_50 : decode cX5_firstFault 50 = .ok (.bipush (-6), 2) := by decide +kernel
theorem dX5_firstFault_52 : decode cX5_firstFault 52 = .ok (.ireturn, 1) := by decide +kernel
theorem dX5_endOfAct_0 : decode cX5_endOfAct 0 = .ok (.aload_n 0, 1) := by decide +kernel
theorem dX5_endOfAct_1 : decode cX5_endOfAct 1 = .ok (.iload_n 1, 1) := by decide +kernel
theorem dX5_endOfAct_2 : decode cX5_endOfAct 2 = .ok (.invokevirtual 27, 3) := by decide +kernel
theorem dX5_endOfAct_5 : decode cX5_endOfAct 5 = .ok (.invokestatic 31, 3) := by decide +kernel
theorem dX5_endOfAct_8 : decode cX5_endOfAct 8 = .ok (.ifCond .ne 7, 3) := by decide +kernel
theorem dX5_endOfAct_11 : decode cX5_endOfAct 11 = .ok (.iload_n 1, 1) := by decide +kernel
theorem dX5_endOfAct_12 : decode cX5_endOfAct 12 = .ok (.iconst 1, 1) := by decide +kernel
theorem dX5_endOfAct_13 : decode cX5_endOfAct 13 = .ok (.iadd, 1) := by decide +kernel
theorem dX5_endOfAct_14 : decode cX5_endOfAct 14 = .ok (.ireturn, 1) := by decide +kernel
theorem dX5_endOfAct_15 : decode cX5_endOfAct 15 = .ok (.aload_n 0, 1) := by decide +kernel
theorem dX5_endOfAct_16 : decode cX5_endOfAct 16 = .ok (.iload_n 1, 1) := by decide +kernel
theorem dX5_endOfAct_17 : decode cX5_endOfAct 17 = .ok (.iconst 1, 1) := by decide +kernel
theorem dX5_endOfAct_18 : decode cX5_endOfAct 18 = .ok (.iadd, 1) := by decide +kernel
theorem dX5_endOfAct_19 : decode cX5_endOfAct 19 = .ok (.invokevirtual 27, 3) := by decide +kernel
theorem dX5_endOfAct_22 : decode cX5_endOfAct 22 = .ok (.bipush 37, 2) := by decide +kernel
theorem dX5_endOfAct_24 : decode cX5_endOfAct 24 = .ok (.if_icmp .ne 20, 3) := by decide +kernel
theorem dX5_endOfAct_27 : decode cX5_endOfAct 27 = .ok (.aload_n 0, 1) := by decide +kernel
theorem dX5_endOfAct_28 : decode cX5_endOfAct 28 = .ok (.iload_n 1, 1) := by decide +kernel
theorem dX5_endOfAct_29 : decode cX5_endOfAct 29 = .ok (.invokevirtual 27, 3) := by decide +kernel
theorem dX5_endOfAct_32 : decode cX5_endOfAct 32 = .ok (.invokestatic 35, 3) := by decide +kernel
theorem dX5_endOfAct_35 : decode cX5_endOfAct 35 = .ok (.ifCond .eq 9, 3) := by decide +kernel
theorem dX5_endOfAct_38 : decode cX5_endOfAct 38 = .ok (.iload_n 1, 1) := by decide +kernel
theorem dX5_endOfAct_39 : decode cX5_endOfAct 39 = .ok (.iconst 3, 1) := by decide +kernel
theorem dX5_endOfAct_40 : decode cX5_endOfAct 40 = .ok (.iadd, 1) := by decide +kernel
theorem dX5_endOfAct_41 : decode cX5_endOfAct 41 = .ok (.goto 6, 3) := by decide +kernel
theorem dX5_endOfAct_44 : decode cX5_endOfAct 44 = .ok (.iload_n 1, 1) := by decide +kernel
theorem dX5_endOfAct_45 : decode cX5_endOfAct 45 = .ok (.iconst 2, 1) := by decide +kernel
theorem dX5_endOfAct_46 : decode cX5_endOfAct 46 = .ok (.iadd, 1) := by decide +kernel
theorem dX5_endOfAct_47 : decode cX5_endOfAct 47 = .ok (.ireturn, 1) := by decide +kernel
theorem dX5_firstWrongSign_0 : decode cX5_firstWrongSign 0 = .ok (.aload_n 0, 1) := by decide +kernel
theorem dX5_firstWrongSign_1 : decode cX5_firstWrongSign 1 = .ok (.iload_n 1, 1) := by decide +kernel
theorem dX5_firstWrongSign_2 : decode cX5_firstWrongSign 2 = .ok (.invokevirtual 27, 3) := by decide +kernel
theorem dX5_firstWrongSign_5 : decode cX5_firstWrongSign 5 = .ok (.istore_n 3, 1) := by decide +kernel
theorem dX5_firstWrongSign_6 : decode cX5_firstWrongSign 6 = .ok (.iload_n 3, 1) := by decide +kernel
theorem dX5_firstWrongSign_7 : decode cX5_firstWrongSign 7 = .ok (.bipush 46, 2) := by decide +kernel
theorem dX5_firstWrongSign_9 : decode cX5_firstWrongSign 9 = .ok (.if_icmp .ne 6, 3) := by decide +kernel
theorem dX5_firstWrongSign_12 : decode cX5_firstWrongSign 12 = .ok (.bipush (-6), 2) := by decide +kernel
theorem dX5_firstWrongSign_14 : decode cX5_firstWrongSign 14 = .ok (.ireturn, 1) := by decide +kernel
theorem dX5_firstWrongSign_15 : decode cX5_firstWrongSign 15 = .ok (.iload_n 3, 1) := by decide +kernel
theorem dX5_firstWrongSign_16 : decode cX5_firstWrongSign 16 = .ok (.invokestatic 31, 3) := by decide +kernel
theorem dX5_firstWrongSign_19 : decode cX5_firstWrongSign 19 = .ok (.ifCond .ne 5, 3) := by decide +kernel
theorem dX5_firstWrongSign_22 : decode cX5_firstWrongSign 22 = .ok (.iload_n 1, 1) := by decide +kernel
theorem dX5_firstWrongSign_23 : decode cX5_firstWrongSign 23 = .ok (.ireturn, 1) := by decide +kernel
theorem dX5_firstWrongSign_24 : decode cX5_firstWrongSign 24 = .ok (.iload_n 3, 1) := by decide +kernel
theorem dX5_firstWrongSign_25 : decode cX5_firstWrongSign 25 = .ok (.invokestatic 35, 3) := by decide +kernel
theorem dX5_firstWrongSign_28 : decode cX5_firstWrongSign 28 = .ok (.ifCond .eq 14, 3) := by decide +kernel
theorem dX5_firstWrongSign_31 : decode cX5_firstWrongSign 31 = .ok (.iload_n 2, 1) := by decide +kernel
theorem dX5_firstWrongSign_32 : decode cX5_firstWrongSign 32 = .ok (.iload_n 1, 1) := by decide +kernel
theorem dX5_firstWrongSign_33 : decode cX5_firstWrongSign 33 = .ok (.isub, 1) := by decide +kernel
theorem dX5_firstWrongSign_34 : decode cX5_firstWrongSign 34 = .ok (.iconst 2, 1) := by decide +kernel
theorem dX5_firstWrongSign_35 : decode cX5_firstWrongSign 35 = .ok (.if_icmp .ne 7, 3) := by decide +kernel
theorem dX5_firstWrongSign_38 : decode cX5_firstWrongSign 38 = .ok (.iconst 1, 1) := by decide +kernel
theorem dX5_firstWrongSign_39 : decode cX5_firstWrongSign 39 = .ok (.goto 4, 3) := by decide +kernel
theorem dX5_firstWrongSign_42 : decode cX5_firstWrongSign 42 = .ok (.iconst 0, 1) := by decide +kernel
theorem dX5_firstWrongSign_43 : decode cX5_firstWrongSign 43 = .ok (.istore 4, 2) := by decide +kernel
theorem dX5_firstWrongSign_45 : decode cX5_firstWrongSign 45 = .ok (.aload_n 0, 1) := by decide +kernel
theorem dX5_firstWrongSign_46 : decode cX5_firstWrongSign 46 = .ok (.iload_n 2, 1) := by decide +kernel
theorem dX5_firstWrongSign_47 : decode cX5_firstWrongSign 47 = .ok (.iconst 1, 1) := by decide +kernel
theorem dX5_firstWrongSign_48 : decode cX5_firstWrongSign 48 = .ok (.isub, 1) := by decide +kernel
theorem dX5_firstWrongSign_49 : decode cX5_firstWrongSign 49 = .ok (.invokevirtual 27, 3) := by decide +kernel
theorem dX5_firstWrongSign_52 : decode cX5_firstWrongSign 52 = .ok (.istore 5, 2) := by decide +kernel
theorem dX5_firstWrongSign_54 : decode cX5_firstWrongSign 54 = .ok (.iload 5, 2) := by decide +kernel
theorem dX5_firstWrongSign_56 : decode cX5_firstWrongSign 56 = .ok (.invokestatic 38, 3) := by decide +kernel
theorem dX5_firstWrongSign_59 : decode cX5_firstWrongSign 59 = .ok (.ifCond .ne 16, 3) := by decide +kernel
theorem dX5_firstWrongSign_62 : decode cX5_firstWrongSign 62 = .ok (.iload 4, 2) := by decide +kernel
theorem dX5_firstWrongSign_64 : decode cX5_firstWrongSign 64 = .ok (.ifCond .eq 16, 3) := by decide +kernel
theorem dX5_firstWrongSign_67 : decode cX5_firstWrongSign 67 = .ok (.iload 5, 2) := by decide +kernel
theorem dX5_firstWrongSign_69 : decode cX5_firstWrongSign 69 = .ok (.invokestatic 41, 3) := by decide +kernel
theorem dX5_firstWrongSign_72 : decode cX5_firstWrongSign 72 = .ok (.ifCond .eq 8, 3) := by decide +kernel
theorem dX5_firstWrongSign_75 : decode cX5_firstWrongSign 75 = .ok (.bipush (-6), 2) := by decide +kernel
theorem dX5_firstWrongSign_77 : decode cX5_firstWrongSign 77 = .ok (.goto 6, 3) := by decide +kernel
theorem dX5_firstWrongSign_80 : decode cX5_firstWrongSign 80 = .ok (.iload_n 2, 1) := by decide +kernel
theorem dX5_firstWrongSign_81 : decode cX5_firstWrongSign 81 = .ok (.iconst 1, 1) := by decide +kernel
theorem dX5_firstWrongSign_82 : decode cX5_firstWrongSign 82 = .ok (.isub, 1) := by decide +kernel
theorem dX5_firstWrongSign_83 : decode cX5_firstWrongSign 83 = .ok (.ireturn, 1) := by decide +kernel
theorem dX5_needsMore_0 : decode cX5_needsMore 0 = .ok (.iload_n 0, 1) := by decide +kernel
theorem dX5_needsMore_1 : decode cX5_needsMore 1 = .ok (.invokestatic 35, 3) := by decide +kernel
theorem dX5_needsMore_4 : decode cX5_needsMore 4 = .ok (.ifCond .ne 15, 3) := by decide +kernel
theorem dX5_needsMore_7 : decode cX5_needsMore 7 = .ok (.iload_n 0, 1) := by decide +kernel
theorem dX5_needsMore_8 : decode cX5_needsMore 8 = .ok (.bipush 107, 2) := by decide +kernel
theorem dX5_needsMore_10 : decode cX5_needsMore 10 = .ok (.if_icmp .eq 9, 3) := by decide +kernel
theorem dX5_needsMore_13 : decode cX5_needsMore 13 = .ok (.iload_n 0, 1) := by decide +kernel
theorem dX5_needsMore_14 : decode cX5_needsMore 14 = .ok (.bipush 43, 2) := by decide +kernel
theorem dX5_needsMore_16 : decode cX5_needsMore 16 = .ok (.if_icmp .ne 7, 3) := by decide +kernel
theorem dX5_needsMore_19 : decode cX5_needsMore 19 = .ok (.iconst 1, 1) := by decide +kernel
theorem dX5_needsMore_20 : decode cX5_needsMore 20 = .ok (.goto 4, 3) := by decide +kernel
theorem dX5_needsMore_23 : decode cX5_needsMore 23 = .ok (.iconst 0, 1) := by decide +kernel
theorem dX5_needsMore_24 : decode cX5_needsMore 24 = .ok (.ireturn, 1) := by decide +kernel
theorem dX5_read_0 : decode cX5_read 0 = .ok (.aload_n 0, 1) := by decide +kernel
theorem dX5_read_1 : decode cX5_read 1 = .ok (.iload_n 1, 1) := by decide +kernel
theorem dX5_read_2 : decode cX5_read 2 = .ok (.invokevirtual 27, 3) := by decide +kernel
theorem dX5_read_5 : decode cX5_read 5 = .ok (.istore 4, 2) := by decide +kernel
theorem dX5_read_7 : decode cX5_read 7 = .ok (.aload_n 0, 1) := by decide +kernel
theorem dX5_read_8 : decode cX5_read 8 = .ok (.iload_n 2, 1) := by decide +kernel
theorem dX5_read_9 : decode cX5_read 9 = .ok (.iconst 1, 1) := by decide +kernel
theorem dX5_read_10 : decode cX5_read 10 = .ok (.isub, 1) := by decide +kernel
theorem dX5_read_11 : decode cX5_read 11 = .ok (.invokevirtual 27, 3) := by decide +kernel
theorem dX5_read_14 : decode cX5_read 14 = .ok (.istore 5, 2) := by decide +kernel
theorem dX5_read_16 : decode cX5_read 16 = .ok (.iload 4, 2) := by decide +kernel
theorem dX5_read_18 : decode cX5_read 18 = .ok (.bipush 46, 2) := by decide +kernel
theorem dX5_read_20 : decode cX5_read 20 = .ok (.if_icmp .ne 13, 3) := by decide +kernel
theorem dX5_read_23 : decode cX5_read 23 = .ok (.aload_n 3, 1) := by decide +kernel
theorem dX5_read_24 : decode cX5_read 24 = .ok (.iconst 4, 1) := by decide +kernel
theorem dX5_read_25 : decode cX5_read 25 = .ok (.iconst 0, 1) := by decide +kernel
theorem dX5_read_26 : decode cX5_read 26 = .ok (.iconst 0, 1) := by decide +kernel
theorem dX5_read_27 : decode cX5_read 27 = .ok (.invokevirtual 46, 3) := by decide +kernel
theorem dX5_read_30 : decode cX5_read 30 = .ok (.goto 75, 3) := by decide +kernel
theorem dX5_read_33 : decode cX5_read 33 = .ok (.iload 4, 2) := by decide +kernel
theorem dX5_read_35 : decode cX5_read 35 = .ok (.bipush 107, 2) := by decide +kernel
theorem dX5_read_37 : decode cX5_read 37 = .ok (.if_icmp .ne 17, 3) := by decide +kernel
theorem dX5_read_40 : decode cX5_read 40 = .ok (.aload_n 3, 1) := by decide +kernel
theorem dX5_read_41 : decode cX5_read 41 = .ok (.iconst 2, 1) := by decide +kernel
theorem dX5_read_42 : decode cX5_read 42 = .ok (.iconst 0, 1) := by decide +kernel
theorem dX5_read_43 : decode cX5_read 43 = .ok (.iload 5, 2) := by decide +kernel
theorem dX5_read_45 : decode cX5_read 45 = .ok (.invokestatic 50, 3) := by decide +kernel
theorem dX5_read_48 : decode cX5_read 48 = .ok (.invokevirtual 46, 3) := by decide +kernel
theorem dX5_read_51 : decode cX5_read 51 = .ok (.goto 54, 3) := by decide +kernel
theorem dX5_read_54 : decode cX5_read 54 = .ok (.iload 4, 2) := by decide +kernel
theorem dX5_read_56 : decode cX5_read 56 = .ok (.bipush 43, 2) := by decide +kernel
theorem dX5_read_58 : decode cX5_read 58 = .ok (.if_icmp .ne 17, 3) := by decide +kernel
theorem dX5_read_61 : decode cX5_read 61 = .ok (.aload_n 3, 1) := by decide +kernel
theorem dX5_read_62 : decode cX5_read 62 = .ok (.iconst 3, 1) := by decide +kernel
theorem dX5_read_63 : decode cX5_read 63 = .ok (.iconst 0, 1) := by decide +kernel
theorem dX5_read_64 : decode cX5_read 64 = .ok (.iload 5, 2) := by decide +kernel
theorem dX5_read_66 : decode cX5_read 66 = .ok (.invokestatic 50, 3) := by decide +kernel
theorem dX5_read_69 : decode cX5_read 69 = .ok (.invokevirtual 46, 3) := by decide +kernel
theorem dX5_read_72 : decode cX5_read 72 = .ok (.goto 33, 3) := by decide +kernel
theorem dX5_read_75 : decode cX5_read 75 = .ok (.iload_n 2, 1) := by decide +kernel
theorem dX5_read_76 : decode cX5_read 76 = .ok (.iload_n 1, 1) := by decide +kernel
theorem dX5_read_77 : decode cX5_read 77 = .ok (.isub, 1) := by decide +kernel
theorem dX5_read_78 : decode cX5_read 78 = .ok (.iconst 3, 1) := by decide +kernel
theorem dX5_read_79 : decode cX5_read 79 = .ok (.if_icmp .ne 7, 3) := by decide +kernel
theorem dX5_read_82 : decode cX5_read 82 = .ok (.iconst 1, 1) := by decide +kernel
theorem dX5_read_83 : decode cX5_read 83 = .ok (.goto 4, 3) := by decide +kernel
theorem dX5_read_86 : decode cX5_read 86 = .ok (.iconst 0, 1) := by decide +kernel
theorem dX5_read_87 : decode cX5_read 87 = .ok (.istore 6, 2) := by decide +kernel
theorem dX5_read_89 : decode cX5_read 89 = .ok (.aload_n 3, 1) := by decide +kernel
theorem dX5_read_90 : decode cX5_read 90 = .ok (.iload 6, 2) := by decide +kernel
theorem dX5_read_92 : decode cX5_read 92 = .ok (.iload 4, 2) := by decide +kernel
theorem dX5_read_94 : decode cX5_read 94 = .ok (.bipush 65, 2) := by decide +kernel
theorem dX5_read_96 : decode cX5_read 96 = .ok (.isub, 1) := by decide +kernel
theorem dX5_read_97 : decode cX5_read 97 = .ok (.iload 5, 2) := by decide +kernel
theorem dX5_read_99 : decode cX5_read 99 = .ok (.invokestatic 50, 3) := by decide +kernel
theorem dX5_read_102 : decode cX5_read 102 = .ok (.invokevirtual 46, 3) := by decide +kernel
theorem dX5_read_105 : decode cX5_read 105 = .ok (.return_, 1) := by decide +kernel
theorem dX5_placeOfSign_0 : decode cX5_placeOfSign 0 = .ok (.iload_n 0, 1) := by decide +kernel
theorem dX5_placeOfSign_1 : decode cX5_placeOfSign 1 = .ok (.bipush 94, 2) := by decide +kernel
theorem dX5_placeOfSign_3 : decode cX5_placeOfSign 3 = .ok (.if_icmp .ne 6, 3) := by decide +kernel
theorem dX5_placeOfSign_6 : decode cX5_placeOfSign 6 = .ok (.bipush 13, 2) := by decide +kernel
theorem dX5_placeOfSign_8 : decode cX5_placeOfSign 8 = .ok (.ireturn, 1) := by decide +kernel
theorem dX5_placeOfSign_9 : decode cX5_placeOfSign 9 = .ok (.iload_n 0, 1) := by decide +kernel
theorem dX5_placeOfSign_10 : decode cX5_placeOfSign 10 = .ok (.invokestatic 38, 3) := by decide +kernel
theorem dX5_placeOfSign_13 : decode cX5_placeOfSign 13 = .ok (.ifCond .eq 12, 3) := by decide +kernel
theorem dX5_placeOfSign_16 : decode cX5_placeOfSign 16 = .ok (.iload_n 0, 1) := by decide +kernel
theorem dX5_placeOfSign_17 : decode cX5_placeOfSign 17 = .ok (.bipush 97, 2) := by decide +kernel
theorem dX5_placeOfSign_19 : decode cX5_placeOfSign 19 = .ok (.isub, 1) := by decide +kernel
theorem dX5_placeOfSign_20 : decode cX5_placeOfSign 20 = .ok (.iconst 1, 1) := by decide +kernel
theorem dX5_placeOfSign_21 : decode cX5_placeOfSign 21 = .ok (.iadd, 1) := by decide +kernel
theorem dX5_placeOfSign_22 : decode cX5_placeOfSign 22 = .ok (.goto 4, 3) := by decide +kernel
theorem dX5_placeOfSign_25 : decode cX5_placeOfSign 25 = .ok (.iconst 0, 1) := by decide +kernel
theorem dX5_placeOfSign_26 : decode cX5_placeOfSign 26 = .ok (.ireturn, 1) := by decide +kernel
theorem dX5_isManSign_0 : decode cX5_isManSign 0 = .ok (.iload_n 0, 1) := by decide +kernel
theorem dX5_isManSign_1 : decode cX5_isManSign 1 = .ok (.bipush 65, 2) := by decide +kernel
theorem dX5_isManSign_3 : decode cX5_isManSign 3 = .ok (.if_icmp .lt 13, 3) := by decide +kernel
theorem dX5_isManSign_6 : decode cX5_isManSign 6 = .ok (.iload_n 0, 1) := by decide +kernel
theorem dX5_isManSign_7 : decode cX5_isManSign 7 = .ok (.bipush 70, 2) := by decide +kernel
theorem dX5_isManSign_9 : decode cX5_isManSign 9 = .ok (.if_icmp .gt 7, 3) := by decide +kernel
theorem dX5_isManSign_12 : decode cX5_isManSign 12 = .ok (.iconst 1, 1) := by decide +kernel
theorem dX5_isManSign_13 : decode cX5_isManSign 13 = .ok (.goto 4, 3) := by decide +kernel
theorem dX5_isManSign_16 : decode cX5_isManSign 16 = .ok (.iconst 0, 1) := by decide +kernel
theorem dX5_isManSign_17 : decode cX5_isManSign 17 = .ok (.ireturn, 1) := by decide +kernel
theorem dX5_isRungSign_0 : decode cX5_isRungSign 0 = .ok (.iload_n 0, 1) := by decide +kernel
theorem dX5_isRungSign_1 : decode cX5_isRungSign 1 = .ok (.bipush 97, 2) := by decide +kernel
theorem dX5_isRungSign_3 : decode cX5_isRungSign 3 = .ok (.if_icmp .lt 13, 3) := by decide +kernel
theorem dX5_isRungSign_6 : decode cX5_isRungSign 6 = .ok (.iload_n 0, 1) := by decide +kernel
theorem dX5_isRungSign_7 : decode cX5_isRungSign 7 = .ok (.bipush 108, 2) := by decide +kernel
theorem dX5_isRungSign_9 : decode cX5_isRungSign 9 = .ok (.if_icmp .gt 7, 3) := by decide +kernel
theorem dX5_isRungSign_12 : decode cX5_isRungSign 12 = .ok (.iconst 1, 1) := by decide +kernel
theorem dX5_isRungSign_13 : decode cX5_isRungSign 13 = .ok (.goto 4, 3) := by decide +kernel
theorem dX5_isRungSign_16 : decode cX5_isRungSign 16 = .ok (.iconst 0, 1) := by decide +kernel
theorem dX5_isRungSign_17 : decode cX5_isRungSign 17 = .ok (.ireturn, 1) := by decide +kernel
theorem dX5_isEndOfLadder_0 : decode cX5_isEndOfLadder 0 = .ok (.iload_n 0, 1) := by decide +kernel
theorem dX5_isEndOfLadder_1 : decode cX5_isEndOfLadder 1 = .ok (.bipush 94, 2) := by decide +kernel
theorem dX5_isEndOfLadder_3 : decode cX5_isEndOfLadder 3 = .ok (.if_icmp .eq 9, 3) := by decide +kernel
theorem dX5_isEndOfLadder_6 : decode cX5_isEndOfLadder 6 = .ok (.iload_n 0, 1) := by decide +kernel
theorem dX5_isEndOfLadder_7 : decode cX5_isEndOfLadder 7 = .ok (.bipush 95, 2) := by decide +kernel
theorem dX5_isEndOfLadder_9 : decode cX5_isEndOfLadder 9 = .ok (.if_icmp .ne 7, 3) := by decide +kernel
theorem dX5_isEndOfLadder_12 : decode cX5_isEndOfLadder 12 = .ok (.iconst 1, 1) := by decide +kernel
theorem dX5_isEndOfLadder_13 : decode cX5_isEndOfLadder 13 = .ok (.goto 4, 3) := by decide +kernel
theorem dX5_isEndOfLadder_16 : decode cX5_isEndOfLadder 16 = .ok (.iconst 0, 1) := by decide +kernel
theorem dX5_isEndOfLadder_17 : decode cX5_isEndOfLadder 17 = .ok (.ireturn, 1) := by decide +kernel
theorem dX6_init_0 : decode cX6_init 0 = .ok (.aload_n 0, 1) := by decide +kernel
theorem dX6_init_1 : decode cX6_init 1 = .ok (.invokespecial 3, 3) := by decide +kernel
theorem dX6_init_4 : decode cX6_init 4 = .ok (.aload_n 0, 1) := by decide +kernel
theorem dX6_init_5 : decode cX6_init 5 = .ok (.bipush 6, 2) := by decide +kernel
theorem dX6_init_7 : decode cX6_init 7 = .ok (.newarray .int, 2) := by decide +kernel
theorem dX6_init_9 : decode cX6_init 9 = .ok (.putfield 9, 3) := by decide +kernel
theorem dX6_init_12 : decode cX6_init 12 = .ok (.aload_n 0, 1) := by decide +kernel
theorem dX6_init_13 : decode cX6_init 13 = .ok (.bipush 6, 2) := by decide +kernel
theorem dX6_init_15 : decode cX6_init 15 = .ok (.newarray .int, 2) := by decide +kernel
theorem dX6_init_17 : decode cX6_init 17 = .ok (.putfield 15, 3) := by decide +kernel
theorem dX6_init_20 : decode cX6_init 20 = .ok (.aload_n 0, 1) := by decide +kernel
theorem dX6_init_21 : decode cX6_init 21 = .ok (.iconst 0, 1) := by decide +kernel
theorem dX6_init_22 : decode cX6_init 22 = .ok (.putfield 18, 3) := by decide +kernel
theorem dX6_init_25 : decode cX6_init 25 = .ok (.return_, 1) := by decide +kernel
theorem dX6_assign_0 : decode cX6_assign 0 = .ok (.iconst 0, 1) := by decide +kernel
theorem dX6_assign_1 : decode cX6_assign 1 = .ok (.istore_n 2, 1) := by decide +kernel
theorem dX6_assign_2 : decode cX6_assign 2 = .ok (.iload_n 2, 1) := by decide +kernel
theorem dX6_assign_3 : decode cX6_assign 3 = .ok (.bipush 6, 2) := by decide +kernel
theorem dX6_assign_5 : decode cX6_assign 5 = .ok (.if_icmp .ge 20, 3) := by decide +kernel
theorem dX6_assign_8 : decode cX6_assign 8 = .ok (.aload_n 0, 1) := by decide +kernel
theorem dX6_assign_9 : decode cX6_assign 9 = .ok (.getfield 9, 3) := by decide +kernel
theorem dX6_assign_12 : decode cX6_assign 12 = .ok (.iload_n 2, 1) := by decide +kernel
theorem dX6_assign_13 : decode cX6_assign 13 = .ok (.aload_n 1, 1) := by decide +kernel
theorem dX6_assign_14 : decode cX6_assign 14 = .ok (.iload_n 2, 1) := by decide +kernel
theorem dX6_assign_15 : decode cX6_assign 15 = .ok (.invokevirtual 22, 3) := by decide +kernel
theorem dX6_assign_18 : decode cX6_assign 18 = .ok (.iastore, 1) := by decide +kernel
theorem dX6_assign_19 : decode cX6_assign 19 = .ok (.iinc 2 1, 3) := by decide +kernel
theorem dX6_assign_22 : decode cX6_assign 22 = .ok (.goto (-20), 3) := by decide +kernel
theorem dX6_assign_25 : decode cX6_assign 25 = .ok (.aload_n 0, 1) := by decide +kernel
theorem dX6_assign_26 : decode cX6_assign 26 = .ok (.aload_n 0, 1) := by decide +kernel
theorem dX6_assign_27 : decode cX6_assign 27 = .ok (.iconst 0, 1) := by decide +kernel
theorem dX6_assign_28 : decode cX6_assign 28 = .ok (.sipush 4095, 3) := by decide +kernel
theorem dX6_assign_31 : decode cX6_assign 31 = .ok (.invokevirtual 28, 3) := by decide +kernel
theorem dX6_assign_34 : decode cX6_assign 34 = .ok (.putfield 18, 3) := by decide +kernel
theorem dX6_assign_37 : decode cX6_assign 37 = .ok (.sipush 4095, 3) := by decide +kernel
theorem dX6_assign_40 : decode cX6_assign 40 = .ok (.istore_n 2, 1) := by decide +kernel
theorem dX6_assign_41 : decode cX6_assign 41 = .ok (.iconst 0, 1) := by decide +kernel
theorem dX6_assign_42 : decode cX6_assign 42 = .ok (.istore_n 3, 1) := by decide +kernel
theorem dX6_assign_43 : decode cX6_assign 43 = .ok (.iload_n 3, 1) := by decide +kernel
theorem dX6_assign_44 : decode cX6_assign 44 = .ok (.bipush 6, 2) := by decide +kernel
theorem dX6_assign_46 : decode cX6_assign 46 = .ok (.if_icmp .ge 35, 3) := by decide +kernel
theorem dX6_assign_49 : decode cX6_assign 49 = .ok (.aload_n 0, 1) := by decide +kernel
theorem dX6_assign_50 : decode cX6_assign 50 = .ok (.getfield 15, 3) := by decide +kernel
theorem dX6_assign_53 : decode cX6_assign 53 = .ok (.iload_n 3, 1) := by decide +kernel
theorem dX6_assign_54 : decode cX6_assign 54 = .ok (.aload_n 0, 1) := by decide +kernel
theorem dX6_assign_55 : decode cX6_assign 55 = .ok (.iload_n 3, 1) := by decide +kernel
theorem dX6_assign_56 : decode cX6_assign 56 = .ok (.iload_n 2, 1) := by decide +kernel
theorem dX6_assign_57 : decode cX6_assign 57 = .ok (.invokevirtual 32, 3) := by decide +kernel
theorem dX6_assign_60 : decode cX6_assign 60 = .ok (.iastore, 1) := by decide +kernel
theorem dX6_assign_61 : decode cX6_assign 61 = .ok (.iload_n 2, 1) := by decide +kernel
theorem dX6_assign_62 : decode cX6_assign 62 = .ok (.aload_n 0, 1) := by decide +kernel
theorem dX6_assign_63 : decode cX6_assign 63 = .ok (.getfield 15, 3) := by decide +kernel
theorem dX6_assign_66 : decode cX6_assign 66 = .ok (.iload_n 3, 1) := by decide +kernel
theorem dX6_assign_67 : decode cX6_assign 67 = .ok (.iaload, 1) := by decide +kernel
theorem dX6_assign_68 : decode cX6_assign 68 = .ok (.invokestatic 35, 3) := by decide +kernel
theorem dX6_assign_71 : decode cX6_assign 71 = .ok (.iconst (-1), 1) := by decide +kernel
theorem dX6_assign_72 : decode cX6_assign 72 = .ok (.ixor, 1) := by decide +kernel
theorem dX6_assign_73 : decode cX6_assign 73 = .ok (.iand, 1) := by decide +kernel
theorem dX6_assign_74 : decode cX6_assign 74 = .ok (.istore_n 2, 1) := by decide +kernel
theorem dX6_assign_75 : decode cX6_assign 75 = .ok (.iinc 3 1, 3) := by decide +kernel
theorem dX6_assign_78 : decode cX6_assign 78 = .ok (.goto (-35), 3) := by decide +kernel
theorem dX6_assign_81 : decode cX6_assign 81 = .ok (.return_, 1) := by decide +kernel
theorem dX6_lowestPost_0 : decode cX6_lowestPost 0 = .ok (.iload_n 1, 1) := by decide +kernel
theorem dX6_lowestPost_1 : decode cX6_lowestPost 1 = .ok (.invokestatic 38, 3) := by decide +kernel
theorem dX6_lowestPost_4 : decode cX6_lowestPost 4 = .ok (.ifCond .ne 6, 3) := by decide +kernel
theorem dX6_lowestPost_7 : decode cX6_lowestPost 7 = .ok (.bipush (-6), 2) := by decide +kernel
theorem dX6_lowestPost_9 : decode cX6_lowestPost 9 = .ok (.ireturn, 1) := by decide +kernel
theorem dX6_lowestPost_10 : decode cX6_lowestPost 10 = .ok (.aload_n 0, 1) := by decide +kernel
theorem dX6_lowestPost_11 : decode cX6_lowestPost 11 = .ok (.iload_n 1, 1) := by decide +kernel
theorem dX6_lowestPost_12 : decode cX6_lowestPost 12 = .ok (.iload_n 2, 1) := by decide +kernel
theorem dX6_lowestPost_13 : decode cX6_lowestPost 13 = .ok (.invokevirtual 28, 3) := by decide +kernel
theorem dX6_lowestPost_16 : decode cX6_lowestPost 16 = .ok (.istore_n 3, 1) := by decide +kernel
theorem dX6_lowestPost_17 : decode cX6_lowestPost 17 = .ok (.iconst 1, 1) := by decide +kernel
theorem dX6_lowestPost_18 : decode cX6_lowestPost 18 = .ok (.istore 4, 2) := by decide +kernel
theorem dX6_lowestPost_20 : decode cX6_lowestPost 20 = .ok (.iload 4, 2) := by decide +kernel
theorem dX6_lowestPost_22 : decode cX6_lowestPost 22 = .ok (.bipush 12, 2) := by decide +kernel
theorem dX6_lowestPost_24 : decode cX6_lowestPost 24 = .ok (.if_icmp .gt 51, 3) := by decide +kernel
theorem dX6_lowestPost_27 : decode cX6_lowestPost 27 = .ok (.aload_n 0, 1) := by decide +kernel
theorem dX6_lowestPost_28 : decode cX6_lowestPost 28 = .ok (.getfield 9, 3) := by decide +kernel
theorem dX6_lowestPost_31 : decode cX6_lowestPost 31 = .ok (.iload_n 1, 1) := by decide +kernel
theorem dX6_lowestPost_32 : decode cX6_lowestPost 32 = .ok (.iaload, 1) := by decide +kernel
theorem dX6_lowestPost_33 : decode cX6_lowestPost 33 = .ok (.iload_n 2, 1) := by decide +kernel
theorem dX6_lowestPost_34 : decode cX6_lowestPost 34 = .ok (.iand, 1) := by decide +kernel
theorem dX6_lowestPost_35 : decode cX6_lowestPost 35 = .ok (.iload 4, 2) := by decide +kernel
theorem dX6_lowestPost_37 : decode cX6_lowestPost 37 = .ok (.invokestatic 35, 3) := by decide +kernel
theorem dX6_lowestPost_40 : decode cX6_lowestPost 40 = .ok (.iand, 1) := by decide +kernel
theorem dX6_lowestPost_41 : decode cX6_lowestPost 41 = .ok (.ifCond .eq 28, 3) := by decide +kernel
theorem dX6_lowestPost_44 : decode cX6_lowestPost 44 = .ok (.iconst 1, 1) := by decide +kernel
theorem dX6_lowestPost_45 : decode cX6_lowestPost 45 = .ok (.aload_n 0, 1) := by decide +kernel
theorem dX6_lowestPost_46 : decode cX6_lowestPost 46 = .ok (.iload_n 1, 1) := by decide +kernel
theorem dX6_lowestPost_47 : decode cX6_lowestPost 47 = .ok (.iconst 1, 1) := by decide +kernel
theorem dX6_lowestPost_48 : decode cX6_lowestPost 48 = .ok (.iadd, 1) := by decide +kernel
theorem dX6_lowestPost_49 : decode cX6_lowestPost 49 = .ok (.iload_n 2, 1) := by decide +kernel
theorem dX6_lowestPost_50 : decode cX6_lowestPost 50 = .ok (.iload 4, 2) := by decide +kernel
theorem dX6_lowestPost_52 : decode cX6_lowestPost 52 = .ok (.invokestatic 35, 3) := by decide +kernel
theorem dX6_lowestPost_55 : decode cX6_lowestPost 55 = .ok (.iconst (-1), 1) := by decide +kernel
theorem dX6_lowestPost_56 : decode cX6_lowestPost 56 = .ok (.ixor, 1) := by decide +kernel
theorem dX6_lowestPost_57 : decode cX6_lowestPost 57 = .ok (.iand, 1) := by decide +kernel
theorem dX6_lowestPost_58 : decode cX6_lowestPost 58 = .ok (.invokevirtual 28, 3) := by decide +kernel
theorem dX6_lowestPost_61 : decode cX6_lowestPost 61 = .ok (.iadd, 1) := by decide +kernel
theorem dX6_lowestPost_62 : decode cX6_lowestPost 62 = .ok (.iload_n 3, 1) := by decide +kernel
theorem dX6_lowestPost_63 : decode cX6_lowestPost 63 = .ok (.if_icmp .ne 6, 3) := by decide +kernel
theorem dX6_lowestPost_66 : decode cX6_lowestPost 66 = .ok (.iload 4, 2) := by decide +kernel
theorem dX6_lowestPost_68 : decode cX6_lowestPost 68 = .ok (.ireturn, 1) := by decide +kernel
theorem dX6_lowestPost_69 : decode cX6_lowestPost 69 = .ok (.iinc 4 1, 3) := by decide +kernel
theorem dX6_lowestPost_72 : decode cX6_lowestPost 72 = .ok (.goto (-52), 3) := by decide +kernel
theorem dX6_lowestPost_75 : decode cX6_lowestPost 75 = .ok (.bipush (-6), 2) := by decide +kernel
theorem dX6_lowestPost_77 : decode cX6_lowestPost 77 = .ok (.ireturn, 1) := by decide +kernel
theorem dX6_mostFrom_0 : decode cX6_mostFrom 0 = .ok (.iload_n 1, 1) := by decide +kernel
theorem dX6_mostFrom_1 : decode cX6_mostFrom 1 = .ok (.invokestatic 38, 3) := by decide +kernel
theorem dX6_mostFrom_4 : decode cX6_mostFrom 4 = .ok (.ifCond .ne 5, 3) := by decide +kernel
theorem dX6_mostFrom_7 : decode cX6_mostFrom 7 = .ok (.iconst 0, 1) := by decide +kernel
theorem dX6_mostFrom_8 : decode cX6_mostFrom 8 = .ok (.ireturn, 1) := by decide +kernel
theorem dX6_mostFrom_9 : decode cX6_mostFrom 9 = .ok (.bipush 6, 2) := by decide +kernel
theorem dX6_mostFrom_11 : decode cX6_mostFrom 11 = .ok (.iload_n 1, 1) := by decide +kernel
theorem dX6_mostFrom_12 : decode cX6_mostFrom 12 = .ok (.isub, 1) := by decide +kernel
theorem dX6_mostFrom_13 : decode cX6_mostFrom 13 = .ok (.istore_n 3, 1) := by decide +kernel
theorem dX6_mostFrom_14 : decode cX6_mostFrom 14 = .ok (.iload_n 3, 1) := by decide +kernel
theorem dX6_mostFrom_15 : decode cX6_mostFrom 15 = .ok (.istore 4, 2) := by decide +kernel
theorem dX6_mostFrom_17 : decode cX6_mostFrom 17 = .ok (.iconst 0, 1) := by decide +kernel
theorem dX6_mostFrom_18 : decode cX6_mostFrom 18 = .ok (.istore 5, 2) := by decide +kernel
theorem dX6_mostFrom_20 : decode cX6_mostFrom 20 = .ok (.iload 5, 2) := by decide +kernel
theorem dX6_mostFrom_22 : decode cX6_mostFrom 22 = .ok (.iconst 1, 1) := by decide +kernel
theorem dX6_mostFrom_23 : decode cX6_mostFrom 23 = .ok (.iload_n 3, 1) := by decide +kernel
theorem dX6_mostFrom_24 : decode cX6_mostFrom 24 = .ok (.ishl, 1) := by decide +kernel
theorem dX6_mostFrom_25 : decode cX6_mostFrom 25 = .ok (.if_icmp .ge 74, 3) := by decide +kernel
theorem dX6_mostFrom_28 : decode cX6_mostFrom 28 = .ok (.iconst 0, 1) := by decide +kernel
theorem dX6_mostFrom_29 : decode cX6_mostFrom 29 = .ok (.istore 6, 2) := by decide +kernel
theorem dX6_mostFrom_31 : decode cX6_mostFrom 31 = .ok (.iload_n 1, 1) := by decide +kernel
theorem dX6_mostFrom_32 : decode cX6_mostFrom 32 = .ok (.istore 7, 2) := by decide +kernel
theorem dX6_mostFrom_34 : decode cX6_mostFrom 34 = .ok (.iload 7, 2) := by decide +kernel
theorem dX6_mostFrom_36 : decode cX6_mostFrom 36 = .ok (.bipush 6, 2) := by decide +kernel
theorem dX6_mostFrom_38 : decode cX6_mostFrom 38 = .ok (.if_icmp .ge 35, 3) := by decide +kernel
theorem dX6_mostFrom_41 : decode cX6_mostFrom 41 = .ok (.iload 5, 2) := by decide +kernel
theorem dX6_mostFrom_43 : decode cX6_mostFrom 43 = .ok (.iload 7, 2) := by decide +kernel
theorem dX6_mostFrom_45 : decode cX6_mostFrom 45 = .ok (.iload_n 1, 1) := by decide +kernel
theorem dX6_mostFrom_46 : decode cX6_mostFrom 46 = .ok (.isub, 1) := by decide +kernel
theorem dX6_mostFrom_47 : decode cX6_mostFrom 47 = .ok (.ishr, 1) := by decide +kernel
theorem dX6_mostFrom_48 : decode cX6_mostFrom 48 = .ok (.iconst 1, 1) := by decide +kernel
theorem dX6_mostFrom_49 : decode cX6_mostFrom 49 = .ok (.iand, 1) := by decide +kernel
theorem dX6_mostFrom_50 : decode cX6_mostFrom 50 = .ok (.ifCond .eq 17, 3) := by decide +kernel
theorem dX6_mostFrom_53 : decode cX6_mostFrom 53 = .ok (.iload 6, 2) := by decide +kernel
theorem dX6_mostFrom_55 : decode cX6_mostFrom 55 = .ok (.aload_n 0, 1) := by decide +kernel
theorem dX6_mostFrom_56 : decode cX6_mostFrom 56 = .ok (.getfield 9, 3) := by decide +kernel
theorem dX6_mostFrom_59 : decode cX6_mostFrom 59 = .ok (.iload 7, 2) := by decide +kernel
theorem dX6_mostFrom_61 : decode cX6_mostFrom 61 = .ok (.iaload, 1) := by decide +kernel
theorem dX6_mostFrom_62 : decode cX6_mostFrom 62 = .ok (.iload_n 2, 1) := by decide +kernel
theorem dX6_mostFrom_63 : decode cX6_mostFrom 63 = .ok (.iand, 1) := by decide +kernel
theorem dX6_mostFrom_64 : decode cX6_mostFrom 64 = .ok (.ior, 1) := by decide +kernel
theorem dX6_mostFrom_65 : decode cX6_mostFrom 65 = .ok (.istore 6, 2) := by decide +kernel
theorem dX6_mostFrom_67 : decode cX6_mostFrom 67 = .ok (.iinc 7 1, 3) := by decide +kernel
theorem dX6_mostFrom_70 : decode cX6_mostFrom 70 = .ok (.goto (-36), 3) := by decide +kernel
theorem dX6_mostFrom_73 : decode cX6_mostFrom 73 = .ok (.iload 4, 2) := by decide +kernel
theorem dX6_mostFrom_75 : decode cX6_mostFrom 75 = .ok (.iload_n 3, 1) := by decide +kernel
theorem dX6_mostFrom_76 : decode cX6_mostFrom 76 = .ok (.iload 5, 2) := by decide +kernel
theorem dX6_mostFrom_78 : decode cX6_mostFrom 78 = .ok (.invokestatic 42, 3) := by decide +kernel
theorem dX6_mostFrom_81 : decode cX6_mostFrom 81 = .ok (.isub, 1) := by decide +kernel
theorem dX6_mostFrom_82 : decode cX6_mostFrom 82 = .ok (.iload 6, 2) := by decide +kernel
theorem dX6_mostFrom_84 : decode cX6_mostFrom 84 = .ok (.invokestatic 42, 3) := by decide +kernel
theorem dX6_mostFrom_87 : decode cX6_mostFrom 87 = .ok (.iadd, 1) := by decide +kernel
theorem dX6_mostFrom_88 : decode cX6_mostFrom 88 = .ok (.invokestatic 47, 3) := by decide +kernel
theorem dX6_mostFrom_91 : decode cX6_mostFrom 91 = .ok (.istore 4, 2) := by decide +kernel
theorem dX6_mostFrom_93 : decode cX6_mostFrom 93 = .ok (.iinc 5 1, 3) := by decide +kernel
theorem dX6_mostFrom_96 : decode cX6_mostFrom 96 = .ok (.goto (-76), 3) := by decide +kernel
theorem dX6_mostFrom_99 : decode cX6_mostFrom 99 = .ok (.iload 4, 2) := by decide +kernel
theorem dX6_mostFrom_101 : decode cX6_mostFrom 101 = .ok (.ireturn, 1) := by decide +kernel
theorem dX6_menPosted_0 : decode cX6_menPosted 0 = .ok (.aload_n 0, 1) := by decide +kernel
theorem dX6_menPosted_1 : decode cX6_menPosted 1 = .ok (.getfield 18, 3) := by decide +kernel
theorem dX6_menPosted_4 : decode cX6_menPosted 4 = .ok (.ireturn, 1) := by decide +kernel
theorem dX6_rungOf_0 : decode cX6_rungOf 0 = .ok (.iload_n 1, 1) := by decide +kernel
theorem dX6_rungOf_1 : decode cX6_rungOf 1 = .ok (.invokestatic 38, 3) := by decide +kernel
theorem dX6_rungOf_4 : decode cX6_rungOf 4 = .ok (.ifCond .eq 12, 3) := by decide +kernel
theorem dX6_rungOf_7 : decode cX6_rungOf 7 = .ok (.aload_n 0, 1) := by decide +kernel
theorem dX6_rungOf_8 : decode cX6_rungOf 8 = .ok (.getfield 15, 3) := by decide +kernel
theorem dX6_rungOf_11 : decode cX6_rungOf 11 = .ok (.iload_n 1, 1) := by decide +kernel
theorem dX6_rungOf_12 : decode cX6_rungOf 12 = .ok (.iaload, 1) := by decide +kernel
theorem dX6_rungOf_13 : decode cX6_rungOf 13 = .ok (.goto 5, 3) := by decide +kernel
theorem dX6_rungOf_16 : decode cX6_rungOf 16 = .ok (.bipush (-6), 2) := by decide +kernel
theorem dX6_rungOf_18 : decode cX6_rungOf 18 = .ok (.ireturn, 1) := by decide +kernel
theorem dX7_init_0 : decode cX7_init 0 = .ok (.aload_n 0, 1) := by decide +kernel
theorem dX7_init_1 : decode cX7_init 1 = .ok (.invokespecial 3, 3) := by decide +kernel
theorem dX7_init_4 : decode cX7_init 4 = .ok (.aload_n 0, 1) := by decide +kernel
theorem dX7_init_5 : decode cX7_init 5 = .ok (.bipush 14, 2) := by decide +kernel
theorem dX7_init_7 : decode cX7_init 7 = .ok (.newarray .int, 2) := by decide +kernel
theorem dX7_init_9 : decode cX7_init 9 = .ok (.putfield 9, 3) := by decide +kernel
theorem dX7_init_12 : decode cX7_init 12 = .ok (.return_, 1) := by decide +kernel
theorem dX7_fewestSteps_0 : decode cX7_fewestSteps 0 = .ok (.aload_n 0, 1) := by decide +kernel
theorem dX7_fewestSteps_1 : decode cX7_fewestSteps 1 = .ok (.aload_n 1, 1) := by decide +kernel
theorem dX7_fewestSteps_2 : decode cX7_fewestSteps 2 = .ok (.iload_n 2, 1) := by decide +kernel
theorem dX7_fewestSteps_3 : decode cX7_fewestSteps 3 = .ok (.invokevirtual 15, 3) := by decide +kernel
theorem dX7_fewestSteps_6 : decode cX7_fewestSteps 6 = .ok (.aload_n 0, 1) := by decide +kernel
theorem dX7_fewestSteps_7 : decode cX7_fewestSteps 7 = .ok (.aload_n 1, 1) := by decide +kernel
theorem dX7_fewestSteps_8 : decode cX7_fewestSteps 8 = .ok (.iload_n 2, 1) := by decide +kernel
theorem dX7_fewestSteps_9 : decode cX7_fewestSteps 9 = .ok (.invokevirtual 19, 3) := by decide +kernel
theorem dX7_fewestSteps_12 : decode cX7_fewestSteps 12 = .ok (.invokevirtual 25, 3) := by decide +kernel
theorem dX7_fewestSteps_15 : decode cX7_fewestSteps 15 = .ok (.istore_n 3, 1) := by decide +kernel
theorem dX7_fewestSteps_16 : decode cX7_fewestSteps 16 = .ok (.iload_n 3, 1) := by decide +kernel
theorem dX7_fewestSteps_17 : decode cX7_fewestSteps 17 = .ok (.ldc 28, 2) := by decide +kernel
theorem dX7_fewestSteps_19 : decode cX7_fewestSteps 19 = .ok (.if_icmp .lt 8, 3) := by decide +kernel
theorem dX7_fewestSteps_22 : decode cX7_fewestSteps 22 = .ok (.bipush (-6), 2) := by decide +kernel
theorem dX7_fewestSteps_24 : decode cX7_fewestSteps 24 = .ok (.goto 4, 3) := by decide +kernel
theorem dX7_fewestSteps_27 : decode cX7_fewestSteps 27 = .ok (.iload_n 3, 1) := by decide +kernel
theorem dX7_fewestSteps_28 : decode cX7_fewestSteps 28 = .ok (.ireturn, 1) := by decide +kernel
theorem dX7_firstStep_0 : decode cX7_firstStep 0 = .ok (.aload_n 0, 1) := by decide +kernel
theorem dX7_firstStep_1 : decode cX7_firstStep 1 = .ok (.aload_n 1, 1) := by decide +kernel
theorem dX7_firstStep_2 : decode cX7_firstStep 2 = .ok (.iload_n 2, 1) := by decide +kernel
theorem dX7_firstStep_3 : decode cX7_firstStep 3 = .ok (.invokevirtual 15, 3) := by decide +kernel
theorem dX7_firstStep_6 : decode cX7_firstStep 6 = .ok (.aload_n 1, 1) := by decide +kernel
theorem dX7_firstStep_7 : decode cX7_firstStep 7 = .ok (.iload_n 2, 1) := by decide +kernel
theorem dX7_firstStep_8 : decode cX7_firstStep 8 = .ok (.invokevirtual 29, 3) := by decide +kernel
theorem dX7_firstStep_11 : decode cX7_firstStep 11 = .ok (.sipush 4096, 3) := by decide +kernel
theorem dX7_firstStep_14 : decode cX7_firstStep 14 = .ok (.ior, 1) := by decide +kernel
theorem dX7_firstStep_15 : decode cX7_firstStep 15 = .ok (.istore_n 3, 1) := by decide +kernel
theorem dX7_firstStep_16 : decode cX7_firstStep 16 = .ok (.aload_n 1, 1) := by decide +kernel
theorem dX7_firstStep_17 : decode cX7_firstStep 17 = .ok (.iload_n 2, 1) := by decide +kernel
theorem dX7_firstStep_18 : decode cX7_firstStep 18 = .ok (.invokevirtual 19, 3) := by decide +kernel
theorem dX7_firstStep_21 : decode cX7_firstStep 21 = .ok (.istore 4, 2) := by decide +kernel
theorem dX7_firstStep_23 : decode cX7_firstStep 23 = .ok (.aload_n 0, 1) := by decide +kernel
theorem dX7_firstStep_24 : decode cX7_firstStep 24 = .ok (.iload 4, 2) := by decide +kernel
theorem dX7_firstStep_26 : decode cX7_firstStep 26 = .ok (.invokevirtual 25, 3) := by decide +kernel
theorem dX7_firstStep_29 : decode cX7_firstStep 29 = .ok (.istore 5, 2) := by decide +kernel
theorem dX7_firstStep_31 : decode cX7_firstStep 31 = .ok (.iload 5, 2) := by decide +kernel
theorem dX7_firstStep_33 : decode cX7_firstStep 33 = .ok (.ldc 28, 2) := by decide +kernel
theorem dX7_firstStep_35 : decode cX7_firstStep 35 = .ok (.if_icmp .lt 6, 3) := by decide +kernel
theorem dX7_firstStep_38 : decode cX7_firstStep 38 = .ok (.bipush (-6), 2) := by decide +kernel
theorem dX7_firstStep_40 : decode cX7_firstStep 40 = .ok (.ireturn, 1) := by decide +kernel
theorem dX7_firstStep_41 : decode cX7_firstStep 41 = .ok (.iload 4, 2) := by decide +kernel
theorem dX7_firstStep_43 : decode cX7_firstStep 43 = .ok (.aload_n 1, 1) := by decide +kernel
theorem dX7_firstStep_44 : decode cX7_firstStep 44 = .ok (.iload_n 2, 1) := by decide +kernel
theorem dX7_firstStep_45 : decode cX7_firstStep 45 = .ok (.invokevirtual 32, 3) := by decide +kernel
theorem dX7_firstStep_48 : decode cX7_firstStep 48 = .ok (.iadd, 1) := by decide +kernel
theorem dX7_firstStep_49 : decode cX7_firstStep 49 = .ok (.bipush 13, 2) := by decide +kernel
theorem dX7_firstStep_51 : decode cX7_firstStep 51 = .ok (.invokestatic 35, 3) := by decide +kernel
theorem dX7_firstStep_54 : decode cX7_firstStep 54 = .ok (.istore 6, 2) := by decide +kernel
theorem dX7_firstStep_56 : decode cX7_firstStep 56 = .ok (.iload 4, 2) := by decide +kernel
theorem dX7_firstStep_58 : decode cX7_firstStep 58 = .ok (.iconst 1, 1) := by decide +kernel
theorem dX7_firstStep_59 : decode cX7_firstStep 59 = .ok (.iadd, 1) := by decide +kernel
theorem dX7_firstStep_60 : decode cX7_firstStep 60 = .ok (.istore 7, 2) := by decide +kernel
theorem dX7_firstStep_62 : decode cX7_firstStep 62 = .ok (.iload 7, 2) := by decide +kernel
theorem dX7_firstStep_64 : decode cX7_firstStep 64 = .ok (.iload 6, 2) := by decide +kernel
theorem dX7_firstStep_66 : decode cX7_firstStep 66 = .ok (.if_icmp .gt 34, 3) := by decide +kernel
theorem dX7_firstStep_69 : decode cX7_firstStep 69 = .ok (.iload_n 3, 1) := by decide +kernel
theorem dX7_firstStep_70 : decode cX7_firstStep 70 = .ok (.iload 7, 2) := by decide +kernel
theorem dX7_firstStep_72 : decode cX7_firstStep 72 = .ok (.invokestatic 41, 3) := by decide +kernel
theorem dX7_firstStep_75 : decode cX7_firstStep 75 = .ok (.ifCond .eq 19, 3) := by decide +kernel
theorem dX7_firstStep_78 : decode cX7_firstStep 78 = .ok (.aload_n 0, 1) := by decide +kernel
theorem dX7_firstStep_79 : decode cX7_firstStep 79 = .ok (.iload 7, 2) := by decide +kernel
theorem dX7_firstStep_81 : decode cX7_firstStep 81 = .ok (.invokevirtual 25, 3) := by decide +kernel
theorem dX7_firstStep_84 : decode cX7_firstStep 84 = .ok (.iload 5, 2) := by decide +kernel
theorem dX7_firstStep_86 : decode cX7_firstStep 86 = .ok (.iconst 1, 1) := by decide +kernel
theorem dX7_firstStep_87 : decode cX7_firstStep 87 = .ok (.isub, 1) := by decide +kernel
theorem dX7_firstStep_88 : decode cX7_firstStep 88 = .ok (.if_icmp .ne 6, 3) := by decide +kernel
theorem dX7_firstStep_91 : decode cX7_firstStep 91 = .ok (.iload 7, 2) := by decide +kernel
theorem dX7_firstStep_93 : decode cX7_firstStep 93 = .ok (.ireturn, 1) := by decide +kernel
theorem dX7_firstStep_94 : decode cX7_firstStep 94 = .ok (.iinc 7 1, 3) := by decide +kernel
theorem dX7_firstStep_97 : decode cX7_firstStep 97 = .ok (.goto (-35), 3) := by decide +kernel
theorem dX7_firstStep_100 : decode cX7_firstStep 100 = .ok (.bipush (-6), 2) := by decide +kernel
theorem dX7_firstStep_102 : decode cX7_firstStep 102 = .ok (.ireturn, 1) := by decide +kernel
theorem dX7_settleSteps_0 : decode cX7_settleSteps 0 = .ok (.aload_n 1, 1) := by decide +kernel
theorem dX7_settleSteps_1 : decode cX7_settleSteps 1 = .ok (.iload_n 2, 1) := by decide +kernel
theorem dX7_settleSteps_2 : decode cX7_settleSteps 2 = .ok (.invokevirtual 29, 3) := by decide +kernel
theorem dX7_settleSteps_5 : decode cX7_settleSteps 5 = .ok (.sipush 4096, 3) := by decide +kernel
theorem dX7_settleSteps_8 : decode cX7_settleSteps 8 = .ok (.ior, 1) := by decide +kernel
theorem dX7_settleSteps_9 : decode cX7_settleSteps 9 = .ok (.istore_n 3, 1) := by decide +kernel
theorem dX7_settleSteps_10 : decode cX7_settleSteps 10 = .ok (.aload_n 1, 1) := by decide +kernel
theorem dX7_settleSteps_11 : decode cX7_settleSteps 11 = .ok (.iload_n 2, 1) := by decide +kernel
theorem dX7_settleSteps_12 : decode cX7_settleSteps 12 = .ok (.invokevirtual 32, 3) := by decide +kernel
theorem dX7_settleSteps_15 : decode cX7_settleSteps 15 = .ok (.istore 4, 2) := by decide +kernel
theorem dX7_settleSteps_17 : decode cX7_settleSteps 17 = .ok (.aload_n 0, 1) := by decide +kernel
theorem dX7_settleSteps_18 : decode cX7_settleSteps 18 = .ok (.getfield 9, 3) := by decide +kernel
theorem dX7_settleSteps_21 : decode cX7_settleSteps 21 = .ok (.bipush 13, 2) := by decide +kernel
theorem dX7_settleSteps_23 : decode cX7_settleSteps 23 = .ok (.iconst 0, 1) := by decide +kernel
theorem dX7_settleSteps_24 : decode cX7_settleSteps 24 = .ok (.iastore, 1) := by decide +kernel
theorem dX7_settleSteps_25 : decode cX7_settleSteps 25 = .ok (.bipush 12, 2) := by decide +kernel
theorem dX7_settleSteps_27 : decode cX7_settleSteps 27 = .ok (.istore 5, 2) := by decide +kernel
theorem dX7_settleSteps_29 : decode cX7_settleSteps 29 = .ok (.iload 5, 2) := by decide +kernel
theorem dX7_settleSteps_31 : decode cX7_settleSteps 31 = .ok (.ifCond .lt 77, 3) := by decide +kernel
theorem dX7_settleSteps_34 : decode cX7_settleSteps 34 = .ok (.ldc 28, 2) := by decide +kernel
theorem dX7_settleSteps_36 : decode cX7_settleSteps 36 = .ok (.istore 6, 2) := by decide +kernel
theorem dX7_settleSteps_38 : decode cX7_settleSteps 38 = .ok (.iload 5, 2) := by decide +kernel
theorem dX7_settleSteps_40 : decode cX7_settleSteps 40 = .ok (.iload 4, 2) := by decide +kernel
theorem dX7_settleSteps_42 : decode cX7_settleSteps 42 = .ok (.iadd, 1) := by decide +kernel
theorem dX7_settleSteps_43 : decode cX7_settleSteps 43 = .ok (.bipush 13, 2) := by decide +kernel
theorem dX7_settleSteps_45 : decode cX7_settleSteps 45 = .ok (.invokestatic 35, 3) := by decide +kernel
theorem dX7_settleSteps_48 : decode cX7_settleSteps 48 = .ok (.istore 7, 2) := by decide +kernel
theorem dX7_settleSteps_50 : decode cX7_settleSteps 50 = .ok (.iload 5, 2) := by decide +kernel
theorem dX7_settleSteps_52 : decode cX7_settleSteps 52 = .ok (.iconst 1, 1) := by decide +kernel
theorem dX7_settleSteps_53 : decode cX7_settleSteps 53 = .ok (.iadd, 1) := by decide +kernel
theorem dX7_settleSteps_54 : decode cX7_settleSteps 54 = .ok (.istore 8, 2) := by decide +kernel
theorem dX7_settleSteps_56 : decode cX7_settleSteps 56 = .ok (.iload 8, 2) := by decide +kernel
theorem dX7_settleSteps_58 : decode cX7_settleSteps 58 = .ok (.iload 7, 2) := by decide +kernel
theorem dX7_settleSteps_60 : decode cX7_settleSteps 60 = .ok (.if_icmp .gt 33, 3) := by decide +kernel
theorem dX7_settleSteps_63 : decode cX7_settleSteps 63 = .ok (.iload_n 3, 1) := by decide +kernel
theorem dX7_settleSteps_64 : decode cX7_settleSteps 64 = .ok (.iload 8, 2) := by decide +kernel
theorem dX7_settleSteps_66 : decode cX7_settleSteps 66 = .ok (.invokestatic 41, 3) := by decide +kernel
theorem dX7_settleSteps_69 : decode cX7_settleSteps 69 = .ok (.ifCond .eq 18, 3) := by decide +kernel
theorem dX7_settleSteps_72 : decode cX7_settleSteps 72 = .ok (.iload 6, 2) := by decide +kernel
theorem dX7_settleSteps_74 : decode cX7_settleSteps 74 = .ok (.aload_n 0, 1) := by decide +kernel
theorem dX7_settleSteps_75 : decode cX7_settleSteps 75 = .ok (.iload 8, 2) := by decide +kernel
theorem dX7_settleSteps_77 : decode cX7_settleSteps 77 = .ok (.invokevirtual 25, 3) := by decide +kernel
theorem dX7_settleSteps_80 : decode cX7_settleSteps 80 = .ok (.iconst 1, 1) := by decide +kernel
theorem dX7_settleSteps_81 : decode cX7_settleSteps 81 = .ok (.iadd, 1) := by decide +kernel
theorem dX7_settleSteps_82 : decode cX7_settleSteps 82 = .ok (.invokestatic 35, 3) := by decide +kernel
theorem dX7_settleSteps_85 : decode cX7_settleSteps 85 = .ok (.istore 6, 2) := by decide +kernel
theorem dX7_settleSteps_87 : decode cX7_settleSteps 87 = .ok (.iinc 8 1, 3) := by decide +kernel
theorem dX7_settleSteps_90 : decode cX7_settleSteps 90 = .ok (.goto (-34), 3) := by decide +kernel
theorem dX7_settleSteps_93 : decode cX7_settleSteps 93 = .ok (.aload_n 0, 1) := by decide +kernel
theorem dX7_settleSteps_94 : decode cX7_settleSteps 94 = .ok (.getfield 9, 3) := by decide +kernel
theorem dX7_settleSteps_97 : decode cX7_settleSteps 97 = .ok (.iload 5, 2) := by decide +kernel
theorem dX7_settleSteps_99 : decode cX7_settleSteps 99 = .ok (.iload 6, 2) := by decide +kernel
theorem dX7_settleSteps_101 : decode cX7_settleSteps 101 = .ok (.iastore, 1) := by decide +kernel
theorem dX7_settleSteps_102 : decode cX7_settleSteps 102 = .ok (.iinc 5 (-1), 3) := by decide +kernel
theorem dX7_settleSteps_105 : decode cX7_settleSteps 105 = .ok (.goto (-76), 3) := by decide +kernel
theorem dX7_settleSteps_108 : decode cX7_settleSteps 108 = .ok (.return_, 1) := by decide +kernel
theorem dX7_countUp_0 : decode cX7_countUp 0 = .ok (.aload_n 1, 1) := by decide +kernel
theorem dX7_countUp_1 : decode cX7_countUp 1 = .ok (.iload_n 2, 1) := by decide +kernel
theorem dX7_countUp_2 : decode cX7_countUp 2 = .ok (.invokevirtual 29, 3) := by decide +kernel
theorem dX7_countUp_5 : decode cX7_countUp 5 = .ok (.sipush 4096, 3) := by decide +kernel
theorem dX7_countUp_8 : decode cX7_countUp 8 = .ok (.ior, 1) := by decide +kernel
theorem dX7_countUp_9 : decode cX7_countUp 9 = .ok (.istore_n 3, 1) := by decide +kernel
theorem dX7_countUp_10 : decode cX7_countUp 10 = .ok (.aload_n 1, 1) := by decide +kernel
theorem dX7_countUp_11 : decode cX7_countUp 11 = .ok (.iload_n 2, 1) := by decide +kernel
theorem dX7_countUp_12 : decode cX7_countUp 12 = .ok (.invokevirtual 32, 3) := by decide +kernel
theorem dX7_countUp_15 : decode cX7_countUp 15 = .ok (.istore 4, 2) := by decide +kernel
theorem dX7_countUp_17 : decode cX7_countUp 17 = .ok (.aload_n 0, 1) := by decide +kernel
theorem dX7_countUp_18 : decode cX7_countUp 18 = .ok (.getfield 9, 3) := by decide +kernel
theorem dX7_countUp_21 : decode cX7_countUp 21 = .ok (.bipush 13, 2) := by decide +kernel
theorem dX7_countUp_23 : decode cX7_countUp 23 = .ok (.iconst 1, 1) := by decide +kernel
theorem dX7_countUp_24 : decode cX7_countUp 24 = .ok (.iastore, 1) := by decide +kernel
theorem dX7_countUp_25 : decode cX7_countUp 25 = .ok (.bipush 12, 2) := by decide +kernel
theorem dX7_countUp_27 : decode cX7_countUp 27 = .ok (.istore 5, 2) := by decide +kernel
theorem dX7_countUp_29 : decode cX7_countUp 29 = .ok (.iload 5, 2) := by decide +kernel
theorem dX7_countUp_31 : decode cX7_countUp 31 = .ok (.ifCond .lt 72, 3) := by decide +kernel
theorem dX7_countUp_34 : decode cX7_countUp 34 = .ok (.iconst 0, 1) := by decide +kernel
theorem dX7_countUp_35 : decode cX7_countUp 35 = .ok (.istore 6, 2) := by decide +kernel
theorem dX7_countUp_37 : decode cX7_countUp 37 = .ok (.iload 5, 2) := by decide +kernel
theorem dX7_countUp_39 : decode cX7_countUp 39 = .ok (.iload 4, 2) := by decide +kernel
theorem dX7_countUp_41 : decode cX7_countUp 41 = .ok (.iadd, 1) := by decide +kernel
theorem dX7_countUp_42 : decode cX7_countUp 42 = .ok (.bipush 13, 2) := by decide +kernel
theorem dX7_countUp_44 : decode cX7_countUp 44 = .ok (.invokestatic 35, 3) := by decide +kernel
theorem dX7_countUp_47 : decode cX7_countUp 47 = .ok (.istore 7, 2) := by decide +kernel
theorem dX7_countUp_49 : decode cX7_countUp 49 = .ok (.iload 5, 2) := by decide +kernel
theorem dX7_countUp_51 : decode cX7_countUp 51 = .ok (.iconst 1, 1) := by decide +kernel
theorem dX7_countUp_52 : decode cX7_countUp 52 = .ok (.iadd, 1) := by decide +kernel
theorem dX7_countUp_53 : decode cX7_countUp 53 = .ok (.istore 8, 2) := by decide +kernel
theorem dX7_countUp_55 : decode cX7_countUp 55 = .ok (.iload 8, 2) := by decide +kernel
theorem dX7_countUp_57 : decode cX7_countUp 57 = .ok (.iload 7, 2) := by decide +kernel
theorem dX7_countUp_59 : decode cX7_countUp 59 = .ok (.if_icmp .gt 29, 3) := by decide +kernel
theorem dX7_countUp_62 : decode cX7_countUp 62 = .ok (.iload_n 3, 1) := by decide +kernel
theorem dX7_countUp_63 : decode cX7_countUp 63 = .ok (.iload 8, 2) := by decide +kernel
theorem dX7_countUp_65 : decode cX7_countUp 65 = .ok (.invokestatic 41, 3) := by decide +kernel
theorem dX7_countUp_68 : decode cX7_countUp 68 = .ok (.ifCond .eq 14, 3) := by decide +kernel
theorem dX7_countUp_71 : decode cX7_countUp 71 = .ok (.iload 6, 2) := by decide +kernel
theorem dX7_countUp_73 : decode cX7_countUp 73 = .ok (.aload_n 0, 1) := by decide +kernel
theorem dX7_countUp_74 : decode cX7_countUp 74 = .ok (.iload 8, 2) := by decide +kernel
theorem dX7_countUp_76 : decode cX7_countUp 76 = .ok (.invokevirtual 25, 3) := by decide +kernel
theorem dX7_countUp_79 : decode cX7_countUp 79 = .ok (.iadd, 1) := by decide +kernel
theorem dX7_countUp_80 : decode cX7_countUp 80 = .ok (.istore 6, 2) := by decide +kernel
theorem dX7_countUp_82 : decode cX7_countUp 82 = .ok (.iinc 8 1, 3) := by decide +kernel
theorem dX7_countUp_85 : decode cX7_countUp 85 = .ok (.goto (-30), 3) := by decide +kernel
theorem dX7_countUp_88 : decode cX7_countUp 88 = .ok (.aload_n 0, 1) := by decide +kernel
theorem dX7_countUp_89 : decode cX7_countUp 89 = .ok (.getfield 9, 3) := by decide +kernel
theorem dX7_countUp_92 : decode cX7_countUp 92 = .ok (.iload 5, 2) := by decide +kernel
theorem dX7_countUp_94 : decode cX7_countUp 94 = .ok (.iload 6, 2) := by decide +kernel
theorem dX7_countUp_96 : decode cX7_countUp 96 = .ok (.iastore, 1) := by decide +kernel
theorem dX7_countUp_97 : decode cX7_countUp 97 = .ok (.iinc 5 (-1), 3) := by decide +kernel
theorem dX7_countUp_100 : decode cX7_countUp 100 = .ok (.goto (-71), 3) := by decide +kernel
theorem dX7_countUp_103 : decode cX7_countUp 103 = .ok (.aload_n 0, 1) := by decide +kernel
theorem dX7_countUp_104 : decode cX7_countUp 104 = .ok (.aload_n 1, 1) := by decide +kernel
theorem dX7_countUp_105 : decode cX7_countUp 105 = .ok (.iload_n 2, 1) := by decide +kernel
theorem dX7_countUp_106 : decode cX7_countUp 106 = .ok (.invokevirtual 19, 3) := by decide +kernel
theorem dX7_countUp_109 : decode cX7_countUp 109 = .ok (.invokevirtual 25, 3) := by decide +kernel
theorem dX7_countUp_112 : decode cX7_countUp 112 = .ok (.ireturn, 1) := by decide +kernel
theorem dX7_fewestLeases_0 : decode cX7_fewestLeases 0 = .ok (.aload_n 0, 1) := by decide +kernel
theorem dX7_fewestLeases_1 : decode cX7_fewestLeases 1 = .ok (.aload_n 1, 1) := by decide +kernel
theorem dX7_fewestLeases_2 : decode cX7_fewestLeases 2 = .ok (.iload_n 2, 1) := by decide +kernel
theorem dX7_fewestLeases_3 : decode cX7_fewestLeases 3 = .ok (.invokevirtual 45, 3) := by decide +kernel
theorem dX7_fewestLeases_6 : decode cX7_fewestLeases 6 = .ok (.istore_n 3, 1) := by decide +kernel
theorem dX7_fewestLeases_7 : decode cX7_fewestLeases 7 = .ok (.iload_n 3, 1) := by decide +kernel
theorem dX7_fewestLeases_8 : decode cX7_fewestLeases 8 = .ok (.ldc 28, 2) := by decide +kernel
theorem dX7_fewestLeases_10 : decode cX7_fewestLeases 10 = .ok (.if_icmp .lt 8, 3) := by decide +kernel
theorem dX7_fewestLeases_13 : decode cX7_fewestLeases 13 = .ok (.bipush (-6), 2) := by decide +kernel
theorem dX7_fewestLeases_15 : decode cX7_fewestLeases 15 = .ok (.goto 8, 3) := by decide +kernel
theorem dX7_fewestLeases_18 : decode cX7_fewestLeases 18 = .ok (.iload_n 3, 1) := by decide +kernel
theorem dX7_fewestLeases_19 : decode cX7_fewestLeases 19 = .ok (.sipush 4096, 3) := by decide +kernel
theorem dX7_fewestLeases_22 : decode cX7_fewestLeases 22 = .ok (.idiv, 1) := by decide +kernel
theorem dX7_fewestLeases_23 : decode cX7_fewestLeases 23 = .ok (.ireturn, 1) := by decide +kernel
theorem dX7_leastLeased_0 : decode cX7_leastLeased 0 = .ok (.aload_n 0, 1) := by decide +kernel
theorem dX7_leastLeased_1 : decode cX7_leastLeased 1 = .ok (.aload_n 1, 1) := by decide +kernel
theorem dX7_leastLeased_2 : decode cX7_leastLeased 2 = .ok (.iload_n 2, 1) := by decide +kernel
theorem dX7_leastLeased_3 : decode cX7_leastLeased 3 = .ok (.invokevirtual 45, 3) := by decide +kernel
theorem dX7_leastLeased_6 : decode cX7_leastLeased 6 = .ok (.istore_n 3, 1) := by decide +kernel
theorem dX7_leastLeased_7 : decode cX7_leastLeased 7 = .ok (.iload_n 3, 1) := by decide +kernel
theorem dX7_leastLeased_8 : decode cX7_leastLeased 8 = .ok (.ldc 28, 2) := by decide +kernel
theorem dX7_leastLeased_10 : decode cX7_leastLeased 10 = .ok (.if_icmp .lt 8, 3) := by decide +kernel
theorem dX7_leastLeased_13 : decode cX7_leastLeased 13 = .ok (.bipush (-6), 2) := by decide +kernel
theorem dX7_leastLeased_15 : decode cX7_leastLeased 15 = .ok (.goto 8, 3) := by decide +kernel
theorem dX7_leastLeased_18 : decode cX7_leastLeased 18 = .ok (.iload_n 3, 1) := by decide +kernel
theorem dX7_leastLeased_19 : decode cX7_leastLeased 19 = .ok (.sipush 4096, 3) := by decide +kernel
theorem dX7_leastLeased_22 : decode cX7_leastLeased 22 = .ok (.irem, 1) := by decide +kernel
theorem dX7_leastLeased_23 : decode cX7_leastLeased 23 = .ok (.ireturn, 1) := by decide +kernel
theorem dX7_leaseCost_0 : decode cX7_leaseCost 0 = .ok (.aload_n 1, 1) := by decide +kernel
theorem dX7_leaseCost_1 : decode cX7_leaseCost 1 = .ok (.iload_n 2, 1) := by decide +kernel
theorem dX7_leaseCost_2 : decode cX7_leaseCost 2 = .ok (.invokevirtual 29, 3) := by decide +kernel
theorem dX7_leaseCost_5 : decode cX7_leaseCost 5 = .ok (.sipush 4096, 3) := by decide +kernel
theorem dX7_leaseCost_8 : decode cX7_leaseCost 8 = .ok (.ior, 1) := by decide +kernel
theorem dX7_leaseCost_9 : decode cX7_leaseCost 9 = .ok (.istore_n 3, 1) := by decide +kernel
theorem dX7_leaseCost_10 : decode cX7_leaseCost 10 = .ok (.aload_n 1, 1) := by decide +kernel
theorem dX7_leaseCost_11 : decode cX7_leaseCost 11 = .ok (.invokevirtual 49, 3) := by decide +kernel
theorem dX7_leaseCost_14 : decode cX7_leaseCost 14 = .ok (.istore 4, 2) := by decide +kernel
theorem dX7_leaseCost_16 : decode cX7_leaseCost 16 = .ok (.aload_n 1, 1) := by decide +kernel
theorem dX7_leaseCost_17 : decode cX7_leaseCost 17 = .ok (.iload_n 2, 1) := by decide +kernel
theorem dX7_leaseCost_18 : decode cX7_leaseCost 18 = .ok (.invokevirtual 32, 3) := by decide +kernel
theorem dX7_leaseCost_21 : decode cX7_leaseCost 21 = .ok (.istore 5, 2) := by decide +kernel
theorem dX7_leaseCost_23 : decode cX7_leaseCost 23 = .ok (.aload_n 0, 1) := by decide +kernel
theorem dX7_leaseCost_24 : decode cX7_leaseCost 24 = .ok (.getfield 9, 3) := by decide +kernel
theorem dX7_leaseCost_27 : decode cX7_leaseCost 27 = .ok (.bipush 13, 2) := by decide +kernel
theorem dX7_leaseCost_29 : decode cX7_leaseCost 29 = .ok (.iconst 0, 1) := by decide +kernel
theorem dX7_leaseCost_30 : decode cX7_leaseCost 30 = .ok (.iastore, 1) := by decide +kernel
theorem dX7_leaseCost_31 : decode cX7_leaseCost 31 = .ok (.bipush 12, 2) := by decide +kernel
theorem dX7_leaseCost_33 : decode cX7_leaseCost 33 = .ok (.istore 6, 2) := by decide +kernel
theorem dX7_leaseCost_35 : decode cX7_leaseCost 35 = .ok (.iload 6, 2) := by decide +kernel
theorem dX7_leaseCost_37 : decode cX7_leaseCost 37 = .ok (.ifCond .lt 111, 3) := by decide +kernel
theorem dX7_leaseCost_40 : decode cX7_leaseCost 40 = .ok (.ldc 28, 2) := by decide +kernel
theorem dX7_leaseCost_42 : decode cX7_leaseCost 42 = .ok (.istore 7, 2) := by decide +kernel
theorem dX7_leaseCost_44 : decode cX7_leaseCost 44 = .ok (.iload 6, 2) := by decide +kernel
theorem dX7_leaseCost_46 : decode cX7_leaseCost 46 = .ok (.iload 5, 2) := by decide +kernel
theorem dX7_leaseCost_48 : decode cX7_leaseCost 48 = .ok (.iadd, 1) := by decide +kernel
theorem dX7_leaseCost_49 : decode cX7_leaseCost 49 = .ok (.bipush 13, 2) := by decide +kernel
theorem dX7_leaseCost_51 : decode cX7_leaseCost 51 = .ok (.invokestatic 35, 3) := by decide +kernel
theorem dX7_leaseCost_54 : decode cX7_leaseCost 54 = .ok (.istore 8, 2) := by decide +kernel
theorem dX7_leaseCost_56 : decode cX7_leaseCost 56 = .ok (.iload 6, 2) := by decide +kernel
theorem dX7_leaseCost_58 : decode cX7_leaseCost 58 = .ok (.iconst 1, 1) := by decide +kernel
theorem dX7_leaseCost_59 : decode cX7_leaseCost 59 = .ok (.iadd, 1) := by decide +kernel
theorem dX7_leaseCost_60 : decode cX7_leaseCost 60 = .ok (.istore 9, 2) := by decide +kernel
theorem dX7_leaseCost_62 : decode cX7_leaseCost 62 = .ok (.iload 9, 2) := by decide +kernel
theorem dX7_leaseCost_64 : decode cX7_leaseCost 64 = .ok (.iload 8, 2) := by decide +kernel
theorem dX7_leaseCost_66 : decode cX7_leaseCost 66 = .ok (.if_icmp .gt 67, 3) := by decide +kernel
theorem dX7_leaseCost_69 : decode cX7_leaseCost 69 = .ok (.iload_n 3, 1) := by decide +kernel
theorem dX7_leaseCost_70 : decode cX7_leaseCost 70 = .ok (.iload 9, 2) := by decide +kernel
theorem dX7_leaseCost_72 : decode cX7_leaseCost 72 = .ok (.invokestatic 41, 3) := by decide +kernel
theorem dX7_leaseCost_75 : decode cX7_leaseCost 75 = .ok (.ifCond .eq 19, 3) := by decide +kernel
theorem dX7_leaseCost_78 : decode cX7_leaseCost 78 = .ok (.iload 7, 2) := by decide +kernel
theorem dX7_leaseCost_80 : decode cX7_leaseCost 80 = .ok (.aload_n 0, 1) := by decide +kernel
theorem dX7_leaseCost_81 : decode cX7_leaseCost 81 = .ok (.iload 9, 2) := by decide +kernel
theorem dX7_leaseCost_83 : decode cX7_leaseCost 83 = .ok (.invokevirtual 25, 3) := by decide +kernel
theorem dX7_leaseCost_86 : decode cX7_leaseCost 86 = .ok (.invokestatic 35, 3) := by decide +kernel
theorem dX7_leaseCost_89 : decode cX7_leaseCost 89 = .ok (.istore 7, 2) := by decide +kernel
theorem dX7_leaseCost_91 : decode cX7_leaseCost 91 = .ok (.goto 36, 3) := by decide +kernel
theorem dX7_leaseCost_94 : decode cX7_leaseCost 94 = .ok (.iload 4, 2) := by decide +kernel
theorem dX7_leaseCost_96 : decode cX7_leaseCost 96 = .ok (.iload 9, 2) := by decide +kernel
theorem dX7_leaseCost_98 : decode cX7_leaseCost 98 = .ok (.invokestatic 41, 3) := by decide +kernel
theorem dX7_leaseCost_101 : decode cX7_leaseCost 101 = .ok (.ifCond .eq 26, 3) := by decide +kernel
theorem dX7_leaseCost_104 : decode cX7_leaseCost 104 = .ok (.iload 7, 2) := by decide +kernel
theorem dX7_leaseCost_106 : decode cX7_leaseCost 106 = .ok (.aload_n 0, 1) := by decide +kernel
theorem dX7_leaseCost_107 : decode cX7_leaseCost 107 = .ok (.iload 9, 2) := by decide +kernel
theorem dX7_leaseCost_109 : decode cX7_leaseCost 109 = .ok (.invokevirtual 25, 3) := by decide +kernel
theorem dX7_leaseCost_112 : decode cX7_leaseCost 112 = .ok (.sipush 4096, 3) := by decide +kernel
theorem dX7_leaseCost_115 : decode cX7_leaseCost 115 = .ok (.iadd, 1) := by decide +kernel
theorem dX7_leaseCost_116 : decode cX7_leaseCost 116 = .ok (.iload 9, 2) := by decide +kernel
theorem dX7_leaseCost_118 : decode cX7_leaseCost 118 = .ok (.invokestatic 53, 3) := by decide +kernel
theorem dX7_leaseCost_121 : decode cX7_leaseCost 121 = .ok (.iadd, 1) := by decide +kernel
theorem dX7_leaseCost_122 : decode cX7_leaseCost 122 = .ok (.invokestatic 35, 3) := by decide +kernel
theorem dX7_leaseCost_125 : decode cX7_leaseCost 125 = .ok (.istore 7, 2) := by decide +kernel
theorem dX7_leaseCost_127 : decode cX7_leaseCost 127 = .ok (.iinc 9 1, 3) := by decide +kernel
theorem dX7_leaseCost_130 : decode cX7_leaseCost 130 = .ok (.goto (-68), 3) := by decide +kernel
theorem dX7_leaseCost_133 : decode cX7_leaseCost 133 = .ok (.aload_n 0, 1) := by decide +kernel
theorem dX7_leaseCost_134 : decode cX7_leaseCost 134 = .ok (.getfield 9, 3) := by decide +kernel
theorem dX7_leaseCost_137 : decode cX7_leaseCost 137 = .ok (.iload 6, 2) := by decide +kernel
theorem dX7_leaseCost_139 : decode cX7_leaseCost 139 = .ok (.iload 7, 2) := by decide +kernel
theorem dX7_leaseCost_141 : decode cX7_leaseCost 141 = .ok (.iastore, 1) := by decide +kernel
theorem dX7_leaseCost_142 : decode cX7_leaseCost 142 = .ok (.iinc 6 (-1), 3) := by decide +kernel
theorem dX7_leaseCost_145 : decode cX7_leaseCost 145 = .ok (.goto (-110), 3) := by decide +kernel
theorem dX7_leaseCost_148 : decode cX7_leaseCost 148 = .ok (.aload_n 0, 1) := by decide +kernel
theorem dX7_leaseCost_149 : decode cX7_leaseCost 149 = .ok (.aload_n 1, 1) := by decide +kernel
theorem dX7_leaseCost_150 : decode cX7_leaseCost 150 = .ok (.iload_n 2, 1) := by decide +kernel
theorem dX7_leaseCost_151 : decode cX7_leaseCost 151 = .ok (.invokevirtual 19, 3) := by decide +kernel
theorem dX7_leaseCost_154 : decode cX7_leaseCost 154 = .ok (.invokevirtual 25, 3) := by decide +kernel
theorem dX7_leaseCost_157 : decode cX7_leaseCost 157 = .ok (.ireturn, 1) := by decide +kernel
theorem dX7_settledAt_0 : decode cX7_settledAt 0 = .ok (.iload_n 1, 1) := by decide +kernel
theorem dX7_settledAt_1 : decode cX7_settledAt 1 = .ok (.invokestatic 56, 3) := by decide +kernel
theorem dX7_settledAt_4 : decode cX7_settledAt 4 = .ok (.ifCond .eq 12, 3) := by decide +kernel
theorem dX7_settledAt_7 : decode cX7_settledAt 7 = .ok (.aload_n 0, 1) := by decide +kernel
theorem dX7_settledAt_8 : decode cX7_settledAt 8 = .ok (.getfield 9, 3) := by decide +kernel
theorem dX7_settledAt_11 : decode cX7_settledAt 11 = .ok (.iload_n 1, 1) := by decide +kernel
theorem dX7_settledAt_12 : decode cX7_settledAt 12 = .ok (.iaload, 1) := by decide +kernel
theorem dX7_settledAt_13 : decode cX7_settledAt 13 = .ok (.goto 5, 3) := by decide +kernel
theorem dX7_settledAt_16 : decode cX7_settledAt 16 = .ok (.ldc 28, 2) := by decide +kernel
theorem dX7_settledAt_18 : decode cX7_settledAt 18 = .ok (.ireturn, 1) := by decide +kernel
theorem dX7_isOpen_0 : decode cX7_isOpen 0 = .ok (.iload_n 0, 1) := by decide +kernel
theorem dX7_isOpen_1 : decode cX7_isOpen 1 = .ok (.iload_n 1, 1) := by decide +kernel
theorem dX7_isOpen_2 : decode cX7_isOpen 2 = .ok (.iconst 1, 1) := by decide +kernel
theorem dX7_isOpen_3 : decode cX7_isOpen 3 = .ok (.isub, 1) := by decide +kernel
theorem dX7_isOpen_4 : decode cX7_isOpen 4 = .ok (.ishr, 1) := by decide +kernel
theorem dX7_isOpen_5 : decode cX7_isOpen 5 = .ok (.iconst 1, 1) := by decide +kernel
theorem dX7_isOpen_6 : decode cX7_isOpen 6 = .ok (.iand, 1) := by decide +kernel
theorem dX7_isOpen_7 : decode cX7_isOpen 7 = .ok (.ifCond .eq 7, 3) := by decide +kernel
theorem dX7_isOpen_10 : decode cX7_isOpen 10 = .ok (.iconst 1, 1) := by decide +kernel
theorem dX7_isOpen_11 : decode cX7_isOpen 11 = .ok (.goto 4, 3) := by decide +kernel
theorem dX7_isOpen_14 : decode cX7_isOpen 14 = .ok (.iconst 0, 1) := by decide +kernel
theorem dX7_isOpen_15 : decode cX7_isOpen 15 = .ok (.ireturn, 1) := by decide +kernel
theorem dX8_init_0 : decode cX8_init 0 = .ok (.aload_n 0, 1) := by decide +kernel
theorem dX8_init_1 : decode cX8_init 1 = .ok (.invokespecial 3, 3) := by decide +kernel
theorem dX8_init_4 : decode cX8_init 4 = .ok (.aload_n 0, 1) := by decide +kernel
theorem dX8_init_5 : decode cX8_init 5 = .ok (.bipush 12, 2) := by decide +kernel
theorem dX8_init_7 : decode cX8_init 7 = .ok (.newarray .int, 2) := by decide +kernel
theorem dX8_init_9 : decode cX8_init 9 = .ok (.putfield 9, 3) := by decide +kernel
theorem dX8_init_12 : decode cX8_init 12 = .ok (.aload_n 0, 1) := by decide +kernel
theorem dX8_init_13 : decode cX8_init 13 = .ok (.bipush 12, 2) := by decide +kernel
theorem dX8_init_15 : decode cX8_init 15 = .ok (.newarray .int, 2) := by decide +kernel
theorem dX8_init_17 : decode cX8_init 17 = .ok (.putfield 15, 3) := by decide +kernel
theorem dX8_init_20 : decode cX8_init 20 = .ok (.aload_n 0, 1) := by decide +kernel
theorem dX8_init_21 : decode cX8_init 21 = .ok (.iconst 0, 1) := by decide +kernel
theorem dX8_init_22 : decode cX8_init 22 = .ok (.putfield 18, 3) := by decide +kernel
theorem dX8_init_25 : decode cX8_init 25 = .ok (.return_, 1) := by decide +kernel
theorem dX8_find_0 : decode cX8_find 0 = .ok (.aload_n 0, 1) := by decide +kernel
theorem dX8_find_1 : decode cX8_find 1 = .ok (.iconst 0, 1) := by decide +kernel
theorem dX8_find_2 : decode cX8_find 2 = .ok (.putfield 18, 3) := by decide +kernel
theorem dX8_find_5 : decode cX8_find 5 = .ok (.iconst 0, 1) := by decide +kernel
theorem dX8_find_6 : decode cX8_find 6 = .ok (.istore_n 2, 1) := by decide +kernel
theorem dX8_find_7 : decode cX8_find 7 = .ok (.iload_n 2, 1) := by decide +kernel
theorem dX8_find_8 : decode cX8_find 8 = .ok (.bipush 6, 2) := by decide +kernel
theorem dX8_find_10 : decode cX8_find 10 = .ok (.if_icmp .ge 91, 3) := by decide +kernel
theorem dX8_find_13 : decode cX8_find 13 = .ok (.iconst 0, 1) := by decide +kernel
theorem dX8_find_14 : decode cX8_find 14 = .ok (.istore_n 3, 1) := by decide +kernel
theorem dX8_find_15 : decode cX8_find 15 = .ok (.iload_n 3, 1) := by decide +kernel
theorem dX8_find_16 : decode cX8_find 16 = .ok (.iconst 1, 1) := by decide +kernel
theorem dX8_find_17 : decode cX8_find 17 = .ok (.if_icmp .gt 78, 3) := by decide +kernel
theorem dX8_find_20 : decode cX8_find 20 = .ok (.aload_n 1, 1) := by decide +kernel
theorem dX8_find_21 : decode cX8_find 21 = .ok (.iload_n 2, 1) := by decide +kernel
theorem dX8_find_22 : decode cX8_find 22 = .ok (.iload_n 3, 1) := by decide +kernel
theorem dX8_find_23 : decode cX8_find 23 = .ok (.invokestatic 22, 3) := by decide +kernel
theorem dX8_find_26 : decode cX8_find 26 = .ok (.istore 4, 2) := by decide +kernel
theorem dX8_find_28 : decode cX8_find 28 = .ok (.aload_n 1, 1) := by decide +kernel
theorem dX8_find_29 : decode cX8_find 29 = .ok (.iload 4, 2) := by decide +kernel
theorem dX8_find_31 : decode cX8_find 31 = .ok (.invokevirtual 26, 3) := by decide +kernel
theorem dX8_find_34 : decode cX8_find 34 = .ok (.ifCond .eq 55, 3) := by decide +kernel
theorem dX8_find_37 : decode cX8_find 37 = .ok (.aload_n 0, 1) := by decide +kernel
theorem dX8_find_38 : decode cX8_find 38 = .ok (.getfield 18, 3) := by decide +kernel
theorem dX8_find_41 : decode cX8_find 41 = .ok (.ifCond .lt 48, 3) := by decide +kernel
theorem dX8_find_44 : decode cX8_find 44 = .ok (.aload_n 0, 1) := by decide +kernel
theorem dX8_find_45 : decode cX8_find 45 = .ok (.getfield 18, 3) := by decide +kernel
theorem dX8_find_48 : decode cX8_find 48 = .ok (.bipush 12, 2) := by decide +kernel
theorem dX8_find_50 : decode cX8_find 50 = .ok (.if_icmp .ge 39, 3) := by decide +kernel
theorem dX8_find_53 : decode cX8_find 53 = .ok (.aload_n 0, 1) := by decide +kernel
theorem dX8_find_54 : decode cX8_find 54 = .ok (.getfield 9, 3) := by decide +kernel
theorem dX8_find_57 : decode cX8_find 57 = .ok (.aload_n 0, 1) := by decide +kernel
theorem dX8_find_58 : decode cX8_find 58 = .ok (.getfield 18, 3) := by decide +kernel
theorem dX8_find_61 : decode cX8_find 61 = .ok (.bipush 10, 2) := by decide +kernel
theorem dX8_find_63 : decode cX8_find 63 = .ok (.iload_n 2, 1) := by decide +kernel
theorem dX8_find_64 : decode cX8_find 64 = .ok (.imul, 1) := by decide +kernel
theorem dX8_find_65 : decode cX8_find 65 = .ok (.iload_n 3, 1) := by decide +kernel
theorem dX8_find_66 : decode cX8_find 66 = .ok (.iadd, 1) := by decide +kernel
theorem dX8_find_67 : decode cX8_find 67 = .ok (.iastore, 1) := by decide +kernel
theorem dX8_find_68 : decode cX8_find 68 = .ok (.aload_n 0, 1) := by decide +kernel
theorem dX8_find_69 : decode cX8_find 69 = .ok (.getfield 15, 3) := by decide +kernel
theorem dX8_find_72 : decode cX8_find 72 = .ok (.aload_n 0, 1) := by decide +kernel
theorem dX8_find_73 : decode cX8_find 73 = .ok (.getfield 18, 3) := by decide +kernel
theorem dX8_find_76 : decode cX8_find 76 = .ok (.iload 4, 2) := by decide +kernel
theorem dX8_find_78 : decode cX8_find 78 = .ok (.iastore, 1) := by decide +kernel
theorem dX8_find_79 : decode cX8_find 79 = .ok (.aload_n 0, 1) := by decide +kernel
theorem dX8_find_80 : decode cX8_find 80 = .ok (.dup, 1) := by decide +kernel
theorem dX8_find_81 : decode cX8_find 81 = .ok (.getfield 18, 3) := by decide +kernel
theorem dX8_find_84 : decode cX8_find 84 = .ok (.iconst 1, 1) := by decide +kernel
theorem dX8_find_85 : decode cX8_find 85 = .ok (.iadd, 1) := by decide +kernel
theorem dX8_find_86 : decode cX8_find 86 = .ok (.putfield 18, 3) := by decide +kernel
theorem dX8_find_89 : decode cX8_find 89 = .ok (.iinc 3 1, 3) := by decide +kernel
theorem dX8_find_92 : decode cX8_find 92 = .ok (.goto (-77), 3) := by decide +kernel
theorem dX8_find_95 : decode cX8_find 95 = .ok (.iinc 2 1, 3) := by decide +kernel
theorem dX8_find_98 : decode cX8_find 98 = .ok (.goto (-91), 3) := by decide +kernel
theorem dX8_find_101 : decode cX8_find 101 = .ok (.return_, 1) := by decide +kernel
theorem dX8_trailOf_0 : decode cX8_trailOf 0 = .ok (.iconst 0, 1) := by decide +kernel
theorem dX8_trailOf_1 : decode cX8_trailOf 1 = .ok (.istore_n 3, 1) := by decide +kernel
theorem dX8_trailOf_2 : decode cX8_trailOf 2 = .ok (.iconst 0, 1) := by decide +kernel
theorem dX8_trailOf_3 : decode cX8_trailOf 3 = .ok (.istore 4, 2) := by decide +kernel
theorem dX8_trailOf_5 : decode cX8_trailOf 5 = .ok (.iconst 0, 1) := by decide +kernel
theorem dX8_trailOf_6 : decode cX8_trailOf 6 = .ok (.istore 5, 2) := by decide +kernel
theorem dX8_trailOf_8 : decode cX8_trailOf 8 = .ok (.iload 5, 2) := by decide +kernel
theorem dX8_trailOf_10 : decode cX8_trailOf 10 = .ok (.bipush 13, 2) := by decide +kernel
theorem dX8_trailOf_12 : decode cX8_trailOf 12 = .ok (.if_icmp .ge 47, 3) := by decide +kernel
theorem dX8_trailOf_15 : decode cX8_trailOf 15 = .ok (.iload 4, 2) := by decide +kernel
theorem dX8_trailOf_17 : decode cX8_trailOf 17 = .ok (.bipush 13, 2) := by decide +kernel
theorem dX8_trailOf_19 : decode cX8_trailOf 19 = .ok (.if_icmp .ge 40, 3) := by decide +kernel
theorem dX8_trailOf_22 : decode cX8_trailOf 22 = .ok (.aload_n 0, 1) := by decide +kernel
theorem dX8_trailOf_23 : decode cX8_trailOf 23 = .ok (.iload_n 1, 1) := by decide +kernel
theorem dX8_trailOf_24 : decode cX8_trailOf 24 = .ok (.iload_n 2, 1) := by decide +kernel
theorem dX8_trailOf_25 : decode cX8_trailOf 25 = .ok (.iload 4, 2) := by decide +kernel
theorem dX8_trailOf_27 : decode cX8_trailOf 27 = .ok (.invokestatic 32, 3) := by decide +kernel
theorem dX8_trailOf_30 : decode cX8_trailOf 30 = .ok (.istore 6, 2) := by decide +kernel
theorem dX8_trailOf_32 : decode cX8_trailOf 32 = .ok (.iload 6, 2) := by decide +kernel
theorem dX8_trailOf_34 : decode cX8_trailOf 34 = .ok (.iload 4, 2) := by decide +kernel
theorem dX8_trailOf_36 : decode cX8_trailOf 36 = .ok (.if_icmp .ne 5, 3) := by decide +kernel
theorem dX8_trailOf_39 : decode cX8_trailOf 39 = .ok (.iload_n 3, 1) := by decide +kernel
theorem dX8_trailOf_40 : decode cX8_trailOf 40 = .ok (.ireturn, 1) := by decide +kernel
theorem dX8_trailOf_41 : decode cX8_trailOf 41 = .ok (.iload_n 3, 1) := by decide +kernel
theorem dX8_trailOf_42 : decode cX8_trailOf 42 = .ok (.iload 6, 2) := by decide +kernel
theorem dX8_trailOf_44 : decode cX8_trailOf 44 = .ok (.invokestatic 36, 3) := by decide +kernel
theorem dX8_trailOf_47 : decode cX8_trailOf 47 = .ok (.ior, 1) := by decide +kernel
theorem dX8_trailOf_48 : decode cX8_trailOf 48 = .ok (.istore_n 3, 1) := by decide +kernel
theorem dX8_trailOf_49 : decode cX8_trailOf 49 = .ok (.iload 6, 2) := by decide +kernel
theorem dX8_trailOf_51 : decode cX8_trailOf 51 = .ok (.istore 4, 2) := by decide +kernel
theorem dX8_trailOf_53 : decode cX8_trailOf 53 = .ok (.iinc 5 1, 3) := by decide +kernel
theorem dX8_trailOf_56 : decode cX8_trailOf 56 = .ok (.goto (-48), 3) := by decide +kernel
theorem dX8_trailOf_59 : decode cX8_trailOf 59 = .ok (.iload_n 3, 1) := by decide +kernel
theorem dX8_trailOf_60 : decode cX8_trailOf 60 = .ok (.ireturn, 1) := by decide +kernel
theorem dX8_nextPlace_0 : decode cX8_nextPlace 0 = .ok (.aload_n 0, 1) := by decide +kernel
theorem dX8_nextPlace_1 : decode cX8_nextPlace 1 = .ok (.iload_n 1, 1) := by decide +kernel
theorem dX8_nextPlace_2 : decode cX8_nextPlace 2 = .ok (.invokevirtual 40, 3) := by decide +kernel
theorem dX8_nextPlace_5 : decode cX8_nextPlace 5 = .ok (.istore 4, 2) := by decide +kernel
theorem dX8_nextPlace_7 : decode cX8_nextPlace 7 = .ok (.iconst 1, 1) := by decide +kernel
theorem dX8_nextPlace_8 : decode cX8_nextPlace 8 = .ok (.istore 5, 2) := by decide +kernel
theorem dX8_nextPlace_10 : decode cX8_nextPlace 10 = .ok (.iload 5, 2) := by decide +kernel
theorem dX8_nextPlace_12 : decode cX8_nextPlace 12 = .ok (.iload 4, 2) := by decide +kernel
theorem dX8_nextPlace_14 : decode cX8_nextPlace 14 = .ok (.if_icmp .gt 49, 3) := by decide +kernel
theorem dX8_nextPlace_17 : decode cX8_nextPlace 17 = .ok (.iload_n 3, 1) := by decide +kernel
theorem dX8_nextPlace_18 : decode cX8_nextPlace 18 = .ok (.iload_n 2, 1) := by decide +kernel
theorem dX8_nextPlace_19 : decode cX8_nextPlace 19 = .ok (.ifCond .ne 13, 3) := by decide +kernel
theorem dX8_nextPlace_22 : decode cX8_nextPlace 22 = .ok (.iload 4, 2) := by decide +kernel
theorem dX8_nextPlace_24 : decode cX8_nextPlace 24 = .ok (.iconst 1, 1) := by decide +kernel
theorem dX8_nextPlace_25 : decode cX8_nextPlace 25 = .ok (.iadd, 1) := by decide +kernel
theorem dX8_nextPlace_26 : decode cX8_nextPlace 26 = .ok (.iload 5, 2) := by decide +kernel
theorem dX8_nextPlace_28 : decode cX8_nextPlace 28 = .ok (.isub, 1) := by decide +kernel
theorem dX8_nextPlace_29 : decode cX8_nextPlace 29 = .ok (.goto 5, 3) := by decide +kernel
theorem dX8_nextPlace_32 : decode cX8_nextPlace 32 = .ok (.iload 5, 2) := by decide +kernel
theorem dX8_nextPlace_34 : decode cX8_nextPlace 34 = .ok (.iadd, 1) := by decide +kernel
theorem dX8_nextPlace_35 : decode cX8_nextPlace 35 = .ok (.istore 6, 2) := by decide +kernel
theorem dX8_nextPlace_37 : decode cX8_nextPlace 37 = .ok (.iload 6, 2) := by decide +kernel
theorem dX8_nextPlace_39 : decode cX8_nextPlace 39 = .ok (.bipush 13, 2) := by decide +kernel
theorem dX8_nextPlace_41 : decode cX8_nextPlace 41 = .ok (.if_icmp .eq 13, 3) := by decide +kernel
theorem dX8_nextPlace_44 : decode cX8_nextPlace 44 = .ok (.aload_n 0, 1) := by decide +kernel
theorem dX8_nextPlace_45 : decode cX8_nextPlace 45 = .ok (.iload_n 1, 1) := by decide +kernel
theorem dX8_nextPlace_46 : decode cX8_nextPlace 46 = .ok (.iload 6, 2) := by decide +kernel
theorem dX8_nextPlace_48 : decode cX8_nextPlace 48 = .ok (.invokevirtual 43, 3) := by decide +kernel
theorem dX8_nextPlace_51 : decode cX8_nextPlace 51 = .ok (.ifCond .eq 6, 3) := by decide +kernel
theorem dX8_nextPlace_54 : decode cX8_nextPlace 54 = .ok (.iload 6, 2) := by decide +kernel
theorem dX8_nextPlace_56 : decode cX8_nextPlace 56 = .ok (.ireturn, 1) := by decide +kernel
theorem dX8_nextPlace_57 : decode cX8_nextPlace 57 = .ok (.iinc 5 1, 3) := by decide +kernel
theorem dX8_nextPlace_60 : decode cX8_nextPlace 60 = .ok (.goto (-50), 3) := by decide +kernel
theorem dX8_nextPlace_63 : decode cX8_nextPlace 63 = .ok (.iload_n 3, 1) := by decide +kernel
theorem dX8_nextPlace_64 : decode cX8_nextPlace 64 = .ok (.ireturn, 1) := by decide +kernel
theorem dX8_size_0 : decode cX8_size 0 = .ok (.aload_n 0, 1) := by decide +kernel
theorem dX8_size_1 : decode cX8_size 1 = .ok (.getfield 18, 3) := by decide +kernel
theorem dX8_size_4 : decode cX8_size 4 = .ok (.ireturn, 1) := by decide +kernel
theorem dX8_codeAt_0 : decode cX8_codeAt 0 = .ok (.iload_n 1, 1) := by decide +kernel
theorem dX8_codeAt_1 : decode cX8_codeAt 1 = .ok (.ifCond .lt 26, 3) := by decide +kernel
theorem dX8_codeAt_4 : decode cX8_codeAt 4 = .ok (.iload_n 1, 1) := by decide +kernel
theorem dX8_codeAt_5 : decode cX8_codeAt 5 = .ok (.aload_n 0, 1) := by decide +kernel
theorem dX8_codeAt_6 : decode cX8_codeAt 6 = .ok (.getfield 18, 3) := by decide +kernel
theorem dX8_codeAt_9 : decode cX8_codeAt 9 = .ok (.if_icmp .ge 18, 3) := by decide +kernel
theorem dX8_codeAt_12 : decode cX8_codeAt 12 = .ok (.iload_n 1, 1) := by decide +kernel
theorem dX8_codeAt_13 : decode cX8_codeAt 13 = .ok (.bipush 12, 2) := by decide +kernel
theorem dX8_codeAt_15 : decode cX8_codeAt 15 = .ok (.if_icmp .ge 12, 3) := by decide +kernel
theorem dX8_codeAt_18 : decode cX8_codeAt 18 = .ok (.aload_n 0, 1) := by decide +kernel
theorem dX8_codeAt_19 : decode cX8_codeAt 19 = .ok (.getfield 9, 3) := by decide +kernel
theorem dX8_codeAt_22 : decode cX8_codeAt 22 = .ok (.iload_n 1, 1) := by decide +kernel
theorem dX8_codeAt_23 : decode cX8_codeAt 23 = .ok (.iaload, 1) := by decide +kernel
theorem dX8_codeAt_24 : decode cX8_codeAt 24 = .ok (.goto 5, 3) := by decide +kernel
theorem dX8_codeAt_27 : decode cX8_codeAt 27 = .ok (.bipush (-6), 2) := by decide +kernel
theorem dX8_codeAt_29 : decode cX8_codeAt 29 = .ok (.ireturn, 1) := by decide +kernel
theorem dX8_rungToFeel_0 : decode cX8_rungToFeel 0 = .ok (.iconst 1, 1) := by decide +kernel
theorem dX8_rungToFeel_1 : decode cX8_rungToFeel 1 = .ok (.istore_n 1, 1) := by decide +kernel
theorem dX8_rungToFeel_2 : decode cX8_rungToFeel 2 = .ok (.iconst 2, 1) := by decide +kernel
theorem dX8_rungToFeel_3 : decode cX8_rungToFeel 3 = .ok (.istore_n 2, 1) := by decide +kernel
theorem dX8_rungToFeel_4 : decode cX8_rungToFeel 4 = .ok (.iload_n 2, 1) := by decide +kernel
theorem dX8_rungToFeel_5 : decode cX8_rungToFeel 5 = .ok (.bipush 12, 2) := by decide +kernel
theorem dX8_rungToFeel_7 : decode cX8_rungToFeel 7 = .ok (.if_icmp .gt 24, 3) := by decide +kernel
theorem dX8_rungToFeel_10 : decode cX8_rungToFeel 10 = .ok (.aload_n 0, 1) := by decide +kernel
theorem dX8_rungToFeel_11 : decode cX8_rungToFeel 11 = .ok (.iload_n 2, 1) := by decide +kernel
theorem dX8_rungToFeel_12 : decode cX8_rungToFeel 12 = .ok (.invokevirtual 47, 3) := by decide +kernel
theorem dX8_rungToFeel_15 : decode cX8_rungToFeel 15 = .ok (.aload_n 0, 1) := by decide +kernel
theorem dX8_rungToFeel_16 : decode cX8_rungToFeel 16 = .ok (.iload_n 1, 1) := by decide +kernel
theorem dX8_rungToFeel_17 : decode cX8_rungToFeel 17 = .ok (.invokevirtual 47, 3) := by decide +kernel
theorem dX8_rungToFeel_20 : decode cX8_rungToFeel 20 = .ok (.if_icmp .ge 5, 3) := by decide +kernel
theorem dX8_rungToFeel_23 : decode cX8_rungToFeel 23 = .ok (.iload_n 2, 1) := by decide +kernel
theorem dX8_rungToFeel_24 : decode cX8_rungToFeel 24 = .ok (.istore_n 1, 1) := by decide +kernel
theorem dX8_rungToFeel_25 : decode cX8_rungToFeel 25 = .ok (.iinc 2 1, 3) := by decide +kernel
theorem dX8_rungToFeel_28 : decode cX8_rungToFeel 28 = .ok (.goto (-24), 3) := by decide +kernel
theorem dX8_rungToFeel_31 : decode cX8_rungToFeel 31 = .ok (.iload_n 1, 1) := by decide +kernel
theorem dX8_rungToFeel_32 : decode cX8_rungToFeel 32 = .ok (.ireturn, 1) := by decide +kernel
theorem dX8_mostLeftBy_0 : decode cX8_mostLeftBy 0 = .ok (.iconst 0, 1) := by decide +kernel
theorem dX8_mostLeftBy_1 : decode cX8_mostLeftBy 1 = .ok (.istore_n 2, 1) := by decide +kernel
theorem dX8_mostLeftBy_2 : decode cX8_mostLeftBy 2 = .ok (.iconst 0, 1) := by decide +kernel
theorem dX8_mostLeftBy_3 : decode cX8_mostLeftBy 3 = .ok (.istore_n 3, 1) := by decide +kernel
theorem dX8_mostLeftBy_4 : decode cX8_mostLeftBy 4 = .ok (.iload_n 3, 1) := by decide +kernel
theorem dX8_mostLeftBy_5 : decode cX8_mostLeftBy 5 = .ok (.aload_n 0, 1) := by decide +kernel
theorem dX8_mostLeftBy_6 : decode cX8_mostLeftBy 6 = .ok (.getfield 18, 3) := by decide +kernel
theorem dX8_mostLeftBy_9 : decode cX8_mostLeftBy 9 = .ok (.if_icmp .ge 32, 3) := by decide +kernel
theorem dX8_mostLeftBy_12 : decode cX8_mostLeftBy 12 = .ok (.iload_n 3, 1) := by decide +kernel
theorem dX8_mostLeftBy_13 : decode cX8_mostLeftBy 13 = .ok (.bipush 12, 2) := by decide +kernel
theorem dX8_mostLeftBy_15 : decode cX8_mostLeftBy 15 = .ok (.if_icmp .ge 26, 3) := by decide +kernel
theorem dX8_mostLeftBy_18 : decode cX8_mostLeftBy 18 = .ok (.aload_n 0, 1) := by decide +kernel
theorem dX8_mostLeftBy_19 : decode cX8_mostLeftBy 19 = .ok (.getfield 15, 3) := by decide +kernel
theorem dX8_mostLeftBy_22 : decode cX8_mostLeftBy 22 = .ok (.iload_n 3, 1) := by decide +kernel
theorem dX8_mostLeftBy_23 : decode cX8_mostLeftBy 23 = .ok (.iaload, 1) := by decide +kernel
theorem dX8_mostLeftBy_24 : decode cX8_mostLeftBy 24 = .ok (.iload_n 1, 1) := by decide +kernel
theorem dX8_mostLeftBy_25 : decode cX8_mostLeftBy 25 = .ok (.invokestatic 36, 3) := by decide +kernel
theorem dX8_mostLeftBy_28 : decode cX8_mostLeftBy 28 = .ok (.iand, 1) := by decide +kernel
theorem dX8_mostLeftBy_29 : decode cX8_mostLeftBy 29 = .ok (.ifCond .eq 6, 3) := by decide +kernel
theorem dX8_mostLeftBy_32 : decode cX8_mostLeftBy 32 = .ok (.iinc 2 1, 3) := by decide +kernel
theorem dX8_mostLeftBy_35 : decode cX8_mostLeftBy 35 = .ok (.iinc 3 1, 3) := by decide +kernel
theorem dX8_mostLeftBy_38 : decode cX8_mostLeftBy 38 = .ok (.goto (-34), 3) := by decide +kernel
theorem dX8_mostLeftBy_41 : decode cX8_mostLeftBy 41 = .ok (.iload_n 2, 1) := by decide +kernel
theorem dX8_mostLeftBy_42 : decode cX8_mostLeftBy 42 = .ok (.aload_n 0, 1) := by decide +kernel
theorem dX8_mostLeftBy_43 : decode cX8_mostLeftBy 43 = .ok (.getfield 18, 3) := by decide +kernel
theorem dX8_mostLeftBy_46 : decode cX8_mostLeftBy 46 = .ok (.iload_n 2, 1) := by decide +kernel
theorem dX8_mostLeftBy_47 : decode cX8_mostLeftBy 47 = .ok (.isub, 1) := by decide +kernel
theorem dX8_mostLeftBy_48 : decode cX8_mostLeftBy 48 = .ok (.invokestatic 50, 3) := by decide +kernel
theorem dX8_mostLeftBy_51 : decode cX8_mostLeftBy 51 = .ok (.ireturn, 1) := by decide +kernel
theorem dX9_init_0 : decode cX9_init 0 = .ok (.aload_n 0, 1) := by decide +kernel
theorem dX9_init_1 : decode cX9_init 1 = .ok (.invokespecial 3, 3) := by decide +kernel
theorem dX9_init_4 : decode cX9_init 4 = .ok (.aload_n 0, 1) := by decide +kernel
theorem dX9_init_5 : decode cX9_init 5 = .ok (.new 9, 3) := by decide +kernel
theorem dX9_init_8 : decode cX9_init 8 = .ok (.dup, 1) := by decide +kernel
theorem dX9_init_9 : decode cX9_init 9 = .ok (.invokespecial 11, 3) := by decide +kernel
theorem dX9_init_12 : decode cX9_init 12 = .ok (.putfield 12, 3) := by decide +kernel
theorem dX9_init_15 : decode cX9_init 15 = .ok (.aload_n 0, 1) := by decide +kernel
theorem dX9_init_16 : decode cX9_init 16 = .ok (.new 16, 3) := by decide +kernel
theorem dX9_init_19 : decode cX9_init 19 = .ok (.dup, 1) := by decide +kernel
theorem dX9_init_20 : decode cX9_init 20 = .ok (.invokespecial 18, 3) := by decide +kernel
theorem dX9_init_23 : decode cX9_init 23 = .ok (.putfield 19, 3) := by decide +kernel
theorem dX9_init_26 : decode cX9_init 26 = .ok (.aload_n 0, 1) := by decide +kernel
theorem dX9_init_27 : decode cX9_init 27 = .ok (.new 23, 3) := by decide +kernel
theorem dX9_init_30 : decode cX9_init 30 = .ok (.dup, 1) := by decide +kernel
theorem dX9_init_31 : decode cX9_init 31 = .ok (.invokespecial 25, 3) := by decide +kernel
theorem dX9_init_34 : decode cX9_init 34 = .ok (.putfield 26, 3) := by decide +kernel
theorem dX9_init_37 : decode cX9_init 37 = .ok (.aload_n 0, 1) := by decide +kernel
theorem dX9_init_38 : decode cX9_init 38 = .ok (.new 30, 3) := by decide +kernel
theorem dX9_init_41 : decode cX9_init 41 = .ok (.dup, 1) := by decide +kernel
theorem dX9_init_42 : decode cX9_init 42 = .ok (.invokespecial 32, 3) := by decide +kernel
theorem dX9_init_45 : decode cX9_init 45 = .ok (.putfield 33, 3) := by decide +kernel
theorem dX9_init_48 : decode cX9_init 48 = .ok (.aload_n 0, 1) := by decide +kernel
theorem dX9_init_49 : decode cX9_init 49 = .ok (.new 37, 3) := by decide +kernel
theorem dX9_init_52 : decode cX9_init 52 = .ok (.dup, 1) := by decide +kernel
theorem dX9_init_53 : decode cX9_init 53 = .ok (.invokespecial 39, 3) := by decide +kernel
theorem dX9_init_56 : decode cX9_init 56 = .ok (.putfield 40, 3) := by decide +kernel
theorem dX9_init_59 : decode cX9_init 59 = .ok (.aload_n 0, 1) := by decide +kernel
theorem dX9_init_60 : decode cX9_init 60 = .ok (.new 44, 3) := by decide +kernel
theorem dX9_init_63 : decode cX9_init 63 = .ok (.dup, 1) := by decide +kernel
theorem dX9_init_64 : decode cX9_init 64 = .ok (.invokespecial 46, 3) := by decide +kernel
theorem dX9_init_67 : decode cX9_init 67 = .ok (.putfield 47, 3) := by decide +kernel
theorem dX9_init_70 : decode cX9_init 70 = .ok (.aload_n 0, 1) := by decide +kernel
theorem dX9_init_71 : decode cX9_init 71 = .ok (.new 51, 3) := by decide +kernel
theorem dX9_init_74 : decode cX9_init 74 = .ok (.dup, 1) := by decide +kernel
theorem dX9_init_75 : decode cX9_init 75 = .ok (.invokespecial 53, 3) := by decide +kernel
theorem dX9_init_78 : decode cX9_init 78 = .ok (.putfield 54, 3) := by decide +kernel
theorem dX9_init_81 : decode cX9_init 81 = .ok (.aload_n 0, 1) := by decide +kernel
theorem dX9_init_82 : decode cX9_init 82 = .ok (.new 58, 3) := by decide +kernel
theorem dX9_init_85 : decode cX9_init 85 = .ok (.dup, 1) := by decide +kernel
theorem dX9_init_86 : decode cX9_init 86 = .ok (.invokespecial 60, 3) := by decide +kernel
theorem dX9_init_89 : decode cX9_init 89 = .ok (.putfield 61, 3) := by decide +kernel
theorem dX9_init_92 : decode cX9_init 92 = .ok (.aload_n 0, 1) := by decide +kernel
theorem dX9_init_93 : decode cX9_init 93 = .ok (.iconst 2, 1) := by decide +kernel
theorem dX9_init_94 : decode cX9_init 94 = .ok (.anewarray 9, 3) := by decide +kernel
theorem dX9_init_97 : decode cX9_init 97 = .ok (.putfield 65, 3) := by decide +kernel
theorem dX9_init_100 : decode cX9_init 100 = .ok (.return_, 1) := by decide +kernel
theorem dX9_rung_0 : decode cX9_rung 0 = .ok (.iload_n 1, 1) := by decide +kernel
theorem dX9_rung_1 : decode cX9_rung 1 = .ok (.invokestatic 69, 3) := by decide +kernel
theorem dX9_rung_4 : decode cX9_rung 4 = .ok (.ifCond .eq 17, 3) := by decide +kernel
theorem dX9_rung_7 : decode cX9_rung 7 = .ok (.iload_n 2, 1) := by decide +kernel
theorem dX9_rung_8 : decode cX9_rung 8 = .ok (.invokestatic 73, 3) := by decide +kernel
theorem dX9_rung_11 : decode cX9_rung 11 = .ok (.ifCond .eq 10, 3) := by decide +kernel
theorem dX9_rung_14 : decode cX9_rung 14 = .ok (.iload_n 3, 1) := by decide +kernel
theorem dX9_rung_15 : decode cX9_rung 15 = .ok (.invokestatic 73, 3) := by decide +kernel
theorem dX9_rung_18 : decode cX9_rung 18 = .ok (.ifCond .ne 5, 3) := by decide +kernel
theorem dX9_rung_21 : decode cX9_rung 21 = .ok (.iconst (-1), 1) := by decide +kernel
theorem dX9_rung_22 : decode cX9_rung 22 = .ok (.ireturn, 1) := by decide +kernel
theorem dX9_rung_23 : decode cX9_rung 23 = .ok (.iload_n 2, 1) := by decide +kernel
theorem dX9_rung_24 : decode cX9_rung 24 = .ok (.iload_n 3, 1) := by decide +kernel
theorem dX9_rung_25 : decode cX9_rung 25 = .ok (.iload 4, 2) := by decide +kernel
theorem dX9_rung_27 : decode cX9_rung 27 = .ok (.invokestatic 76, 3) := by decide +kernel
theorem dX9_rung_30 : decode cX9_rung 30 = .ok (.ifCond .ne 6, 3) := by decide +kernel
theorem dX9_rung_33 : decode cX9_rung 33 = .ok (.bipush (-2), 2) := by decide +kernel
theorem dX9_rung_35 : decode cX9_rung 35 = .ok (.ireturn, 1) := by decide +kernel
theorem dX9_rung_36 : decode cX9_rung 36 = .ok (.aload_n 0, 1) := by decide +kernel
theorem dX9_rung_37 : decode cX9_rung 37 = .ok (.getfield 12, 3) := by decide +kernel
theorem dX9_rung_40 : decode cX9_rung 40 = .ok (.iload_n 1, 1) := by decide +kernel
theorem dX9_rung_41 : decode cX9_rung 41 = .ok (.invokevirtual 80, 3) := by decide +kernel
theorem dX9_rung_44 : decode cX9_rung 44 = .ok (.istore 5, 2) := by decide +kernel
theorem dX9_rung_46 : decode cX9_rung 46 = .ok (.aload_n 0, 1) := by decide +kernel
theorem dX9_rung_47 : decode cX9_rung 47 = .ok (.getfield 12, 3) := by decide +kernel
theorem dX9_rung_50 : decode cX9_rung 50 = .ok (.iload_n 1, 1) := by decide +kernel
theorem dX9_rung_51 : decode cX9_rung 51 = .ok (.iload_n 2, 1) := by decide +kernel
theorem dX9_rung_52 : decode cX9_rung 52 = .ok (.iload_n 3, 1) := by decide +kernel
theorem dX9_rung_53 : decode cX9_rung 53 = .ok (.iload 4, 2) := by decide +kernel
theorem dX9_rung_55 : decode cX9_rung 55 = .ok (.iconst 1, 1) := by decide +kernel
theorem dX9_rung_56 : decode cX9_rung 56 = .ok (.if_icmp .ne 7, 3) := by decide +kernel
theorem dX9_rung_59 : decode cX9_rung 59 = .ok (.iconst 1, 1) := by decide +kernel
theorem dX9_rung_60 : decode cX9_rung 60 = .ok (.goto 4, 3) := by decide +kernel
theorem dX9_rung_63 : decode cX9_rung 63 = .ok (.iconst 0, 1) := by decide +kernel
theorem dX9_rung_64 : decode cX9_rung 64 = .ok (.invokevirtual 84, 3) := by decide +kernel
theorem dX9_rung_67 : decode cX9_rung 67 = .ok (.iload 5, 2) := by decide +kernel
theorem dX9_rung_69 : decode cX9_rung 69 = .ok (.invokestatic 88, 3) := by decide +kernel
theorem dX9_rung_72 : decode cX9_rung 72 = .ok (.ireturn, 1) := by decide +kernel
theorem dX9_man_0 : decode cX9_man 0 = .ok (.iload_n 1, 1) := by decide +kernel
theorem dX9_man_1 : decode cX9_man 1 = .ok (.invokestatic 91, 3) := by decide +kernel
theorem dX9_man_4 : decode cX9_man 4 = .ok (.ifCond .ne 5, 3) := by decide +kernel
theorem dX9_man_7 : decode cX9_man 7 = .ok (.iconst (-1), 1) := by decide +kernel
theorem dX9_man_8 : decode cX9_man 8 = .ok (.ireturn, 1) := by decide +kernel
theorem dX9_man_9 : decode cX9_man 9 = .ok (.iload_n 2, 1) := by decide +kernel
theorem dX9_man_10 : decode cX9_man 10 = .ok (.iconst 1, 1) := by decide +kernel
theorem dX9_man_11 : decode cX9_man 11 = .ok (.iconst 4, 1) := by decide +kernel
theorem dX9_man_12 : decode cX9_man 12 = .ok (.invokestatic 94, 3) := by decide +kernel
theorem dX9_man_15 : decode cX9_man 15 = .ok (.ifCond .eq 21, 3) := by decide +kernel
theorem dX9_man_18 : decode cX9_man 18 = .ok (.iload_n 3, 1) := by decide +kernel
theorem dX9_man_19 : decode cX9_man 19 = .ok (.iconst 0, 1) := by decide +kernel
theorem dX9_man_20 : decode cX9_man 20 = .ok (.bipush 99, 2) := by decide +kernel
theorem dX9_man_22 : decode cX9_man 22 = .ok (.invokestatic 94, 3) := by decide +kernel
theorem dX9_man_25 : decode cX9_man 25 = .ok (.ifCond .eq 11, 3) := by decide +kernel
theorem dX9_man_28 : decode cX9_man 28 = .ok (.iload 4, 2) := by decide +kernel
theorem dX9_man_30 : decode cX9_man 30 = .ok (.invokestatic 97, 3) := by decide +kernel
theorem dX9_man_33 : decode cX9_man 33 = .ok (.ifCond .ne 6, 3) := by decide +kernel
theorem dX9_man_36 : decode cX9_man 36 = .ok (.bipush (-2), 2) := by decide +kernel
theorem dX9_man_38 : decode cX9_man 38 = .ok (.ireturn, 1) := by decide +kernel
theorem dX9_man_39 : decode cX9_man 39 = .ok (.bipush 100, 2) := by decide +kernel
theorem dX9_man_41 : decode cX9_man 41 = .ok (.aload_n 0, 1) := by decide +kernel
theorem dX9_man_42 : decode cX9_man 42 = .ok (.getfield 12, 3) := by decide +kernel
theorem dX9_man_45 : decode cX9_man 45 = .ok (.iload_n 1, 1) := by decide +kernel
theorem dX9_man_46 : decode cX9_man 46 = .ok (.invokevirtual 100, 3) := by decide +kernel
theorem dX9_man_49 : decode cX9_man 49 = .ok (.imul, 1) := by decide +kernel
theorem dX9_man_50 : decode cX9_man 50 = .ok (.aload_n 0, 1) := by decide +kernel
theorem dX9_man_51 : decode cX9_man 51 = .ok (.getfield 12, 3) := by decide +kernel
theorem dX9_man_54 : decode cX9_man 54 = .ok (.iload_n 1, 1) := by decide +kernel
theorem dX9_man_55 : decode cX9_man 55 = .ok (.invokevirtual 103, 3) := by decide +kernel
theorem dX9_man_58 : decode cX9_man 58 = .ok (.iadd, 1) := by decide +kernel
theorem dX9_man_59 : decode cX9_man 59 = .ok (.istore 5, 2) := by decide +kernel
theorem dX9_man_61 : decode cX9_man 61 = .ok (.aload_n 0, 1) := by decide +kernel
theorem dX9_man_62 : decode cX9_man 62 = .ok (.getfield 12, 3) := by decide +kernel
theorem dX9_man_65 : decode cX9_man 65 = .ok (.iload_n 1, 1) := by decide +kernel
theorem dX9_man_66 : decode cX9_man 66 = .ok (.iload_n 2, 1) := by decide +kernel
theorem dX9_man_67 : decode cX9_man 67 = .ok (.iload_n 3, 1) := by decide +kernel
theorem dX9_man_68 : decode cX9_man 68 = .ok (.iload 4, 2) := by decide +kernel
theorem dX9_man_70 : decode cX9_man 70 = .ok (.invokevirtual 106, 3) := by decide +kernel
theorem dX9_man_73 : decode cX9_man 73 = .ok (.iload 5, 2) := by decide +kernel
theorem dX9_man_75 : decode cX9_man 75 = .ok (.ireturn, 1) := by decide +kernel
theorem dX9_say_0 : decode cX9_say 0 = .ok (.iload_n 1, 1) := by decide +kernel
theorem dX9_say_1 : decode cX9_say 1 = .ok (.bipush 33, 2) := by decide +kernel
theorem dX9_say_3 : decode cX9_say 3 = .ok (.bipush 126, 2) := by decide +kernel
theorem dX9_say_5 : decode cX9_say 5 = .ok (.invokestatic 94, 3) := by decide +kernel
theorem dX9_say_8 : decode cX9_say 8 = .ok (.ifCond .ne 6, 3) := by decide +kernel
theorem dX9_say_11 : decode cX9_say 11 = .ok (.bipush (-2), 2) := by decide +kernel
theorem dX9_say_13 : decode cX9_say 13 = .ok (.ireturn, 1) := by decide +kernel
theorem dX9_say_14 : decode cX9_say 14 = .ok (.aload_n 0, 1) := by decide +kernel
theorem dX9_say_15 : decode cX9_say 15 = .ok (.getfield 19, 3) := by decide +kernel
theorem dX9_say_18 : decode cX9_say 18 = .ok (.iload_n 1, 1) := by decide +kernel
theorem dX9_say_19 : decode cX9_say 19 = .ok (.invokevirtual 110, 3) := by decide +kernel
theorem dX9_say_22 : decode cX9_say 22 = .ok (.ifCond .eq 13, 3) := by decide +kernel
theorem dX9_say_25 : decode cX9_say 25 = .ok (.aload_n 0, 1) := by decide +kernel
theorem dX9_say_26 : decode cX9_say 26 = .ok (.getfield 19, 3) := by decide +kernel
theorem dX9_say_29 : decode cX9_say 29 = .ok (.invokevirtual 113, 3) := by decide +kernel
theorem dX9_say_32 : decode cX9_say 32 = .ok (.goto 5, 3) := by decide +kernel
theorem dX9_say_35 : decode cX9_say 35 = .ok (.bipush (-4), 2) := by decide +kernel
theorem dX9_say_37 : decode cX9_say 37 = .ok (.ireturn, 1) := by decide +kernel
theorem dX9_wipe_0 : decode cX9_wipe 0 = .ok (.aload_n 0, 1) := by decide +kernel
theorem dX9_wipe_1 : decode cX9_wipe 1 = .ok (.getfield 19, 3) := by decide +kernel
theorem dX9_wipe_4 : decode cX9_wipe 4 = .ok (.invokevirtual 113, 3) := by decide +kernel
theorem dX9_wipe_7 : decode cX9_wipe 7 = .ok (.istore_n 1, 1) := by decide +kernel
theorem dX9_wipe_8 : decode cX9_wipe 8 = .ok (.aload_n 0, 1) := by decide +kernel
theorem dX9_wipe_9 : decode cX9_wipe 9 = .ok (.getfield 19, 3) := by decide +kernel
theorem dX9_wipe_12 : decode cX9_wipe 12 = .ok (.invokevirtual 117, 3) := by decide +kernel
theorem dX9_wipe_15 : decode cX9_wipe 15 = .ok (.iload_n 1, 1) := by decide +kernel
theorem dX9_wipe_16 : decode cX9_wipe 16 = .ok (.ireturn, 1) := by decide +kernel
theorem dX9_fault_0 : decode cX9_fault 0 = .ok (.aload_n 0, 1) := by decide +kernel
theorem dX9_fault_1 : decode cX9_fault 1 = .ok (.getfield 19, 3) := by decide +kernel
theorem dX9_fault_4 : decode cX9_fault 4 = .ok (.invokevirtual 120, 3) := by decide +kernel
theorem dX9_fault_7 : decode cX9_fault 7 = .ok (.ireturn, 1) := by decide +kernel
theorem dX9_judge_0 : decode cX9_judge 0 = .ok (.iload_n 1, 1) := by decide +kernel
theorem dX9_judge_1 : decode cX9_judge 1 = .ok (.iconst 0, 1) := by decide +kernel
theorem dX9_judge_2 : decode cX9_judge 2 = .ok (.iconst 1, 1) := by decide +kernel
theorem dX9_judge_3 : decode cX9_judge 3 = .ok (.invokestatic 94, 3) := by decide +kernel
theorem dX9_judge_6 : decode cX9_judge 6 = .ok (.ifCond .ne 6, 3) := by decide +kernel
theorem dX9_judge_9 : decode cX9_judge 9 = .ok (.bipush (-2), 2) := by decide +kernel
theorem dX9_judge_11 : decode cX9_judge 11 = .ok (.ireturn, 1) := by decide +kernel
theorem dX9_judge_12 : decode cX9_judge 12 = .ok (.aload_n 0, 1) := by decide +kernel
theorem dX9_judge_13 : decode cX9_judge 13 = .ok (.getfield 19, 3) := by decide +kernel
theorem dX9_judge_16 : decode cX9_judge 16 = .ok (.invokevirtual 120, 3) := by decide +kernel
theorem dX9_judge_19 : decode cX9_judge 19 = .ok (.bipush (-6), 2) := by decide +kernel
theorem dX9_judge_21 : decode cX9_judge 21 = .ok (.if_icmp .eq 6, 3) := by decide +kernel
theorem dX9_judge_24 : decode cX9_judge 24 = .ok (.bipush (-5), 2) := by decide +kernel
theorem dX9_judge_26 : decode cX9_judge 26 = .ok (.ireturn, 1) := by decide +kernel
theorem dX9_judge_27 : decode cX9_judge 27 = .ok (.aload_n 0, 1) := by decide +kernel
theorem dX9_judge_28 : decode cX9_judge 28 = .ok (.getfield 33, 3) := by decide +kernel
theorem dX9_judge_31 : decode cX9_judge 31 = .ok (.aload_n 0, 1) := by decide +kernel
theorem dX9_judge_32 : decode cX9_judge 32 = .ok (.getfield 19, 3) := by decide +kernel
theorem dX9_judge_35 : decode cX9_judge 35 = .ok (.aload_n 0, 1) := by decide +kernel
theorem dX9_judge_36 : decode cX9_judge 36 = .ok (.getfield 12, 3) := by decide +kernel
theorem dX9_judge_39 : decode cX9_judge 39 = .ok (.invokevirtual 123, 3) := by decide +kernel
theorem dX9_judge_42 : decode cX9_judge 42 = .ok (.ifCond .eq 6, 3) := by decide +kernel
theorem dX9_judge_45 : decode cX9_judge 45 = .ok (.bipush (-6), 2) := by decide +kernel
theorem dX9_judge_47 : decode cX9_judge 47 = .ok (.ireturn, 1) := by decide +kernel
theorem dX9_judge_48 : decode cX9_judge 48 = .ok (.iload_n 1, 1) := by decide +kernel
theorem dX9_judge_49 : decode cX9_judge 49 = .ok (.ifCond .ne 13, 3) := by decide +kernel
theorem dX9_judge_52 : decode cX9_judge 52 = .ok (.aload_n 0, 1) := by decide +kernel
theorem dX9_judge_53 : decode cX9_judge 53 = .ok (.getfield 33, 3) := by decide +kernel
theorem dX9_judge_56 : decode cX9_judge 56 = .ok (.invokevirtual 127, 3) := by decide +kernel
theorem dX9_judge_59 : decode cX9_judge 59 = .ok (.goto 10, 3) := by decide +kernel
theorem dX9_judge_62 : decode cX9_judge 62 = .ok (.aload_n 0, 1) := by decide +kernel
theorem dX9_judge_63 : decode cX9_judge 63 = .ok (.getfield 33, 3) := by decide +kernel
theorem dX9_judge_66 : decode cX9_judge 66 = .ok (.invokevirtual 130, 3) := by decide +kernel
theorem dX9_judge_69 : decode cX9_judge 69 = .ok (.ireturn, 1) := by decide +kernel
theorem dX9_done_0 : decode cX9_done 0 = .ok (.aload_n 0, 1) := by decide +kernel
theorem dX9_done_1 : decode cX9_done 1 = .ok (.getfield 33, 3) := by decide +kernel
theorem dX9_done_4 : decode cX9_done 4 = .ok (.aload_n 0, 1) := by decide +kernel
theorem dX9_done_5 : decode cX9_done 5 = .ok (.getfield 19, 3) := by decide +kernel
theorem dX9_done_8 : decode cX9_done 8 = .ok (.aload_n 0, 1) := by decide +kernel
theorem dX9_done_9 : decode cX9_done 9 = .ok (.getfield 12, 3) := by decide +kernel
theorem dX9_done_12 : decode cX9_done 12 = .ok (.invokevirtual 123, 3) := by decide +kernel
theorem dX9_done_15 : decode cX9_done 15 = .ok (.ifCond .ne 6, 3) := by decide +kernel
theorem dX9_done_18 : decode cX9_done 18 = .ok (.bipush (-5), 2) := by decide +kernel
theorem dX9_done_20 : decode cX9_done 20 = .ok (.ireturn, 1) := by decide +kernel
theorem dX9_done_21 : decode cX9_done 21 = .ok (.aload_n 0, 1) := by decide +kernel
theorem dX9_done_22 : decode cX9_done 22 = .ok (.getfield 12, 3) := by decide +kernel
theorem dX9_done_25 : decode cX9_done 25 = .ok (.aload_n 0, 1) := by decide +kernel
theorem dX9_done_26 : decode cX9_done 26 = .ok (.getfield 33, 3) := by decide +kernel
theorem dX9_done_29 : decode cX9_done 29 = .ok (.invokevirtual 133, 3) := by decide +kernel
theorem dX9_done_32 : decode cX9_done 32 = .ok (.invokevirtual 137, 3) := by decide +kernel
theorem dX9_done_35 : decode cX9_done 35 = .ok (.aload_n 0, 1) := by decide +kernel
theorem dX9_done_36 : decode cX9_done 36 = .ok (.getfield 19, 3) := by decide +kernel
theorem dX9_done_39 : decode cX9_done 39 = .ok (.invokevirtual 117, 3) := by decide +kernel
theorem dX9_done_42 : decode cX9_done 42 = .ok (.aload_n 0, 1) := by decide +kernel
theorem dX9_done_43 : decode cX9_done 43 = .ok (.getfield 33, 3) := by decide +kernel
theorem dX9_done_46 : decode cX9_done 46 = .ok (.invokevirtual 127, 3) := by decide +kernel
theorem dX9_done_49 : decode cX9_done 49 = .ok (.ireturn, 1) := by decide +kernel
theorem dX9_behind_0 : decode cX9_behind 0 = .ok (.iload_n 1, 1) := by decide +kernel
theorem dX9_behind_1 : decode cX9_behind 1 = .ok (.invokestatic 91, 3) := by decide +kernel
theorem dX9_behind_4 : decode cX9_behind 4 = .ok (.ifCond .ne 5, 3) := by decide +kernel
theorem dX9_behind_7 : decode cX9_behind 7 = .ok (.iconst (-1), 1) := by decide +kernel
theorem dX9_behind_8 : decode cX9_behind 8 = .ok (.ireturn, 1) := by decide +kernel
theorem dX9_behind_9 : decode cX9_behind 9 = .ok (.iload_n 2, 1) := by decide +kernel
theorem dX9_behind_10 : decode cX9_behind 10 = .ok (.iconst 0, 1) := by decide +kernel
theorem dX9_behind_11 : decode cX9_behind 11 = .ok (.iconst 3, 1) := by decide +kernel
theorem dX9_behind_12 : decode cX9_behind 12 = .ok (.invokestatic 94, 3) := by decide +kernel
theorem dX9_behind_15 : decode cX9_behind 15 = .ok (.ifCond .ne 6, 3) := by decide +kernel
theorem dX9_behind_18 : decode cX9_behind 18 = .ok (.bipush (-2), 2) := by decide +kernel
theorem dX9_behind_20 : decode cX9_behind 20 = .ok (.ireturn, 1) := by decide +kernel
theorem dX9_behind_21 : decode cX9_behind 21 = .ok (.aload_n 0, 1) := by decide +kernel
theorem dX9_behind_22 : decode cX9_behind 22 = .ok (.getfield 33, 3) := by decide +kernel
theorem dX9_behind_25 : decode cX9_behind 25 = .ok (.aload_n 0, 1) := by decide +kernel
theorem dX9_behind_26 : decode cX9_behind 26 = .ok (.getfield 19, 3) := by decide +kernel
theorem dX9_behind_29 : decode cX9_behind 29 = .ok (.aload_n 0, 1) := by decide +kernel
theorem dX9_behind_30 : decode cX9_behind 30 = .ok (.getfield 12, 3) := by decide +kernel
theorem dX9_behind_33 : decode cX9_behind 33 = .ok (.invokevirtual 123, 3) := by decide +kernel
theorem dX9_behind_36 : decode cX9_behind 36 = .ok (.ifCond .ne 6, 3) := by decide +kernel
theorem dX9_behind_39 : decode cX9_behind 39 = .ok (.bipush (-5), 2) := by decide +kernel
theorem dX9_behind_41 : decode cX9_behind 41 = .ok (.ireturn, 1) := by decide +kernel
theorem dX9_behind_42 : decode cX9_behind 42 = .ok (.aload_n 0, 1) := by decide +kernel
theorem dX9_behind_43 : decode cX9_behind 43 = .ok (.getfield 33, 3) := by decide +kernel
theorem dX9_behind_46 : decode cX9_behind 46 = .ok (.invokevirtual 133, 3) := by decide +kernel
theorem dX9_behind_49 : decode cX9_behind 49 = .ok (.astore_n 3, 1) := by decide +kernel
theorem dX9_behind_50 : decode cX9_behind 50 = .ok (.iload_n 2, 1) := by decide +kernel
theorem dX9_behind_51 : decode cX9_behind 51 = .ok (.tableswitch 43 0 2 #[25, 31, 37], 25) := by decide +kernel
theorem dX9_behind_76 : decode cX9_behind 76 = .ok (.aload_n 3, 1) := by decide +kernel
theorem dX9_behind_77 : decode cX9_behind 77 = .ok (.iload_n 1, 1) := by decide +kernel
theorem dX9_behind_78 : decode cX9_behind 78 = .ok (.invokevirtual 100, 3) := by decide +kernel
theorem dX9_behind_81 : decode cX9_behind 81 = .ok (.ireturn, 1) := by decide +kernel
theorem dX9_behind_82 : decode cX9_behind 82 = .ok (.aload_n 3, 1) := by decide +kernel
theorem dX9_behind_83 : decode cX9_behind 83 = .ok (.iload_n 1, 1) := by decide +kernel
theorem dX9_behind_84 : decode cX9_behind 84 = .ok (.invokevirtual 103, 3) := by decide +kernel
theorem dX9_behind_87 : decode cX9_behind 87 = .ok (.ireturn, 1) := by decide +kernel
theorem dX9_behind_88 : decode cX9_behind 88 = .ok (.aload_n 3, 1) := by decide +kernel
theorem dX9_behind_89 : decode cX9_behind 89 = .ok (.iload_n 1, 1) := by decide +kernel
theorem dX9_behind_90 : decode cX9_behind 90 = .ok (.invokevirtual 141, 3) := by decide +kernel
theorem dX9_behind_93 : decode cX9_behind 93 = .ok (.ireturn, 1) := by decide +kernel
theorem dX9_behind_94 : decode cX9_behind 94 = .ok (.aload_n 3, 1) := by decide +kernel
theorem dX9_behind_95 : decode cX9_behind 95 = .ok (.iload_n 1, 1) := by decide +kernel
theorem dX9_behind_96 : decode cX9_behind 96 = .ok (.invokevirtual 144, 3) := by decide +kernel
theorem dX9_behind_99 : decode cX9_behind 99 = .ok (.ifCond .eq 7, 3) := by decide +kernel
theorem dX9_behind_102 : decode cX9_behind 102 = .ok (.iconst 1, 1) := by decide +kernel
theorem dX9_behind_103 : decode cX9_behind 103 = .ok (.goto 4, 3) := by decide +kernel
theorem dX9_behind_106 : decode cX9_behind 106 = .ok (.iconst 0, 1) := by decide +kernel
theorem dX9_behind_107 : decode cX9_behind 107 = .ok (.ireturn, 1) := by decide +kernel
theorem dX9_bears_0 : decode cX9_bears 0 = .ok (.iload_n 1, 1) := by decide +kernel
theorem dX9_bears_1 : decode cX9_bears 1 = .ok (.invokestatic 69, 3) := by decide +kernel
theorem dX9_bears_4 : decode cX9_bears 4 = .ok (.ifCond .ne 5, 3) := by decide +kernel
theorem dX9_bears_7 : decode cX9_bears 7 = .ok (.iconst (-1), 1) := by decide +kernel
theorem dX9_bears_8 : decode cX9_bears 8 = .ok (.ireturn, 1) := by decide +kernel
theorem dX9_bears_9 : decode cX9_bears 9 = .ok (.iload_n 2, 1) := by decide +kernel
theorem dX9_bears_10 : decode cX9_bears 10 = .ok (.iconst 0, 1) := by decide +kernel
theorem dX9_bears_11 : decode cX9_bears 11 = .ok (.iconst 3, 1) := by decide +kernel
theorem dX9_bears_12 : decode cX9_bears 12 = .ok (.invokestatic 94, 3) := by decide +kernel
theorem dX9_bears_15 : decode cX9_bears 15 = .ok (.ifCond .ne 6, 3) := by decide +kernel
theorem dX9_bears_18 : decode cX9_bears 18 = .ok (.bipush (-2), 2) := by decide +kernel
theorem dX9_bears_20 : decode cX9_bears 20 = .ok (.ireturn, 1) := by decide +kernel
theorem dX9_bears_21 : decode cX9_bears 21 = .ok (.aload_n 0, 1) := by decide +kernel
theorem dX9_bears_22 : decode cX9_bears 22 = .ok (.getfield 33, 3) := by decide +kernel
theorem dX9_bears_25 : decode cX9_bears 25 = .ok (.aload_n 0, 1) := by decide +kernel
theorem dX9_bears_26 : decode cX9_bears 26 = .ok (.getfield 19, 3) := by decide +kernel
theorem dX9_bears_29 : decode cX9_bears 29 = .ok (.aload_n 0, 1) := by decide +kernel
theorem dX9_bears_30 : decode cX9_bears 30 = .ok (.getfield 12, 3) := by decide +kernel
theorem dX9_bears_33 : decode cX9_bears 33 = .ok (.invokevirtual 123, 3) := by decide +kernel
theorem dX9_bears_36 : decode cX9_bears 36 = .ok (.ifCond .ne 6, 3) := by decide +kernel
theorem dX9_bears_39 : decode cX9_bears 39 = .ok (.bipush (-5), 2) := by decide +kernel
theorem dX9_bears_41 : decode cX9_bears 41 = .ok (.ireturn, 1) := by decide +kernel
theorem dX9_bears_42 : decode cX9_bears 42 = .ok (.aload_n 0, 1) := by decide +kernel
theorem dX9_bears_43 : decode cX9_bears 43 = .ok (.getfield 33, 3) := by decide +kernel
theorem dX9_bears_46 : decode cX9_bears 46 = .ok (.invokevirtual 133, 3) := by decide +kernel
theorem dX9_bears_49 : decode cX9_bears 49 = .ok (.astore_n 3, 1) := by decide +kernel
theorem dX9_bears_50 : decode cX9_bears 50 = .ok (.iload_n 2, 1) := by decide +kernel
theorem dX9_bears_51 : decode cX9_bears 51 = .ok (.tableswitch 52 0 2 #[25, 34, 43], 25) := by decide +kernel
theorem dX9_bears_76 : decode cX9_bears 76 = .ok (.aload_n 3, 1) := by decide +kernel
theorem dX9_bears_77 : decode cX9_bears 77 = .ok (.iload_n 1, 1) := by decide +kernel
theorem dX9_bears_78 : decode cX9_bears 78 = .ok (.invokevirtual 80, 3) := by decide +kernel
theorem dX9_bears_81 : decode cX9_bears 81 = .ok (.invokestatic 88, 3) := by decide +kernel
theorem dX9_bears_84 : decode cX9_bears 84 = .ok (.ireturn, 1) := by decide +kernel
theorem dX9_bears_85 : decode cX9_bears 85 = .ok (.aload_n 3, 1) := by decide +kernel
theorem dX9_bears_86 : decode cX9_bears 86 = .ok (.iload_n 1, 1) := by decide +kernel
theorem dX9_bears_87 : decode cX9_bears 87 = .ok (.invokevirtual 147, 3) := by decide +kernel
theorem dX9_bears_90 : decode cX9_bears 90 = .ok (.invokestatic 88, 3) := by decide +kernel
theorem dX9_bears_93 : decode cX9_bears 93 = .ok (.ireturn, 1) := by decide +kernel
theorem dX9_bears_94 : decode cX9_bears 94 = .ok (.aload_n 3, 1) := by decide +kernel
theorem dX9_bears_95 : decode cX9_bears 95 = .ok (.iload_n 1, 1) := by decide +kernel
theorem dX9_bears_96 : decode cX9_bears 96 = .ok (.invokevirtual 150, 3) := by decide +kernel
theorem dX9_bears_99 : decode cX9_bears 99 = .ok (.invokestatic 88, 3) := by decide +kernel
theorem dX9_bears_102 : decode cX9_bears 102 = .ok (.ireturn, 1) := by decide +kernel
theorem dX9_bears_103 : decode cX9_bears 103 = .ok (.aload_n 3, 1) := by decide +kernel
theorem dX9_bears_104 : decode cX9_bears 104 = .ok (.iload_n 1, 1) := by decide +kernel
theorem dX9_bears_105 : decode cX9_bears 105 = .ok (.invokevirtual 153, 3) := by decide +kernel
theorem dX9_bears_108 : decode cX9_bears 108 = .ok (.ifCond .eq 7, 3) := by decide +kernel
theorem dX9_bears_111 : decode cX9_bears 111 = .ok (.iconst 1, 1) := by decide +kernel
theorem dX9_bears_112 : decode cX9_bears 112 = .ok (.goto 4, 3) := by decide +kernel
theorem dX9_bears_115 : decode cX9_bears 115 = .ok (.iconst 0, 1) := by decide +kernel
theorem dX9_bears_116 : decode cX9_bears 116 = .ok (.ireturn, 1) := by decide +kernel
theorem dX9_then_0 : decode cX9_then 0 = .ok (.iload_n 1, 1) := by decide +kernel
theorem dX9_then_1 : decode cX9_then 1 = .ok (.iconst 0, 1) := by decide +kernel
theorem dX9_then_2 : decode cX9_then 2 = .ok (.iconst 5, 1) := by decide +kernel
theorem dX9_then_3 : decode cX9_then 3 = .ok (.invokestatic 94, 3) := by decide +kernel
theorem dX9_then_6 : decode cX9_then 6 = .ok (.ifCond .ne 6, 3) := by decide +kernel
theorem dX9_then_9 : decode cX9_then 9 = .ok (.bipush (-2), 2) := by decide +kernel
theorem dX9_then_11 : decode cX9_then 11 = .ok (.ireturn, 1) := by decide +kernel
theorem dX9_then_12 : decode cX9_then 12 = .ok (.aload_n 0, 1) := by decide +kernel
theorem dX9_then_13 : decode cX9_then 13 = .ok (.getfield 33, 3) := by decide +kernel
theorem dX9_then_16 : decode cX9_then 16 = .ok (.aload_n 0, 1) := by decide +kernel
theorem dX9_then_17 : decode cX9_then 17 = .ok (.getfield 19, 3) := by decide +kernel
theorem dX9_then_20 : decode cX9_then 20 = .ok (.aload_n 0, 1) := by decide +kernel
theorem dX9_then_21 : decode cX9_then 21 = .ok (.getfield 12, 3) := by decide +kernel
theorem dX9_then_24 : decode cX9_then 24 = .ok (.invokevirtual 123, 3) := by decide +kernel
theorem dX9_then_27 : decode cX9_then 27 = .ok (.ifCond .ne 6, 3) := by decide +kernel
theorem dX9_then_30 : decode cX9_then 30 = .ok (.bipush (-5), 2) := by decide +kernel
theorem dX9_then_32 : decode cX9_then 32 = .ok (.ireturn, 1) := by decide +kernel
theorem dX9_then_33 : decode cX9_then 33 = .ok (.iload_n 1, 1) := by decide +kernel
theorem dX9_then_34 : decode cX9_then 34 = .ok (.tableswitch 80 0 4 #[34, 45, 56, 64, 72], 34) := by decide +kernel
theorem dX9_then_68 : decode cX9_then 68 = .ok (.aload_n 0, 1) := by decide +kernel
theorem dX9_then_69 : decode cX9_then 69 = .ok (.getfield 33, 3) := by decide +kernel
theorem dX9_then_72 : decode cX9_then 72 = .ok (.invokevirtual 133, 3) := by decide +kernel
theorem dX9_then_75 : decode cX9_then 75 = .ok (.invokevirtual 156, 3) := by decide +kernel
theorem dX9_then_78 : decode cX9_then 78 = .ok (.ireturn, 1) := by decide +kernel
theorem dX9_then_79 : decode cX9_then 79 = .ok (.aload_n 0, 1) := by decide +kernel
theorem dX9_then_80 : decode cX9_then 80 = .ok (.getfield 33, 3) := by decide +kernel
theorem dX9_then_83 : decode cX9_then 83 = .ok (.invokevirtual 133, 3) := by decide +kernel
theorem dX9_then_86 : decode cX9_then 86 = .ok (.invokevirtual 159, 3) := by decide +kernel
theorem dX9_then_89 : decode cX9_then 89 = .ok (.ireturn, 1) := by decide +kernel
theorem dX9_then_90 : decode cX9_then 90 = .ok (.aload_n 0, 1) := by decide +kernel
theorem dX9_then_91 : decode cX9_then 91 = .ok (.getfield 33, 3) := by decide +kernel
theorem dX9_then_94 : decode cX9_then 94 = .ok (.invokevirtual 162, 3) := by decide +kernel
theorem dX9_then_97 : decode cX9_then 97 = .ok (.ireturn, 1) := by decide +kernel
theorem dX9_then_98 : decode cX9_then 98 = .ok (.aload_n 0, 1) := by decide +kernel
theorem dX9_then_99 : decode cX9_then 99 = .ok (.getfield 33, 3) := by decide +kernel
theorem dX9_then_102 : decode cX9_then 102 = .ok (.invokevirtual 165, 3) := by decide +kernel
theorem dX9_then_105 : decode cX9_then 105 = .ok (.ireturn, 1) := by decide +kernel
theorem dX9_then_106 : decode cX9_then 106 = .ok (.aload_n 0, 1) := by decide +kernel
theorem dX9_then_107 : decode cX9_then 107 = .ok (.getfield 33, 3) := by decide +kernel
theorem dX9_then_110 : decode cX9_then 110 = .ok (.invokevirtual 168, 3) := by decide +kernel
theorem dX9_then_113 : decode cX9_then 113 = .ok (.ireturn, 1) := by decide +kernel
theorem dX9_then_114 : decode cX9_then 114 = .ok (.aload_n 0, 1) := by decide +kernel
theorem dX9_then_115 : decode cX9_then 115 = .ok (.getfield 33, 3) := by decide +kernel
theorem dX9_then_118 : decode cX9_then 118 = .ok (.invokevirtual 171, 3) := by decide +kernel
theorem dX9_then_121 : decode cX9_then 121 = .ok (.ireturn, 1) := by decide +kernel
theorem dX9_climb_0 : decode cX9_climb 0 = .ok (.iload_n 1, 1) := by decide +kernel
theorem dX9_climb_1 : decode cX9_climb 1 = .ok (.invokestatic 91, 3) := by decide +kernel
theorem dX9_climb_4 : decode cX9_climb 4 = .ok (.ifCond .ne 5, 3) := by decide +kernel
theorem dX9_climb_7 : decode cX9_climb 7 = .ok (.iconst (-1), 1) := by decide +kernel
theorem dX9_climb_8 : decode cX9_climb 8 = .ok (.ireturn, 1) := by decide +kernel
theorem dX9_climb_9 : decode cX9_climb 9 = .ok (.iload_n 2, 1) := by decide +kernel
theorem dX9_climb_10 : decode cX9_climb 10 = .ok (.iconst 0, 1) := by decide +kernel
theorem dX9_climb_11 : decode cX9_climb 11 = .ok (.iconst 1, 1) := by decide +kernel
theorem dX9_climb_12 : decode cX9_climb 12 = .ok (.invokestatic 94, 3) := by decide +kernel
theorem dX9_climb_15 : decode cX9_climb 15 = .ok (.ifCond .ne 6, 3) := by decide +kernel
theorem dX9_climb_18 : decode cX9_climb 18 = .ok (.bipush (-2), 2) := by decide +kernel
theorem dX9_climb_20 : decode cX9_climb 20 = .ok (.ireturn, 1) := by decide +kernel
theorem dX9_climb_21 : decode cX9_climb 21 = .ok (.iload_n 2, 1) := by decide +kernel
theorem dX9_climb_22 : decode cX9_climb 22 = .ok (.ifCond .ne 18, 3) := by decide +kernel
theorem dX9_climb_25 : decode cX9_climb 25 = .ok (.aload_n 0, 1) := by decide +kernel
theorem dX9_climb_26 : decode cX9_climb 26 = .ok (.getfield 40, 3) := by decide +kernel
theorem dX9_climb_29 : decode cX9_climb 29 = .ok (.aload_n 0, 1) := by decide +kernel
theorem dX9_climb_30 : decode cX9_climb 30 = .ok (.getfield 12, 3) := by decide +kernel
theorem dX9_climb_33 : decode cX9_climb 33 = .ok (.iload_n 1, 1) := by decide +kernel
theorem dX9_climb_34 : decode cX9_climb 34 = .ok (.invokevirtual 174, 3) := by decide +kernel
theorem dX9_climb_37 : decode cX9_climb 37 = .ok (.goto 15, 3) := by decide +kernel
theorem dX9_climb_40 : decode cX9_climb 40 = .ok (.aload_n 0, 1) := by decide +kernel
theorem dX9_climb_41 : decode cX9_climb 41 = .ok (.getfield 40, 3) := by decide +kernel
theorem dX9_climb_44 : decode cX9_climb 44 = .ok (.aload_n 0, 1) := by decide +kernel
theorem dX9_climb_45 : decode cX9_climb 45 = .ok (.getfield 12, 3) := by decide +kernel
theorem dX9_climb_48 : decode cX9_climb 48 = .ok (.iload_n 1, 1) := by decide +kernel
theorem dX9_climb_49 : decode cX9_climb 49 = .ok (.invokevirtual 178, 3) := by decide +kernel
theorem dX9_climb_52 : decode cX9_climb 52 = .ok (.ireturn, 1) := by decide +kernel
theorem dX9_ways_0 : decode cX9_ways 0 = .ok (.iload_n 1, 1) := by decide +kernel
theorem dX9_ways_1 : decode cX9_ways 1 = .ok (.invokestatic 91, 3) := by decide +kernel
theorem dX9_ways_4 : decode cX9_ways 4 = .ok (.ifCond .ne 5, 3) := by decide +kernel
theorem dX9_ways_7 : decode cX9_ways 7 = .ok (.iconst (-1), 1) := by decide +kernel
theorem dX9_ways_8 : decode cX9_ways 8 = .ok (.ireturn, 1) := by decide +kernel
theorem dX9_ways_9 : decode cX9_ways 9 = .ok (.aload_n 0, 1) := by decide +kernel
theorem dX9_ways_10 : decode cX9_ways 10 = .ok (.getfield 40, 3) := by decide +kernel
theorem dX9_ways_13 : decode cX9_ways 13 = .ok (.aload_n 0, 1) := by decide +kernel
theorem dX9_ways_14 : decode cX9_ways 14 = .ok (.getfield 12, 3) := by decide +kernel
theorem dX9_ways_17 : decode cX9_ways 17 = .ok (.iload_n 1, 1) := by decide +kernel
theorem dX9_ways_18 : decode cX9_ways 18 = .ok (.invokevirtual 181, 3) := by decide +kernel
theorem dX9_ways_21 : decode cX9_ways 21 = .ok (.ireturn, 1) := by decide +kernel
theorem dX9_leases_0 : decode cX9_leases 0 = .ok (.iload_n 1, 1) := by decide +kernel
theorem dX9_leases_1 : decode cX9_leases 1 = .ok (.invokestatic 91, 3) := by decide +kernel
theorem dX9_leases_4 : decode cX9_leases 4 = .ok (.ifCond .ne 5, 3) := by decide +kernel
theorem dX9_leases_7 : decode cX9_leases 7 = .ok (.iconst (-1), 1) := by decide +kernel
theorem dX9_leases_8 : decode cX9_leases 8 = .ok (.ireturn, 1) := by decide +kernel
theorem dX9_leases_9 : decode cX9_leases 9 = .ok (.iload_n 2, 1) := by decide +kernel
theorem dX9_leases_10 : decode cX9_leases 10 = .ok (.iconst 0, 1) := by decide +kernel
theorem dX9_leases_11 : decode cX9_leases 11 = .ok (.iconst 1, 1) := by decide +kernel
theorem dX9_leases_12 : decode cX9_leases 12 = .ok (.invokestatic 94, 3) := by decide +kernel
theorem dX9_leases_15 : decode cX9_leases 15 = .ok (.ifCond .ne 6, 3) := by decide +kernel
theorem dX9_leases_18 : decode cX9_leases 18 = .ok (.bipush (-2), 2) := by decide +kernel
theorem dX9_leases_20 : decode cX9_leases 20 = .ok (.ireturn, 1) := by decide +kernel
theorem dX9_leases_21 : decode cX9_leases 21 = .ok (.iload_n 2, 1) := by decide +kernel
theorem dX9_leases_22 : decode cX9_leases 22 = .ok (.ifCond .ne 18, 3) := by decide +kernel
theorem dX9_leases_25 : decode cX9_leases 25 = .ok (.aload_n 0, 1) := by decide +kernel
theorem dX9_leases_26 : decode cX9_leases 26 = .ok (.getfield 40, 3) := by decide +kernel
theorem dX9_leases_29 : decode cX9_leases 29 = .ok (.aload_n 0, 1) := by decide +kernel
theorem dX9_leases_30 : decode cX9_leases 30 = .ok (.getfield 12, 3) := by decide +kernel
theorem dX9_leases_33 : decode cX9_leases 33 = .ok (.iload_n 1, 1) := by decide +kernel
theorem dX9_leases_34 : decode cX9_leases 34 = .ok (.invokevirtual 184, 3) := by decide +kernel
theorem dX9_leases_37 : decode cX9_leases 37 = .ok (.goto 15, 3) := by decide +kernel
theorem dX9_leases_40 : decode cX9_leases 40 = .ok (.aload_n 0, 1) := by decide +kernel
theorem dX9_leases_41 : decode cX9_leases 41 = .ok (.getfield 40, 3) := by decide +kernel
theorem dX9_leases_44 : decode cX9_leases 44 = .ok (.aload_n 0, 1) := by decide +kernel
theorem dX9_leases_45 : decode cX9_leases 45 = .ok (.getfield 12, 3) := by decide +kernel
theorem dX9_leases_48 : decode cX9_leases 48 = .ok (.iload_n 1, 1) := by decide +kernel
theorem dX9_leases_49 : decode cX9_leases 49 = .ok (.invokevirtual 187, 3) := by decide +kernel
theorem dX9_leases_52 : decode cX9_leases 52 = .ok (.ireturn, 1) := by decide +kernel
theorem dX9_stand_0 : decode cX9_stand 0 = .ok (.iload_n 1, 1) := by decide +kernel
theorem dX9_stand_1 : decode cX9_stand 1 = .ok (.invokestatic 73, 3) := by decide +kernel
theorem dX9_stand_4 : decode cX9_stand 4 = .ok (.ifCond .ne 5, 3) := by decide +kernel
theorem dX9_stand_7 : decode cX9_stand 7 = .ok (.iconst (-1), 1) := by decide +kernel
theorem dX9_stand_8 : decode cX9_stand 8 = .ok (.ireturn, 1) := by decide +kernel
theorem dX9_stand_9 : decode cX9_stand 9 = .ok (.aload_n 0, 1) := by decide +kernel
theorem dX9_stand_10 : decode cX9_stand 10 = .ok (.getfield 47, 3) := by decide +kernel
theorem dX9_stand_13 : decode cX9_stand 13 = .ok (.aload_n 0, 1) := by decide +kernel
theorem dX9_stand_14 : decode cX9_stand 14 = .ok (.getfield 12, 3) := by decide +kernel
theorem dX9_stand_17 : decode cX9_stand 17 = .ok (.invokevirtual 190, 3) := by decide +kernel
theorem dX9_stand_20 : decode cX9_stand 20 = .ok (.iload_n 1, 1) := by decide +kernel
theorem dX9_stand_21 : decode cX9_stand 21 = .ok (.iconst (-1), 1) := by decide +kernel
theorem dX9_stand_22 : decode cX9_stand 22 = .ok (.if_icmp .ne 13, 3) := by decide +kernel
theorem dX9_stand_25 : decode cX9_stand 25 = .ok (.aload_n 0, 1) := by decide +kernel
theorem dX9_stand_26 : decode cX9_stand 26 = .ok (.getfield 47, 3) := by decide +kernel
theorem dX9_stand_29 : decode cX9_stand 29 = .ok (.invokevirtual 193, 3) := by decide +kernel
theorem dX9_stand_32 : decode cX9_stand 32 = .ok (.goto 11, 3) := by decide +kernel
theorem dX9_stand_35 : decode cX9_stand 35 = .ok (.aload_n 0, 1) := by decide +kernel
theorem dX9_stand_36 : decode cX9_stand 36 = .ok (.getfield 47, 3) := by decide +kernel
theorem dX9_stand_39 : decode cX9_stand 39 = .ok (.iload_n 1, 1) := by decide +kernel
theorem dX9_stand_40 : decode cX9_stand 40 = .ok (.invokevirtual 196, 3) := by decide +kernel
theorem dX9_stand_43 : decode cX9_stand 43 = .ok (.ireturn, 1) := by decide +kernel
theorem dX9_felt_0 : decode cX9_felt 0 = .ok (.iload_n 1, 1) := by decide +kernel
theorem dX9_felt_1 : decode cX9_felt 1 = .ok (.invokestatic 69, 3) := by decide +kernel
theorem dX9_felt_4 : decode cX9_felt 4 = .ok (.ifCond .ne 5, 3) := by decide +kernel
theorem dX9_felt_7 : decode cX9_felt 7 = .ok (.iconst (-1), 1) := by decide +kernel
theorem dX9_felt_8 : decode cX9_felt 8 = .ok (.ireturn, 1) := by decide +kernel
theorem dX9_felt_9 : decode cX9_felt 9 = .ok (.aload_n 0, 1) := by decide +kernel
theorem dX9_felt_10 : decode cX9_felt 10 = .ok (.getfield 12, 3) := by decide +kernel
theorem dX9_felt_13 : decode cX9_felt 13 = .ok (.iload_n 1, 1) := by decide +kernel
theorem dX9_felt_14 : decode cX9_felt 14 = .ok (.iload_n 2, 1) := by decide +kernel
theorem dX9_felt_15 : decode cX9_felt 15 = .ok (.invokevirtual 199, 3) := by decide +kernel
theorem dX9_felt_18 : decode cX9_felt 18 = .ok (.ifCond .eq 13, 3) := by decide +kernel
theorem dX9_felt_21 : decode cX9_felt 21 = .ok (.aload_n 0, 1) := by decide +kernel
theorem dX9_felt_22 : decode cX9_felt 22 = .ok (.getfield 12, 3) := by decide +kernel
theorem dX9_felt_25 : decode cX9_felt 25 = .ok (.invokevirtual 203, 3) := by decide +kernel
theorem dX9_felt_28 : decode cX9_felt 28 = .ok (.goto 5, 3) := by decide +kernel
theorem dX9_felt_31 : decode cX9_felt 31 = .ok (.bipush (-4), 2) := by decide +kernel
theorem dX9_felt_33 : decode cX9_felt 33 = .ok (.ireturn, 1) := by decide +kernel
theorem dX9_forget_0 : decode cX9_forget 0 = .ok (.aload_n 0, 1) := by decide +kernel
theorem dX9_forget_1 : decode cX9_forget 1 = .ok (.getfield 12, 3) := by decide +kernel
theorem dX9_forget_4 : decode cX9_forget 4 = .ok (.invokevirtual 203, 3) := by decide +kernel
theorem dX9_forget_7 : decode cX9_forget 7 = .ok (.istore_n 1, 1) := by decide +kernel
theorem dX9_forget_8 : decode cX9_forget 8 = .ok (.aload_n 0, 1) := by decide +kernel
theorem dX9_forget_9 : decode cX9_forget 9 = .ok (.getfield 12, 3) := by decide +kernel
theorem dX9_forget_12 : decode cX9_forget 12 = .ok (.invokevirtual 206, 3) := by decide +kernel
theorem dX9_forget_15 : decode cX9_forget 15 = .ok (.iload_n 1, 1) := by decide +kernel
theorem dX9_forget_16 : decode cX9_forget 16 = .ok (.ireturn, 1) := by decide +kernel
theorem dX9_ups_0 : decode cX9_ups 0 = .ok (.aload_n 0, 1) := by decide +kernel
theorem dX9_ups_1 : decode cX9_ups 1 = .ok (.getfield 54, 3) := by decide +kernel
theorem dX9_ups_4 : decode cX9_ups 4 = .ok (.aload_n 0, 1) := by decide +kernel
theorem dX9_ups_5 : decode cX9_ups 5 = .ok (.getfield 12, 3) := by decide +kernel
theorem dX9_ups_8 : decode cX9_ups 8 = .ok (.invokevirtual 209, 3) := by decide +kernel
theorem dX9_ups_11 : decode cX9_ups 11 = .ok (.iload_n 1, 1) := by decide +kernel
theorem dX9_ups_12 : decode cX9_ups 12 = .ok (.iconst (-1), 1) := by decide +kernel
theorem dX9_ups_13 : decode cX9_ups 13 = .ok (.if_icmp .ne 13, 3) := by decide +kernel
theorem dX9_ups_16 : decode cX9_ups 16 = .ok (.aload_n 0, 1) := by decide +kernel
theorem dX9_ups_17 : decode cX9_ups 17 = .ok (.getfield 54, 3) := by decide +kernel
theorem dX9_ups_20 : decode cX9_ups 20 = .ok (.invokevirtual 212, 3) := by decide +kernel
theorem dX9_ups_23 : decode cX9_ups 23 = .ok (.goto 11, 3) := by decide +kernel
theorem dX9_ups_26 : decode cX9_ups 26 = .ok (.aload_n 0, 1) := by decide +kernel
theorem dX9_ups_27 : decode cX9_ups 27 = .ok (.getfield 54, 3) := by decide +kernel
theorem dX9_ups_30 : decode cX9_ups 30 = .ok (.iload_n 1, 1) := by decide +kernel
theorem dX9_ups_31 : decode cX9_ups 31 = .ok (.invokevirtual 213, 3) := by decide +kernel
theorem dX9_ups_34 : decode cX9_ups 34 = .ok (.ireturn, 1) := by decide +kernel
theorem dX9_ask_0 : decode cX9_ask 0 = .ok (.iload_n 1, 1) := by decide +kernel
theorem dX9_ask_1 : decode cX9_ask 1 = .ok (.iconst 0, 1) := by decide +kernel
theorem dX9_ask_2 : decode cX9_ask 2 = .ok (.iconst 1, 1) := by decide +kernel
theorem dX9_ask_3 : decode cX9_ask 3 = .ok (.invokestatic 94, 3) := by decide +kernel
theorem dX9_ask_6 : decode cX9_ask 6 = .ok (.ifCond .ne 6, 3) := by decide +kernel
theorem dX9_ask_9 : decode cX9_ask 9 = .ok (.bipush (-2), 2) := by decide +kernel
theorem dX9_ask_11 : decode cX9_ask 11 = .ok (.ireturn, 1) := by decide +kernel
theorem dX9_ask_12 : decode cX9_ask 12 = .ok (.aload_n 0, 1) := by decide +kernel
theorem dX9_ask_13 : decode cX9_ask 13 = .ok (.getfield 54, 3) := by decide +kernel
theorem dX9_ask_16 : decode cX9_ask 16 = .ok (.aload_n 0, 1) := by decide +kernel
theorem dX9_ask_17 : decode cX9_ask 17 = .ok (.getfield 12, 3) := by decide +kernel
theorem dX9_ask_20 : decode cX9_ask 20 = .ok (.invokevirtual 209, 3) := by decide +kernel
theorem dX9_ask_23 : decode cX9_ask 23 = .ok (.aload_n 0, 1) := by decide +kernel
theorem dX9_ask_24 : decode cX9_ask 24 = .ok (.getfield 54, 3) := by decide +kernel
theorem dX9_ask_27 : decode cX9_ask 27 = .ok (.invokevirtual 212, 3) := by decide +kernel
theorem dX9_ask_30 : decode cX9_ask 30 = .ok (.ifCond .ne 6, 3) := by decide +kernel
theorem dX9_ask_33 : decode cX9_ask 33 = .ok (.bipush (-6), 2) := by decide +kernel
theorem dX9_ask_35 : decode cX9_ask 35 = .ok (.ireturn, 1) := by decide +kernel
theorem dX9_ask_36 : decode cX9_ask 36 = .ok (.aload_n 0, 1) := by decide +kernel
theorem dX9_ask_37 : decode cX9_ask 37 = .ok (.getfield 54, 3) := by decide +kernel
theorem dX9_ask_40 : decode cX9_ask 40 = .ok (.invokevirtual 216, 3) := by decide +kernel
theorem dX9_ask_43 : decode cX9_ask 43 = .ok (.istore_n 2, 1) := by decide +kernel
theorem dX9_ask_44 : decode cX9_ask 44 = .ok (.iload_n 1, 1) := by decide +kernel
theorem dX9_ask_45 : decode cX9_ask 45 = .ok (.ifCond .ne 7, 3) := by decide +kernel
theorem dX9_ask_48 : decode cX9_ask 48 = .ok (.iload_n 2, 1) := by decide +kernel
theorem dX9_ask_49 : decode cX9_ask 49 = .ok (.goto 11, 3) := by decide +kernel
theorem dX9_ask_52 : decode cX9_ask 52 = .ok (.aload_n 0, 1) := by decide +kernel
theorem dX9_ask_53 : decode cX9_ask 53 = .ok (.getfield 54, 3) := by decide +kernel
theorem dX9_ask_56 : decode cX9_ask 56 = .ok (.iload_n 2, 1) := by decide +kernel
theorem dX9_ask_57 : decode cX9_ask 57 = .ok (.invokevirtual 219, 3) := by decide +kernel
theorem dX9_ask_60 : decode cX9_ask 60 = .ok (.ireturn, 1) := by decide +kernel
theorem dX9_down_0 : decode cX9_down 0 = .ok (.iload_n 1, 1) := by decide +kernel
theorem dX9_down_1 : decode cX9_down 1 = .ok (.iconst 0, 1) := by decide +kernel
theorem dX9_down_2 : decode cX9_down 2 = .ok (.sipush 4095, 3) := by decide +kernel
theorem dX9_down_5 : decode cX9_down 5 = .ok (.invokestatic 94, 3) := by decide +kernel
theorem dX9_down_8 : decode cX9_down 8 = .ok (.ifCond .eq 12, 3) := by decide +kernel
theorem dX9_down_11 : decode cX9_down 11 = .ok (.iload_n 2, 1) := by decide +kernel
theorem dX9_down_12 : decode cX9_down 12 = .ok (.iconst 0, 1) := by decide +kernel
theorem dX9_down_13 : decode cX9_down 13 = .ok (.iconst 1, 1) := by decide +kernel
theorem dX9_down_14 : decode cX9_down 14 = .ok (.invokestatic 94, 3) := by decide +kernel
theorem dX9_down_17 : decode cX9_down 17 = .ok (.ifCond .ne 6, 3) := by decide +kernel
theorem dX9_down_20 : decode cX9_down 20 = .ok (.bipush (-2), 2) := by decide +kernel
theorem dX9_down_22 : decode cX9_down 22 = .ok (.ireturn, 1) := by decide +kernel
theorem dX9_down_23 : decode cX9_down 23 = .ok (.iload_n 2, 1) := by decide +kernel
theorem dX9_down_24 : decode cX9_down 24 = .ok (.ifCond .ne 16, 3) := by decide +kernel
theorem dX9_down_27 : decode cX9_down 27 = .ok (.iload_n 1, 1) := by decide +kernel
theorem dX9_down_28 : decode cX9_down 28 = .ok (.invokestatic 222, 3) := by decide +kernel
theorem dX9_down_31 : decode cX9_down 31 = .ok (.ifCond .eq 7, 3) := by decide +kernel
theorem dX9_down_34 : decode cX9_down 34 = .ok (.iconst 1, 1) := by decide +kernel
theorem dX9_down_35 : decode cX9_down 35 = .ok (.goto 4, 3) := by decide +kernel
theorem dX9_down_38 : decode cX9_down 38 = .ok (.iconst 0, 1) := by decide +kernel
theorem dX9_down_39 : decode cX9_down 39 = .ok (.ireturn, 1) := by decide +kernel
theorem dX9_down_40 : decode cX9_down 40 = .ok (.iload_n 1, 1) := by decide +kernel
theorem dX9_down_41 : decode cX9_down 41 = .ok (.invokestatic 227, 3) := by decide +kernel
theorem dX9_down_44 : decode cX9_down 44 = .ok (.ireturn, 1) := by decide +kernel
theorem dX9_foot_0 : decode cX9_foot 0 = .ok (.iload_n 2, 1) := by decide +kernel
theorem dX9_foot_1 : decode cX9_foot 1 = .ok (.invokestatic 69, 3) := by decide +kernel
theorem dX9_foot_4 : decode cX9_foot 4 = .ok (.ifCond .ne 7, 3) := by decide +kernel
theorem dX9_foot_7 : decode cX9_foot 7 = .ok (.ldc2_w 230, 3) := by decide +kernel
theorem dX9_foot_10 : decode cX9_foot 10 = .ok (.lreturn, 1) := by decide +kernel
theorem dX9_foot_11 : decode cX9_foot 11 = .ok (.iload_n 1, 1) := by decide +kernel
theorem dX9_foot_12 : decode cX9_foot 12 = .ok (.iconst 1, 1) := by decide +kernel
theorem dX9_foot_13 : decode cX9_foot 13 = .ok (.iconst 4, 1) := by decide +kernel
theorem dX9_foot_14 : decode cX9_foot 14 = .ok (.invokestatic 94, 3) := by decide +kernel
theorem dX9_foot_17 : decode cX9_foot 17 = .ok (.ifCond .eq 22, 3) := by decide +kernel
theorem dX9_foot_20 : decode cX9_foot 20 = .ok (.iload_n 3, 1) := by decide +kernel
theorem dX9_foot_21 : decode cX9_foot 21 = .ok (.iconst 0, 1) := by decide +kernel
theorem dX9_foot_22 : decode cX9_foot 22 = .ok (.iconst 1, 1) := by decide +kernel
theorem dX9_foot_23 : decode cX9_foot 23 = .ok (.invokestatic 94, 3) := by decide +kernel
theorem dX9_foot_26 : decode cX9_foot 26 = .ok (.ifCond .eq 13, 3) := by decide +kernel
theorem dX9_foot_29 : decode cX9_foot 29 = .ok (.iload 4, 2) := by decide +kernel
theorem dX9_foot_31 : decode cX9_foot 31 = .ok (.iconst 0, 1) := by decide +kernel
theorem dX9_foot_32 : decode cX9_foot 32 = .ok (.iconst 1, 1) := by decide +kernel
theorem dX9_foot_33 : decode cX9_foot 33 = .ok (.invokestatic 94, 3) := by decide +kernel
theorem dX9_foot_36 : decode cX9_foot 36 = .ok (.ifCond .ne 7, 3) := by decide +kernel
theorem dX9_foot_39 : decode cX9_foot 39 = .ok (.ldc2_w 232, 3) := by decide +kernel
theorem dX9_foot_42 : decode cX9_foot 42 = .ok (.lreturn, 1) := by decide +kernel
theorem dX9_foot_43 : decode cX9_foot 43 = .ok (.iload_n 3, 1) := by decide +kernel
theorem dX9_foot_44 : decode cX9_foot 44 = .ok (.ifCond .ne 15, 3) := by decide +kernel
theorem dX9_foot_47 : decode cX9_foot 47 = .ok (.aload_n 0, 1) := by decide +kernel
theorem dX9_foot_48 : decode cX9_foot 48 = .ok (.getfield 61, 3) := by decide +kernel
theorem dX9_foot_51 : decode cX9_foot 51 = .ok (.iload_n 1, 1) := by decide +kernel
theorem dX9_foot_52 : decode cX9_foot 52 = .ok (.iload_n 2, 1) := by decide +kernel
theorem dX9_foot_53 : decode cX9_foot 53 = .ok (.invokevirtual 234, 3) := by decide +kernel
theorem dX9_foot_56 : decode cX9_foot 56 = .ok (.goto 12, 3) := by decide +kernel
theorem dX9_foot_59 : decode cX9_foot 59 = .ok (.aload_n 0, 1) := by decide +kernel
theorem dX9_foot_60 : decode cX9_foot 60 = .ok (.getfield 61, 3) := by decide +kernel
theorem dX9_foot_63 : decode cX9_foot 63 = .ok (.iload_n 1, 1) := by decide +kernel
theorem dX9_foot_64 : decode cX9_foot 64 = .ok (.iload_n 2, 1) := by decide +kernel
theorem dX9_foot_65 : decode cX9_foot 65 = .ok (.invokevirtual 238, 3) := by decide +kernel
theorem dX9_foot_68 : decode cX9_foot 68 = .ok (.iload 4, 2) := by decide +kernel
theorem dX9_foot_70 : decode cX9_foot 70 = .ok (.ifCond .ne 13, 3) := by decide +kernel
theorem dX9_foot_73 : decode cX9_foot 73 = .ok (.aload_n 0, 1) := by decide +kernel
theorem dX9_foot_74 : decode cX9_foot 74 = .ok (.getfield 61, 3) := by decide +kernel
theorem dX9_foot_77 : decode cX9_foot 77 = .ok (.invokevirtual 241, 3) := by decide +kernel
theorem dX9_foot_80 : decode cX9_foot 80 = .ok (.goto 10, 3) := by decide +kernel
theorem dX9_foot_83 : decode cX9_foot 83 = .ok (.aload_n 0, 1) := by decide +kernel
theorem dX9_foot_84 : decode cX9_foot 84 = .ok (.getfield 61, 3) := by decide +kernel
theorem dX9_foot_87 : decode cX9_foot 87 = .ok (.invokevirtual 245, 3) := by decide +kernel
theorem dX9_foot_90 : decode cX9_foot 90 = .ok (.lreturn, 1) := by decide +kernel
theorem dX9_year_0 : decode cX9_year 0 = .ok (.iload_n 1, 1) := by decide +kernel
theorem dX9_year_1 : decode cX9_year 1 = .ok (.iconst 0, 1) := by decide +kernel
theorem dX9_year_2 : decode cX9_year 2 = .ok (.sipush 9999, 3) := by decide +kernel
theorem dX9_year_5 : decode cX9_year 5 = .ok (.invokestatic 94, 3) := by decide +kernel
theorem dX9_year_8 : decode cX9_year 8 = .ok (.ifCond .eq 22, 3) := by decide +kernel
theorem dX9_year_11 : decode cX9_year 11 = .ok (.iload_n 2, 1) := by decide +kernel
theorem dX9_year_12 : decode cX9_year 12 = .ok (.iconst 1, 1) := by decide +kernel
theorem dX9_year_13 : decode cX9_year 13 = .ok (.bipush 99, 2) := by decide +kernel
theorem dX9_year_15 : decode cX9_year 15 = .ok (.invokestatic 94, 3) := by decide +kernel
theorem dX9_year_18 : decode cX9_year 18 = .ok (.ifCond .eq 12, 3) := by decide +kernel
theorem dX9_year_21 : decode cX9_year 21 = .ok (.iload_n 3, 1) := by decide +kernel
theorem dX9_year_22 : decode cX9_year 22 = .ok (.iconst 0, 1) := by decide +kernel
theorem dX9_year_23 : decode cX9_year 23 = .ok (.iconst 2, 1) := by decide +kernel
theorem dX9_year_24 : decode cX9_year 24 = .ok (.invokestatic 94, 3) := by decide +kernel
theorem dX9_year_27 : decode cX9_year 27 = .ok (.ifCond .ne 6, 3) := by decide +kernel
theorem dX9_year_30 : decode cX9_year 30 = .ok (.bipush (-2), 2) := by decide +kernel
theorem dX9_year_32 : decode cX9_year 32 = .ok (.ireturn, 1) := by decide +kernel
theorem dX9_year_33 : decode cX9_year 33 = .ok (.aload_n 0, 1) := by decide +kernel
theorem dX9_year_34 : decode cX9_year 34 = .ok (.iload_n 1, 1) := by decide +kernel
theorem dX9_year_35 : decode cX9_year 35 = .ok (.iload_n 2, 1) := by decide +kernel
theorem dX9_year_36 : decode cX9_year 36 = .ok (.invokevirtual 248, 3) := by decide +kernel
theorem dX9_year_39 : decode cX9_year 39 = .ok (.iload_n 3, 1) := by decide +kernel
theorem dX9_year_40 : decode cX9_year 40 = .ok (.lookupswitch 51 #[(0, 28), (1, 39)], 28) := by decide +kernel
theorem dX9_year_68 : decode cX9_year 68 = .ok (.aload_n 0, 1) := by decide +kernel
theorem dX9_year_69 : decode cX9_year 69 = .ok (.getfield 33, 3) := by decide +kernel
theorem dX9_year_72 : decode cX9_year 72 = .ok (.invokevirtual 133, 3) := by decide +kernel
theorem dX9_year_75 : decode cX9_year 75 = .ok (.invokevirtual 159, 3) := by decide +kernel
theorem dX9_year_78 : decode cX9_year 78 = .ok (.ireturn, 1) := by decide +kernel
theorem dX9_year_79 : decode cX9_year 79 = .ok (.aload_n 0, 1) := by decide +kernel
theorem dX9_year_80 : decode cX9_year 80 = .ok (.getfield 33, 3) := by decide +kernel
theorem dX9_year_83 : decode cX9_year 83 = .ok (.invokevirtual 133, 3) := by decide +kernel
theorem dX9_year_86 : decode cX9_year 86 = .ok (.iconst 0, 1) := by decide +kernel
theorem dX9_year_87 : decode cX9_year 87 = .ok (.invokevirtual 103, 3) := by decide +kernel
theorem dX9_year_90 : decode cX9_year 90 = .ok (.ireturn, 1) := by decide +kernel
theorem dX9_year_91 : decode cX9_year 91 = .ok (.aload_n 0, 1) := by decide +kernel
theorem dX9_year_92 : decode cX9_year 92 = .ok (.getfield 33, 3) := by decide +kernel
theorem dX9_year_95 : decode cX9_year 95 = .ok (.invokevirtual 162, 3) := by decide +kernel
theorem dX9_year_98 : decode cX9_year 98 = .ok (.ireturn, 1) := by decide +kernel
theorem dX9_image_0 : decode cX9_image 0 = .ok (.iload_n 1, 1) := by decide +kernel
theorem dX9_image_1 : decode cX9_image 1 = .ok (.invokestatic 251, 3) := by decide +kernel
theorem dX9_image_4 : decode cX9_image 4 = .ok (.ifCond .ne 6, 3) := by decide +kernel
theorem dX9_image_7 : decode cX9_image 7 = .ok (.bipush (-2), 2) := by decide +kernel
theorem dX9_image_9 : decode cX9_image 9 = .ok (.ireturn, 1) := by decide +kernel
theorem dX9_image_10 : decode cX9_image 10 = .ok (.aload_n 0, 1) := by decide +kernel
theorem dX9_image_11 : decode cX9_image 11 = .ok (.getfield 65, 3) := by decide +kernel
theorem dX9_image_14 : decode cX9_image 14 = .ok (.iload_n 1, 1) := by decide +kernel
theorem dX9_image_15 : decode cX9_image 15 = .ok (.aaload, 1) := by decide +kernel
theorem dX9_image_16 : decode cX9_image 16 = .ok (.ifnonnull 16, 3) := by decide +kernel
theorem dX9_image_19 : decode cX9_image 19 = .ok (.aload_n 0, 1) := by decide +kernel
theorem dX9_image_20 : decode cX9_image 20 = .ok (.getfield 65, 3) := by decide +kernel
theorem dX9_image_23 : decode cX9_image 23 = .ok (.iload_n 1, 1) := by decide +kernel
theorem dX9_image_24 : decode cX9_image 24 = .ok (.new 9, 3) := by decide +kernel
theorem dX9_image_27 : decode cX9_image 27 = .ok (.dup, 1) := by decide +kernel
theorem dX9_image_28 : decode cX9_image 28 = .ok (.invokespecial 11, 3) := by decide +kernel
theorem dX9_image_31 : decode cX9_image 31 = .ok (.aastore, 1) := by decide +kernel
theorem dX9_image_32 : decode cX9_image 32 = .ok (.aload_n 0, 1) := by decide +kernel
theorem dX9_image_33 : decode cX9_image 33 = .ok (.getfield 65, 3) := by decide +kernel
theorem dX9_image_36 : decode cX9_image 36 = .ok (.iload_n 1, 1) := by decide +kernel
theorem dX9_image_37 : decode cX9_image 37 = .ok (.aaload, 1) := by decide +kernel
theorem dX9_image_38 : decode cX9_image 38 = .ok (.aload_n 0, 1) := by decide +kernel
theorem dX9_image_39 : decode cX9_image 39 = .ok (.getfield 12, 3) := by decide +kernel
theorem dX9_image_42 : decode cX9_image 42 = .ok (.invokevirtual 137, 3) := by decide +kernel
theorem dX9_image_45 : decode cX9_image 45 = .ok (.iconst 1, 1) := by decide +kernel
theorem dX9_image_46 : decode cX9_image 46 = .ok (.ireturn, 1) := by decide +kernel
theorem dX9_restore_0 : decode cX9_restore 0 = .ok (.iload_n 1, 1) := by decide +kernel
theorem dX9_restore_1 : decode cX9_restore 1 = .ok (.invokestatic 251, 3) := by decide +kernel
theorem dX9_restore_4 : decode cX9_restore 4 = .ok (.ifCond .ne 6, 3) := by decide +kernel
theorem dX9_restore_7 : decode cX9_restore 7 = .ok (.bipush (-2), 2) := by decide +kernel
theorem dX9_restore_9 : decode cX9_restore 9 = .ok (.ireturn, 1) := by decide +kernel
theorem dX9_restore_10 : decode cX9_restore 10 = .ok (.aload_n 0, 1) := by decide +kernel
theorem dX9_restore_11 : decode cX9_restore 11 = .ok (.getfield 65, 3) := by decide +kernel
theorem dX9_restore_14 : decode cX9_restore 14 = .ok (.iload_n 1, 1) := by decide +kernel
theorem dX9_restore_15 : decode cX9_restore 15 = .ok (.aaload, 1) := by decide +kernel
theorem dX9_restore_16 : decode cX9_restore 16 = .ok (.ifnonnull 6, 3) := by decide +kernel
theorem dX9_restore_19 : decode cX9_restore 19 = .ok (.bipush (-3), 2) := by decide +kernel
theorem dX9_restore_21 : decode cX9_restore 21 = .ok (.ireturn, 1) := by decide +kernel
theorem dX9_restore_22 : decode cX9_restore 22 = .ok (.aload_n 0, 1) := by decide +kernel
theorem dX9_restore_23 : decode cX9_restore 23 = .ok (.getfield 12, 3) := by decide +kernel
theorem dX9_restore_26 : decode cX9_restore 26 = .ok (.aload_n 0, 1) := by decide +kernel
theorem dX9_restore_27 : decode cX9_restore 27 = .ok (.getfield 65, 3) := by decide +kernel
theorem dX9_restore_30 : decode cX9_restore 30 = .ok (.iload_n 1, 1) := by decide +kernel
theorem dX9_restore_31 : decode cX9_restore 31 = .ok (.aaload, 1) := by decide +kernel
theorem dX9_restore_32 : decode cX9_restore 32 = .ok (.invokevirtual 137, 3) := by decide +kernel
theorem dX9_restore_35 : decode cX9_restore 35 = .ok (.iconst 1, 1) := by decide +kernel
theorem dX9_restore_36 : decode cX9_restore 36 = .ok (.ireturn, 1) := by decide +kernel
theorem dX9_told_0 : decode cX9_told 0 = .ok (.iload_n 1, 1) := by decide +kernel
theorem dX9_told_1 : decode cX9_told 1 = .ok (.tableswitch 87 0 5 #[39, 47, 55, 63, 71, 79], 39) := by decide +kernel
theorem dX9_told_40 : decode cX9_told 40 = .ok (.aload_n 0, 1) := by decide +kernel
theorem dX9_told_41 : decode cX9_told 41 = .ok (.getfield 19, 3) := by decide +kernel
theorem dX9_told_44 : decode cX9_told 44 = .ok (.invokevirtual 113, 3) := by decide +kernel
theorem dX9_told_47 : decode cX9_told 47 = .ok (.ireturn, 1) := by decide +kernel
theorem dX9_told_48 : decode cX9_told 48 = .ok (.aload_n 0, 1) := by decide +kernel
theorem dX9_told_49 : decode cX9_told 49 = .ok (.getfield 12, 3) := by decide +kernel
theorem dX9_told_52 : decode cX9_told 52 = .ok (.invokevirtual 156, 3) := by decide +kernel
theorem dX9_told_55 : decode cX9_told 55 = .ok (.ireturn, 1) := by decide +kernel
theorem dX9_told_56 : decode cX9_told 56 = .ok (.aload_n 0, 1) := by decide +kernel
theorem dX9_told_57 : decode cX9_told 57 = .ok (.getfield 12, 3) := by decide +kernel
theorem dX9_told_60 : decode cX9_told 60 = .ok (.invokevirtual 159, 3) := by decide +kernel
theorem dX9_told_63 : decode cX9_told 63 = .ok (.ireturn, 1) := by decide +kernel
theorem dX9_told_64 : decode cX9_told 64 = .ok (.aload_n 0, 1) := by decide +kernel
theorem dX9_told_65 : decode cX9_told 65 = .ok (.getfield 12, 3) := by decide +kernel
theorem dX9_told_68 : decode cX9_told 68 = .ok (.invokevirtual 254, 3) := by decide +kernel
theorem dX9_told_71 : decode cX9_told 71 = .ok (.ireturn, 1) := by decide +kernel
theorem dX9_told_72 : decode cX9_told 72 = .ok (.aload_n 0, 1) := by decide +kernel
theorem dX9_told_73 : decode cX9_told 73 = .ok (.getfield 12, 3) := by decide +kernel
theorem dX9_told_76 : decode cX9_told 76 = .ok (.invokevirtual 257, 3) := by decide +kernel
theorem dX9_told_79 : decode cX9_told 79 = .ok (.ireturn, 1) := by decide +kernel
theorem dX9_told_80 : decode cX9_told 80 = .ok (.aload_n 0, 1) := by decide +kernel
theorem dX9_told_81 : decode cX9_told 81 = .ok (.getfield 12, 3) := by decide +kernel
theorem dX9_told_84 : decode cX9_told 84 = .ok (.invokevirtual 203, 3) := by decide +kernel
theorem dX9_told_87 : decode cX9_told 87 = .ok (.ireturn, 1) := by decide +kernel
theorem dX9_told_88 : decode cX9_told 88 = .ok (.iload_n 1, 1) := by decide +kernel
theorem dX9_told_89 : decode cX9_told 89 = .ok (.bipush 10, 2) := by decide +kernel
theorem dX9_told_91 : decode cX9_told 91 = .ok (.bipush 39, 2) := by decide +kernel
theorem dX9_told_93 : decode cX9_told 93 = .ok (.invokestatic 94, 3) := by decide +kernel
theorem dX9_told_96 : decode cX9_told 96 = .ok (.ifCond .eq 18, 3) := by decide +kernel
theorem dX9_told_99 : decode cX9_told 99 = .ok (.aload_n 0, 1) := by decide +kernel
theorem dX9_told_100 : decode cX9_told 100 = .ok (.iload_n 1, 1) := by decide +kernel
theorem dX9_told_101 : decode cX9_told 101 = .ok (.bipush 10, 2) := by decide +kernel
theorem dX9_told_103 : decode cX9_told 103 = .ok (.idiv, 1) := by decide +kernel
theorem dX9_told_104 : decode cX9_told 104 = .ok (.iload_n 1, 1) := by decide +kernel
theorem dX9_told_105 : decode cX9_told 105 = .ok (.bipush 10, 2) := by decide +kernel
theorem dX9_told_107 : decode cX9_told 107 = .ok (.irem, 1) := by decide +kernel
theorem dX9_told_108 : decode cX9_told 108 = .ok (.invokevirtual 260, 3) := by decide +kernel
theorem dX9_told_111 : decode cX9_told 111 = .ok (.goto 8, 3) := by decide +kernel
theorem dX9_told_114 : decode cX9_told 114 = .ok (.aload_n 0, 1) := by decide +kernel
theorem dX9_told_115 : decode cX9_told 115 = .ok (.iload_n 1, 1) := by decide +kernel
theorem dX9_told_116 : decode cX9_told 116 = .ok (.invokevirtual 264, 3) := by decide +kernel
theorem dX9_told_119 : decode cX9_told 119 = .ok (.ireturn, 1) := by decide +kernel
theorem dX9_toldOfMan_0 : decode cX9_toldOfMan 0 = .ok (.iload_n 2, 1) := by decide +kernel
theorem dX9_toldOfMan_1 : decode cX9_toldOfMan 1 = .ok (.invokestatic 91, 3) := by decide +kernel
theorem dX9_toldOfMan_4 : decode cX9_toldOfMan 4 = .ok (.ifCond .ne 6, 3) := by decide +kernel
theorem dX9_toldOfMan_7 : decode cX9_toldOfMan 7 = .ok (.bipush (-2), 2) := by decide +kernel
theorem dX9_toldOfMan_9 : decode cX9_toldOfMan 9 = .ok (.ireturn, 1) := by decide +kernel
theorem dX9_toldOfMan_10 : decode cX9_toldOfMan 10 = .ok (.iload_n 1, 1) := by decide +kernel
theorem dX9_toldOfMan_11 : decode cX9_toldOfMan 11 = .ok (.lookupswitch 43 #[(1, 25), (2, 34)], 25) := by decide +kernel
theorem dX9_toldOfMan_36 : decode cX9_toldOfMan 36 = .ok (.aload_n 0, 1) := by decide +kernel
theorem dX9_toldOfMan_37 : decode cX9_toldOfMan 37 = .ok (.getfield 12, 3) := by decide +kernel
theorem dX9_toldOfMan_40 : decode cX9_toldOfMan 40 = .ok (.iload_n 2, 1) := by decide +kernel
theorem dX9_toldOfMan_41 : decode cX9_toldOfMan 41 = .ok (.invokevirtual 100, 3) := by decide +kernel
theorem dX9_toldOfMan_44 : decode cX9_toldOfMan 44 = .ok (.ireturn, 1) := by decide +kernel
theorem dX9_toldOfMan_45 : decode cX9_toldOfMan 45 = .ok (.aload_n 0, 1) := by decide +kernel
theorem dX9_toldOfMan_46 : decode cX9_toldOfMan 46 = .ok (.getfield 12, 3) := by decide +kernel
theorem dX9_toldOfMan_49 : decode cX9_toldOfMan 49 = .ok (.iload_n 2, 1) := by decide +kernel
theorem dX9_toldOfMan_50 : decode cX9_toldOfMan 50 = .ok (.invokevirtual 103, 3) := by decide +kernel
theorem dX9_toldOfMan_53 : decode cX9_toldOfMan 53 = .ok (.ireturn, 1) := by decide +kernel
theorem dX9_toldOfMan_54 : decode cX9_toldOfMan 54 = .ok (.aload_n 0, 1) := by decide +kernel
theorem dX9_toldOfMan_55 : decode cX9_toldOfMan 55 = .ok (.getfield 12, 3) := by decide +kernel
theorem dX9_toldOfMan_58 : decode cX9_toldOfMan 58 = .ok (.iload_n 2, 1) := by decide +kernel
theorem dX9_toldOfMan_59 : decode cX9_toldOfMan 59 = .ok (.invokevirtual 267, 3) := by decide +kernel
theorem dX9_toldOfMan_62 : decode cX9_toldOfMan 62 = .ok (.ireturn, 1) := by decide +kernel
theorem dX9_toldOfRung_0 : decode cX9_toldOfRung 0 = .ok (.iload_n 1, 1) := by decide +kernel
theorem dX9_toldOfRung_1 : decode cX9_toldOfRung 1 = .ok (.bipush 41, 2) := by decide +kernel
theorem dX9_toldOfRung_3 : decode cX9_toldOfRung 3 = .ok (.bipush 52, 2) := by decide +kernel
theorem dX9_toldOfRung_5 : decode cX9_toldOfRung 5 = .ok (.invokestatic 94, 3) := by decide +kernel
theorem dX9_toldOfRung_8 : decode cX9_toldOfRung 8 = .ok (.ifCond .eq 18, 3) := by decide +kernel
theorem dX9_toldOfRung_11 : decode cX9_toldOfRung 11 = .ok (.aload_n 0, 1) := by decide +kernel
theorem dX9_toldOfRung_12 : decode cX9_toldOfRung 12 = .ok (.getfield 12, 3) := by decide +kernel
theorem dX9_toldOfRung_15 : decode cX9_toldOfRung 15 = .ok (.iload_n 1, 1) := by decide +kernel
theorem dX9_toldOfRung_16 : decode cX9_toldOfRung 16 = .ok (.bipush 40, 2) := by decide +kernel
theorem dX9_toldOfRung_18 : decode cX9_toldOfRung 18 = .ok (.isub, 1) := by decide +kernel
theorem dX9_toldOfRung_19 : decode cX9_toldOfRung 19 = .ok (.invokevirtual 80, 3) := by decide +kernel
theorem dX9_toldOfRung_22 : decode cX9_toldOfRung 22 = .ok (.invokestatic 88, 3) := by decide +kernel
theorem dX9_toldOfRung_25 : decode cX9_toldOfRung 25 = .ok (.ireturn, 1) := by decide +kernel
theorem dX9_toldOfRung_26 : decode cX9_toldOfRung 26 = .ok (.iload_n 1, 1) := by decide +kernel
theorem dX9_toldOfRung_27 : decode cX9_toldOfRung 27 = .ok (.bipush 61, 2) := by decide +kernel
theorem dX9_toldOfRung_29 : decode cX9_toldOfRung 29 = .ok (.bipush 72, 2) := by decide +kernel
theorem dX9_toldOfRung_31 : decode cX9_toldOfRung 31 = .ok (.invokestatic 94, 3) := by decide +kernel
theorem dX9_toldOfRung_34 : decode cX9_toldOfRung 34 = .ok (.ifCond .eq 18, 3) := by decide +kernel
theorem dX9_toldOfRung_37 : decode cX9_toldOfRung 37 = .ok (.aload_n 0, 1) := by decide +kernel
theorem dX9_toldOfRung_38 : decode cX9_toldOfRung 38 = .ok (.getfield 12, 3) := by decide +kernel
theorem dX9_toldOfRung_41 : decode cX9_toldOfRung 41 = .ok (.iload_n 1, 1) := by decide +kernel
theorem dX9_toldOfRung_42 : decode cX9_toldOfRung 42 = .ok (.bipush 60, 2) := by decide +kernel
theorem dX9_toldOfRung_44 : decode cX9_toldOfRung 44 = .ok (.isub, 1) := by decide +kernel
theorem dX9_toldOfRung_45 : decode cX9_toldOfRung 45 = .ok (.invokevirtual 147, 3) := by decide +kernel
theorem dX9_toldOfRung_48 : decode cX9_toldOfRung 48 = .ok (.invokestatic 88, 3) := by decide +kernel
theorem dX9_toldOfRung_51 : decode cX9_toldOfRung 51 = .ok (.ireturn, 1) := by decide +kernel
theorem dX9_toldOfRung_52 : decode cX9_toldOfRung 52 = .ok (.bipush (-2), 2) := by decide +kernel
theorem dX9_toldOfRung_54 : decode cX9_toldOfRung 54 = .ok (.ireturn, 1) := by decide +kernel
theorem dX9_passYear_0 : decode cX9_passYear 0 = .ok (.aload_n 0, 1) := by decide +kernel
theorem dX9_passYear_1 : decode cX9_passYear 1 = .ok (.getfield 33, 3) := by decide +kernel
theorem dX9_passYear_4 : decode cX9_passYear 4 = .ok (.aload_n 0, 1) := by decide +kernel
theorem dX9_passYear_5 : decode cX9_passYear 5 = .ok (.getfield 12, 3) := by decide +kernel
theorem dX9_passYear_8 : decode cX9_passYear 8 = .ok (.invokevirtual 270, 3) := by decide +kernel
theorem dX9_passYear_11 : decode cX9_passYear 11 = .ok (.iload_n 1, 1) := by decide +kernel
theorem dX9_passYear_12 : decode cX9_passYear 12 = .ok (.istore_n 3, 1) := by decide +kernel
theorem dX9_passYear_13 : decode cX9_passYear 13 = .ok (.iconst 0, 1) := by decide +kernel
theorem dX9_passYear_14 : decode cX9_passYear 14 = .ok (.istore 4, 2) := by decide +kernel
theorem dX9_passYear_16 : decode cX9_passYear 16 = .ok (.iload 4, 2) := by decide +kernel
theorem dX9_passYear_18 : decode cX9_passYear 18 = .ok (.iload_n 2, 1) := by decide +kernel
theorem dX9_passYear_19 : decode cX9_passYear 19 = .ok (.if_icmp .ge 48, 3) := by decide +kernel
theorem dX9_passYear_22 : decode cX9_passYear 22 = .ok (.bipush 75, 2) := by decide +kernel
theorem dX9_passYear_24 : decode cX9_passYear 24 = .ok (.iload_n 3, 1) := by decide +kernel
theorem dX9_passYear_25 : decode cX9_passYear 25 = .ok (.imul, 1) := by decide +kernel
theorem dX9_passYear_26 : decode cX9_passYear 26 = .ok (.bipush 74, 2) := by decide +kernel
theorem dX9_passYear_28 : decode cX9_passYear 28 = .ok (.iadd, 1) := by decide +kernel
theorem dX9_passYear_29 : decode cX9_passYear 29 = .ok (.ldc_w 273, 3) := by decide +kernel
theorem dX9_passYear_32 : decode cX9_passYear 32 = .ok (.irem, 1) := by decide +kernel
theorem dX9_passYear_33 : decode cX9_passYear 33 = .ok (.istore_n 3, 1) := by decide +kernel
theorem dX9_passYear_34 : decode cX9_passYear 34 = .ok (.aload_n 0, 1) := by decide +kernel
theorem dX9_passYear_35 : decode cX9_passYear 35 = .ok (.getfield 26, 3) := by decide +kernel
theorem dX9_passYear_38 : decode cX9_passYear 38 = .ok (.iload_n 3, 1) := by decide +kernel
theorem dX9_passYear_39 : decode cX9_passYear 39 = .ok (.aload_n 0, 1) := by decide +kernel
theorem dX9_passYear_40 : decode cX9_passYear 40 = .ok (.getfield 33, 3) := by decide +kernel
theorem dX9_passYear_43 : decode cX9_passYear 43 = .ok (.invokevirtual 133, 3) := by decide +kernel
theorem dX9_passYear_46 : decode cX9_passYear 46 = .ok (.invokevirtual 274, 3) := by decide +kernel
theorem dX9_passYear_49 : decode cX9_passYear 49 = .ok (.aload_n 0, 1) := by decide +kernel
theorem dX9_passYear_50 : decode cX9_passYear 50 = .ok (.getfield 33, 3) := by decide +kernel
theorem dX9_passYear_53 : decode cX9_passYear 53 = .ok (.aload_n 0, 1) := by decide +kernel
theorem dX9_passYear_54 : decode cX9_passYear 54 = .ok (.getfield 26, 3) := by decide +kernel
theorem dX9_passYear_57 : decode cX9_passYear 57 = .ok (.invokevirtual 278, 3) := by decide +kernel
theorem dX9_passYear_60 : decode cX9_passYear 60 = .ok (.pop, 1) := by decide +kernel
theorem dX9_passYear_61 : decode cX9_passYear 61 = .ok (.iinc 4 1, 3) := by decide +kernel
theorem dX9_passYear_64 : decode cX9_passYear 64 = .ok (.goto (-48), 3) := by decide +kernel
theorem dX9_passYear_67 : decode cX9_passYear 67 = .ok (.return_, 1) := by decide +kernel
theorem dX9_within_0 : decode cX9_within 0 = .ok (.iload_n 0, 1) := by decide +kernel
theorem dX9_within_1 : decode cX9_within 1 = .ok (.iload_n 1, 1) := by decide +kernel
theorem dX9_within_2 : decode cX9_within 2 = .ok (.if_icmp .lt 12, 3) := by decide +kernel
theorem dX9_within_5 : decode cX9_within 5 = .ok (.iload_n 0, 1) := by decide +kernel
theorem dX9_within_6 : decode cX9_within 6 = .ok (.iload_n 2, 1) := by decide +kernel
theorem dX9_within_7 : decode cX9_within 7 = .ok (.if_icmp .gt 7, 3) := by decide +kernel
theorem dX9_within_10 : decode cX9_within 10 = .ok (.iconst 1, 1) := by decide +kernel
theorem dX9_within_11 : decode cX9_within 11 = .ok (.goto 4, 3) := by decide +kernel
theorem dX9_within_14 : decode cX9_within 14 = .ok (.iconst 0, 1) := by decide +kernel
theorem dX9_within_15 : decode cX9_within 15 = .ok (.ireturn, 1) := by decide +kernel
theorem dX9_isRung_0 : decode cX9_isRung 0 = .ok (.iload_n 0, 1) := by decide +kernel
theorem dX9_isRung_1 : decode cX9_isRung 1 = .ok (.iconst 1, 1) := by decide +kernel
theorem dX9_isRung_2 : decode cX9_isRung 2 = .ok (.if_icmp .lt 13, 3) := by decide +kernel
theorem dX9_isRung_5 : decode cX9_isRung 5 = .ok (.iload_n 0, 1) := by decide +kernel
theorem dX9_isRung_6 : decode cX9_isRung 6 = .ok (.bipush 12, 2) := by decide +kernel
theorem dX9_isRung_8 : decode cX9_isRung 8 = .ok (.if_icmp .gt 7, 3) := by decide +kernel
theorem dX9_isRung_11 : decode cX9_isRung 11 = .ok (.iconst 1, 1) := by decide +kernel
theorem dX9_isRung_12 : decode cX9_isRung 12 = .ok (.goto 4, 3) := by decide +kernel
theorem dX9_isRung_15 : decode cX9_isRung 15 = .ok (.iconst 0, 1) := by decide +kernel
theorem dX9_isRung_16 : decode cX9_isRung 16 = .ok (.ireturn, 1) := by decide +kernel
theorem dX9_isPlace_0 : decode cX9_isPlace 0 = .ok (.iload_n 0, 1) := by decide +kernel
theorem dX9_isPlace_1 : decode cX9_isPlace 1 = .ok (.ifCond .lt 13, 3) := by decide +kernel
theorem dX9_isPlace_4 : decode cX9_isPlace 4 = .ok (.iload_n 0, 1) := by decide +kernel
theorem dX9_isPlace_5 : decode cX9_isPlace 5 = .ok (.bipush 13, 2) := by decide +kernel
theorem dX9_isPlace_7 : decode cX9_isPlace 7 = .ok (.if_icmp .gt 7, 3) := by decide +kernel
theorem dX9_isPlace_10 : decode cX9_isPlace 10 = .ok (.iconst 1, 1) := by decide +kernel
theorem dX9_isPlace_11 : decode cX9_isPlace 11 = .ok (.goto 4, 3) := by decide +kernel
theorem dX9_isPlace_14 : decode cX9_isPlace 14 = .ok (.iconst 0, 1) := by decide +kernel
theorem dX9_isPlace_15 : decode cX9_isPlace 15 = .ok (.ireturn, 1) := by decide +kernel
theorem dX9_isMan_0 : decode cX9_isMan 0 = .ok (.iload_n 0, 1) := by decide +kernel
theorem dX9_isMan_1 : decode cX9_isMan 1 = .ok (.ifCond .lt 13, 3) := by decide +kernel
theorem dX9_isMan_4 : decode cX9_isMan 4 = .ok (.iload_n 0, 1) := by decide +kernel
theorem dX9_isMan_5 : decode cX9_isMan 5 = .ok (.bipush 6, 2) := by decide +kernel
theorem dX9_isMan_7 : decode cX9_isMan 7 = .ok (.if_icmp .ge 7, 3) := by decide +kernel
theorem dX9_isMan_10 : decode cX9_isMan 10 = .ok (.iconst 1, 1) := by decide +kernel
theorem dX9_isMan_11 : decode cX9_isMan 11 = .ok (.goto 4, 3) := by decide +kernel
theorem dX9_isMan_14 : decode cX9_isMan 14 = .ok (.iconst 0, 1) := by decide +kernel
theorem dX9_isMan_15 : decode cX9_isMan 15 = .ok (.ireturn, 1) := by decide +kernel
theorem dX9_isManOrNobody_0 : decode cX9_isManOrNobody 0 = .ok (.iload_n 0, 1) := by decide +kernel
theorem dX9_isManOrNobody_1 : decode cX9_isManOrNobody 1 = .ok (.iconst (-1), 1) := by decide +kernel
theorem dX9_isManOrNobody_2 : decode cX9_isManOrNobody 2 = .ok (.if_icmp .eq 10, 3) := by decide +kernel
theorem dX9_isManOrNobody_5 : decode cX9_isManOrNobody 5 = .ok (.iload_n 0, 1) := by decide +kernel
theorem dX9_isManOrNobody_6 : decode cX9_isManOrNobody 6 = .ok (.invokestatic 91, 3) := by decide +kernel
theorem dX9_isManOrNobody_9 : decode cX9_isManOrNobody 9 = .ok (.ifCond .eq 7, 3) := by decide +kernel
theorem dX9_isManOrNobody_12 : decode cX9_isManOrNobody 12 = .ok (.iconst 1, 1) := by decide +kernel
theorem dX9_isManOrNobody_13 : decode cX9_isManOrNobody 13 = .ok (.goto 4, 3) := by decide +kernel
theorem dX9_isManOrNobody_16 : decode cX9_isManOrNobody 16 = .ok (.iconst 0, 1) := by decide +kernel
theorem dX9_isManOrNobody_17 : decode cX9_isManOrNobody 17 = .ok (.ireturn, 1) := by decide +kernel
theorem dX9_isImage_0 : decode cX9_isImage 0 = .ok (.iload_n 0, 1) := by decide +kernel
theorem dX9_isImage_1 : decode cX9_isImage 1 = .ok (.ifCond .lt 12, 3) := by decide +kernel
theorem dX9_isImage_4 : decode cX9_isImage 4 = .ok (.iload_n 0, 1) := by decide +kernel
theorem dX9_isImage_5 : decode cX9_isImage 5 = .ok (.iconst 2, 1) := by decide +kernel
theorem dX9_isImage_6 : decode cX9_isImage 6 = .ok (.if_icmp .ge 7, 3) := by decide +kernel
theorem dX9_isImage_9 : decode cX9_isImage 9 = .ok (.iconst 1, 1) := by decide +kernel
theorem dX9_isImage_10 : decode cX9_isImage 10 = .ok (.goto 4, 3) := by decide +kernel
theorem dX9_isImage_13 : decode cX9_isImage 13 = .ok (.iconst 0, 1) := by decide +kernel
theorem dX9_isImage_14 : decode cX9_isImage 14 = .ok (.ireturn, 1) := by decide +kernel
theorem dX9_orNone_0 : decode cX9_orNone 0 = .ok (.iload_n 0, 1) := by decide +kernel
theorem dX9_orNone_1 : decode cX9_orNone 1 = .ok (.iconst (-1), 1) := by decide +kernel
theorem dX9_orNone_2 : decode cX9_orNone 2 = .ok (.if_icmp .ne 8, 3) := by decide +kernel
theorem dX9_orNone_5 : decode cX9_orNone 5 = .ok (.bipush (-6), 2) := by decide +kernel
theorem dX9_orNone_7 : decode cX9_orNone 7 = .ok (.goto 4, 3) := by decide +kernel
theorem dX9_orNone_10 : decode cX9_orNone 10 = .ok (.iload_n 0, 1) := by decide +kernel
theorem dX9_orNone_11 : decode cX9_orNone 11 = .ok (.ireturn, 1) := by decide +kernel
theorem dX9_bitOf_0 : decode cX9_bitOf 0 = .ok (.iload_n 0, 1) := by decide +kernel
theorem dX9_bitOf_1 : decode cX9_bitOf 1 = .ok (.iconst 1, 1) := by decide +kernel
theorem dX9_bitOf_2 : decode cX9_bitOf 2 = .ok (.if_icmp .lt 17, 3) := by decide +kernel
theorem dX9_bitOf_5 : decode cX9_bitOf 5 = .ok (.iload_n 0, 1) := by decide +kernel
theorem dX9_bitOf_6 : decode cX9_bitOf 6 = .ok (.bipush 12, 2) := by decide +kernel
theorem dX9_bitOf_8 : decode cX9_bitOf 8 = .ok (.if_icmp .gt 11, 3) := by decide +kernel
theorem dX9_bitOf_11 : decode cX9_bitOf 11 = .ok (.iconst 1, 1) := by decide +kernel
theorem dX9_bitOf_12 : decode cX9_bitOf 12 = .ok (.iload_n 0, 1) := by decide +kernel
theorem dX9_bitOf_13 : decode cX9_bitOf 13 = .ok (.iconst 1, 1) := by decide +kernel
theorem dX9_bitOf_14 : decode cX9_bitOf 14 = .ok (.isub, 1) := by decide +kernel
theorem dX9_bitOf_15 : decode cX9_bitOf 15 = .ok (.ishl, 1) := by decide +kernel
theorem dX9_bitOf_16 : decode cX9_bitOf 16 = .ok (.goto 4, 3) := by decide +kernel
theorem dX9_bitOf_19 : decode cX9_bitOf 19 = .ok (.iconst 0, 1) := by decide +kernel
theorem dX9_bitOf_20 : decode cX9_bitOf 20 = .ok (.ireturn, 1) := by decide +kernel
theorem dX9_rightsFit_0 : decode cX9_rightsFit 0 = .ok (.iload_n 2, 1) := by decide +kernel
theorem dX9_rightsFit_1 : decode cX9_rightsFit 1 = .ok (.iconst 0, 1) := by decide +kernel
theorem dX9_rightsFit_2 : decode cX9_rightsFit 2 = .ok (.iconst 1, 1) := by decide +kernel
theorem dX9_rightsFit_3 : decode cX9_rightsFit 3 = .ok (.invokestatic 94, 3) := by decide +kernel
theorem dX9_rightsFit_6 : decode cX9_rightsFit 6 = .ok (.ifCond .ne 5, 3) := by decide +kernel
theorem dX9_rightsFit_9 : decode cX9_rightsFit 9 = .ok (.iconst 0, 1) := by decide +kernel
theorem dX9_rightsFit_10 : decode cX9_rightsFit 10 = .ok (.ireturn, 1) := by decide +kernel
theorem dX9_rightsFit_11 : decode cX9_rightsFit 11 = .ok (.iload_n 2, 1) := by decide +kernel
theorem dX9_rightsFit_12 : decode cX9_rightsFit 12 = .ok (.iconst 1, 1) := by decide +kernel
theorem dX9_rightsFit_13 : decode cX9_rightsFit 13 = .ok (.if_icmp .ne 19, 3) := by decide +kernel
theorem dX9_rightsFit_16 : decode cX9_rightsFit 16 = .ok (.iload_n 0, 1) := by decide +kernel
theorem dX9_rightsFit_17 : decode cX9_rightsFit 17 = .ok (.iconst (-1), 1) := by decide +kernel
theorem dX9_rightsFit_18 : decode cX9_rightsFit 18 = .ok (.if_icmp .ne 12, 3) := by decide +kernel
theorem dX9_rightsFit_21 : decode cX9_rightsFit 21 = .ok (.iload_n 1, 1) := by decide +kernel
theorem dX9_rightsFit_22 : decode cX9_rightsFit 22 = .ok (.iconst (-1), 1) := by decide +kernel
theorem dX9_rightsFit_23 : decode cX9_rightsFit 23 = .ok (.if_icmp .ne 7, 3) := by decide +kernel
theorem dX9_rightsFit_26 : decode cX9_rightsFit 26 = .ok (.iconst 1, 1) := by decide +kernel
theorem dX9_rightsFit_27 : decode cX9_rightsFit 27 = .ok (.goto 4, 3) := by decide +kernel
theorem dX9_rightsFit_30 : decode cX9_rightsFit 30 = .ok (.iconst 0, 1) := by decide +kernel
theorem dX9_rightsFit_31 : decode cX9_rightsFit 31 = .ok (.ireturn, 1) := by decide +kernel
theorem dX9_rightsFit_32 : decode cX9_rightsFit 32 = .ok (.iload_n 1, 1) := by decide +kernel
theorem dX9_rightsFit_33 : decode cX9_rightsFit 33 = .ok (.iconst (-1), 1) := by decide +kernel
theorem dX9_rightsFit_34 : decode cX9_rightsFit 34 = .ok (.if_icmp .eq 13, 3) := by decide +kernel
theorem dX9_rightsFit_37 : decode cX9_rightsFit 37 = .ok (.iload_n 0, 1) := by decide +kernel
theorem dX9_rightsFit_38 : decode cX9_rightsFit 38 = .ok (.iconst (-1), 1) := by decide +kernel
theorem dX9_rightsFit_39 : decode cX9_rightsFit 39 = .ok (.if_icmp .eq 12, 3) := by decide +kernel
theorem dX9_rightsFit_42 : decode cX9_rightsFit 42 = .ok (.iload_n 0, 1) := by decide +kernel
theorem dX9_rightsFit_43 : decode cX9_rightsFit 43 = .ok (.iload_n 1, 1) := by decide +kernel
theorem dX9_rightsFit_44 : decode cX9_rightsFit 44 = .ok (.if_icmp .eq 7, 3) := by decide +kernel
theorem dX9_rightsFit_47 : decode cX9_rightsFit 47 = .ok (.iconst 1, 1) := by decide +kernel
theorem dX9_rightsFit_48 : decode cX9_rightsFit 48 = .ok (.goto 4, 3) := by decide +kernel
theorem dX9_rightsFit_51 : decode cX9_rightsFit 51 = .ok (.iconst 0, 1) := by decide +kernel
theorem dX9_rightsFit_52 : decode cX9_rightsFit 52 = .ok (.ireturn, 1) := by decide +kernel
theorem dX10_init_0 : decode cX10_init 0 = .ok (.aload_n 0, 1) := by decide +kernel
theorem dX10_init_1 : decode cX10_init 1 = .ok (.invokespecial 1, 3) := by decide +kernel
theorem dX10_init_4 : decode cX10_init 4 = .ok (.aload_n 0, 1) := by decide +kernel
theorem dX10_init_5 : decode cX10_init 5 = .ok (.bipush 47, 2) := by decide +kernel
theorem dX10_init_7 : decode cX10_init 7 = .ok (.newarray .int, 2) := by decide +kernel
theorem dX10_init_9 : decode cX10_init 9 = .ok (.putfield 7, 3) := by decide +kernel
theorem dX10_init_12 : decode cX10_init 12 = .ok (.aload_n 0, 1) := by decide +kernel
theorem dX10_init_13 : decode cX10_init 13 = .ok (.bipush 47, 2) := by decide +kernel
theorem dX10_init_15 : decode cX10_init 15 = .ok (.newarray .int, 2) := by decide +kernel
theorem dX10_init_17 : decode cX10_init 17 = .ok (.putfield 13, 3) := by decide +kernel
theorem dX10_init_20 : decode cX10_init 20 = .ok (.aload_n 0, 1) := by decide +kernel
theorem dX10_init_21 : decode cX10_init 21 = .ok (.bipush 16, 2) := by decide +kernel
theorem dX10_init_23 : decode cX10_init 23 = .ok (.newarray .int, 2) := by decide +kernel
theorem dX10_init_25 : decode cX10_init 25 = .ok (.putfield 16, 3) := by decide +kernel
theorem dX10_init_28 : decode cX10_init 28 = .ok (.aload_n 0, 1) := by decide +kernel
theorem dX10_init_29 : decode cX10_init 29 = .ok (.bipush 60, 2) := by decide +kernel
theorem dX10_init_31 : decode cX10_init 31 = .ok (.newarray .int, 2) := by decide +kernel
theorem dX10_init_33 : decode cX10_init 33 = .ok (.putfield 19, 3) := by decide +kernel
theorem dX10_init_36 : decode cX10_init 36 = .ok (.aload_n 0, 1) := by decide +kernel
theorem dX10_init_37 : decode cX10_init 37 = .ok (.bipush 14, 2) := by decide +kernel
theorem dX10_init_39 : decode cX10_init 39 = .ok (.newarray .int, 2) := by decide +kernel
theorem dX10_init_41 : decode cX10_init 41 = .ok (.putfield 22, 3) := by decide +kernel
theorem dX10_init_44 : decode cX10_init 44 = .ok (.aload_n 0, 1) := by decide +kernel
theorem dX10_init_45 : decode cX10_init 45 = .ok (.bipush 14, 2) := by decide +kernel
theorem dX10_init_47 : decode cX10_init 47 = .ok (.newarray .int, 2) := by decide +kernel
theorem dX10_init_49 : decode cX10_init 49 = .ok (.putfield 25, 3) := by decide +kernel
theorem dX10_init_52 : decode cX10_init 52 = .ok (.aload_n 0, 1) := by decide +kernel
theorem dX10_init_53 : decode cX10_init 53 = .ok (.bipush 64, 2) := by decide +kernel
theorem dX10_init_55 : decode cX10_init 55 = .ok (.newarray .boolean, 2) := by decide +kernel
theorem dX10_init_57 : decode cX10_init 57 = .ok (.putfield 28, 3) := by decide +kernel
theorem dX10_init_60 : decode cX10_init 60 = .ok (.aload_n 0, 1) := by decide +kernel
theorem dX10_init_61 : decode cX10_init 61 = .ok (.sipush 4096, 3) := by decide +kernel
theorem dX10_init_64 : decode cX10_init 64 = .ok (.newarray .boolean, 2) := by decide +kernel
theorem dX10_init_66 : decode cX10_init 66 = .ok (.putfield 32, 3) := by decide +kernel
theorem dX10_init_69 : decode cX10_init 69 = .ok (.aload_n 0, 1) := by decide +kernel
theorem dX10_init_70 : decode cX10_init 70 = .ok (.bipush 13, 2) := by decide +kernel
theorem dX10_init_72 : decode cX10_init 72 = .ok (.newarray .long, 2) := by decide +kernel
theorem dX10_init_74 : decode cX10_init 74 = .ok (.putfield 35, 3) := by decide +kernel
theorem dX10_init_77 : decode cX10_init 77 = .ok (.aload_n 0, 1) := by decide +kernel
theorem dX10_init_78 : decode cX10_init 78 = .ok (.bipush 13, 2) := by decide +kernel
theorem dX10_init_80 : decode cX10_init 80 = .ok (.newarray .long, 2) := by decide +kernel
theorem dX10_init_82 : decode cX10_init 82 = .ok (.putfield 39, 3) := by decide +kernel
theorem dX10_init_85 : decode cX10_init 85 = .ok (.aload_n 0, 1) := by decide +kernel
theorem dX10_init_86 : decode cX10_init 86 = .ok (.sipush 140, 3) := by decide +kernel
theorem dX10_init_89 : decode cX10_init 89 = .ok (.newarray .int, 2) := by decide +kernel
theorem dX10_init_91 : decode cX10_init 91 = .ok (.putfield 42, 3) := by decide +kernel
theorem dX10_init_94 : decode cX10_init 94 = .ok (.aload_n 0, 1) := by decide +kernel
theorem dX10_init_95 : decode cX10_init 95 = .ok (.iconst 2, 1) := by decide +kernel
theorem dX10_init_96 : decode cX10_init 96 = .ok (.newarray .boolean, 2) := by decide +kernel
theorem dX10_init_98 : decode cX10_init 98 = .ok (.putfield 45, 3) := by decide +kernel
theorem dX10_init_101 : decode cX10_init 101 = .ok (.iconst 0, 1) := by decide +kernel
theorem dX10_init_102 : decode cX10_init 102 = .ok (.istore_n 1, 1) := by decide +kernel
theorem dX10_init_103 : decode cX10_init 103 = .ok (.iload_n 1, 1) := by decide +kernel
theorem dX10_init_104 : decode cX10_init 104 = .ok (.bipush 13, 2) := by decide +kernel
theorem dX10_init_106 : decode cX10_init 106 = .ok (.if_icmp .ge 28, 3) := by decide +kernel
theorem dX10_init_109 : decode cX10_init 109 = .ok (.aload_n 0, 1) := by decide +kernel
theorem dX10_init_110 : decode cX10_init 110 = .ok (.getfield 7, 3) := by decide +kernel
theorem dX10_init_113 : decode cX10_init 113 = .ok (.iload_n 1, 1) := by decide +kernel
theorem dX10_init_114 : decode cX10_init 114 = .ok (.bipush (-6), 2) := by decide +kernel
theorem dX10_init_116 : decode cX10_init 116 = .ok (.iastore, 1) := by decide +kernel
theorem dX10_init_117 : decode cX10_init 117 = .ok (.aload_n 0, 1) := by decide +kernel
theorem dX10_init_118 : decode cX10_init 118 = .ok (.getfield 7, 3) := by decide +kernel
theorem dX10_init_121 : decode cX10_init 121 = .ok (.bipush 13, 2) := by decide +kernel
theorem dX10_init_123 : decode cX10_init 123 = .ok (.iload_n 1, 1) := by decide +kernel
theorem dX10_init_124 : decode cX10_init 124 = .ok (.iadd, 1) := by decide +kernel
theorem dX10_init_125 : decode cX10_init 125 = .ok (.bipush (-6), 2) := by decide +kernel
theorem dX10_init_127 : decode cX10_init 127 = .ok (.iastore, 1) := by decide +kernel
theorem dX10_init_128 : decode cX10_init 128 = .ok (.iinc 1 1, 3) := by decide +kernel
theorem dX10_init_131 : decode cX10_init 131 = .ok (.goto (-28), 3) := by decide +kernel
theorem dX10_init_134 : decode cX10_init 134 = .ok (.iconst 0, 1) := by decide +kernel
theorem dX10_init_135 : decode cX10_init 135 = .ok (.istore_n 1, 1) := by decide +kernel
theorem dX10_init_136 : decode cX10_init 136 = .ok (.iload_n 1, 1) := by decide +kernel
theorem dX10_init_137 : decode cX10_init 137 = .ok (.bipush 6, 2) := by decide +kernel
theorem dX10_init_139 : decode cX10_init 139 = .ok (.if_icmp .ge 29, 3) := by decide +kernel
theorem dX10_init_142 : decode cX10_init 142 = .ok (.aload_n 0, 1) := by decide +kernel
theorem dX10_init_143 : decode cX10_init 143 = .ok (.getfield 7, 3) := by decide +kernel
theorem dX10_init_146 : decode cX10_init 146 = .ok (.bipush 26, 2) := by decide +kernel
theorem dX10_init_148 : decode cX10_init 148 = .ok (.iload_n 1, 1) := by decide +kernel
theorem dX10_init_149 : decode cX10_init 149 = .ok (.iadd, 1) := by decide +kernel
theorem dX10_init_150 : decode cX10_init 150 = .ok (.iconst 2, 1) := by decide +kernel
theorem dX10_init_151 : decode cX10_init 151 = .ok (.iastore, 1) := by decide +kernel
theorem dX10_init_152 : decode cX10_init 152 = .ok (.aload_n 0, 1) := by decide +kernel
theorem dX10_init_153 : decode cX10_init 153 = .ok (.getfield 7, 3) := by decide +kernel
theorem dX10_init_156 : decode cX10_init 156 = .ok (.bipush 32, 2) := by decide +kernel
theorem dX10_init_158 : decode cX10_init 158 = .ok (.iload_n 1, 1) := by decide +kernel
theorem dX10_init_159 : decode cX10_init 159 = .ok (.iadd, 1) := by decide +kernel
theorem dX10_init_160 : decode cX10_init 160 = .ok (.iconst 5, 1) := by decide +kernel
theorem dX10_init_161 : decode cX10_init 161 = .ok (.iastore, 1) := by decide +kernel
theorem dX10_init_162 : decode cX10_init 162 = .ok (.iinc 1 1, 3) := by decide +kernel
theorem dX10_init_165 : decode cX10_init 165 = .ok (.goto (-29), 3) := by decide +kernel
theorem dX10_init_168 : decode cX10_init 168 = .ok (.return_, 1) := by decide +kernel
theorem dX10_in_0 : decode cX10_in 0 = .ok (.iload_n 0, 1) := by decide +kernel
theorem dX10_in_1 : decode cX10_in 1 = .ok (.iload_n 1, 1) := by decide +kernel
theorem dX10_in_2 : decode cX10_in 2 = .ok (.if_icmp .lt 12, 3) := by decide +kernel
theorem dX10_in_5 : decode cX10_in 5 = .ok (.iload_n 0, 1) := by decide +kernel
theorem dX10_in_6 : decode cX10_in 6 = .ok (.iload_n 2, 1) := by decide +kernel
theorem dX10_in_7 : decode cX10_in 7 = .ok (.if_icmp .gt 7, 3) := by decide +kernel
theorem dX10_in_10 : decode cX10_in 10 = .ok (.iconst 1, 1) := by decide +kernel
theorem dX10_in_11 : decode cX10_in 11 = .ok (.goto 4, 3) := by decide +kernel
theorem dX10_in_14 : decode cX10_in 14 = .ok (.iconst 0, 1) := by decide +kernel
theorem dX10_in_15 : decode cX10_in 15 = .ok (.ireturn, 1) := by decide +kernel
theorem dX10_has_0 : decode cX10_has 0 = .ok (.iload_n 0, 1) := by decide +kernel
theorem dX10_has_1 : decode cX10_has 1 = .ok (.iload_n 1, 1) := by decide +kernel
theorem dX10_has_2 : decode cX10_has 2 = .ok (.ishr, 1) := by decide +kernel
theorem dX10_has_3 : decode cX10_has 3 = .ok (.iconst 1, 1) := by decide +kernel
theorem dX10_has_4 : decode cX10_has 4 = .ok (.iand, 1) := by decide +kernel
theorem dX10_has_5 : decode cX10_has 5 = .ok (.iconst 1, 1) := by decide +kernel
theorem dX10_has_6 : decode cX10_has 6 = .ok (.if_icmp .ne 7, 3) := by decide +kernel
theorem dX10_has_9 : decode cX10_has 9 = .ok (.iconst 1, 1) := by decide +kernel
theorem dX10_has_10 : decode cX10_has 10 = .ok (.goto 4, 3) := by decide +kernel
theorem dX10_has_13 : decode cX10_has 13 = .ok (.iconst 0, 1) := by decide +kernel
theorem dX10_has_14 : decode cX10_has 14 = .ok (.ireturn, 1) := by decide +kernel
theorem dX10_bits_0 : decode cX10_bits 0 = .ok (.iconst 0, 1) := by decide +kernel
theorem dX10_bits_1 : decode cX10_bits 1 = .ok (.istore_n 1, 1) := by decide +kernel
theorem dX10_bits_2 : decode cX10_bits 2 = .ok (.iconst 0, 1) := by decide +kernel
theorem dX10_bits_3 : decode cX10_bits 3 = .ok (.istore_n 2, 1) := by decide +kernel
theorem dX10_bits_4 : decode cX10_bits 4 = .ok (.iload_n 2, 1) := by decide +kernel
theorem dX10_bits_5 : decode cX10_bits 5 = .ok (.bipush 13, 2) := by decide +kernel
theorem dX10_bits_7 : decode cX10_bits 7 = .ok (.if_icmp .ge 17, 3) := by decide +kernel
theorem dX10_bits_10 : decode cX10_bits 10 = .ok (.iload_n 1, 1) := by decide +kernel
theorem dX10_bits_11 : decode cX10_bits 11 = .ok (.iload_n 0, 1) := by decide +kernel
theorem dX10_bits_12 : decode cX10_bits 12 = .ok (.iload_n 2, 1) := by decide +kernel
theorem dX10_bits_13 : decode cX10_bits 13 = .ok (.ishr, 1) := by decide +kernel
theorem dX10_bits_14 : decode cX10_bits 14 = .ok (.iconst 1, 1) := by decide +kernel
theorem dX10_bits_15 : decode cX10_bits 15 = .ok (.iand, 1) := by decide +kernel
theorem dX10_bits_16 : decode cX10_bits 16 = .ok (.iadd, 1) := by decide +kernel
theorem dX10_bits_17 : decode cX10_bits 17 = .ok (.istore_n 1, 1) := by decide +kernel
theorem dX10_bits_18 : decode cX10_bits 18 = .ok (.iinc 2 1, 3) := by decide +kernel
theorem dX10_bits_21 : decode cX10_bits 21 = .ok (.goto (-17), 3) := by decide +kernel
theorem dX10_bits_24 : decode cX10_bits 24 = .ok (.iload_n 1, 1) := by decide +kernel
theorem dX10_bits_25 : decode cX10_bits 25 = .ok (.ireturn, 1) := by decide +kernel
theorem dX10_isRung_0 : decode cX10_isRung 0 = .ok (.iload_n 0, 1) := by decide +kernel
theorem dX10_isRung_1 : decode cX10_isRung 1 = .ok (.iconst 1, 1) := by decide +kernel
theorem dX10_isRung_2 : decode cX10_isRung 2 = .ok (.bipush 12, 2) := by decide +kernel
theorem dX10_isRung_4 : decode cX10_isRung 4 = .ok (.invokestatic 48, 3) := by decide +kernel
theorem dX10_isRung_7 : decode cX10_isRung 7 = .ok (.ireturn, 1) := by decide +kernel
theorem dX10_isMan_0 : decode cX10_isMan 0 = .ok (.iload_n 0, 1) := by decide +kernel
theorem dX10_isMan_1 : decode cX10_isMan 1 = .ok (.iconst 0, 1) := by decide +kernel
theorem dX10_isMan_2 : decode cX10_isMan 2 = .ok (.iconst 5, 1) := by decide +kernel
theorem dX10_isMan_3 : decode cX10_isMan 3 = .ok (.invokestatic 48, 3) := by decide +kernel
theorem dX10_isMan_6 : decode cX10_isMan 6 = .ok (.ireturn, 1) := by decide +kernel
theorem dX10_asNow_0 : decode cX10_asNow 0 = .ok (.iconst 0, 1) := by decide +kernel
theorem dX10_asNow_1 : decode cX10_asNow 1 = .ok (.istore_n 1, 1) := by decide +kernel
theorem dX10_asNow_2 : decode cX10_asNow 2 = .ok (.iload_n 1, 1) := by decide +kernel
theorem dX10_asNow_3 : decode cX10_asNow 3 = .ok (.bipush 47, 2) := by decide +kernel
theorem dX10_asNow_5 : decode cX10_asNow 5 = .ok (.if_icmp .ge 21, 3) := by decide +kernel
theorem dX10_asNow_8 : decode cX10_asNow 8 = .ok (.aload_n 0, 1) := by decide +kernel
theorem dX10_asNow_9 : decode cX10_asNow 9 = .ok (.getfield 13, 3) := by decide +kernel
theorem dX10_asNow_12 : decode cX10_asNow 12 = .ok (.iload_n 1, 1) := by decide +kernel
theorem dX10_asNow_13 : decode cX10_asNow 13 = .ok (.aload_n 0, 1) := by decide +kernel
theorem dX10_asNow_14 : decode cX10_asNow 14 = .ok (.getfield 7, 3) := by decide +kernel
theorem dX10_asNow_17 : decode cX10_asNow 17 = .ok (.iload_n 1, 1) := by decide +kernel
theorem dX10_asNow_18 : decode cX10_asNow 18 = .ok (.iaload, 1) := by decide +kernel
theorem dX10_asNow_19 : decode cX10_asNow 19 = .ok (.iastore, 1) := by decide +kernel
theorem dX10_asNow_20 : decode cX10_asNow 20 = .ok (.iinc 1 1, 3) := by decide +kernel
theorem dX10_asNow_23 : decode cX10_asNow 23 = .ok (.goto (-21), 3) := by decide +kernel
theorem dX10_asNow_26 : decode cX10_asNow 26 = .ok (.aload_n 0, 1) := by decide +kernel
theorem dX10_asNow_27 : decode cX10_asNow 27 = .ok (.iconst 0, 1) := by decide +kernel
theorem dX10_asNow_28 : decode cX10_asNow 28 = .ok (.putfield 52, 3) := by decide +kernel
theorem dX10_asNow_31 : decode cX10_asNow 31 = .ok (.aload_n 0, 1) := by decide +kernel
theorem dX10_asNow_32 : decode cX10_asNow 32 = .ok (.iconst 0, 1) := by decide +kernel
theorem dX10_asNow_33 : decode cX10_asNow 33 = .ok (.putfield 56, 3) := by decide +kernel
theorem dX10_asNow_36 : decode cX10_asNow 36 = .ok (.aload_n 0, 1) := by decide +kernel
theorem dX10_asNow_37 : decode cX10_asNow 37 = .ok (.bipush (-6), 2) := by decide +kernel
theorem dX10_asNow_39 : decode cX10_asNow 39 = .ok (.putfield 59, 3) := by decide +kernel
theorem dX10_asNow_42 : decode cX10_asNow 42 = .ok (.aload_n 0, 1) := by decide +kernel
theorem dX10_asNow_43 : decode cX10_asNow 43 = .ok (.bipush (-6), 2) := by decide +kernel
theorem dX10_asNow_45 : decode cX10_asNow 45 = .ok (.putfield 62, 3) := by decide +kernel
theorem dX10_asNow_48 : decode cX10_asNow 48 = .ok (.return_, 1) := by decide +kernel
theorem dX10_isMissing_0 : decode cX10_isMissing 0 = .ok (.aload_n 0, 1) := by decide +kernel
theorem dX10_isMissing_1 : decode cX10_isMissing 1 = .ok (.getfield 13, 3) := by decide +kernel
theorem dX10_isMissing_4 : decode cX10_isMissing 4 = .ok (.bipush 45, 2) := by decide +kernel
theorem dX10_isMissing_6 : decode cX10_isMissing 6 = .ok (.iaload, 1) := by decide +kernel
theorem dX10_isMissing_7 : decode cX10_isMissing 7 = .ok (.iload_n 1, 1) := by decide +kernel
theorem dX10_isMissing_8 : decode cX10_isMissing 8 = .ok (.invokestatic 65, 3) := by decide +kernel
theorem dX10_isMissing_11 : decode cX10_isMissing 11 = .ok (.ireturn, 1) := by decide +kernel
theorem dX10_may_0 : decode cX10_may 0 = .ok (.aload_n 0, 1) := by decide +kernel
theorem dX10_may_1 : decode cX10_may 1 = .ok (.iload_n 2, 1) := by decide +kernel
theorem dX10_may_2 : decode cX10_may 2 = .ok (.invokevirtual 69, 3) := by decide +kernel
theorem dX10_may_5 : decode cX10_may 5 = .ok (.ifCond .ne 39, 3) := by decide +kernel
theorem dX10_may_8 : decode cX10_may 8 = .ok (.aload_n 0, 1) := by decide +kernel
theorem dX10_may_9 : decode cX10_may 9 = .ok (.getfield 13, 3) := by decide +kernel
theorem dX10_may_12 : decode cX10_may 12 = .ok (.iload_n 2, 1) := by decide +kernel
theorem dX10_may_13 : decode cX10_may 13 = .ok (.iaload, 1) := by decide +kernel
theorem dX10_may_14 : decode cX10_may 14 = .ok (.iload_n 1, 1) := by decide +kernel
theorem dX10_may_15 : decode cX10_may 15 = .ok (.if_icmp .eq 25, 3) := by decide +kernel
theorem dX10_may_18 : decode cX10_may 18 = .ok (.aload_n 0, 1) := by decide +kernel
theorem dX10_may_19 : decode cX10_may 19 = .ok (.getfield 13, 3) := by decide +kernel
theorem dX10_may_22 : decode cX10_may 22 = .ok (.iload_n 2, 1) := by decide +kernel
theorem dX10_may_23 : decode cX10_may 23 = .ok (.iaload, 1) := by decide +kernel
theorem dX10_may_24 : decode cX10_may 24 = .ok (.ifCond .lt 16, 3) := by decide +kernel
theorem dX10_may_27 : decode cX10_may 27 = .ok (.aload_n 0, 1) := by decide +kernel
theorem dX10_may_28 : decode cX10_may 28 = .ok (.getfield 13, 3) := by decide +kernel
theorem dX10_may_31 : decode cX10_may 31 = .ok (.bipush 13, 2) := by decide +kernel
theorem dX10_may_33 : decode cX10_may 33 = .ok (.iload_n 2, 1) := by decide +kernel
theorem dX10_may_34 : decode cX10_may 34 = .ok (.iadd, 1) := by decide +kernel
theorem dX10_may_35 : decode cX10_may 35 = .ok (.iaload, 1) := by decide +kernel
theorem dX10_may_36 : decode cX10_may 36 = .ok (.iload_n 1, 1) := by decide +kernel
theorem dX10_may_37 : decode cX10_may 37 = .ok (.if_icmp .ne 7, 3) := by decide +kernel
theorem dX10_may_40 : decode cX10_may 40 = .ok (.iconst 1, 1) := by decide +kernel
theorem dX10_may_41 : decode cX10_may 41 = .ok (.goto 4, 3) := by decide +kernel
theorem dX10_may_44 : decode cX10_may 44 = .ok (.iconst 0, 1) := by decide +kernel
theorem dX10_may_45 : decode cX10_may 45 = .ok (.ireturn, 1) := by decide +kernel
theorem dX10_standing_0 : decode cX10_standing 0 = .ok (.iconst 0, 1) := by decide +kernel
theorem dX10_standing_1 : decode cX10_standing 1 = .ok (.istore_n 2, 1) := by decide +kernel
theorem dX10_standing_2 : decode cX10_standing 2 = .ok (.iload_n 2, 1) := by decide +kernel
theorem dX10_standing_3 : decode cX10_standing 3 = .ok (.bipush 6, 2) := by decide +kernel
theorem dX10_standing_5 : decode cX10_standing 5 = .ok (.if_icmp .ge 24, 3) := by decide +kernel
theorem dX10_standing_8 : decode cX10_standing 8 = .ok (.aload_n 0, 1) := by decide +kernel
theorem dX10_standing_9 : decode cX10_standing 9 = .ok (.getfield 13, 3) := by decide +kernel
theorem dX10_standing_12 : decode cX10_standing 12 = .ok (.bipush 38, 2) := by decide +kernel
theorem dX10_standing_14 : decode cX10_standing 14 = .ok (.iload_n 2, 1) := by decide +kernel
theorem dX10_standing_15 : decode cX10_standing 15 = .ok (.iadd, 1) := by decide +kernel
theorem dX10_standing_16 : decode cX10_standing 16 = .ok (.iaload, 1) := by decide +kernel
theorem dX10_standing_17 : decode cX10_standing 17 = .ok (.iload_n 1, 1) := by decide +kernel
theorem dX10_standing_18 : decode cX10_standing 18 = .ok (.if_icmp .ne 5, 3) := by decide +kernel
theorem dX10_standing_21 : decode cX10_standing 21 = .ok (.iload_n 2, 1) := by decide +kernel
theorem dX10_standing_22 : decode cX10_standing 22 = .ok (.ireturn, 1) := by decide +kernel
theorem dX10_standing_23 : decode cX10_standing 23 = .ok (.iinc 2 1, 3) := by decide +kernel
theorem dX10_standing_26 : decode cX10_standing 26 = .ok (.goto (-24), 3) := by decide +kernel
theorem dX10_standing_29 : decode cX10_standing 29 = .ok (.bipush (-6), 2) := by decide +kernel
theorem dX10_standing_31 : decode cX10_standing 31 = .ok (.ireturn, 1) := by decide +kernel
theorem dX10_rung_0 : decode cX10_rung 0 = .ok (.iload_n 1, 1) := by decide +kernel
theorem dX10_rung_1 : decode cX10_rung 1 = .ok (.invokestatic 73, 3) := by decide +kernel
theorem dX10_rung_4 : decode cX10_rung 4 = .ok (.ifCond .eq 21, 3) := by decide +kernel
theorem dX10_rung_7 : decode cX10_rung 7 = .ok (.iload_n 2, 1) := by decide +kernel
theorem dX10_rung_8 : decode cX10_rung 8 = .ok (.iconst (-1), 1) := by decide +kernel
theorem dX10_rung_9 : decode cX10_rung 9 = .ok (.iconst 5, 1) := by decide +kernel
theorem dX10_rung_10 : decode cX10_rung 10 = .ok (.invokestatic 48, 3) := by decide +kernel
theorem dX10_rung_13 : decode cX10_rung 13 = .ok (.ifCond .eq 12, 3) := by decide +kernel
theorem dX10_rung_16 : decode cX10_rung 16 = .ok (.iload_n 3, 1) := by decide +kernel
theorem dX10_rung_17 : decode cX10_rung 17 = .ok (.iconst (-1), 1) := by decide +kernel
theorem dX10_rung_18 : decode cX10_rung 18 = .ok (.iconst 5, 1) := by decide +kernel
theorem dX10_rung_19 : decode cX10_rung 19 = .ok (.invokestatic 48, 3) := by decide +kernel
theorem dX10_rung_22 : decode cX10_rung 22 = .ok (.ifCond .ne 5, 3) := by decide +kernel
theorem dX10_rung_25 : decode cX10_rung 25 = .ok (.iconst (-1), 1) := by decide +kernel
theorem dX10_rung_26 : decode cX10_rung 26 = .ok (.ireturn, 1) := by decide +kernel
theorem dX10_rung_27 : decode cX10_rung 27 = .ok (.iload 4, 2) := by decide +kernel
theorem dX10_rung_29 : decode cX10_rung 29 = .ok (.iconst 0, 1) := by decide +kernel
theorem dX10_rung_30 : decode cX10_rung 30 = .ok (.iconst 1, 1) := by decide +kernel
theorem dX10_rung_31 : decode cX10_rung 31 = .ok (.invokestatic 48, 3) := by decide +kernel
theorem dX10_rung_34 : decode cX10_rung 34 = .ok (.ifCond .eq 33, 3) := by decide +kernel
theorem dX10_rung_37 : decode cX10_rung 37 = .ok (.iload_n 3, 1) := by decide +kernel
theorem dX10_rung_38 : decode cX10_rung 38 = .ok (.ifCond .lt 12, 3) := by decide +kernel
theorem dX10_rung_41 : decode cX10_rung 41 = .ok (.iload_n 2, 1) := by decide +kernel
theorem dX10_rung_42 : decode cX10_rung 42 = .ok (.ifCond .lt 25, 3) := by decide +kernel
theorem dX10_rung_45 : decode cX10_rung 45 = .ok (.iload_n 2, 1) := by decide +kernel
theorem dX10_rung_46 : decode cX10_rung 46 = .ok (.iload_n 3, 1) := by decide +kernel
theorem dX10_rung_47 : decode cX10_rung 47 = .ok (.if_icmp .eq 20, 3) := by decide +kernel
theorem dX10_rung_50 : decode cX10_rung 50 = .ok (.iload 4, 2) := by decide +kernel
theorem dX10_rung_52 : decode cX10_rung 52 = .ok (.ifCond .eq 11, 3) := by decide +kernel
theorem dX10_rung_55 : decode cX10_rung 55 = .ok (.iload_n 2, 1) := by decide +kernel
theorem dX10_rung_56 : decode cX10_rung 56 = .ok (.ifCond .ge 11, 3) := by decide +kernel
theorem dX10_rung_59 : decode cX10_rung 59 = .ok (.iload_n 3, 1) := by decide +kernel
theorem dX10_rung_60 : decode cX10_rung 60 = .ok (.ifCond .ge 7, 3) := by decide +kernel
theorem dX10_rung_63 : decode cX10_rung 63 = .ok (.iconst 1, 1) := by decide +kernel
theorem dX10_rung_64 : decode cX10_rung 64 = .ok (.goto 4, 3) := by decide +kernel
theorem dX10_rung_67 : decode cX10_rung 67 = .ok (.iconst 0, 1) := by decide +kernel
theorem dX10_rung_68 : decode cX10_rung 68 = .ok (.istore 5, 2) := by decide +kernel
theorem dX10_rung_70 : decode cX10_rung 70 = .ok (.iload 5, 2) := by decide +kernel
theorem dX10_rung_72 : decode cX10_rung 72 = .ok (.ifCond .ne 6, 3) := by decide +kernel
theorem dX10_rung_75 : decode cX10_rung 75 = .ok (.bipush (-2), 2) := by decide +kernel
theorem dX10_rung_77 : decode cX10_rung 77 = .ok (.ireturn, 1) := by decide +kernel
theorem dX10_rung_78 : decode cX10_rung 78 = .ok (.aload_n 0, 1) := by decide +kernel
theorem dX10_rung_79 : decode cX10_rung 79 = .ok (.getfield 7, 3) := by decide +kernel
theorem dX10_rung_82 : decode cX10_rung 82 = .ok (.iload_n 1, 1) := by decide +kernel
theorem dX10_rung_83 : decode cX10_rung 83 = .ok (.iaload, 1) := by decide +kernel
theorem dX10_rung_84 : decode cX10_rung 84 = .ok (.istore 6, 2) := by decide +kernel
theorem dX10_rung_86 : decode cX10_rung 86 = .ok (.aload_n 0, 1) := by decide +kernel
theorem dX10_rung_87 : decode cX10_rung 87 = .ok (.getfield 7, 3) := by decide +kernel
theorem dX10_rung_90 : decode cX10_rung 90 = .ok (.iload_n 1, 1) := by decide +kernel
theorem dX10_rung_91 : decode cX10_rung 91 = .ok (.iload_n 2, 1) := by decide +kernel
theorem dX10_rung_92 : decode cX10_rung 92 = .ok (.ifCond .ge 8, 3) := by decide +kernel
theorem dX10_rung_95 : decode cX10_rung 95 = .ok (.bipush (-6), 2) := by decide +kernel
theorem dX10_rung_97 : decode cX10_rung 97 = .ok (.goto 4, 3) := by decide +kernel
theorem dX10_rung_100 : decode cX10_rung 100 = .ok (.iload_n 2, 1) := by decide +kernel
theorem dX10_rung_101 : decode cX10_rung 101 = .ok (.iastore, 1) := by decide +kernel
theorem dX10_rung_102 : decode cX10_rung 102 = .ok (.aload_n 0, 1) := by decide +kernel
theorem dX10_rung_103 : decode cX10_rung 103 = .ok (.getfield 7, 3) := by decide +kernel
theorem dX10_rung_106 : decode cX10_rung 106 = .ok (.bipush 13, 2) := by decide +kernel
theorem dX10_rung_108 : decode cX10_rung 108 = .ok (.iload_n 1, 1) := by decide +kernel
theorem dX10_rung_109 : decode cX10_rung 109 = .ok (.iadd, 1) := by decide +kernel
theorem dX10_rung_110 : decode cX10_rung 110 = .ok (.iload_n 3, 1) := by decide +kernel
theorem dX10_rung_111 : decode cX10_rung 111 = .ok (.ifCond .ge 8, 3) := by decide +kernel
theorem dX10_rung_114 : decode cX10_rung 114 = .ok (.bipush (-6), 2) := by decide +kernel
theorem dX10_rung_116 : decode cX10_rung 116 = .ok (.goto 4, 3) := by decide +kernel
theorem dX10_rung_119 : decode cX10_rung 119 = .ok (.iload_n 3, 1) := by decide +kernel
theorem dX10_rung_120 : decode cX10_rung 120 = .ok (.iastore, 1) := by decide +kernel
theorem dX10_rung_121 : decode cX10_rung 121 = .ok (.aload_n 0, 1) := by decide +kernel
theorem dX10_rung_122 : decode cX10_rung 122 = .ok (.getfield 7, 3) := by decide +kernel
theorem dX10_rung_125 : decode cX10_rung 125 = .ok (.bipush 45, 2) := by decide +kernel
theorem dX10_rung_127 : decode cX10_rung 127 = .ok (.dup2, 1) := by decide +kernel
theorem dX10_rung_128 : decode cX10_rung 128 = .ok (.iaload, 1) := by decide +kernel
theorem dX10_rung_129 : decode cX10_rung 129 = .ok (.iconst 1, 1) := by decide +kernel
theorem dX10_rung_130 : decode cX10_rung 130 = .ok (.iload_n 1, 1) := by decide +kernel
theorem dX10_rung_131 : decode cX10_rung 131 = .ok (.ishl, 1) := by decide +kernel
theorem dX10_rung_132 : decode cX10_rung 132 = .ok (.iconst (-1), 1) := by decide +kernel
theorem dX10_rung_133 : decode cX10_rung 133 = .ok (.ixor, 1) := by decide +kernel
theorem dX10_rung_134 : decode cX10_rung 134 = .ok (.iand, 1) := by decide +kernel
theorem dX10_rung_135 : decode cX10_rung 135 = .ok (.iastore, 1) := by decide +kernel
theorem dX10_rung_136 : decode cX10_rung 136 = .ok (.aload_n 0, 1) := by decide +kernel
theorem dX10_rung_137 : decode cX10_rung 137 = .ok (.getfield 7, 3) := by decide +kernel
theorem dX10_rung_140 : decode cX10_rung 140 = .ok (.bipush 45, 2) := by decide +kernel
theorem dX10_rung_142 : decode cX10_rung 142 = .ok (.dup2, 1) := by decide +kernel
theorem dX10_rung_143 : decode cX10_rung 143 = .ok (.iaload, 1) := by decide +kernel
theorem dX10_rung_144 : decode cX10_rung 144 = .ok (.iload 4, 2) := by decide +kernel
theorem dX10_rung_146 : decode cX10_rung 146 = .ok (.iload_n 1, 1) := by decide +kernel
theorem dX10_rung_147 : decode cX10_rung 147 = .ok (.ishl, 1) := by decide +kernel
theorem dX10_rung_148 : decode cX10_rung 148 = .ok (.ior, 1) := by decide +kernel
theorem dX10_rung_149 : decode cX10_rung 149 = .ok (.iastore, 1) := by decide +kernel
theorem dX10_rung_150 : decode cX10_rung 150 = .ok (.iload 6, 2) := by decide +kernel
theorem dX10_rung_152 : decode cX10_rung 152 = .ok (.ireturn, 1) := by decide +kernel
theorem dX10_man_0 : decode cX10_man 0 = .ok (.iload_n 1, 1) := by decide +kernel
theorem dX10_man_1 : decode cX10_man 1 = .ok (.invokestatic 76, 3) := by decide +kernel
theorem dX10_man_4 : decode cX10_man 4 = .ok (.ifCond .ne 5, 3) := by decide +kernel
theorem dX10_man_7 : decode cX10_man 7 = .ok (.iconst (-1), 1) := by decide +kernel
theorem dX10_man_8 : decode cX10_man 8 = .ok (.ireturn, 1) := by decide +kernel
theorem dX10_man_9 : decode cX10_man 9 = .ok (.iload_n 2, 1) := by decide +kernel
theorem dX10_man_10 : decode cX10_man 10 = .ok (.iconst 1, 1) := by decide +kernel
theorem dX10_man_11 : decode cX10_man 11 = .ok (.iconst 4, 1) := by decide +kernel
theorem dX10_man_12 : decode cX10_man 12 = .ok (.invokestatic 48, 3) := by decide +kernel
theorem dX10_man_15 : decode cX10_man 15 = .ok (.ifCond .eq 24, 3) := by decide +kernel
theorem dX10_man_18 : decode cX10_man 18 = .ok (.iload_n 3, 1) := by decide +kernel
theorem dX10_man_19 : decode cX10_man 19 = .ok (.iconst 0, 1) := by decide +kernel
theorem dX10_man_20 : decode cX10_man 20 = .ok (.bipush 99, 2) := by decide +kernel
theorem dX10_man_22 : decode cX10_man 22 = .ok (.invokestatic 48, 3) := by decide +kernel
theorem dX10_man_25 : decode cX10_man 25 = .ok (.ifCond .eq 14, 3) := by decide +kernel
theorem dX10_man_28 : decode cX10_man 28 = .ok (.iload 4, 2) := by decide +kernel
theorem dX10_man_30 : decode cX10_man 30 = .ok (.iconst 0, 1) := by decide +kernel
theorem dX10_man_31 : decode cX10_man 31 = .ok (.bipush 13, 2) := by decide +kernel
theorem dX10_man_33 : decode cX10_man 33 = .ok (.invokestatic 48, 3) := by decide +kernel
theorem dX10_man_36 : decode cX10_man 36 = .ok (.ifCond .ne 6, 3) := by decide +kernel
theorem dX10_man_39 : decode cX10_man 39 = .ok (.bipush (-2), 2) := by decide +kernel
theorem dX10_man_41 : decode cX10_man 41 = .ok (.ireturn, 1) := by decide +kernel
theorem dX10_man_42 : decode cX10_man 42 = .ok (.bipush 100, 2) := by decide +kernel
theorem dX10_man_44 : decode cX10_man 44 = .ok (.aload_n 0, 1) := by decide +kernel
theorem dX10_man_45 : decode cX10_man 45 = .ok (.getfield 7, 3) := by decide +kernel
theorem dX10_man_48 : decode cX10_man 48 = .ok (.bipush 38, 2) := by decide +kernel
theorem dX10_man_50 : decode cX10_man 50 = .ok (.iload_n 1, 1) := by decide +kernel
theorem dX10_man_51 : decode cX10_man 51 = .ok (.iadd, 1) := by decide +kernel
theorem dX10_man_52 : decode cX10_man 52 = .ok (.iaload, 1) := by decide +kernel
theorem dX10_man_53 : decode cX10_man 53 = .ok (.imul, 1) := by decide +kernel
theorem dX10_man_54 : decode cX10_man 54 = .ok (.aload_n 0, 1) := by decide +kernel
theorem dX10_man_55 : decode cX10_man 55 = .ok (.getfield 7, 3) := by decide +kernel
theorem dX10_man_58 : decode cX10_man 58 = .ok (.bipush 32, 2) := by decide +kernel
theorem dX10_man_60 : decode cX10_man 60 = .ok (.iload_n 1, 1) := by decide +kernel
theorem dX10_man_61 : decode cX10_man 61 = .ok (.iadd, 1) := by decide +kernel
theorem dX10_man_62 : decode cX10_man 62 = .ok (.iaload, 1) := by decide +kernel
theorem dX10_man_63 : decode cX10_man 63 = .ok (.iadd, 1) := by decide +kernel
theorem dX10_man_64 : decode cX10_man 64 = .ok (.istore 5, 2) := by decide +kernel
theorem dX10_man_66 : decode cX10_man 66 = .ok (.aload_n 0, 1) := by decide +kernel
theorem dX10_man_67 : decode cX10_man 67 = .ok (.getfield 7, 3) := by decide +kernel
theorem dX10_man_70 : decode cX10_man 70 = .ok (.bipush 26, 2) := by decide +kernel
theorem dX10_man_72 : decode cX10_man 72 = .ok (.iload_n 1, 1) := by decide +kernel
theorem dX10_man_73 : decode cX10_man 73 = .ok (.iadd, 1) := by decide +kernel
theorem dX10_man_74 : decode cX10_man 74 = .ok (.iload_n 2, 1) := by decide +kernel
theorem dX10_man_75 : decode cX10_man 75 = .ok (.iastore, 1) := by decide +kernel
theorem dX10_man_76 : decode cX10_man 76 = .ok (.aload_n 0, 1) := by decide +kernel
theorem dX10_man_77 : decode cX10_man 77 = .ok (.getfield 7, 3) := by decide +kernel
theorem dX10_man_80 : decode cX10_man 80 = .ok (.bipush 32, 2) := by decide +kernel
theorem dX10_man_82 : decode cX10_man 82 = .ok (.iload_n 1, 1) := by decide +kernel
theorem dX10_man_83 : decode cX10_man 83 = .ok (.iadd, 1) := by decide +kernel
theorem dX10_man_84 : decode cX10_man 84 = .ok (.iload_n 3, 1) := by decide +kernel
theorem dX10_man_85 : decode cX10_man 85 = .ok (.iastore, 1) := by decide +kernel
theorem dX10_man_86 : decode cX10_man 86 = .ok (.aload_n 0, 1) := by decide +kernel
theorem dX10_man_87 : decode cX10_man 87 = .ok (.getfield 7, 3) := by decide +kernel
theorem dX10_man_90 : decode cX10_man 90 = .ok (.bipush 38, 2) := by decide +kernel
theorem dX10_man_92 : decode cX10_man 92 = .ok (.iload_n 1, 1) := by decide +kernel
theorem dX10_man_93 : decode cX10_man 93 = .ok (.iadd, 1) := by decide +kernel
theorem dX10_man_94 : decode cX10_man 94 = .ok (.iload 4, 2) := by decide +kernel
theorem dX10_man_96 : decode cX10_man 96 = .ok (.iastore, 1) := by decide +kernel
theorem dX10_man_97 : decode cX10_man 97 = .ok (.aload_n 0, 1) := by decide +kernel
theorem dX10_man_98 : decode cX10_man 98 = .ok (.getfield 7, 3) := by decide +kernel
theorem dX10_man_101 : decode cX10_man 101 = .ok (.bipush 44, 2) := by decide +kernel
theorem dX10_man_103 : decode cX10_man 103 = .ok (.dup2, 1) := by decide +kernel
theorem dX10_man_104 : decode cX10_man 104 = .ok (.iaload, 1) := by decide +kernel
theorem dX10_man_105 : decode cX10_man 105 = .ok (.iconst 1, 1) := by decide +kernel
theorem dX10_man_106 : decode cX10_man 106 = .ok (.iload_n 1, 1) := by decide +kernel
theorem dX10_man_107 : decode cX10_man 107 = .ok (.ishl, 1) := by decide +kernel
theorem dX10_man_108 : decode cX10_man 108 = .ok (.iconst (-1), 1) := by decide +kernel
theorem dX10_man_109 : decode cX10_man 109 = .ok (.ixor, 1) := by decide +kernel
theorem dX10_man_110 : decode cX10_man 110 = .ok (.iand, 1) := by decide +kernel
theorem dX10_man_111 : decode cX10_man 111 = .ok (.iastore, 1) := by decide +kernel
theorem dX10_man_112 : decode cX10_man 112 = .ok (.iload 5, 2) := by decide +kernel
theorem dX10_man_114 : decode cX10_man 114 = .ok (.ireturn, 1) := by decide +kernel
theorem dX10_say_0 : decode cX10_say 0 = .ok (.iload_n 1, 1) := by decide +kernel
theorem dX10_say_1 : decode cX10_say 1 = .ok (.bipush 33, 2) := by decide +kernel
theorem dX10_say_3 : decode cX10_say 3 = .ok (.bipush 126, 2) := by decide +kernel
theorem dX10_say_5 : decode cX10_say 5 = .ok (.invokestatic 48, 3) := by decide +kernel
theorem dX10_say_8 : decode cX10_say 8 = .ok (.ifCond .ne 6, 3) := by decide +kernel
theorem dX10_say_11 : decode cX10_say 11 = .ok (.bipush (-2), 2) := by decide +kernel
theorem dX10_say_13 : decode cX10_say 13 = .ok (.ireturn, 1) := by decide +kernel
theorem dX10_say_14 : decode cX10_say 14 = .ok (.aload_n 0, 1) := by decide +kernel
theorem dX10_say_15 : decode cX10_say 15 = .ok (.getfield 79, 3) := by decide +kernel
theorem dX10_say_18 : decode cX10_say 18 = .ok (.bipush 60, 2) := by decide +kernel
theorem dX10_say_20 : decode cX10_say 20 = .ok (.if_icmp .ne 6, 3) := by decide +kernel
theorem dX10_say_23 : decode cX10_say 23 = .ok (.bipush (-4), 2) := by decide +kernel
theorem dX10_say_25 : decode cX10_say 25 = .ok (.ireturn, 1) := by decide +kernel
theorem dX10_say_26 : decode cX10_say 26 = .ok (.aload_n 0, 1) := by decide +kernel
theorem dX10_say_27 : decode cX10_say 27 = .ok (.getfield 19, 3) := by decide +kernel
theorem dX10_say_30 : decode cX10_say 30 = .ok (.aload_n 0, 1) := by decide +kernel
theorem dX10_say_31 : decode cX10_say 31 = .ok (.getfield 79, 3) := by decide +kernel
theorem dX10_say_34 : decode cX10_say 34 = .ok (.iload_n 1, 1) := by decide +kernel
theorem dX10_say_35 : decode cX10_say 35 = .ok (.iastore, 1) := by decide +kernel
theorem dX10_say_36 : decode cX10_say 36 = .ok (.aload_n 0, 1) := by decide +kernel
theorem dX10_say_37 : decode cX10_say 37 = .ok (.dup, 1) := by decide +kernel
theorem dX10_say_38 : decode cX10_say 38 = .ok (.getfield 79, 3) := by decide +kernel
theorem dX10_say_41 : decode cX10_say 41 = .ok (.iconst 1, 1) := by decide +kernel
theorem dX10_say_42 : decode cX10_say 42 = .ok (.iadd, 1) := by decide +kernel
theorem dX10_say_43 : decode cX10_say 43 = .ok (.putfield 79, 3) := by decide +kernel
theorem dX10_say_46 : decode cX10_say 46 = .ok (.aload_n 0, 1) := by decide +kernel
theorem dX10_say_47 : decode cX10_say 47 = .ok (.getfield 79, 3) := by decide +kernel
theorem dX10_say_50 : decode cX10_say 50 = .ok (.ireturn, 1) := by decide +kernel
theorem dX10_wipe_0 : decode cX10_wipe 0 = .ok (.aload_n 0, 1) := by decide +kernel
theorem dX10_wipe_1 : decode cX10_wipe 1 = .ok (.getfield 79, 3) := by decide +kernel
theorem dX10_wipe_4 : decode cX10_wipe 4 = .ok (.istore_n 1, 1) := by decide +kernel
theorem dX10_wipe_5 : decode cX10_wipe 5 = .ok (.aload_n 0, 1) := by decide +kernel
theorem dX10_wipe_6 : decode cX10_wipe 6 = .ok (.iconst 0, 1) := by decide +kernel
theorem dX10_wipe_7 : decode cX10_wipe 7 = .ok (.putfield 79, 3) := by decide +kernel
theorem dX10_wipe_10 : decode cX10_wipe 10 = .ok (.iload_n 1, 1) := by decide +kernel
theorem dX10_wipe_11 : decode cX10_wipe 11 = .ok (.ireturn, 1) := by decide +kernel
theorem dX10_step_0 : decode cX10_step 0 = .ok (.iload_n 1, 1) := by decide +kernel
theorem dX10_step_1 : decode cX10_step 1 = .ok (.bipush 97, 2) := by decide +kernel
theorem dX10_step_3 : decode cX10_step 3 = .ok (.bipush 108, 2) := by decide +kernel
theorem dX10_step_5 : decode cX10_step 5 = .ok (.invokestatic 48, 3) := by decide +kernel
theorem dX10_step_8 : decode cX10_step 8 = .ok (.istore_n 2, 1) := by decide +kernel
theorem dX10_step_9 : decode cX10_step 9 = .ok (.iload_n 0, 1) := by decide +kernel
theorem dX10_step_10 : decode cX10_step 10 = .ok (.lookupswitch 103 #[(0, 26), (1, 70)], 26) := by decide +kernel
theorem dX10_step_36 : decode cX10_step 36 = .ok (.iload_n 1, 1) := by decide +kernel
theorem dX10_step_37 : decode cX10_step 37 = .ok (.bipush 65, 2) := by decide +kernel
theorem dX10_step_39 : decode cX10_step 39 = .ok (.bipush 70, 2) := by decide +kernel
theorem dX10_step_41 : decode cX10_step 41 = .ok (.invokestatic 48, 3) := by decide +kernel
theorem dX10_step_44 : decode cX10_step 44 = .ok (.ifCond .eq 7, 3) := by decide +kernel
theorem dX10_step_47 : decode cX10_step 47 = .ok (.iconst 1, 1) := by decide +kernel
theorem dX10_step_48 : decode cX10_step 48 = .ok (.goto 31, 3) := by decide +kernel
theorem dX10_step_51 : decode cX10_step 51 = .ok (.iload_n 1, 1) := by decide +kernel
theorem dX10_step_52 : decode cX10_step 52 = .ok (.bipush 107, 2) := by decide +kernel
theorem dX10_step_54 : decode cX10_step 54 = .ok (.if_icmp .eq 9, 3) := by decide +kernel
theorem dX10_step_57 : decode cX10_step 57 = .ok (.iload_n 1, 1) := by decide +kernel
theorem dX10_step_58 : decode cX10_step 58 = .ok (.bipush 43, 2) := by decide +kernel
theorem dX10_step_60 : decode cX10_step 60 = .ok (.if_icmp .ne 7, 3) := by decide +kernel
theorem dX10_step_63 : decode cX10_step 63 = .ok (.iconst 2, 1) := by decide +kernel
theorem dX10_step_64 : decode cX10_step 64 = .ok (.goto 15, 3) := by decide +kernel
theorem dX10_step_67 : decode cX10_step 67 = .ok (.iload_n 1, 1) := by decide +kernel
theorem dX10_step_68 : decode cX10_step 68 = .ok (.bipush 46, 2) := by decide +kernel
theorem dX10_step_70 : decode cX10_step 70 = .ok (.if_icmp .ne 7, 3) := by decide +kernel
theorem dX10_step_73 : decode cX10_step 73 = .ok (.iconst 0, 1) := by decide +kernel
theorem dX10_step_74 : decode cX10_step 74 = .ok (.goto 5, 3) := by decide +kernel
theorem dX10_step_77 : decode cX10_step 77 = .ok (.bipush (-6), 2) := by decide +kernel
theorem dX10_step_79 : decode cX10_step 79 = .ok (.ireturn, 1) := by decide +kernel
theorem dX10_step_80 : decode cX10_step 80 = .ok (.iload_n 2, 1) := by decide +kernel
theorem dX10_step_81 : decode cX10_step 81 = .ok (.ifCond .ne 15, 3) := by decide +kernel
theorem dX10_step_84 : decode cX10_step 84 = .ok (.iload_n 1, 1) := by decide +kernel
theorem dX10_step_85 : decode cX10_step 85 = .ok (.bipush 94, 2) := by decide +kernel
theorem dX10_step_87 : decode cX10_step 87 = .ok (.if_icmp .eq 9, 3) := by decide +kernel
theorem dX10_step_90 : decode cX10_step 90 = .ok (.iload_n 1, 1) := by decide +kernel
theorem dX10_step_91 : decode cX10_step 91 = .ok (.bipush 95, 2) := by decide +kernel
theorem dX10_step_93 : decode cX10_step 93 = .ok (.if_icmp .ne 7, 3) := by decide +kernel
theorem dX10_step_96 : decode cX10_step 96 = .ok (.iconst 0, 1) := by decide +kernel
theorem dX10_step_97 : decode cX10_step 97 = .ok (.goto 15, 3) := by decide +kernel
theorem dX10_step_100 : decode cX10_step 100 = .ok (.iload_n 1, 1) := by decide +kernel
theorem dX10_step_101 : decode cX10_step 101 = .ok (.bipush 37, 2) := by decide +kernel
theorem dX10_step_103 : decode cX10_step 103 = .ok (.if_icmp .ne 7, 3) := by decide +kernel
theorem dX10_step_106 : decode cX10_step 106 = .ok (.iconst 2, 1) := by decide +kernel
theorem dX10_step_107 : decode cX10_step 107 = .ok (.goto 5, 3) := by decide +kernel
theorem dX10_step_110 : decode cX10_step 110 = .ok (.bipush (-6), 2) := by decide +kernel
theorem dX10_step_112 : decode cX10_step 112 = .ok (.ireturn, 1) := by decide +kernel
theorem dX10_step_113 : decode cX10_step 113 = .ok (.iload_n 2, 1) := by decide +kernel
theorem dX10_step_114 : decode cX10_step 114 = .ok (.ifCond .eq 7, 3) := by decide +kernel
theorem dX10_step_117 : decode cX10_step 117 = .ok (.iconst 0, 1) := by decide +kernel
theorem dX10_step_118 : decode cX10_step 118 = .ok (.goto 5, 3) := by decide +kernel
theorem dX10_step_121 : decode cX10_step 121 = .ok (.bipush (-6), 2) := by decide +kernel
theorem dX10_step_123 : decode cX10_step 123 = .ok (.ireturn, 1) := by decide +kernel
theorem dX10_faultOf_0 : decode cX10_faultOf 0 = .ok (.iconst 0, 1) := by decide +kernel
theorem dX10_faultOf_1 : decode cX10_faultOf 1 = .ok (.istore_n 1, 1) := by decide +kernel
theorem dX10_faultOf_2 : decode cX10_faultOf 2 = .ok (.iconst 0, 1) := by decide +kernel
theorem dX10_faultOf_3 : decode cX10_faultOf 3 = .ok (.istore_n 2, 1) := by decide +kernel
theorem dX10_faultOf_4 : decode cX10_faultOf 4 = .ok (.iload_n 2, 1) := by decide +kernel
theorem dX10_faultOf_5 : decode cX10_faultOf 5 = .ok (.aload_n 0, 1) := by decide +kernel
theorem dX10_faultOf_6 : decode cX10_faultOf 6 = .ok (.getfield 79, 3) := by decide +kernel
theorem dX10_faultOf_9 : decode cX10_faultOf 9 = .ok (.if_icmp .ge 26, 3) := by decide +kernel
theorem dX10_faultOf_12 : decode cX10_faultOf 12 = .ok (.iload_n 1, 1) := by decide +kernel
theorem dX10_faultOf_13 : decode cX10_faultOf 13 = .ok (.aload_n 0, 1) := by decide +kernel
theorem dX10_faultOf_14 : decode cX10_faultOf 14 = .ok (.getfield 19, 3) := by decide +kernel
theorem dX10_faultOf_17 : decode cX10_faultOf 17 = .ok (.iload_n 2, 1) := by decide +kernel
theorem dX10_faultOf_18 : decode cX10_faultOf 18 = .ok (.iaload, 1) := by decide +kernel
theorem dX10_faultOf_19 : decode cX10_faultOf 19 = .ok (.invokestatic 82, 3) := by decide +kernel
theorem dX10_faultOf_22 : decode cX10_faultOf 22 = .ok (.istore_n 1, 1) := by decide +kernel
theorem dX10_faultOf_23 : decode cX10_faultOf 23 = .ok (.iload_n 1, 1) := by decide +kernel
theorem dX10_faultOf_24 : decode cX10_faultOf 24 = .ok (.ifCond .ge 5, 3) := by decide +kernel
theorem dX10_faultOf_27 : decode cX10_faultOf 27 = .ok (.iload_n 2, 1) := by decide +kernel
theorem dX10_faultOf_28 : decode cX10_faultOf 28 = .ok (.ireturn, 1) := by decide +kernel
theorem dX10_faultOf_29 : decode cX10_faultOf 29 = .ok (.iinc 2 1, 3) := by decide +kernel
theorem dX10_faultOf_32 : decode cX10_faultOf 32 = .ok (.goto (-28), 3) := by decide +kernel
theorem dX10_faultOf_35 : decode cX10_faultOf 35 = .ok (.iload_n 1, 1) := by decide +kernel
theorem dX10_faultOf_36 : decode cX10_faultOf 36 = .ok (.ifCond .ne 8, 3) := by decide +kernel
theorem dX10_faultOf_39 : decode cX10_faultOf 39 = .ok (.bipush (-6), 2) := by decide +kernel
theorem dX10_faultOf_41 : decode cX10_faultOf 41 = .ok (.goto 7, 3) := by decide +kernel
theorem dX10_faultOf_44 : decode cX10_faultOf 44 = .ok (.aload_n 0, 1) := by decide +kernel
theorem dX10_faultOf_45 : decode cX10_faultOf 45 = .ok (.getfield 79, 3) := by decide +kernel
theorem dX10_faultOf_48 : decode cX10_faultOf 48 = .ok (.ireturn, 1) := by decide +kernel
theorem dX10_fault_0 : decode cX10_fault 0 = .ok (.aload_n 0, 1) := by decide +kernel
theorem dX10_fault_1 : decode cX10_fault 1 = .ok (.invokevirtual 86, 3) := by decide +kernel
theorem dX10_fault_4 : decode cX10_fault 4 = .ok (.ireturn, 1) := by decide +kernel
theorem dX10_goTo_0 : decode cX10_goTo 0 = .ok (.aload_n 0, 1) := by decide +kernel
theorem dX10_goTo_1 : decode cX10_goTo 1 = .ok (.getfield 13, 3) := by decide +kernel
theorem dX10_goTo_4 : decode cX10_goTo 4 = .ok (.bipush 44, 2) := by decide +kernel
theorem dX10_goTo_6 : decode cX10_goTo 6 = .ok (.iaload, 1) := by decide +kernel
theorem dX10_goTo_7 : decode cX10_goTo 7 = .ok (.iload_n 1, 1) := by decide +kernel
theorem dX10_goTo_8 : decode cX10_goTo 8 = .ok (.invokestatic 65, 3) := by decide +kernel
theorem dX10_goTo_11 : decode cX10_goTo 11 = .ok (.ifCond .eq 5, 3) := by decide +kernel
theorem dX10_goTo_14 : decode cX10_goTo 14 = .ok (.iconst 1, 1) := by decide +kernel
theorem dX10_goTo_15 : decode cX10_goTo 15 = .ok (.ireturn, 1) := by decide +kernel
theorem dX10_goTo_16 : decode cX10_goTo 16 = .ok (.iload_n 2, 1) := by decide +kernel
theorem dX10_goTo_17 : decode cX10_goTo 17 = .ok (.aload_n 0, 1) := by decide +kernel
theorem dX10_goTo_18 : decode cX10_goTo 18 = .ok (.getfield 13, 3) := by decide +kernel
theorem dX10_goTo_21 : decode cX10_goTo 21 = .ok (.bipush 38, 2) := by decide +kernel
theorem dX10_goTo_23 : decode cX10_goTo 23 = .ok (.iload_n 1, 1) := by decide +kernel
theorem dX10_goTo_24 : decode cX10_goTo 24 = .ok (.iadd, 1) := by decide +kernel
theorem dX10_goTo_25 : decode cX10_goTo 25 = .ok (.iaload, 1) := by decide +kernel
theorem dX10_goTo_26 : decode cX10_goTo 26 = .ok (.isub, 1) := by decide +kernel
theorem dX10_goTo_27 : decode cX10_goTo 27 = .ok (.istore_n 3, 1) := by decide +kernel
theorem dX10_goTo_28 : decode cX10_goTo 28 = .ok (.iload_n 3, 1) := by decide +kernel
theorem dX10_goTo_29 : decode cX10_goTo 29 = .ok (.ifCond .eq 29, 3) := by decide +kernel
theorem dX10_goTo_32 : decode cX10_goTo 32 = .ok (.iload_n 3, 1) := by decide +kernel
theorem dX10_goTo_33 : decode cX10_goTo 33 = .ok (.aload_n 0, 1) := by decide +kernel
theorem dX10_goTo_34 : decode cX10_goTo 34 = .ok (.getfield 13, 3) := by decide +kernel
theorem dX10_goTo_37 : decode cX10_goTo 37 = .ok (.bipush 26, 2) := by decide +kernel
theorem dX10_goTo_39 : decode cX10_goTo 39 = .ok (.iload_n 1, 1) := by decide +kernel
theorem dX10_goTo_40 : decode cX10_goTo 40 = .ok (.iadd, 1) := by decide +kernel
theorem dX10_goTo_41 : decode cX10_goTo 41 = .ok (.iaload, 1) := by decide +kernel
theorem dX10_goTo_42 : decode cX10_goTo 42 = .ok (.ineg, 1) := by decide +kernel
theorem dX10_goTo_43 : decode cX10_goTo 43 = .ok (.aload_n 0, 1) := by decide +kernel
theorem dX10_goTo_44 : decode cX10_goTo 44 = .ok (.getfield 13, 3) := by decide +kernel
theorem dX10_goTo_47 : decode cX10_goTo 47 = .ok (.bipush 26, 2) := by decide +kernel
theorem dX10_goTo_49 : decode cX10_goTo 49 = .ok (.iload_n 1, 1) := by decide +kernel
theorem dX10_goTo_50 : decode cX10_goTo 50 = .ok (.iadd, 1) := by decide +kernel
theorem dX10_goTo_51 : decode cX10_goTo 51 = .ok (.iaload, 1) := by decide +kernel
theorem dX10_goTo_52 : decode cX10_goTo 52 = .ok (.invokestatic 48, 3) := by decide +kernel
theorem dX10_goTo_55 : decode cX10_goTo 55 = .ok (.ifCond .ne 5, 3) := by decide +kernel
theorem dX10_goTo_58 : decode cX10_goTo 58 = .ok (.iconst 2, 1) := by decide +kernel
theorem dX10_goTo_59 : decode cX10_goTo 59 = .ok (.ireturn, 1) := by decide +kernel
theorem dX10_goTo_60 : decode cX10_goTo 60 = .ok (.iload_n 2, 1) := by decide +kernel
theorem dX10_goTo_61 : decode cX10_goTo 61 = .ok (.invokestatic 73, 3) := by decide +kernel
theorem dX10_goTo_64 : decode cX10_goTo 64 = .ok (.ifCond .eq 34, 3) := by decide +kernel
theorem dX10_goTo_67 : decode cX10_goTo 67 = .ok (.aload_n 0, 1) := by decide +kernel
theorem dX10_goTo_68 : decode cX10_goTo 68 = .ok (.iload_n 2, 1) := by decide +kernel
theorem dX10_goTo_69 : decode cX10_goTo 69 = .ok (.invokevirtual 69, 3) := by decide +kernel
theorem dX10_goTo_72 : decode cX10_goTo 72 = .ok (.ifCond .eq 5, 3) := by decide +kernel
theorem dX10_goTo_75 : decode cX10_goTo 75 = .ok (.iconst 3, 1) := by decide +kernel
theorem dX10_goTo_76 : decode cX10_goTo 76 = .ok (.ireturn, 1) := by decide +kernel
theorem dX10_goTo_77 : decode cX10_goTo 77 = .ok (.aload_n 0, 1) := by decide +kernel
theorem dX10_goTo_78 : decode cX10_goTo 78 = .ok (.iload_n 1, 1) := by decide +kernel
theorem dX10_goTo_79 : decode cX10_goTo 79 = .ok (.iload_n 2, 1) := by decide +kernel
theorem dX10_goTo_80 : decode cX10_goTo 80 = .ok (.invokevirtual 90, 3) := by decide +kernel
theorem dX10_goTo_83 : decode cX10_goTo 83 = .ok (.ifCond .ne 5, 3) := by decide +kernel
theorem dX10_goTo_86 : decode cX10_goTo 86 = .ok (.iconst 4, 1) := by decide +kernel
theorem dX10_goTo_87 : decode cX10_goTo 87 = .ok (.ireturn, 1) := by decide +kernel
theorem dX10_goTo_88 : decode cX10_goTo 88 = .ok (.aload_n 0, 1) := by decide +kernel
theorem dX10_goTo_89 : decode cX10_goTo 89 = .ok (.iload_n 2, 1) := by decide +kernel
theorem dX10_goTo_90 : decode cX10_goTo 90 = .ok (.invokevirtual 93, 3) := by decide +kernel
theorem dX10_goTo_93 : decode cX10_goTo 93 = .ok (.ifCond .lt 5, 3) := by decide +kernel
theorem dX10_goTo_96 : decode cX10_goTo 96 = .ok (.iconst 5, 1) := by decide +kernel
theorem dX10_goTo_97 : decode cX10_goTo 97 = .ok (.ireturn, 1) := by decide +kernel
theorem dX10_goTo_98 : decode cX10_goTo 98 = .ok (.aload_n 0, 1) := by decide +kernel
theorem dX10_goTo_99 : decode cX10_goTo 99 = .ok (.getfield 13, 3) := by decide +kernel
theorem dX10_goTo_102 : decode cX10_goTo 102 = .ok (.bipush 38, 2) := by decide +kernel
theorem dX10_goTo_104 : decode cX10_goTo 104 = .ok (.iload_n 1, 1) := by decide +kernel
theorem dX10_goTo_105 : decode cX10_goTo 105 = .ok (.iadd, 1) := by decide +kernel
theorem dX10_goTo_106 : decode cX10_goTo 106 = .ok (.iload_n 2, 1) := by decide +kernel
theorem dX10_goTo_107 : decode cX10_goTo 107 = .ok (.iastore, 1) := by decide +kernel
theorem dX10_goTo_108 : decode cX10_goTo 108 = .ok (.aload_n 0, 1) := by decide +kernel
theorem dX10_goTo_109 : decode cX10_goTo 109 = .ok (.getfield 13, 3) := by decide +kernel
theorem dX10_goTo_112 : decode cX10_goTo 112 = .ok (.bipush 44, 2) := by decide +kernel
theorem dX10_goTo_114 : decode cX10_goTo 114 = .ok (.dup2, 1) := by decide +kernel
theorem dX10_goTo_115 : decode cX10_goTo 115 = .ok (.iaload, 1) := by decide +kernel
theorem dX10_goTo_116 : decode cX10_goTo 116 = .ok (.iconst 1, 1) := by decide +kernel
theorem dX10_goTo_117 : decode cX10_goTo 117 = .ok (.iload_n 1, 1) := by decide +kernel
theorem dX10_goTo_118 : decode cX10_goTo 118 = .ok (.ishl, 1) := by decide +kernel
theorem dX10_goTo_119 : decode cX10_goTo 119 = .ok (.ior, 1) := by decide +kernel
theorem dX10_goTo_120 : decode cX10_goTo 120 = .ok (.iastore, 1) := by decide +kernel
theorem dX10_goTo_121 : decode cX10_goTo 121 = .ok (.aload_n 0, 1) := by decide +kernel
theorem dX10_goTo_122 : decode cX10_goTo 122 = .ok (.dup, 1) := by decide +kernel
theorem dX10_goTo_123 : decode cX10_goTo 123 = .ok (.getfield 52, 3) := by decide +kernel
theorem dX10_goTo_126 : decode cX10_goTo 126 = .ok (.iconst 1, 1) := by decide +kernel
theorem dX10_goTo_127 : decode cX10_goTo 127 = .ok (.iadd, 1) := by decide +kernel
theorem dX10_goTo_128 : decode cX10_goTo 128 = .ok (.putfield 52, 3) := by decide +kernel
theorem dX10_goTo_131 : decode cX10_goTo 131 = .ok (.iconst 0, 1) := by decide +kernel
theorem dX10_goTo_132 : decode cX10_goTo 132 = .ok (.ireturn, 1) := by decide +kernel
theorem dX10_leaseTo_0 : decode cX10_leaseTo 0 = .ok (.aload_n 0, 1) := by decide +kernel
theorem dX10_leaseTo_1 : decode cX10_leaseTo 1 = .ok (.iload_n 2, 1) := by decide +kernel
theorem dX10_leaseTo_2 : decode cX10_leaseTo 2 = .ok (.invokevirtual 69, 3) := by decide +kernel
theorem dX10_leaseTo_5 : decode cX10_leaseTo 5 = .ok (.ifCond .eq 5, 3) := by decide +kernel
theorem dX10_leaseTo_8 : decode cX10_leaseTo 8 = .ok (.iconst 3, 1) := by decide +kernel
theorem dX10_leaseTo_9 : decode cX10_leaseTo 9 = .ok (.ireturn, 1) := by decide +kernel
theorem dX10_leaseTo_10 : decode cX10_leaseTo 10 = .ok (.aload_n 0, 1) := by decide +kernel
theorem dX10_leaseTo_11 : decode cX10_leaseTo 11 = .ok (.getfield 13, 3) := by decide +kernel
theorem dX10_leaseTo_14 : decode cX10_leaseTo 14 = .ok (.iload_n 2, 1) := by decide +kernel
theorem dX10_leaseTo_15 : decode cX10_leaseTo 15 = .ok (.iaload, 1) := by decide +kernel
theorem dX10_leaseTo_16 : decode cX10_leaseTo 16 = .ok (.iload_n 1, 1) := by decide +kernel
theorem dX10_leaseTo_17 : decode cX10_leaseTo 17 = .ok (.if_icmp .eq 12, 3) := by decide +kernel
theorem dX10_leaseTo_20 : decode cX10_leaseTo 20 = .ok (.aload_n 0, 1) := by decide +kernel
theorem dX10_leaseTo_21 : decode cX10_leaseTo 21 = .ok (.getfield 13, 3) := by decide +kernel
theorem dX10_leaseTo_24 : decode cX10_leaseTo 24 = .ok (.iload_n 2, 1) := by decide +kernel
theorem dX10_leaseTo_25 : decode cX10_leaseTo 25 = .ok (.iaload, 1) := by decide +kernel
theorem dX10_leaseTo_26 : decode cX10_leaseTo 26 = .ok (.ifCond .ge 6, 3) := by decide +kernel
theorem dX10_leaseTo_29 : decode cX10_leaseTo 29 = .ok (.bipush 6, 2) := by decide +kernel
theorem dX10_leaseTo_31 : decode cX10_leaseTo 31 = .ok (.ireturn, 1) := by decide +kernel
theorem dX10_leaseTo_32 : decode cX10_leaseTo 32 = .ok (.aload_n 0, 1) := by decide +kernel
theorem dX10_leaseTo_33 : decode cX10_leaseTo 33 = .ok (.getfield 13, 3) := by decide +kernel
theorem dX10_leaseTo_36 : decode cX10_leaseTo 36 = .ok (.bipush 13, 2) := by decide +kernel
theorem dX10_leaseTo_38 : decode cX10_leaseTo 38 = .ok (.iload_n 2, 1) := by decide +kernel
theorem dX10_leaseTo_39 : decode cX10_leaseTo 39 = .ok (.iadd, 1) := by decide +kernel
theorem dX10_leaseTo_40 : decode cX10_leaseTo 40 = .ok (.iaload, 1) := by decide +kernel
theorem dX10_leaseTo_41 : decode cX10_leaseTo 41 = .ok (.ifCond .lt 6, 3) := by decide +kernel
theorem dX10_leaseTo_44 : decode cX10_leaseTo 44 = .ok (.bipush 7, 2) := by decide +kernel
theorem dX10_leaseTo_46 : decode cX10_leaseTo 46 = .ok (.ireturn, 1) := by decide +kernel
theorem dX10_leaseTo_47 : decode cX10_leaseTo 47 = .ok (.aload_n 0, 1) := by decide +kernel
theorem dX10_leaseTo_48 : decode cX10_leaseTo 48 = .ok (.getfield 13, 3) := by decide +kernel
theorem dX10_leaseTo_51 : decode cX10_leaseTo 51 = .ok (.bipush 32, 2) := by decide +kernel
theorem dX10_leaseTo_53 : decode cX10_leaseTo 53 = .ok (.iload_n 1, 1) := by decide +kernel
theorem dX10_leaseTo_54 : decode cX10_leaseTo 54 = .ok (.iadd, 1) := by decide +kernel
theorem dX10_leaseTo_55 : decode cX10_leaseTo 55 = .ok (.iaload, 1) := by decide +kernel
theorem dX10_leaseTo_56 : decode cX10_leaseTo 56 = .ok (.ifCond .ne 6, 3) := by decide +kernel
theorem dX10_leaseTo_59 : decode cX10_leaseTo 59 = .ok (.bipush 8, 2) := by decide +kernel
theorem dX10_leaseTo_61 : decode cX10_leaseTo 61 = .ok (.ireturn, 1) := by decide +kernel
theorem dX10_leaseTo_62 : decode cX10_leaseTo 62 = .ok (.aload_n 0, 1) := by decide +kernel
theorem dX10_leaseTo_63 : decode cX10_leaseTo 63 = .ok (.getfield 13, 3) := by decide +kernel
theorem dX10_leaseTo_66 : decode cX10_leaseTo 66 = .ok (.bipush 32, 2) := by decide +kernel
theorem dX10_leaseTo_68 : decode cX10_leaseTo 68 = .ok (.iload_n 1, 1) := by decide +kernel
theorem dX10_leaseTo_69 : decode cX10_leaseTo 69 = .ok (.iadd, 1) := by decide +kernel
theorem dX10_leaseTo_70 : decode cX10_leaseTo 70 = .ok (.dup2, 1) := by decide +kernel
theorem dX10_leaseTo_71 : decode cX10_leaseTo 71 = .ok (.iaload, 1) := by decide +kernel
theorem dX10_leaseTo_72 : decode cX10_leaseTo 72 = .ok (.iconst 1, 1) := by decide +kernel
theorem dX10_leaseTo_73 : decode cX10_leaseTo 73 = .ok (.isub, 1) := by decide +kernel
theorem dX10_leaseTo_74 : decode cX10_leaseTo 74 = .ok (.iastore, 1) := by decide +kernel
theorem dX10_leaseTo_75 : decode cX10_leaseTo 75 = .ok (.aload_n 0, 1) := by decide +kernel
theorem dX10_leaseTo_76 : decode cX10_leaseTo 76 = .ok (.getfield 13, 3) := by decide +kernel
theorem dX10_leaseTo_79 : decode cX10_leaseTo 79 = .ok (.bipush 32, 2) := by decide +kernel
theorem dX10_leaseTo_81 : decode cX10_leaseTo 81 = .ok (.aload_n 0, 1) := by decide +kernel
theorem dX10_leaseTo_82 : decode cX10_leaseTo 82 = .ok (.getfield 13, 3) := by decide +kernel
theorem dX10_leaseTo_85 : decode cX10_leaseTo 85 = .ok (.iload_n 2, 1) := by decide +kernel
theorem dX10_leaseTo_86 : decode cX10_leaseTo 86 = .ok (.iaload, 1) := by decide +kernel
theorem dX10_leaseTo_87 : decode cX10_leaseTo 87 = .ok (.iadd, 1) := by decide +kernel
theorem dX10_leaseTo_88 : decode cX10_leaseTo 88 = .ok (.dup2, 1) := by decide +kernel
theorem dX10_leaseTo_89 : decode cX10_leaseTo 89 = .ok (.iaload, 1) := by decide +kernel
theorem dX10_leaseTo_90 : decode cX10_leaseTo 90 = .ok (.iconst 1, 1) := by decide +kernel
theorem dX10_leaseTo_91 : decode cX10_leaseTo 91 = .ok (.iadd, 1) := by decide +kernel
theorem dX10_leaseTo_92 : decode cX10_leaseTo 92 = .ok (.iastore, 1) := by decide +kernel
theorem dX10_leaseTo_93 : decode cX10_leaseTo 93 = .ok (.aload_n 0, 1) := by decide +kernel
theorem dX10_leaseTo_94 : decode cX10_leaseTo 94 = .ok (.getfield 13, 3) := by decide +kernel
theorem dX10_leaseTo_97 : decode cX10_leaseTo 97 = .ok (.bipush 13, 2) := by decide +kernel
theorem dX10_leaseTo_99 : decode cX10_leaseTo 99 = .ok (.iload_n 2, 1) := by decide +kernel
theorem dX10_leaseTo_100 : decode cX10_leaseTo 100 = .ok (.iadd, 1) := by decide +kernel
theorem dX10_leaseTo_101 : decode cX10_leaseTo 101 = .ok (.iload_n 1, 1) := by decide +kernel
theorem dX10_leaseTo_102 : decode cX10_leaseTo 102 = .ok (.iastore, 1) := by decide +kernel
theorem dX10_leaseTo_103 : decode cX10_leaseTo 103 = .ok (.aload_n 0, 1) := by decide +kernel
theorem dX10_leaseTo_104 : decode cX10_leaseTo 104 = .ok (.dup, 1) := by decide +kernel
theorem dX10_leaseTo_105 : decode cX10_leaseTo 105 = .ok (.getfield 56, 3) := by decide +kernel
theorem dX10_leaseTo_108 : decode cX10_leaseTo 108 = .ok (.iconst 1, 1) := by decide +kernel
theorem dX10_leaseTo_109 : decode cX10_leaseTo 109 = .ok (.iadd, 1) := by decide +kernel
theorem dX10_leaseTo_110 : decode cX10_leaseTo 110 = .ok (.putfield 56, 3) := by decide +kernel
theorem dX10_leaseTo_113 : decode cX10_leaseTo 113 = .ok (.iconst 0, 1) := by decide +kernel
theorem dX10_leaseTo_114 : decode cX10_leaseTo 114 = .ok (.ireturn, 1) := by decide +kernel
theorem dX10_lose_0 : decode cX10_lose 0 = .ok (.aload_n 0, 1) := by decide +kernel
theorem dX10_lose_1 : decode cX10_lose 1 = .ok (.iload_n 1, 1) := by decide +kernel
theorem dX10_lose_2 : decode cX10_lose 2 = .ok (.invokevirtual 69, 3) := by decide +kernel
theorem dX10_lose_5 : decode cX10_lose 5 = .ok (.iload_n 2, 1) := by decide +kernel
theorem dX10_lose_6 : decode cX10_lose 6 = .ok (.if_icmp .ne 6, 3) := by decide +kernel
theorem dX10_lose_9 : decode cX10_lose 9 = .ok (.bipush 9, 2) := by decide +kernel
theorem dX10_lose_11 : decode cX10_lose 11 = .ok (.ireturn, 1) := by decide +kernel
theorem dX10_lose_12 : decode cX10_lose 12 = .ok (.aload_n 0, 1) := by decide +kernel
theorem dX10_lose_13 : decode cX10_lose 13 = .ok (.getfield 13, 3) := by decide +kernel
theorem dX10_lose_16 : decode cX10_lose 16 = .ok (.bipush 45, 2) := by decide +kernel
theorem dX10_lose_18 : decode cX10_lose 18 = .ok (.dup2, 1) := by decide +kernel
theorem dX10_lose_19 : decode cX10_lose 19 = .ok (.iaload, 1) := by decide +kernel
theorem dX10_lose_20 : decode cX10_lose 20 = .ok (.iconst 1, 1) := by decide +kernel
theorem dX10_lose_21 : decode cX10_lose 21 = .ok (.iload_n 1, 1) := by decide +kernel
theorem dX10_lose_22 : decode cX10_lose 22 = .ok (.ishl, 1) := by decide +kernel
theorem dX10_lose_23 : decode cX10_lose 23 = .ok (.ixor, 1) := by decide +kernel
theorem dX10_lose_24 : decode cX10_lose 24 = .ok (.iastore, 1) := by decide +kernel
theorem dX10_lose_25 : decode cX10_lose 25 = .ok (.aload_n 0, 1) := by decide +kernel
theorem dX10_lose_26 : decode cX10_lose 26 = .ok (.getfield 13, 3) := by decide +kernel
theorem dX10_lose_29 : decode cX10_lose 29 = .ok (.iload_n 1, 1) := by decide +kernel
theorem dX10_lose_30 : decode cX10_lose 30 = .ok (.bipush (-6), 2) := by decide +kernel
theorem dX10_lose_32 : decode cX10_lose 32 = .ok (.iastore, 1) := by decide +kernel
theorem dX10_lose_33 : decode cX10_lose 33 = .ok (.aload_n 0, 1) := by decide +kernel
theorem dX10_lose_34 : decode cX10_lose 34 = .ok (.getfield 13, 3) := by decide +kernel
theorem dX10_lose_37 : decode cX10_lose 37 = .ok (.bipush 13, 2) := by decide +kernel
theorem dX10_lose_39 : decode cX10_lose 39 = .ok (.iload_n 1, 1) := by decide +kernel
theorem dX10_lose_40 : decode cX10_lose 40 = .ok (.iadd, 1) := by decide +kernel
theorem dX10_lose_41 : decode cX10_lose 41 = .ok (.bipush (-6), 2) := by decide +kernel
theorem dX10_lose_43 : decode cX10_lose 43 = .ok (.iastore, 1) := by decide +kernel
theorem dX10_lose_44 : decode cX10_lose 44 = .ok (.iconst 0, 1) := by decide +kernel
theorem dX10_lose_45 : decode cX10_lose 45 = .ok (.ireturn, 1) := by decide +kernel
theorem dX10_endBeat_0 : decode cX10_endBeat 0 = .ok (.aload_n 0, 1) := by decide +kernel
theorem dX10_endBeat_1 : decode cX10_endBeat 1 = .ok (.getfield 13, 3) := by decide +kernel
theorem dX10_endBeat_4 : decode cX10_endBeat 4 = .ok (.bipush 46, 2) := by decide +kernel
theorem dX10_endBeat_6 : decode cX10_endBeat 6 = .ok (.iaload, 1) := by decide +kernel
theorem dX10_endBeat_7 : decode cX10_endBeat 7 = .ok (.bipush 99, 2) := by decide +kernel
theorem dX10_endBeat_9 : decode cX10_endBeat 9 = .ok (.if_icmp .ne 6, 3) := by decide +kernel
theorem dX10_endBeat_12 : decode cX10_endBeat 12 = .ok (.bipush 10, 2) := by decide +kernel
theorem dX10_endBeat_14 : decode cX10_endBeat 14 = .ok (.ireturn, 1) := by decide +kernel
theorem dX10_endBeat_15 : decode cX10_endBeat 15 = .ok (.aload_n 0, 1) := by decide +kernel
theorem dX10_endBeat_16 : decode cX10_endBeat 16 = .ok (.getfield 13, 3) := by decide +kernel
theorem dX10_endBeat_19 : decode cX10_endBeat 19 = .ok (.bipush 46, 2) := by decide +kernel
theorem dX10_endBeat_21 : decode cX10_endBeat 21 = .ok (.dup2, 1) := by decide +kernel
theorem dX10_endBeat_22 : decode cX10_endBeat 22 = .ok (.iaload, 1) := by decide +kernel
theorem dX10_endBeat_23 : decode cX10_endBeat 23 = .ok (.iconst 1, 1) := by decide +kernel
theorem dX10_endBeat_24 : decode cX10_endBeat 24 = .ok (.iadd, 1) := by decide +kernel
theorem dX10_endBeat_25 : decode cX10_endBeat 25 = .ok (.iastore, 1) := by decide +kernel
theorem dX10_endBeat_26 : decode cX10_endBeat 26 = .ok (.aload_n 0, 1) := by decide +kernel
theorem dX10_endBeat_27 : decode cX10_endBeat 27 = .ok (.getfield 13, 3) := by decide +kernel
theorem dX10_endBeat_30 : decode cX10_endBeat 30 = .ok (.bipush 44, 2) := by decide +kernel
theorem dX10_endBeat_32 : decode cX10_endBeat 32 = .ok (.iconst 0, 1) := by decide +kernel
theorem dX10_endBeat_33 : decode cX10_endBeat 33 = .ok (.iastore, 1) := by decide +kernel
theorem dX10_endBeat_34 : decode cX10_endBeat 34 = .ok (.iconst 0, 1) := by decide +kernel
theorem dX10_endBeat_35 : decode cX10_endBeat 35 = .ok (.ireturn, 1) := by decide +kernel
theorem dX10_oneAct_0 : decode cX10_oneAct 0 = .ok (.aload_n 0, 1) := by decide +kernel
theorem dX10_oneAct_1 : decode cX10_oneAct 1 = .ok (.getfield 19, 3) := by decide +kernel
theorem dX10_oneAct_4 : decode cX10_oneAct 4 = .ok (.iload_n 1, 1) := by decide +kernel
theorem dX10_oneAct_5 : decode cX10_oneAct 5 = .ok (.iaload, 1) := by decide +kernel
theorem dX10_oneAct_6 : decode cX10_oneAct 6 = .ok (.istore_n 2, 1) := by decide +kernel
theorem dX10_oneAct_7 : decode cX10_oneAct 7 = .ok (.iload_n 2, 1) := by decide +kernel
theorem dX10_oneAct_8 : decode cX10_oneAct 8 = .ok (.bipush 46, 2) := by decide +kernel
theorem dX10_oneAct_10 : decode cX10_oneAct 10 = .ok (.if_icmp .ne 8, 3) := by decide +kernel
theorem dX10_oneAct_13 : decode cX10_oneAct 13 = .ok (.aload_n 0, 1) := by decide +kernel
theorem dX10_oneAct_14 : decode cX10_oneAct 14 = .ok (.invokevirtual 97, 3) := by decide +kernel
theorem dX10_oneAct_17 : decode cX10_oneAct 17 = .ok (.ireturn, 1) := by decide +kernel
theorem dX10_oneAct_18 : decode cX10_oneAct 18 = .ok (.aload_n 0, 1) := by decide +kernel
theorem dX10_oneAct_19 : decode cX10_oneAct 19 = .ok (.getfield 19, 3) := by decide +kernel
theorem dX10_oneAct_22 : decode cX10_oneAct 22 = .ok (.iload_n 1, 1) := by decide +kernel
theorem dX10_oneAct_23 : decode cX10_oneAct 23 = .ok (.iconst 1, 1) := by decide +kernel
theorem dX10_oneAct_24 : decode cX10_oneAct 24 = .ok (.iadd, 1) := by decide +kernel
theorem dX10_oneAct_25 : decode cX10_oneAct 25 = .ok (.iaload, 1) := by decide +kernel
theorem dX10_oneAct_26 : decode cX10_oneAct 26 = .ok (.istore_n 3, 1) := by decide +kernel
theorem dX10_oneAct_27 : decode cX10_oneAct 27 = .ok (.iload_n 2, 1) := by decide +kernel
theorem dX10_oneAct_28 : decode cX10_oneAct 28 = .ok (.bipush 107, 2) := by decide +kernel
theorem dX10_oneAct_30 : decode cX10_oneAct 30 = .ok (.if_icmp .eq 9, 3) := by decide +kernel
theorem dX10_oneAct_33 : decode cX10_oneAct 33 = .ok (.iload_n 2, 1) := by decide +kernel
theorem dX10_oneAct_34 : decode cX10_oneAct 34 = .ok (.bipush 43, 2) := by decide +kernel
theorem dX10_oneAct_36 : decode cX10_oneAct 36 = .ok (.if_icmp .ne 25, 3) := by decide +kernel
theorem dX10_oneAct_39 : decode cX10_oneAct 39 = .ok (.aload_n 0, 1) := by decide +kernel
theorem dX10_oneAct_40 : decode cX10_oneAct 40 = .ok (.iload_n 3, 1) := by decide +kernel
theorem dX10_oneAct_41 : decode cX10_oneAct 41 = .ok (.bipush 97, 2) := by decide +kernel
theorem dX10_oneAct_43 : decode cX10_oneAct 43 = .ok (.isub, 1) := by decide +kernel
theorem dX10_oneAct_44 : decode cX10_oneAct 44 = .ok (.iconst 1, 1) := by decide +kernel
theorem dX10_oneAct_45 : decode cX10_oneAct 45 = .ok (.iadd, 1) := by decide +kernel
theorem dX10_oneAct_46 : decode cX10_oneAct 46 = .ok (.iload_n 2, 1) := by decide +kernel
theorem dX10_oneAct_47 : decode cX10_oneAct 47 = .ok (.bipush 107, 2) := by decide +kernel
theorem dX10_oneAct_49 : decode cX10_oneAct 49 = .ok (.if_icmp .ne 7, 3) := by decide +kernel
theorem dX10_oneAct_52 : decode cX10_oneAct 52 = .ok (.iconst 1, 1) := by decide +kernel
theorem dX10_oneAct_53 : decode cX10_oneAct 53 = .ok (.goto 4, 3) := by decide +kernel
theorem dX10_oneAct_56 : decode cX10_oneAct 56 = .ok (.iconst 0, 1) := by decide +kernel
theorem dX10_oneAct_57 : decode cX10_oneAct 57 = .ok (.invokevirtual 100, 3) := by decide +kernel
theorem dX10_oneAct_60 : decode cX10_oneAct 60 = .ok (.ireturn, 1) := by decide +kernel
theorem dX10_oneAct_61 : decode cX10_oneAct 61 = .ok (.iload_n 2, 1) := by decide +kernel
theorem dX10_oneAct_62 : decode cX10_oneAct 62 = .ok (.bipush 65, 2) := by decide +kernel
theorem dX10_oneAct_64 : decode cX10_oneAct 64 = .ok (.isub, 1) := by decide +kernel
theorem dX10_oneAct_65 : decode cX10_oneAct 65 = .ok (.istore 4, 2) := by decide +kernel
theorem dX10_oneAct_67 : decode cX10_oneAct 67 = .ok (.iload_n 3, 1) := by decide +kernel
theorem dX10_oneAct_68 : decode cX10_oneAct 68 = .ok (.bipush 37, 2) := by decide +kernel
theorem dX10_oneAct_70 : decode cX10_oneAct 70 = .ok (.if_icmp .ne 25, 3) := by decide +kernel
theorem dX10_oneAct_73 : decode cX10_oneAct 73 = .ok (.aload_n 0, 1) := by decide +kernel
theorem dX10_oneAct_74 : decode cX10_oneAct 74 = .ok (.iload 4, 2) := by decide +kernel
theorem dX10_oneAct_76 : decode cX10_oneAct 76 = .ok (.aload_n 0, 1) := by decide +kernel
theorem dX10_oneAct_77 : decode cX10_oneAct 77 = .ok (.getfield 19, 3) := by decide +kernel
theorem dX10_oneAct_80 : decode cX10_oneAct 80 = .ok (.iload_n 1, 1) := by decide +kernel
theorem dX10_oneAct_81 : decode cX10_oneAct 81 = .ok (.iconst 2, 1) := by decide +kernel
theorem dX10_oneAct_82 : decode cX10_oneAct 82 = .ok (.iadd, 1) := by decide +kernel
theorem dX10_oneAct_83 : decode cX10_oneAct 83 = .ok (.iaload, 1) := by decide +kernel
theorem dX10_oneAct_84 : decode cX10_oneAct 84 = .ok (.bipush 97, 2) := by decide +kernel
theorem dX10_oneAct_86 : decode cX10_oneAct 86 = .ok (.isub, 1) := by decide +kernel
theorem dX10_oneAct_87 : decode cX10_oneAct 87 = .ok (.iconst 1, 1) := by decide +kernel
theorem dX10_oneAct_88 : decode cX10_oneAct 88 = .ok (.iadd, 1) := by decide +kernel
theorem dX10_oneAct_89 : decode cX10_oneAct 89 = .ok (.invokevirtual 104, 3) := by decide +kernel
theorem dX10_oneAct_92 : decode cX10_oneAct 92 = .ok (.goto 36, 3) := by decide +kernel
theorem dX10_oneAct_95 : decode cX10_oneAct 95 = .ok (.aload_n 0, 1) := by decide +kernel
theorem dX10_oneAct_96 : decode cX10_oneAct 96 = .ok (.iload 4, 2) := by decide +kernel
theorem dX10_oneAct_98 : decode cX10_oneAct 98 = .ok (.iload_n 3, 1) := by decide +kernel
theorem dX10_oneAct_99 : decode cX10_oneAct 99 = .ok (.bipush 94, 2) := by decide +kernel
theorem dX10_oneAct_101 : decode cX10_oneAct 101 = .ok (.if_icmp .ne 8, 3) := by decide +kernel
theorem dX10_oneAct_104 : decode cX10_oneAct 104 = .ok (.bipush 13, 2) := by decide +kernel
theorem dX10_oneAct_106 : decode cX10_oneAct 106 = .ok (.goto 19, 3) := by decide +kernel
theorem dX10_oneAct_109 : decode cX10_oneAct 109 = .ok (.iload_n 3, 1) := by decide +kernel
theorem dX10_oneAct_110 : decode cX10_oneAct 110 = .ok (.bipush 95, 2) := by decide +kernel
theorem dX10_oneAct_112 : decode cX10_oneAct 112 = .ok (.if_icmp .ne 7, 3) := by decide +kernel
theorem dX10_oneAct_115 : decode cX10_oneAct 115 = .ok (.iconst 0, 1) := by decide +kernel
theorem dX10_oneAct_116 : decode cX10_oneAct 116 = .ok (.goto 9, 3) := by decide +kernel
theorem dX10_oneAct_119 : decode cX10_oneAct 119 = .ok (.iload_n 3, 1) := by decide +kernel
theorem dX10_oneAct_120 : decode cX10_oneAct 120 = .ok (.bipush 97, 2) := by decide +kernel
theorem dX10_oneAct_122 : decode cX10_oneAct 122 = .ok (.isub, 1) := by decide +kernel
theorem dX10_oneAct_123 : decode cX10_oneAct 123 = .ok (.iconst 1, 1) := by decide +kernel
theorem dX10_oneAct_124 : decode cX10_oneAct 124 = .ok (.iadd, 1) := by decide +kernel
theorem dX10_oneAct_125 : decode cX10_oneAct 125 = .ok (.invokevirtual 107, 3) := by decide +kernel
theorem dX10_oneAct_128 : decode cX10_oneAct 128 = .ok (.ireturn, 1) := by decide +kernel
theorem dX10_roof_0 : decode cX10_roof 0 = .ok (.iconst 0, 1) := by decide +kernel
theorem dX10_roof_1 : decode cX10_roof 1 = .ok (.istore_n 1, 1) := by decide +kernel
theorem dX10_roof_2 : decode cX10_roof 2 = .ok (.iconst 0, 1) := by decide +kernel
theorem dX10_roof_3 : decode cX10_roof 3 = .ok (.istore_n 2, 1) := by decide +kernel
theorem dX10_roof_4 : decode cX10_roof 4 = .ok (.iload_n 2, 1) := by decide +kernel
theorem dX10_roof_5 : decode cX10_roof 5 = .ok (.bipush 6, 2) := by decide +kernel
theorem dX10_roof_7 : decode cX10_roof 7 = .ok (.if_icmp .ge 33, 3) := by decide +kernel
theorem dX10_roof_10 : decode cX10_roof 10 = .ok (.iload_n 1, 1) := by decide +kernel
theorem dX10_roof_11 : decode cX10_roof 11 = .ok (.aload_n 0, 1) := by decide +kernel
theorem dX10_roof_12 : decode cX10_roof 12 = .ok (.getfield 13, 3) := by decide +kernel
theorem dX10_roof_15 : decode cX10_roof 15 = .ok (.bipush 38, 2) := by decide +kernel
theorem dX10_roof_17 : decode cX10_roof 17 = .ok (.iload_n 2, 1) := by decide +kernel
theorem dX10_roof_18 : decode cX10_roof 18 = .ok (.iadd, 1) := by decide +kernel
theorem dX10_roof_19 : decode cX10_roof 19 = .ok (.iaload, 1) := by decide +kernel
theorem dX10_roof_20 : decode cX10_roof 20 = .ok (.bipush 13, 2) := by decide +kernel
theorem dX10_roof_22 : decode cX10_roof 22 = .ok (.if_icmp .ne 9, 3) := by decide +kernel
theorem dX10_roof_25 : decode cX10_roof 25 = .ok (.iconst 1, 1) := by decide +kernel
theorem dX10_roof_26 : decode cX10_roof 26 = .ok (.iload_n 2, 1) := by decide +kernel
theorem dX10_roof_27 : decode cX10_roof 27 = .ok (.ishl, 1) := by decide +kernel
theorem dX10_roof_28 : decode cX10_roof 28 = .ok (.goto 4, 3) := by decide +kernel
theorem dX10_roof_31 : decode cX10_roof 31 = .ok (.iconst 0, 1) := by decide +kernel
theorem dX10_roof_32 : decode cX10_roof 32 = .ok (.ior, 1) := by decide +kernel
theorem dX10_roof_33 : decode cX10_roof 33 = .ok (.istore_n 1, 1) := by decide +kernel
theorem dX10_roof_34 : decode cX10_roof 34 = .ok (.iinc 2 1, 3) := by decide +kernel
theorem dX10_roof_37 : decode cX10_roof 37 = .ok (.goto (-33), 3) := by decide +kernel
theorem dX10_roof_40 : decode cX10_roof 40 = .ok (.iload_n 1, 1) := by decide +kernel
theorem dX10_roof_41 : decode cX10_roof 41 = .ok (.ireturn, 1) := by decide +kernel
theorem dX10_goFires_0 : decode cX10_goFires 0 = .ok (.aload_n 0, 1) := by decide +kernel
theorem dX10_goFires_1 : decode cX10_goFires 1 = .ok (.invokevirtual 110, 3) := by decide +kernel
theorem dX10_goFires_4 : decode cX10_goFires 4 = .ok (.aload_n 0, 1) := by decide +kernel
theorem dX10_goFires_5 : decode cX10_goFires 5 = .ok (.iconst 0, 1) := by decide +kernel
theorem dX10_goFires_6 : decode cX10_goFires 6 = .ok (.putfield 113, 3) := by decide +kernel
theorem dX10_goFires_9 : decode cX10_goFires 9 = .ok (.iconst 0, 1) := by decide +kernel
theorem dX10_goFires_10 : decode cX10_goFires 10 = .ok (.istore_n 1, 1) := by decide +kernel
theorem dX10_goFires_11 : decode cX10_goFires 11 = .ok (.iload_n 1, 1) := by decide +kernel
theorem dX10_goFires_12 : decode cX10_goFires 12 = .ok (.aload_n 0, 1) := by decide +kernel
theorem dX10_goFires_13 : decode cX10_goFires 13 = .ok (.getfield 79, 3) := by decide +kernel
theorem dX10_goFires_16 : decode cX10_goFires 16 = .ok (.if_icmp .ge 133, 3) := by decide +kernel
theorem dX10_goFires_19 : decode cX10_goFires 19 = .ok (.aload_n 0, 1) := by decide +kernel
theorem dX10_goFires_20 : decode cX10_goFires 20 = .ok (.invokevirtual 116, 3) := by decide +kernel
theorem dX10_goFires_23 : decode cX10_goFires 23 = .ok (.istore_n 2, 1) := by decide +kernel
theorem dX10_goFires_24 : decode cX10_goFires 24 = .ok (.aload_n 0, 1) := by decide +kernel
theorem dX10_goFires_25 : decode cX10_goFires 25 = .ok (.aload_n 0, 1) := by decide +kernel
theorem dX10_goFires_26 : decode cX10_goFires 26 = .ok (.iload_n 1, 1) := by decide +kernel
theorem dX10_goFires_27 : decode cX10_goFires 27 = .ok (.invokevirtual 119, 3) := by decide +kernel
theorem dX10_goFires_30 : decode cX10_goFires 30 = .ok (.putfield 122, 3) := by decide +kernel
theorem dX10_goFires_33 : decode cX10_goFires 33 = .ok (.iload_n 1, 1) := by decide +kernel
theorem dX10_goFires_34 : decode cX10_goFires 34 = .ok (.aload_n 0, 1) := by decide +kernel
theorem dX10_goFires_35 : decode cX10_goFires 35 = .ok (.getfield 19, 3) := by decide +kernel
theorem dX10_goFires_38 : decode cX10_goFires 38 = .ok (.iload_n 1, 1) := by decide +kernel
theorem dX10_goFires_39 : decode cX10_goFires 39 = .ok (.iaload, 1) := by decide +kernel
theorem dX10_goFires_40 : decode cX10_goFires 40 = .ok (.bipush 46, 2) := by decide +kernel
theorem dX10_goFires_42 : decode cX10_goFires 42 = .ok (.if_icmp .ne 7, 3) := by decide +kernel
theorem dX10_goFires_45 : decode cX10_goFires 45 = .ok (.iconst 1, 1) := by decide +kernel
theorem dX10_goFires_46 : decode cX10_goFires 46 = .ok (.goto 21, 3) := by decide +kernel
theorem dX10_goFires_49 : decode cX10_goFires 49 = .ok (.aload_n 0, 1) := by decide +kernel
theorem dX10_goFires_50 : decode cX10_goFires 50 = .ok (.getfield 19, 3) := by decide +kernel
theorem dX10_goFires_53 : decode cX10_goFires 53 = .ok (.iload_n 1, 1) := by decide +kernel
theorem dX10_goFires_54 : decode cX10_goFires 54 = .ok (.iconst 1, 1) := by decide +kernel
theorem dX10_goFires_55 : decode cX10_goFires 55 = .ok (.iadd, 1) := by decide +kernel
theorem dX10_goFires_56 : decode cX10_goFires 56 = .ok (.iaload, 1) := by decide +kernel
theorem dX10_goFires_57 : decode cX10_goFires 57 = .ok (.bipush 37, 2) := by decide +kernel
theorem dX10_goFires_59 : decode cX10_goFires 59 = .ok (.if_icmp .ne 7, 3) := by decide +kernel
theorem dX10_goFires_62 : decode cX10_goFires 62 = .ok (.iconst 3, 1) := by decide +kernel
theorem dX10_goFires_63 : decode cX10_goFires 63 = .ok (.goto 4, 3) := by decide +kernel
theorem dX10_goFires_66 : decode cX10_goFires 66 = .ok (.iconst 2, 1) := by decide +kernel
theorem dX10_goFires_67 : decode cX10_goFires 67 = .ok (.iadd, 1) := by decide +kernel
theorem dX10_goFires_68 : decode cX10_goFires 68 = .ok (.istore_n 1, 1) := by decide +kernel
theorem dX10_goFires_69 : decode cX10_goFires 69 = .ok (.aload_n 0, 1) := by decide +kernel
theorem dX10_goFires_70 : decode cX10_goFires 70 = .ok (.getfield 122, 3) := by decide +kernel
theorem dX10_goFires_73 : decode cX10_goFires 73 = .ok (.ifCond .le 8, 3) := by decide +kernel
theorem dX10_goFires_76 : decode cX10_goFires 76 = .ok (.aload_n 0, 1) := by decide +kernel
theorem dX10_goFires_77 : decode cX10_goFires 77 = .ok (.getfield 113, 3) := by decide +kernel
theorem dX10_goFires_80 : decode cX10_goFires 80 = .ok (.ireturn, 1) := by decide +kernel
theorem dX10_goFires_81 : decode cX10_goFires 81 = .ok (.aload_n 0, 1) := by decide +kernel
theorem dX10_goFires_82 : decode cX10_goFires 82 = .ok (.invokevirtual 116, 3) := by decide +kernel
theorem dX10_goFires_85 : decode cX10_goFires 85 = .ok (.iload_n 2, 1) := by decide +kernel
theorem dX10_goFires_86 : decode cX10_goFires 86 = .ok (.iconst (-1), 1) := by decide +kernel
theorem dX10_goFires_87 : decode cX10_goFires 87 = .ok (.ixor, 1) := by decide +kernel
theorem dX10_goFires_88 : decode cX10_goFires 88 = .ok (.iand, 1) := by decide +kernel
theorem dX10_goFires_89 : decode cX10_goFires 89 = .ok (.istore_n 3, 1) := by decide +kernel
theorem dX10_goFires_90 : decode cX10_goFires 90 = .ok (.iconst 0, 1) := by decide +kernel
theorem dX10_goFires_91 : decode cX10_goFires 91 = .ok (.istore 4, 2) := by decide +kernel
theorem dX10_goFires_93 : decode cX10_goFires 93 = .ok (.iload 4, 2) := by decide +kernel
theorem dX10_goFires_95 : decode cX10_goFires 95 = .ok (.bipush 6, 2) := by decide +kernel
theorem dX10_goFires_97 : decode cX10_goFires 97 = .ok (.if_icmp .ge 39, 3) := by decide +kernel
theorem dX10_goFires_100 : decode cX10_goFires 100 = .ok (.aload_n 0, 1) := by decide +kernel
theorem dX10_goFires_101 : decode cX10_goFires 101 = .ok (.getfield 59, 3) := by decide +kernel
theorem dX10_goFires_104 : decode cX10_goFires 104 = .ok (.ifCond .ge 32, 3) := by decide +kernel
theorem dX10_goFires_107 : decode cX10_goFires 107 = .ok (.iload_n 3, 1) := by decide +kernel
theorem dX10_goFires_108 : decode cX10_goFires 108 = .ok (.iload 4, 2) := by decide +kernel
theorem dX10_goFires_110 : decode cX10_goFires 110 = .ok (.invokestatic 65, 3) := by decide +kernel
theorem dX10_goFires_113 : decode cX10_goFires 113 = .ok (.ifCond .eq 17, 3) := by decide +kernel
theorem dX10_goFires_116 : decode cX10_goFires 116 = .ok (.aload_n 0, 1) := by decide +kernel
theorem dX10_goFires_117 : decode cX10_goFires 117 = .ok (.aload_n 0, 1) := by decide +kernel
theorem dX10_goFires_118 : decode cX10_goFires 118 = .ok (.getfield 113, 3) := by decide +kernel
theorem dX10_goFires_121 : decode cX10_goFires 121 = .ok (.putfield 59, 3) := by decide +kernel
theorem dX10_goFires_124 : decode cX10_goFires 124 = .ok (.aload_n 0, 1) := by decide +kernel
theorem dX10_goFires_125 : decode cX10_goFires 125 = .ok (.iload 4, 2) := by decide +kernel
theorem dX10_goFires_127 : decode cX10_goFires 127 = .ok (.putfield 62, 3) := by decide +kernel
theorem dX10_goFires_130 : decode cX10_goFires 130 = .ok (.iinc 4 1, 3) := by decide +kernel
theorem dX10_goFires_133 : decode cX10_goFires 133 = .ok (.goto (-40), 3) := by decide +kernel
theorem dX10_goFires_136 : decode cX10_goFires 136 = .ok (.aload_n 0, 1) := by decide +kernel
theorem dX10_goFires_137 : decode cX10_goFires 137 = .ok (.dup, 1) := by decide +kernel
theorem dX10_goFires_138 : decode cX10_goFires 138 = .ok (.getfield 113, 3) := by decide +kernel
theorem dX10_goFires_141 : decode cX10_goFires 141 = .ok (.iconst 1, 1) := by decide +kernel
theorem dX10_goFires_142 : decode cX10_goFires 142 = .ok (.iadd, 1) := by decide +kernel
theorem dX10_goFires_143 : decode cX10_goFires 143 = .ok (.putfield 113, 3) := by decide +kernel
theorem dX10_goFires_146 : decode cX10_goFires 146 = .ok (.goto (-135), 3) := by decide +kernel
theorem dX10_goFires_149 : decode cX10_goFires 149 = .ok (.bipush (-6), 2) := by decide +kernel
theorem dX10_goFires_151 : decode cX10_goFires 151 = .ok (.ireturn, 1) := by decide +kernel
theorem dX10_judge_0 : decode cX10_judge 0 = .ok (.iload_n 1, 1) := by decide +kernel
theorem dX10_judge_1 : decode cX10_judge 1 = .ok (.iconst 0, 1) := by decide +kernel
theorem dX10_judge_2 : decode cX10_judge 2 = .ok (.iconst 1, 1) := by decide +kernel
theorem dX10_judge_3 : decode cX10_judge 3 = .ok (.invokestatic 48, 3) := by decide +kernel
theorem dX10_judge_6 : decode cX10_judge 6 = .ok (.ifCond .ne 6, 3) := by decide +kernel
theorem dX10_judge_9 : decode cX10_judge 9 = .ok (.bipush (-2), 2) := by decide +kernel
theorem dX10_judge_11 : decode cX10_judge 11 = .ok (.ireturn, 1) := by decide +kernel
theorem dX10_judge_12 : decode cX10_judge 12 = .ok (.aload_n 0, 1) := by decide +kernel
theorem dX10_judge_13 : decode cX10_judge 13 = .ok (.invokevirtual 86, 3) := by decide +kernel
theorem dX10_judge_16 : decode cX10_judge 16 = .ok (.ifCond .lt 6, 3) := by decide +kernel
theorem dX10_judge_19 : decode cX10_judge 19 = .ok (.bipush (-5), 2) := by decide +kernel
theorem dX10_judge_21 : decode cX10_judge 21 = .ok (.ireturn, 1) := by decide +kernel
theorem dX10_judge_22 : decode cX10_judge 22 = .ok (.aload_n 0, 1) := by decide +kernel
theorem dX10_judge_23 : decode cX10_judge 23 = .ok (.invokevirtual 125, 3) := by decide +kernel
theorem dX10_judge_26 : decode cX10_judge 26 = .ok (.istore_n 2, 1) := by decide +kernel
theorem dX10_judge_27 : decode cX10_judge 27 = .ok (.iload_n 2, 1) := by decide +kernel
theorem dX10_judge_28 : decode cX10_judge 28 = .ok (.ifCond .lt 7, 3) := by decide +kernel
theorem dX10_judge_31 : decode cX10_judge 31 = .ok (.iload_n 1, 1) := by decide +kernel
theorem dX10_judge_32 : decode cX10_judge 32 = .ok (.ifCond .ne 7, 3) := by decide +kernel
theorem dX10_judge_35 : decode cX10_judge 35 = .ok (.iload_n 2, 1) := by decide +kernel
theorem dX10_judge_36 : decode cX10_judge 36 = .ok (.goto 7, 3) := by decide +kernel
theorem dX10_judge_39 : decode cX10_judge 39 = .ok (.aload_n 0, 1) := by decide +kernel
theorem dX10_judge_40 : decode cX10_judge 40 = .ok (.getfield 122, 3) := by decide +kernel
theorem dX10_judge_43 : decode cX10_judge 43 = .ok (.ireturn, 1) := by decide +kernel
theorem dX10_barOfFires_0 : decode cX10_barOfFires 0 = .ok (.aload_n 0, 1) := by decide +kernel
theorem dX10_barOfFires_1 : decode cX10_barOfFires 1 = .ok (.invokevirtual 86, 3) := by decide +kernel
theorem dX10_barOfFires_4 : decode cX10_barOfFires 4 = .ok (.ifCond .ge 10, 3) := by decide +kernel
theorem dX10_barOfFires_7 : decode cX10_barOfFires 7 = .ok (.aload_n 0, 1) := by decide +kernel
theorem dX10_barOfFires_8 : decode cX10_barOfFires 8 = .ok (.invokevirtual 125, 3) := by decide +kernel
theorem dX10_barOfFires_11 : decode cX10_barOfFires 11 = .ok (.ifCond .lt 8, 3) := by decide +kernel
theorem dX10_barOfFires_14 : decode cX10_barOfFires 14 = .ok (.bipush (-5), 2) := by decide +kernel
theorem dX10_barOfFires_16 : decode cX10_barOfFires 16 = .ok (.goto 4, 3) := by decide +kernel
theorem dX10_barOfFires_19 : decode cX10_barOfFires 19 = .ok (.iconst 0, 1) := by decide +kernel
theorem dX10_barOfFires_20 : decode cX10_barOfFires 20 = .ok (.ireturn, 1) := by decide +kernel
theorem dX10_done_0 : decode cX10_done 0 = .ok (.aload_n 0, 1) := by decide +kernel
theorem dX10_done_1 : decode cX10_done 1 = .ok (.invokevirtual 128, 3) := by decide +kernel
theorem dX10_done_4 : decode cX10_done 4 = .ok (.ifCond .ge 6, 3) := by decide +kernel
theorem dX10_done_7 : decode cX10_done 7 = .ok (.bipush (-5), 2) := by decide +kernel
theorem dX10_done_9 : decode cX10_done 9 = .ok (.ireturn, 1) := by decide +kernel
theorem dX10_done_10 : decode cX10_done 10 = .ok (.iconst 0, 1) := by decide +kernel
theorem dX10_done_11 : decode cX10_done 11 = .ok (.istore_n 1, 1) := by decide +kernel
theorem dX10_done_12 : decode cX10_done 12 = .ok (.iload_n 1, 1) := by decide +kernel
theorem dX10_done_13 : decode cX10_done 13 = .ok (.bipush 47, 2) := by decide +kernel
theorem dX10_done_15 : decode cX10_done 15 = .ok (.if_icmp .ge 21, 3) := by decide +kernel
theorem dX10_done_18 : decode cX10_done 18 = .ok (.aload_n 0, 1) := by decide +kernel
theorem dX10_done_19 : decode cX10_done 19 = .ok (.getfield 7, 3) := by decide +kernel
theorem dX10_done_22 : decode cX10_done 22 = .ok (.iload_n 1, 1) := by decide +kernel
theorem dX10_done_23 : decode cX10_done 23 = .ok (.aload_n 0, 1) := by decide +kernel
theorem dX10_done_24 : decode cX10_done 24 = .ok (.getfield 13, 3) := by decide +kernel
theorem dX10_done_27 : decode cX10_done 27 = .ok (.iload_n 1, 1) := by decide +kernel
theorem dX10_done_28 : decode cX10_done 28 = .ok (.iaload, 1) := by decide +kernel
theorem dX10_done_29 : decode cX10_done 29 = .ok (.iastore, 1) := by decide +kernel
theorem dX10_done_30 : decode cX10_done 30 = .ok (.iinc 1 1, 3) := by decide +kernel
theorem dX10_done_33 : decode cX10_done 33 = .ok (.goto (-21), 3) := by decide +kernel
theorem dX10_done_36 : decode cX10_done 36 = .ok (.aload_n 0, 1) := by decide +kernel
theorem dX10_done_37 : decode cX10_done 37 = .ok (.iconst 0, 1) := by decide +kernel
theorem dX10_done_38 : decode cX10_done 38 = .ok (.putfield 79, 3) := by decide +kernel
theorem dX10_done_41 : decode cX10_done 41 = .ok (.aload_n 0, 1) := by decide +kernel
theorem dX10_done_42 : decode cX10_done 42 = .ok (.getfield 113, 3) := by decide +kernel
theorem dX10_done_45 : decode cX10_done 45 = .ok (.ireturn, 1) := by decide +kernel
theorem dX10_mayOnes_0 : decode cX10_mayOnes 0 = .ok (.iconst 0, 1) := by decide +kernel
theorem dX10_mayOnes_1 : decode cX10_mayOnes 1 = .ok (.istore_n 2, 1) := by decide +kernel
theorem dX10_mayOnes_2 : decode cX10_mayOnes 2 = .ok (.iconst 1, 1) := by decide +kernel
theorem dX10_mayOnes_3 : decode cX10_mayOnes 3 = .ok (.istore_n 3, 1) := by decide +kernel
theorem dX10_mayOnes_4 : decode cX10_mayOnes 4 = .ok (.iload_n 3, 1) := by decide +kernel
theorem dX10_mayOnes_5 : decode cX10_mayOnes 5 = .ok (.bipush 13, 2) := by decide +kernel
theorem dX10_mayOnes_7 : decode cX10_mayOnes 7 = .ok (.if_icmp .ge 30, 3) := by decide +kernel
theorem dX10_mayOnes_10 : decode cX10_mayOnes 10 = .ok (.iload_n 2, 1) := by decide +kernel
theorem dX10_mayOnes_11 : decode cX10_mayOnes 11 = .ok (.aload_n 0, 1) := by decide +kernel
theorem dX10_mayOnes_12 : decode cX10_mayOnes 12 = .ok (.iload_n 1, 1) := by decide +kernel
theorem dX10_mayOnes_13 : decode cX10_mayOnes 13 = .ok (.iload_n 3, 1) := by decide +kernel
theorem dX10_mayOnes_14 : decode cX10_mayOnes 14 = .ok (.invokevirtual 90, 3) := by decide +kernel
theorem dX10_mayOnes_17 : decode cX10_mayOnes 17 = .ok (.ifCond .eq 11, 3) := by decide +kernel
theorem dX10_mayOnes_20 : decode cX10_mayOnes 20 = .ok (.iconst 1, 1) := by decide +kernel
theorem dX10_mayOnes_21 : decode cX10_mayOnes 21 = .ok (.iload_n 3, 1) := by decide +kernel
theorem dX10_mayOnes_22 : decode cX10_mayOnes 22 = .ok (.iconst 1, 1) := by decide +kernel
theorem dX10_mayOnes_23 : decode cX10_mayOnes 23 = .ok (.isub, 1) := by decide +kernel
theorem dX10_mayOnes_24 : decode cX10_mayOnes 24 = .ok (.ishl, 1) := by decide +kernel
theorem dX10_mayOnes_25 : decode cX10_mayOnes 25 = .ok (.goto 4, 3) := by decide +kernel
theorem dX10_mayOnes_28 : decode cX10_mayOnes 28 = .ok (.iconst 0, 1) := by decide +kernel
theorem dX10_mayOnes_29 : decode cX10_mayOnes 29 = .ok (.ior, 1) := by decide +kernel
theorem dX10_mayOnes_30 : decode cX10_mayOnes 30 = .ok (.istore_n 2, 1) := by decide +kernel
theorem dX10_mayOnes_31 : decode cX10_mayOnes 31 = .ok (.iinc 3 1, 3) := by decide +kernel
theorem dX10_mayOnes_34 : decode cX10_mayOnes 34 = .ok (.goto (-30), 3) := by decide +kernel
theorem dX10_mayOnes_37 : decode cX10_mayOnes 37 = .ok (.iload_n 2, 1) := by decide +kernel
theorem dX10_mayOnes_38 : decode cX10_mayOnes 38 = .ok (.ireturn, 1) := by decide +kernel
theorem dX10_behind_0 : decode cX10_behind 0 = .ok (.iload_n 1, 1) := by decide +kernel
theorem dX10_behind_1 : decode cX10_behind 1 = .ok (.invokestatic 76, 3) := by decide +kernel
theorem dX10_behind_4 : decode cX10_behind 4 = .ok (.ifCond .ne 5, 3) := by decide +kernel
theorem dX10_behind_7 : decode cX10_behind 7 = .ok (.iconst (-1), 1) := by decide +kernel
theorem dX10_behind_8 : decode cX10_behind 8 = .ok (.ireturn, 1) := by decide +kernel
theorem dX10_behind_9 : decode cX10_behind 9 = .ok (.iload_n 2, 1) := by decide +kernel
theorem dX10_behind_10 : decode cX10_behind 10 = .ok (.iconst 0, 1) := by decide +kernel
theorem dX10_behind_11 : decode cX10_behind 11 = .ok (.iconst 3, 1) := by decide +kernel
theorem dX10_behind_12 : decode cX10_behind 12 = .ok (.invokestatic 48, 3) := by decide +kernel
theorem dX10_behind_15 : decode cX10_behind 15 = .ok (.ifCond .ne 6, 3) := by decide +kernel
theorem dX10_behind_18 : decode cX10_behind 18 = .ok (.bipush (-2), 2) := by decide +kernel
theorem dX10_behind_20 : decode cX10_behind 20 = .ok (.ireturn, 1) := by decide +kernel
theorem dX10_behind_21 : decode cX10_behind 21 = .ok (.aload_n 0, 1) := by decide +kernel
theorem dX10_behind_22 : decode cX10_behind 22 = .ok (.invokevirtual 128, 3) := by decide +kernel
theorem dX10_behind_25 : decode cX10_behind 25 = .ok (.ifCond .ge 6, 3) := by decide +kernel
theorem dX10_behind_28 : decode cX10_behind 28 = .ok (.bipush (-5), 2) := by decide +kernel
theorem dX10_behind_30 : decode cX10_behind 30 = .ok (.ireturn, 1) := by decide +kernel
theorem dX10_behind_31 : decode cX10_behind 31 = .ok (.iload_n 2, 1) := by decide +kernel
theorem dX10_behind_32 : decode cX10_behind 32 = .ok (.ifCond .ne 15, 3) := by decide +kernel
theorem dX10_behind_35 : decode cX10_behind 35 = .ok (.aload_n 0, 1) := by decide +kernel
theorem dX10_behind_36 : decode cX10_behind 36 = .ok (.getfield 13, 3) := by decide +kernel
theorem dX10_behind_39 : decode cX10_behind 39 = .ok (.bipush 38, 2) := by decide +kernel
theorem dX10_behind_41 : decode cX10_behind 41 = .ok (.iload_n 1, 1) := by decide +kernel
theorem dX10_behind_42 : decode cX10_behind 42 = .ok (.iadd, 1) := by decide +kernel
theorem dX10_behind_43 : decode cX10_behind 43 = .ok (.iaload, 1) := by decide +kernel
theorem dX10_behind_44 : decode cX10_behind 44 = .ok (.goto 44, 3) := by decide +kernel
theorem dX10_behind_47 : decode cX10_behind 47 = .ok (.iload_n 2, 1) := by decide +kernel
theorem dX10_behind_48 : decode cX10_behind 48 = .ok (.iconst 1, 1) := by decide +kernel
theorem dX10_behind_49 : decode cX10_behind 49 = .ok (.if_icmp .ne 15, 3) := by decide +kernel
theorem dX10_behind_52 : decode cX10_behind 52 = .ok (.aload_n 0, 1) := by decide +kernel
theorem dX10_behind_53 : decode cX10_behind 53 = .ok (.getfield 13, 3) := by decide +kernel
theorem dX10_behind_56 : decode cX10_behind 56 = .ok (.bipush 32, 2) := by decide +kernel
theorem dX10_behind_58 : decode cX10_behind 58 = .ok (.iload_n 1, 1) := by decide +kernel
theorem dX10_behind_59 : decode cX10_behind 59 = .ok (.iadd, 1) := by decide +kernel
theorem dX10_behind_60 : decode cX10_behind 60 = .ok (.iaload, 1) := by decide +kernel
theorem dX10_behind_61 : decode cX10_behind 61 = .ok (.goto 27, 3) := by decide +kernel
theorem dX10_behind_64 : decode cX10_behind 64 = .ok (.iload_n 2, 1) := by decide +kernel
theorem dX10_behind_65 : decode cX10_behind 65 = .ok (.iconst 2, 1) := by decide +kernel
theorem dX10_behind_66 : decode cX10_behind 66 = .ok (.if_icmp .ne 11, 3) := by decide +kernel
theorem dX10_behind_69 : decode cX10_behind 69 = .ok (.aload_n 0, 1) := by decide +kernel
theorem dX10_behind_70 : decode cX10_behind 70 = .ok (.iload_n 1, 1) := by decide +kernel
theorem dX10_behind_71 : decode cX10_behind 71 = .ok (.invokevirtual 131, 3) := by decide +kernel
theorem dX10_behind_74 : decode cX10_behind 74 = .ok (.goto 14, 3) := by decide +kernel
theorem dX10_behind_77 : decode cX10_behind 77 = .ok (.aload_n 0, 1) := by decide +kernel
theorem dX10_behind_78 : decode cX10_behind 78 = .ok (.getfield 13, 3) := by decide +kernel
theorem dX10_behind_81 : decode cX10_behind 81 = .ok (.bipush 44, 2) := by decide +kernel
theorem dX10_behind_83 : decode cX10_behind 83 = .ok (.iaload, 1) := by decide +kernel
theorem dX10_behind_84 : decode cX10_behind 84 = .ok (.iload_n 1, 1) := by decide +kernel
theorem dX10_behind_85 : decode cX10_behind 85 = .ok (.ishr, 1) := by decide +kernel
theorem dX10_behind_86 : decode cX10_behind 86 = .ok (.iconst 1, 1) := by decide +kernel
theorem dX10_behind_87 : decode cX10_behind 87 = .ok (.iand, 1) := by decide +kernel
theorem dX10_behind_88 : decode cX10_behind 88 = .ok (.ireturn, 1) := by decide +kernel
theorem dX10_bears_0 : decode cX10_bears 0 = .ok (.iload_n 1, 1) := by decide +kernel
theorem dX10_bears_1 : decode cX10_bears 1 = .ok (.invokestatic 73, 3) := by decide +kernel
theorem dX10_bears_4 : decode cX10_bears 4 = .ok (.ifCond .ne 5, 3) := by decide +kernel
theorem dX10_bears_7 : decode cX10_bears 7 = .ok (.iconst (-1), 1) := by decide +kernel
theorem dX10_bears_8 : decode cX10_bears 8 = .ok (.ireturn, 1) := by decide +kernel
theorem dX10_bears_9 : decode cX10_bears 9 = .ok (.iload_n 2, 1) := by decide +kernel
theorem dX10_bears_10 : decode cX10_bears 10 = .ok (.iconst 0, 1) := by decide +kernel
theorem dX10_bears_11 : decode cX10_bears 11 = .ok (.iconst 3, 1) := by decide +kernel
theorem dX10_bears_12 : decode cX10_bears 12 = .ok (.invokestatic 48, 3) := by decide +kernel
theorem dX10_bears_15 : decode cX10_bears 15 = .ok (.ifCond .ne 6, 3) := by decide +kernel
theorem dX10_bears_18 : decode cX10_bears 18 = .ok (.bipush (-2), 2) := by decide +kernel
theorem dX10_bears_20 : decode cX10_bears 20 = .ok (.ireturn, 1) := by decide +kernel
theorem dX10_bears_21 : decode cX10_bears 21 = .ok (.aload_n 0, 1) := by decide +kernel
theorem dX10_bears_22 : decode cX10_bears 22 = .ok (.invokevirtual 128, 3) := by decide +kernel
theorem dX10_bears_25 : decode cX10_bears 25 = .ok (.ifCond .ge 6, 3) := by decide +kernel
theorem dX10_bears_28 : decode cX10_bears 28 = .ok (.bipush (-5), 2) := by decide +kernel
theorem dX10_bears_30 : decode cX10_bears 30 = .ok (.ireturn, 1) := by decide +kernel
theorem dX10_bears_31 : decode cX10_bears 31 = .ok (.iload_n 2, 1) := by decide +kernel
theorem dX10_bears_32 : decode cX10_bears 32 = .ok (.ifCond .ne 12, 3) := by decide +kernel
theorem dX10_bears_35 : decode cX10_bears 35 = .ok (.aload_n 0, 1) := by decide +kernel
theorem dX10_bears_36 : decode cX10_bears 36 = .ok (.getfield 13, 3) := by decide +kernel
theorem dX10_bears_39 : decode cX10_bears 39 = .ok (.iload_n 1, 1) := by decide +kernel
theorem dX10_bears_40 : decode cX10_bears 40 = .ok (.iaload, 1) := by decide +kernel
theorem dX10_bears_41 : decode cX10_bears 41 = .ok (.goto 44, 3) := by decide +kernel
theorem dX10_bears_44 : decode cX10_bears 44 = .ok (.iload_n 2, 1) := by decide +kernel
theorem dX10_bears_45 : decode cX10_bears 45 = .ok (.iconst 1, 1) := by decide +kernel
theorem dX10_bears_46 : decode cX10_bears 46 = .ok (.if_icmp .ne 15, 3) := by decide +kernel
theorem dX10_bears_49 : decode cX10_bears 49 = .ok (.aload_n 0, 1) := by decide +kernel
theorem dX10_bears_50 : decode cX10_bears 50 = .ok (.getfield 13, 3) := by decide +kernel
theorem dX10_bears_53 : decode cX10_bears 53 = .ok (.bipush 13, 2) := by decide +kernel
theorem dX10_bears_55 : decode cX10_bears 55 = .ok (.iload_n 1, 1) := by decide +kernel
theorem dX10_bears_56 : decode cX10_bears 56 = .ok (.iadd, 1) := by decide +kernel
theorem dX10_bears_57 : decode cX10_bears 57 = .ok (.iaload, 1) := by decide +kernel
theorem dX10_bears_58 : decode cX10_bears 58 = .ok (.goto 27, 3) := by decide +kernel
theorem dX10_bears_61 : decode cX10_bears 61 = .ok (.iload_n 2, 1) := by decide +kernel
theorem dX10_bears_62 : decode cX10_bears 62 = .ok (.iconst 2, 1) := by decide +kernel
theorem dX10_bears_63 : decode cX10_bears 63 = .ok (.if_icmp .ne 11, 3) := by decide +kernel
theorem dX10_bears_66 : decode cX10_bears 66 = .ok (.aload_n 0, 1) := by decide +kernel
theorem dX10_bears_67 : decode cX10_bears 67 = .ok (.iload_n 1, 1) := by decide +kernel
theorem dX10_bears_68 : decode cX10_bears 68 = .ok (.invokevirtual 93, 3) := by decide +kernel
theorem dX10_bears_71 : decode cX10_bears 71 = .ok (.goto 14, 3) := by decide +kernel
theorem dX10_bears_74 : decode cX10_bears 74 = .ok (.aload_n 0, 1) := by decide +kernel
theorem dX10_bears_75 : decode cX10_bears 75 = .ok (.getfield 13, 3) := by decide +kernel
theorem dX10_bears_78 : decode cX10_bears 78 = .ok (.bipush 45, 2) := by decide +kernel
theorem dX10_bears_80 : decode cX10_bears 80 = .ok (.iaload, 1) := by decide +kernel
theorem dX10_bears_81 : decode cX10_bears 81 = .ok (.iload_n 1, 1) := by decide +kernel
theorem dX10_bears_82 : decode cX10_bears 82 = .ok (.ishr, 1) := by decide +kernel
theorem dX10_bears_83 : decode cX10_bears 83 = .ok (.iconst 1, 1) := by decide +kernel
theorem dX10_bears_84 : decode cX10_bears 84 = .ok (.iand, 1) := by decide +kernel
theorem dX10_bears_85 : decode cX10_bears 85 = .ok (.ireturn, 1) := by decide +kernel
theorem dX10_then_0 : decode cX10_then 0 = .ok (.iload_n 1, 1) := by decide +kernel
theorem dX10_then_1 : decode cX10_then 1 = .ok (.iconst 0, 1) := by decide +kernel
theorem dX10_then_2 : decode cX10_then 2 = .ok (.iconst 5, 1) := by decide +kernel
theorem dX10_then_3 : decode cX10_then 3 = .ok (.invokestatic 48, 3) := by decide +kernel
theorem dX10_then_6 : decode cX10_then 6 = .ok (.ifCond .ne 6, 3) := by decide +kernel
theorem dX10_then_9 : decode cX10_then 9 = .ok (.bipush (-2), 2) := by decide +kernel
theorem dX10_then_11 : decode cX10_then 11 = .ok (.ireturn, 1) := by decide +kernel
theorem dX10_then_12 : decode cX10_then 12 = .ok (.aload_n 0, 1) := by decide +kernel
theorem dX10_then_13 : decode cX10_then 13 = .ok (.invokevirtual 128, 3) := by decide +kernel
theorem dX10_then_16 : decode cX10_then 16 = .ok (.ifCond .ge 6, 3) := by decide +kernel
theorem dX10_then_19 : decode cX10_then 19 = .ok (.bipush (-5), 2) := by decide +kernel
theorem dX10_then_21 : decode cX10_then 21 = .ok (.ireturn, 1) := by decide +kernel
theorem dX10_then_22 : decode cX10_then 22 = .ok (.iload_n 1, 1) := by decide +kernel
theorem dX10_then_23 : decode cX10_then 23 = .ok (.tableswitch 52 0 3 #[29, 37, 42, 47], 29) := by decide +kernel
theorem dX10_then_52 : decode cX10_then 52 = .ok (.aload_n 0, 1) := by decide +kernel
theorem dX10_then_53 : decode cX10_then 53 = .ok (.getfield 13, 3) := by decide +kernel
theorem dX10_then_56 : decode cX10_then 56 = .ok (.bipush 46, 2) := by decide +kernel
theorem dX10_then_58 : decode cX10_then 58 = .ok (.iaload, 1) := by decide +kernel
theorem dX10_then_59 : decode cX10_then 59 = .ok (.ireturn, 1) := by decide +kernel
theorem dX10_then_60 : decode cX10_then 60 = .ok (.aload_n 0, 1) := by decide +kernel
theorem dX10_then_61 : decode cX10_then 61 = .ok (.invokevirtual 116, 3) := by decide +kernel
theorem dX10_then_64 : decode cX10_then 64 = .ok (.ireturn, 1) := by decide +kernel
theorem dX10_then_65 : decode cX10_then 65 = .ok (.aload_n 0, 1) := by decide +kernel
theorem dX10_then_66 : decode cX10_then 66 = .ok (.getfield 52, 3) := by decide +kernel
theorem dX10_then_69 : decode cX10_then 69 = .ok (.ireturn, 1) := by decide +kernel
theorem dX10_then_70 : decode cX10_then 70 = .ok (.aload_n 0, 1) := by decide +kernel
theorem dX10_then_71 : decode cX10_then 71 = .ok (.getfield 56, 3) := by decide +kernel
theorem dX10_then_74 : decode cX10_then 74 = .ok (.ireturn, 1) := by decide +kernel
theorem dX10_then_75 : decode cX10_then 75 = .ok (.iload_n 1, 1) := by decide +kernel
theorem dX10_then_76 : decode cX10_then 76 = .ok (.iconst 4, 1) := by decide +kernel
theorem dX10_then_77 : decode cX10_then 77 = .ok (.if_icmp .ne 10, 3) := by decide +kernel
theorem dX10_then_80 : decode cX10_then 80 = .ok (.aload_n 0, 1) := by decide +kernel
theorem dX10_then_81 : decode cX10_then 81 = .ok (.getfield 59, 3) := by decide +kernel
theorem dX10_then_84 : decode cX10_then 84 = .ok (.goto 7, 3) := by decide +kernel
theorem dX10_then_87 : decode cX10_then 87 = .ok (.aload_n 0, 1) := by decide +kernel
theorem dX10_then_88 : decode cX10_then 88 = .ok (.getfield 62, 3) := by decide +kernel
theorem dX10_then_91 : decode cX10_then 91 = .ok (.ireturn, 1) := by decide +kernel
theorem dX10_layClimb_0 : decode cX10_layClimb 0 = .ok (.bipush 13, 2) := by decide +kernel
theorem dX10_layClimb_2 : decode cX10_layClimb 2 = .ok (.istore_n 3, 1) := by decide +kernel
theorem dX10_layClimb_3 : decode cX10_layClimb 3 = .ok (.iload_n 3, 1) := by decide +kernel
theorem dX10_layClimb_4 : decode cX10_layClimb 4 = .ok (.ifCond .lt 164, 3) := by decide +kernel
theorem dX10_layClimb_7 : decode cX10_layClimb 7 = .ok (.aload_n 0, 1) := by decide +kernel
theorem dX10_layClimb_8 : decode cX10_layClimb 8 = .ok (.getfield 22, 3) := by decide +kernel
theorem dX10_layClimb_11 : decode cX10_layClimb 11 = .ok (.iload_n 3, 1) := by decide +kernel
theorem dX10_layClimb_12 : decode cX10_layClimb 12 = .ok (.iload_n 3, 1) := by decide +kernel
theorem dX10_layClimb_13 : decode cX10_layClimb 13 = .ok (.bipush 13, 2) := by decide +kernel
theorem dX10_layClimb_15 : decode cX10_layClimb 15 = .ok (.if_icmp .ne 7, 3) := by decide +kernel
theorem dX10_layClimb_18 : decode cX10_layClimb 18 = .ok (.iconst 0, 1) := by decide +kernel
theorem dX10_layClimb_19 : decode cX10_layClimb 19 = .ok (.goto 5, 3) := by decide +kernel
theorem dX10_layClimb_22 : decode cX10_layClimb 22 = .ok (.ldc 134, 2) := by decide +kernel
theorem dX10_layClimb_24 : decode cX10_layClimb 24 = .ok (.iastore, 1) := by decide +kernel
theorem dX10_layClimb_25 : decode cX10_layClimb 25 = .ok (.aload_n 0, 1) := by decide +kernel
theorem dX10_layClimb_26 : decode cX10_layClimb 26 = .ok (.getfield 25, 3) := by decide +kernel
theorem dX10_layClimb_29 : decode cX10_layClimb 29 = .ok (.iload_n 3, 1) := by decide +kernel
theorem dX10_layClimb_30 : decode cX10_layClimb 30 = .ok (.iload_n 3, 1) := by decide +kernel
theorem dX10_layClimb_31 : decode cX10_layClimb 31 = .ok (.bipush 13, 2) := by decide +kernel
theorem dX10_layClimb_33 : decode cX10_layClimb 33 = .ok (.if_icmp .ne 7, 3) := by decide +kernel
theorem dX10_layClimb_36 : decode cX10_layClimb 36 = .ok (.iconst 1, 1) := by decide +kernel
theorem dX10_layClimb_37 : decode cX10_layClimb 37 = .ok (.goto 4, 3) := by decide +kernel
theorem dX10_layClimb_40 : decode cX10_layClimb 40 = .ok (.iconst 0, 1) := by decide +kernel
theorem dX10_layClimb_41 : decode cX10_layClimb 41 = .ok (.iastore, 1) := by decide +kernel
theorem dX10_layClimb_42 : decode cX10_layClimb 42 = .ok (.iload_n 3, 1) := by decide +kernel
theorem dX10_layClimb_43 : decode cX10_layClimb 43 = .ok (.iconst 1, 1) := by decide +kernel
theorem dX10_layClimb_44 : decode cX10_layClimb 44 = .ok (.iadd, 1) := by decide +kernel
theorem dX10_layClimb_45 : decode cX10_layClimb 45 = .ok (.istore 4, 2) := by decide +kernel
theorem dX10_layClimb_47 : decode cX10_layClimb 47 = .ok (.iload 4, 2) := by decide +kernel
theorem dX10_layClimb_49 : decode cX10_layClimb 49 = .ok (.iload_n 3, 1) := by decide +kernel
theorem dX10_layClimb_50 : decode cX10_layClimb 50 = .ok (.aload_n 0, 1) := by decide +kernel
theorem dX10_layClimb_51 : decode cX10_layClimb 51 = .ok (.getfield 13, 3) := by decide +kernel
theorem dX10_layClimb_54 : decode cX10_layClimb 54 = .ok (.bipush 26, 2) := by decide +kernel
theorem dX10_layClimb_56 : decode cX10_layClimb 56 = .ok (.iload_n 1, 1) := by decide +kernel
theorem dX10_layClimb_57 : decode cX10_layClimb 57 = .ok (.iadd, 1) := by decide +kernel
theorem dX10_layClimb_58 : decode cX10_layClimb 58 = .ok (.iaload, 1) := by decide +kernel
theorem dX10_layClimb_59 : decode cX10_layClimb 59 = .ok (.iadd, 1) := by decide +kernel
theorem dX10_layClimb_60 : decode cX10_layClimb 60 = .ok (.if_icmp .gt 102, 3) := by decide +kernel
theorem dX10_layClimb_63 : decode cX10_layClimb 63 = .ok (.iload 4, 2) := by decide +kernel
theorem dX10_layClimb_65 : decode cX10_layClimb 65 = .ok (.bipush 13, 2) := by decide +kernel
theorem dX10_layClimb_67 : decode cX10_layClimb 67 = .ok (.if_icmp .gt 95, 3) := by decide +kernel
theorem dX10_layClimb_70 : decode cX10_layClimb 70 = .ok (.iload 4, 2) := by decide +kernel
theorem dX10_layClimb_72 : decode cX10_layClimb 72 = .ok (.bipush 13, 2) := by decide +kernel
theorem dX10_layClimb_74 : decode cX10_layClimb 74 = .ok (.if_icmp .eq 24, 3) := by decide +kernel
theorem dX10_layClimb_77 : decode cX10_layClimb 77 = .ok (.aload_n 0, 1) := by decide +kernel
theorem dX10_layClimb_78 : decode cX10_layClimb 78 = .ok (.iload_n 1, 1) := by decide +kernel
theorem dX10_layClimb_79 : decode cX10_layClimb 79 = .ok (.iload 4, 2) := by decide +kernel
theorem dX10_layClimb_81 : decode cX10_layClimb 81 = .ok (.invokevirtual 90, 3) := by decide +kernel
theorem dX10_layClimb_84 : decode cX10_layClimb 84 = .ok (.ifCond .ne 14, 3) := by decide +kernel
theorem dX10_layClimb_87 : decode cX10_layClimb 87 = .ok (.iload_n 2, 1) := by decide +kernel
theorem dX10_layClimb_88 : decode cX10_layClimb 88 = .ok (.iload 4, 2) := by decide +kernel
theorem dX10_layClimb_90 : decode cX10_layClimb 90 = .ok (.iconst 1, 1) := by decide +kernel
theorem dX10_layClimb_91 : decode cX10_layClimb 91 = .ok (.isub, 1) := by decide +kernel
theorem dX10_layClimb_92 : decode cX10_layClimb 92 = .ok (.invokestatic 65, 3) := by decide +kernel
theorem dX10_layClimb_95 : decode cX10_layClimb 95 = .ok (.ifCond .eq 61, 3) := by decide +kernel
theorem dX10_layClimb_98 : decode cX10_layClimb 98 = .ok (.aload_n 0, 1) := by decide +kernel
theorem dX10_layClimb_99 : decode cX10_layClimb 99 = .ok (.getfield 22, 3) := by decide +kernel
theorem dX10_layClimb_102 : decode cX10_layClimb 102 = .ok (.iload_n 3, 1) := by decide +kernel
theorem dX10_layClimb_103 : decode cX10_layClimb 103 = .ok (.aload_n 0, 1) := by decide +kernel
theorem dX10_layClimb_104 : decode cX10_layClimb 104 = .ok (.getfield 22, 3) := by decide +kernel
theorem dX10_layClimb_107 : decode cX10_layClimb 107 = .ok (.iload 4, 2) := by decide +kernel
theorem dX10_layClimb_109 : decode cX10_layClimb 109 = .ok (.iaload, 1) := by decide +kernel
theorem dX10_layClimb_110 : decode cX10_layClimb 110 = .ok (.iconst 1, 1) := by decide +kernel
theorem dX10_layClimb_111 : decode cX10_layClimb 111 = .ok (.iadd, 1) := by decide +kernel
theorem dX10_layClimb_112 : decode cX10_layClimb 112 = .ok (.aload_n 0, 1) := by decide +kernel
theorem dX10_layClimb_113 : decode cX10_layClimb 113 = .ok (.getfield 22, 3) := by decide +kernel
theorem dX10_layClimb_116 : decode cX10_layClimb 116 = .ok (.iload_n 3, 1) := by decide +kernel
theorem dX10_layClimb_117 : decode cX10_layClimb 117 = .ok (.iaload, 1) := by decide +kernel
theorem dX10_layClimb_118 : decode cX10_layClimb 118 = .ok (.if_icmp .ge 15, 3) := by decide +kernel
theorem dX10_layClimb_121 : decode cX10_layClimb 121 = .ok (.aload_n 0, 1) := by decide +kernel
theorem dX10_layClimb_122 : decode cX10_layClimb 122 = .ok (.getfield 22, 3) := by decide +kernel
theorem dX10_layClimb_125 : decode cX10_layClimb 125 = .ok (.iload 4, 2) := by decide +kernel
theorem dX10_layClimb_127 : decode cX10_layClimb 127 = .ok (.iaload, 1) := by decide +kernel
theorem dX10_layClimb_128 : decode cX10_layClimb 128 = .ok (.iconst 1, 1) := by decide +kernel
theorem dX10_layClimb_129 : decode cX10_layClimb 129 = .ok (.iadd, 1) := by decide +kernel
theorem dX10_layClimb_130 : decode cX10_layClimb 130 = .ok (.goto 9, 3) := by decide +kernel
theorem dX10_layClimb_133 : decode cX10_layClimb 133 = .ok (.aload_n 0, 1) := by decide +kernel
theorem dX10_layClimb_134 : decode cX10_layClimb 134 = .ok (.getfield 22, 3) := by decide +kernel
theorem dX10_layClimb_137 : decode cX10_layClimb 137 = .ok (.iload_n 3, 1) := by decide +kernel
theorem dX10_layClimb_138 : decode cX10_layClimb 138 = .ok (.iaload, 1) := by decide +kernel
theorem dX10_layClimb_139 : decode cX10_layClimb 139 = .ok (.iastore, 1) := by decide +kernel
theorem dX10_layClimb_140 : decode cX10_layClimb 140 = .ok (.aload_n 0, 1) := by decide +kernel
theorem dX10_layClimb_141 : decode cX10_layClimb 141 = .ok (.getfield 25, 3) := by decide +kernel
theorem dX10_layClimb_144 : decode cX10_layClimb 144 = .ok (.iload_n 3, 1) := by decide +kernel
theorem dX10_layClimb_145 : decode cX10_layClimb 145 = .ok (.dup2, 1) := by decide +kernel
theorem dX10_layClimb_146 : decode cX10_layClimb 146 = .ok (.iaload, 1) := by decide +kernel
theorem dX10_layClimb_147 : decode cX10_layClimb 147 = .ok (.aload_n 0, 1) := by decide +kernel
theorem dX10_layClimb_148 : decode cX10_layClimb 148 = .ok (.getfield 25, 3) := by decide +kernel
theorem dX10_layClimb_151 : decode cX10_layClimb 151 = .ok (.iload 4, 2) := by decide +kernel
theorem dX10_layClimb_153 : decode cX10_layClimb 153 = .ok (.iaload, 1) := by decide +kernel
theorem dX10_layClimb_154 : decode cX10_layClimb 154 = .ok (.iadd, 1) := by decide +kernel
theorem dX10_layClimb_155 : decode cX10_layClimb 155 = .ok (.iastore, 1) := by decide +kernel
theorem dX10_layClimb_156 : decode cX10_layClimb 156 = .ok (.iinc 4 1, 3) := by decide +kernel
theorem dX10_layClimb_159 : decode cX10_layClimb 159 = .ok (.goto (-112), 3) := by decide +kernel
theorem dX10_layClimb_162 : decode cX10_layClimb 162 = .ok (.iinc 3 (-1), 3) := by decide +kernel
theorem dX10_layClimb_165 : decode cX10_layClimb 165 = .ok (.goto (-162), 3) := by decide +kernel
theorem dX10_layClimb_168 : decode cX10_layClimb 168 = .ok (.return_, 1) := by decide +kernel
theorem dX10_climb_0 : decode cX10_climb 0 = .ok (.iload_n 1, 1) := by decide +kernel
theorem dX10_climb_1 : decode cX10_climb 1 = .ok (.invokestatic 76, 3) := by decide +kernel
theorem dX10_climb_4 : decode cX10_climb 4 = .ok (.ifCond .ne 5, 3) := by decide +kernel
theorem dX10_climb_7 : decode cX10_climb 7 = .ok (.iconst (-1), 1) := by decide +kernel
theorem dX10_climb_8 : decode cX10_climb 8 = .ok (.ireturn, 1) := by decide +kernel
theorem dX10_climb_9 : decode cX10_climb 9 = .ok (.iload_n 2, 1) := by decide +kernel
theorem dX10_climb_10 : decode cX10_climb 10 = .ok (.iconst 0, 1) := by decide +kernel
theorem dX10_climb_11 : decode cX10_climb 11 = .ok (.iconst 1, 1) := by decide +kernel
theorem dX10_climb_12 : decode cX10_climb 12 = .ok (.invokestatic 48, 3) := by decide +kernel
theorem dX10_climb_15 : decode cX10_climb 15 = .ok (.ifCond .ne 6, 3) := by decide +kernel
theorem dX10_climb_18 : decode cX10_climb 18 = .ok (.bipush (-2), 2) := by decide +kernel
theorem dX10_climb_20 : decode cX10_climb 20 = .ok (.ireturn, 1) := by decide +kernel
theorem dX10_climb_21 : decode cX10_climb 21 = .ok (.aload_n 0, 1) := by decide +kernel
theorem dX10_climb_22 : decode cX10_climb 22 = .ok (.invokevirtual 110, 3) := by decide +kernel
theorem dX10_climb_25 : decode cX10_climb 25 = .ok (.aload_n 0, 1) := by decide +kernel
theorem dX10_climb_26 : decode cX10_climb 26 = .ok (.iload_n 1, 1) := by decide +kernel
theorem dX10_climb_27 : decode cX10_climb 27 = .ok (.iconst 0, 1) := by decide +kernel
theorem dX10_climb_28 : decode cX10_climb 28 = .ok (.invokevirtual 135, 3) := by decide +kernel
theorem dX10_climb_31 : decode cX10_climb 31 = .ok (.aload_n 0, 1) := by decide +kernel
theorem dX10_climb_32 : decode cX10_climb 32 = .ok (.getfield 13, 3) := by decide +kernel
theorem dX10_climb_35 : decode cX10_climb 35 = .ok (.bipush 38, 2) := by decide +kernel
theorem dX10_climb_37 : decode cX10_climb 37 = .ok (.iload_n 1, 1) := by decide +kernel
theorem dX10_climb_38 : decode cX10_climb 38 = .ok (.iadd, 1) := by decide +kernel
theorem dX10_climb_39 : decode cX10_climb 39 = .ok (.iaload, 1) := by decide +kernel
theorem dX10_climb_40 : decode cX10_climb 40 = .ok (.istore_n 3, 1) := by decide +kernel
theorem dX10_climb_41 : decode cX10_climb 41 = .ok (.aload_n 0, 1) := by decide +kernel
theorem dX10_climb_42 : decode cX10_climb 42 = .ok (.getfield 22, 3) := by decide +kernel
theorem dX10_climb_45 : decode cX10_climb 45 = .ok (.iload_n 3, 1) := by decide +kernel
theorem dX10_climb_46 : decode cX10_climb 46 = .ok (.iaload, 1) := by decide +kernel
theorem dX10_climb_47 : decode cX10_climb 47 = .ok (.ldc 134, 2) := by decide +kernel
theorem dX10_climb_49 : decode cX10_climb 49 = .ok (.if_icmp .lt 6, 3) := by decide +kernel
theorem dX10_climb_52 : decode cX10_climb 52 = .ok (.bipush (-6), 2) := by decide +kernel
theorem dX10_climb_54 : decode cX10_climb 54 = .ok (.ireturn, 1) := by decide +kernel
theorem dX10_climb_55 : decode cX10_climb 55 = .ok (.iload_n 2, 1) := by decide +kernel
theorem dX10_climb_56 : decode cX10_climb 56 = .ok (.ifCond .ne 10, 3) := by decide +kernel
theorem dX10_climb_59 : decode cX10_climb 59 = .ok (.aload_n 0, 1) := by decide +kernel
theorem dX10_climb_60 : decode cX10_climb 60 = .ok (.getfield 22, 3) := by decide +kernel
theorem dX10_climb_63 : decode cX10_climb 63 = .ok (.iload_n 3, 1) := by decide +kernel
theorem dX10_climb_64 : decode cX10_climb 64 = .ok (.iaload, 1) := by decide +kernel
theorem dX10_climb_65 : decode cX10_climb 65 = .ok (.ireturn, 1) := by decide +kernel
theorem dX10_climb_66 : decode cX10_climb 66 = .ok (.iload_n 3, 1) := by decide +kernel
theorem dX10_climb_67 : decode cX10_climb 67 = .ok (.iconst 1, 1) := by decide +kernel
theorem dX10_climb_68 : decode cX10_climb 68 = .ok (.iadd, 1) := by decide +kernel
theorem dX10_climb_69 : decode cX10_climb 69 = .ok (.istore 4, 2) := by decide +kernel
theorem dX10_climb_71 : decode cX10_climb 71 = .ok (.iload 4, 2) := by decide +kernel
theorem dX10_climb_73 : decode cX10_climb 73 = .ok (.iload_n 3, 1) := by decide +kernel
theorem dX10_climb_74 : decode cX10_climb 74 = .ok (.aload_n 0, 1) := by decide +kernel
theorem dX10_climb_75 : decode cX10_climb 75 = .ok (.getfield 13, 3) := by decide +kernel
theorem dX10_climb_78 : decode cX10_climb 78 = .ok (.bipush 26, 2) := by decide +kernel
theorem dX10_climb_80 : decode cX10_climb 80 = .ok (.iload_n 1, 1) := by decide +kernel
theorem dX10_climb_81 : decode cX10_climb 81 = .ok (.iadd, 1) := by decide +kernel
theorem dX10_climb_82 : decode cX10_climb 82 = .ok (.iaload, 1) := by decide +kernel
theorem dX10_climb_83 : decode cX10_climb 83 = .ok (.iadd, 1) := by decide +kernel
theorem dX10_climb_84 : decode cX10_climb 84 = .ok (.if_icmp .gt 54, 3) := by decide +kernel
theorem dX10_climb_87 : decode cX10_climb 87 = .ok (.iload 4, 2) := by decide +kernel
theorem dX10_climb_89 : decode cX10_climb 89 = .ok (.bipush 13, 2) := by decide +kernel
theorem dX10_climb_91 : decode cX10_climb 91 = .ok (.if_icmp .gt 47, 3) := by decide +kernel
theorem dX10_climb_94 : decode cX10_climb 94 = .ok (.iload 4, 2) := by decide +kernel
theorem dX10_climb_96 : decode cX10_climb 96 = .ok (.bipush 13, 2) := by decide +kernel
theorem dX10_climb_98 : decode cX10_climb 98 = .ok (.if_icmp .eq 13, 3) := by decide +kernel
theorem dX10_climb_101 : decode cX10_climb 101 = .ok (.aload_n 0, 1) := by decide +kernel
theorem dX10_climb_102 : decode cX10_climb 102 = .ok (.iload_n 1, 1) := by decide +kernel
theorem dX10_climb_103 : decode cX10_climb 103 = .ok (.iload 4, 2) := by decide +kernel
theorem dX10_climb_105 : decode cX10_climb 105 = .ok (.invokevirtual 90, 3) := by decide +kernel
theorem dX10_climb_108 : decode cX10_climb 108 = .ok (.ifCond .eq 24, 3) := by decide +kernel
theorem dX10_climb_111 : decode cX10_climb 111 = .ok (.aload_n 0, 1) := by decide +kernel
theorem dX10_climb_112 : decode cX10_climb 112 = .ok (.getfield 22, 3) := by decide +kernel
theorem dX10_climb_115 : decode cX10_climb 115 = .ok (.iload 4, 2) := by decide +kernel
theorem dX10_climb_117 : decode cX10_climb 117 = .ok (.iaload, 1) := by decide +kernel
theorem dX10_climb_118 : decode cX10_climb 118 = .ok (.aload_n 0, 1) := by decide +kernel
theorem dX10_climb_119 : decode cX10_climb 119 = .ok (.getfield 22, 3) := by decide +kernel
theorem dX10_climb_122 : decode cX10_climb 122 = .ok (.iload_n 3, 1) := by decide +kernel
theorem dX10_climb_123 : decode cX10_climb 123 = .ok (.iaload, 1) := by decide +kernel
theorem dX10_climb_124 : decode cX10_climb 124 = .ok (.iconst 1, 1) := by decide +kernel
theorem dX10_climb_125 : decode cX10_climb 125 = .ok (.isub, 1) := by decide +kernel
theorem dX10_climb_126 : decode cX10_climb 126 = .ok (.if_icmp .ne 6, 3) := by decide +kernel
theorem dX10_climb_129 : decode cX10_climb 129 = .ok (.iload 4, 2) := by decide +kernel
theorem dX10_climb_131 : decode cX10_climb 131 = .ok (.ireturn, 1) := by decide +kernel
theorem dX10_climb_132 : decode cX10_climb 132 = .ok (.iinc 4 1, 3) := by decide +kernel
theorem dX10_climb_135 : decode cX10_climb 135 = .ok (.goto (-64), 3) := by decide +kernel
theorem dX10_climb_138 : decode cX10_climb 138 = .ok (.bipush (-6), 2) := by decide +kernel
theorem dX10_climb_140 : decode cX10_climb 140 = .ok (.ireturn, 1) := by decide +kernel
theorem dX10_ways_0 : decode cX10_ways 0 = .ok (.iload_n 1, 1) := by decide +kernel
theorem dX10_ways_1 : decode cX10_ways 1 = .ok (.invokestatic 76, 3) := by decide +kernel
theorem dX10_ways_4 : decode cX10_ways 4 = .ok (.ifCond .ne 5, 3) := by decide +kernel
theorem dX10_ways_7 : decode cX10_ways 7 = .ok (.iconst (-1), 1) := by decide +kernel
theorem dX10_ways_8 : decode cX10_ways 8 = .ok (.ireturn, 1) := by decide +kernel
theorem dX10_ways_9 : decode cX10_ways 9 = .ok (.aload_n 0, 1) := by decide +kernel
theorem dX10_ways_10 : decode cX10_ways 10 = .ok (.invokevirtual 110, 3) := by decide +kernel
theorem dX10_ways_13 : decode cX10_ways 13 = .ok (.aload_n 0, 1) := by decide +kernel
theorem dX10_ways_14 : decode cX10_ways 14 = .ok (.iload_n 1, 1) := by decide +kernel
theorem dX10_ways_15 : decode cX10_ways 15 = .ok (.iconst 0, 1) := by decide +kernel
theorem dX10_ways_16 : decode cX10_ways 16 = .ok (.invokevirtual 135, 3) := by decide +kernel
theorem dX10_ways_19 : decode cX10_ways 19 = .ok (.aload_n 0, 1) := by decide +kernel
theorem dX10_ways_20 : decode cX10_ways 20 = .ok (.getfield 25, 3) := by decide +kernel
theorem dX10_ways_23 : decode cX10_ways 23 = .ok (.aload_n 0, 1) := by decide +kernel
theorem dX10_ways_24 : decode cX10_ways 24 = .ok (.getfield 13, 3) := by decide +kernel
theorem dX10_ways_27 : decode cX10_ways 27 = .ok (.bipush 38, 2) := by decide +kernel
theorem dX10_ways_29 : decode cX10_ways 29 = .ok (.iload_n 1, 1) := by decide +kernel
theorem dX10_ways_30 : decode cX10_ways 30 = .ok (.iadd, 1) := by decide +kernel
theorem dX10_ways_31 : decode cX10_ways 31 = .ok (.iaload, 1) := by decide +kernel
theorem dX10_ways_32 : decode cX10_ways 32 = .ok (.iaload, 1) := by decide +kernel
theorem dX10_ways_33 : decode cX10_ways 33 = .ok (.ireturn, 1) := by decide +kernel
theorem dX10_leases_0 : decode cX10_leases 0 = .ok (.iload_n 1, 1) := by decide +kernel
theorem dX10_leases_1 : decode cX10_leases 1 = .ok (.invokestatic 76, 3) := by decide +kernel
theorem dX10_leases_4 : decode cX10_leases 4 = .ok (.ifCond .ne 5, 3) := by decide +kernel
theorem dX10_leases_7 : decode cX10_leases 7 = .ok (.iconst (-1), 1) := by decide +kernel
theorem dX10_leases_8 : decode cX10_leases 8 = .ok (.ireturn, 1) := by decide +kernel
theorem dX10_leases_9 : decode cX10_leases 9 = .ok (.iload_n 2, 1) := by decide +kernel
theorem dX10_leases_10 : decode cX10_leases 10 = .ok (.iconst 0, 1) := by decide +kernel
theorem dX10_leases_11 : decode cX10_leases 11 = .ok (.iconst 1, 1) := by decide +kernel
theorem dX10_leases_12 : decode cX10_leases 12 = .ok (.invokestatic 48, 3) := by decide +kernel
theorem dX10_leases_15 : decode cX10_leases 15 = .ok (.ifCond .ne 6, 3) := by decide +kernel
theorem dX10_leases_18 : decode cX10_leases 18 = .ok (.bipush (-2), 2) := by decide +kernel
theorem dX10_leases_20 : decode cX10_leases 20 = .ok (.ireturn, 1) := by decide +kernel
theorem dX10_leases_21 : decode cX10_leases 21 = .ok (.aload_n 0, 1) := by decide +kernel
theorem dX10_leases_22 : decode cX10_leases 22 = .ok (.invokevirtual 110, 3) := by decide +kernel
theorem dX10_leases_25 : decode cX10_leases 25 = .ok (.iconst 0, 1) := by decide +kernel
theorem dX10_leases_26 : decode cX10_leases 26 = .ok (.istore_n 3, 1) := by decide +kernel
theorem dX10_leases_27 : decode cX10_leases 27 = .ok (.iconst 1, 1) := by decide +kernel
theorem dX10_leases_28 : decode cX10_leases 28 = .ok (.istore 4, 2) := by decide +kernel
theorem dX10_leases_30 : decode cX10_leases 30 = .ok (.iload 4, 2) := by decide +kernel
theorem dX10_leases_32 : decode cX10_leases 32 = .ok (.bipush 13, 2) := by decide +kernel
theorem dX10_leases_34 : decode cX10_leases 34 = .ok (.if_icmp .ge 65, 3) := by decide +kernel
theorem dX10_leases_37 : decode cX10_leases 37 = .ok (.iload_n 3, 1) := by decide +kernel
theorem dX10_leases_38 : decode cX10_leases 38 = .ok (.aload_n 0, 1) := by decide +kernel
theorem dX10_leases_39 : decode cX10_leases 39 = .ok (.iload 4, 2) := by decide +kernel
theorem dX10_leases_41 : decode cX10_leases 41 = .ok (.invokevirtual 69, 3) := by decide +kernel
theorem dX10_leases_44 : decode cX10_leases 44 = .ok (.ifCond .ne 46, 3) := by decide +kernel
theorem dX10_leases_47 : decode cX10_leases 47 = .ok (.aload_n 0, 1) := by decide +kernel
theorem dX10_leases_48 : decode cX10_leases 48 = .ok (.getfield 13, 3) := by decide +kernel
theorem dX10_leases_51 : decode cX10_leases 51 = .ok (.iload 4, 2) := by decide +kernel
theorem dX10_leases_53 : decode cX10_leases 53 = .ok (.iaload, 1) := by decide +kernel
theorem dX10_leases_54 : decode cX10_leases 54 = .ok (.ifCond .lt 36, 3) := by decide +kernel
theorem dX10_leases_57 : decode cX10_leases 57 = .ok (.aload_n 0, 1) := by decide +kernel
theorem dX10_leases_58 : decode cX10_leases 58 = .ok (.getfield 13, 3) := by decide +kernel
theorem dX10_leases_61 : decode cX10_leases 61 = .ok (.iload 4, 2) := by decide +kernel
theorem dX10_leases_63 : decode cX10_leases 63 = .ok (.iaload, 1) := by decide +kernel
theorem dX10_leases_64 : decode cX10_leases 64 = .ok (.iload_n 1, 1) := by decide +kernel
theorem dX10_leases_65 : decode cX10_leases 65 = .ok (.if_icmp .eq 25, 3) := by decide +kernel
theorem dX10_leases_68 : decode cX10_leases 68 = .ok (.aload_n 0, 1) := by decide +kernel
theorem dX10_leases_69 : decode cX10_leases 69 = .ok (.getfield 13, 3) := by decide +kernel
theorem dX10_leases_72 : decode cX10_leases 72 = .ok (.bipush 13, 2) := by decide +kernel
theorem dX10_leases_74 : decode cX10_leases 74 = .ok (.iload 4, 2) := by decide +kernel
theorem dX10_leases_76 : decode cX10_leases 76 = .ok (.iadd, 1) := by decide +kernel
theorem dX10_leases_77 : decode cX10_leases 77 = .ok (.iaload, 1) := by decide +kernel
theorem dX10_leases_78 : decode cX10_leases 78 = .ok (.ifCond .ge 12, 3) := by decide +kernel
theorem dX10_leases_81 : decode cX10_leases 81 = .ok (.iconst 1, 1) := by decide +kernel
theorem dX10_leases_82 : decode cX10_leases 82 = .ok (.iload 4, 2) := by decide +kernel
theorem dX10_leases_84 : decode cX10_leases 84 = .ok (.iconst 1, 1) := by decide +kernel
theorem dX10_leases_85 : decode cX10_leases 85 = .ok (.isub, 1) := by decide +kernel
theorem dX10_leases_86 : decode cX10_leases 86 = .ok (.ishl, 1) := by decide +kernel
theorem dX10_leases_87 : decode cX10_leases 87 = .ok (.goto 4, 3) := by decide +kernel
theorem dX10_leases_90 : decode cX10_leases 90 = .ok (.iconst 0, 1) := by decide +kernel
theorem dX10_leases_91 : decode cX10_leases 91 = .ok (.ior, 1) := by decide +kernel
theorem dX10_leases_92 : decode cX10_leases 92 = .ok (.istore_n 3, 1) := by decide +kernel
theorem dX10_leases_93 : decode cX10_leases 93 = .ok (.iinc 4 1, 3) := by decide +kernel
theorem dX10_leases_96 : decode cX10_leases 96 = .ok (.goto (-66), 3) := by decide +kernel
theorem dX10_leases_99 : decode cX10_leases 99 = .ok (.bipush (-6), 2) := by decide +kernel
theorem dX10_leases_101 : decode cX10_leases 101 = .ok (.istore 4, 2) := by decide +kernel
theorem dX10_leases_103 : decode cX10_leases 103 = .ok (.iconst 0, 1) := by decide +kernel
theorem dX10_leases_104 : decode cX10_leases 104 = .ok (.istore 5, 2) := by decide +kernel
theorem dX10_leases_106 : decode cX10_leases 106 = .ok (.iload 5, 2) := by decide +kernel
theorem dX10_leases_108 : decode cX10_leases 108 = .ok (.sipush 4096, 3) := by decide +kernel
theorem dX10_leases_111 : decode cX10_leases 111 = .ok (.if_icmp .ge 71, 3) := by decide +kernel
theorem dX10_leases_114 : decode cX10_leases 114 = .ok (.iload 5, 2) := by decide +kernel
theorem dX10_leases_116 : decode cX10_leases 116 = .ok (.iload_n 3, 1) := by decide +kernel
theorem dX10_leases_117 : decode cX10_leases 117 = .ok (.iconst (-1), 1) := by decide +kernel
theorem dX10_leases_118 : decode cX10_leases 118 = .ok (.ixor, 1) := by decide +kernel
theorem dX10_leases_119 : decode cX10_leases 119 = .ok (.iand, 1) := by decide +kernel
theorem dX10_leases_120 : decode cX10_leases 120 = .ok (.ifCond .ne 56, 3) := by decide +kernel
theorem dX10_leases_123 : decode cX10_leases 123 = .ok (.iload 4, 2) := by decide +kernel
theorem dX10_leases_125 : decode cX10_leases 125 = .ok (.ifCond .lt 16, 3) := by decide +kernel
theorem dX10_leases_128 : decode cX10_leases 128 = .ok (.iload 5, 2) := by decide +kernel
theorem dX10_leases_130 : decode cX10_leases 130 = .ok (.invokestatic 139, 3) := by decide +kernel
theorem dX10_leases_133 : decode cX10_leases 133 = .ok (.iload 4, 2) := by decide +kernel
theorem dX10_leases_135 : decode cX10_leases 135 = .ok (.invokestatic 139, 3) := by decide +kernel
theorem dX10_leases_138 : decode cX10_leases 138 = .ok (.if_icmp .ge 38, 3) := by decide +kernel
theorem dX10_leases_141 : decode cX10_leases 141 = .ok (.aload_n 0, 1) := by decide +kernel
theorem dX10_leases_142 : decode cX10_leases 142 = .ok (.iload_n 1, 1) := by decide +kernel
theorem dX10_leases_143 : decode cX10_leases 143 = .ok (.iload 5, 2) := by decide +kernel
theorem dX10_leases_145 : decode cX10_leases 145 = .ok (.invokevirtual 135, 3) := by decide +kernel
theorem dX10_leases_148 : decode cX10_leases 148 = .ok (.aload_n 0, 1) := by decide +kernel
theorem dX10_leases_149 : decode cX10_leases 149 = .ok (.getfield 22, 3) := by decide +kernel
theorem dX10_leases_152 : decode cX10_leases 152 = .ok (.aload_n 0, 1) := by decide +kernel
theorem dX10_leases_153 : decode cX10_leases 153 = .ok (.getfield 13, 3) := by decide +kernel
theorem dX10_leases_156 : decode cX10_leases 156 = .ok (.bipush 38, 2) := by decide +kernel
theorem dX10_leases_158 : decode cX10_leases 158 = .ok (.iload_n 1, 1) := by decide +kernel
theorem dX10_leases_159 : decode cX10_leases 159 = .ok (.iadd, 1) := by decide +kernel
theorem dX10_leases_160 : decode cX10_leases 160 = .ok (.iaload, 1) := by decide +kernel
theorem dX10_leases_161 : decode cX10_leases 161 = .ok (.iaload, 1) := by decide +kernel
theorem dX10_leases_162 : decode cX10_leases 162 = .ok (.ldc 134, 2) := by decide +kernel
theorem dX10_leases_164 : decode cX10_leases 164 = .ok (.if_icmp .ge 8, 3) := by decide +kernel
theorem dX10_leases_167 : decode cX10_leases 167 = .ok (.iload 5, 2) := by decide +kernel
theorem dX10_leases_169 : decode cX10_leases 169 = .ok (.goto 5, 3) := by decide +kernel
theorem dX10_leases_172 : decode cX10_leases 172 = .ok (.iload 4, 2) := by decide +kernel
theorem dX10_leases_174 : decode cX10_leases 174 = .ok (.istore 4, 2) := by decide +kernel
theorem dX10_leases_176 : decode cX10_leases 176 = .ok (.iinc 5 1, 3) := by decide +kernel
theorem dX10_leases_179 : decode cX10_leases 179 = .ok (.goto (-73), 3) := by decide +kernel
theorem dX10_leases_182 : decode cX10_leases 182 = .ok (.iload 4, 2) := by decide +kernel
theorem dX10_leases_184 : decode cX10_leases 184 = .ok (.ifCond .lt 8, 3) := by decide +kernel
theorem dX10_leases_187 : decode cX10_leases 187 = .ok (.iload_n 2, 1) := by decide +kernel
theorem dX10_leases_188 : decode cX10_leases 188 = .ok (.iconst 1, 1) := by decide +kernel
theorem dX10_leases_189 : decode cX10_leases 189 = .ok (.if_icmp .ne 8, 3) := by decide +kernel
theorem dX10_leases_192 : decode cX10_leases 192 = .ok (.iload 4, 2) := by decide +kernel
theorem dX10_leases_194 : decode cX10_leases 194 = .ok (.goto 8, 3) := by decide +kernel
theorem dX10_leases_197 : decode cX10_leases 197 = .ok (.iload 4, 2) := by decide +kernel
theorem dX10_leases_199 : decode cX10_leases 199 = .ok (.invokestatic 139, 3) := by decide +kernel
theorem dX10_leases_202 : decode cX10_leases 202 = .ok (.ireturn, 1) := by decide +kernel
theorem dX10_most_0 : decode cX10_most 0 = .ok (.iconst 0, 1) := by decide +kernel
theorem dX10_most_1 : decode cX10_most 1 = .ok (.istore_n 3, 1) := by decide +kernel
theorem dX10_most_2 : decode cX10_most 2 = .ok (.iload_n 3, 1) := by decide +kernel
theorem dX10_most_3 : decode cX10_most 3 = .ok (.bipush 64, 2) := by decide +kernel
theorem dX10_most_5 : decode cX10_most 5 = .ok (.if_icmp .ge 24, 3) := by decide +kernel
theorem dX10_most_8 : decode cX10_most 8 = .ok (.aload_n 0, 1) := by decide +kernel
theorem dX10_most_9 : decode cX10_most 9 = .ok (.getfield 28, 3) := by decide +kernel
theorem dX10_most_12 : decode cX10_most 12 = .ok (.iload_n 3, 1) := by decide +kernel
theorem dX10_most_13 : decode cX10_most 13 = .ok (.iload_n 3, 1) := by decide +kernel
theorem dX10_most_14 : decode cX10_most 14 = .ok (.ifCond .ne 7, 3) := by decide +kernel
theorem dX10_most_17 : decode cX10_most 17 = .ok (.iconst 1, 1) := by decide +kernel
theorem dX10_most_18 : decode cX10_most 18 = .ok (.goto 4, 3) := by decide +kernel
theorem dX10_most_21 : decode cX10_most 21 = .ok (.iconst 0, 1) := by decide +kernel
theorem dX10_most_22 : decode cX10_most 22 = .ok (.bastore, 1) := by decide +kernel
theorem dX10_most_23 : decode cX10_most 23 = .ok (.iinc 3 1, 3) := by decide +kernel
theorem dX10_most_26 : decode cX10_most 26 = .ok (.goto (-24), 3) := by decide +kernel
theorem dX10_most_29 : decode cX10_most 29 = .ok (.iconst 1, 1) := by decide +kernel
theorem dX10_most_30 : decode cX10_most 30 = .ok (.istore_n 3, 1) := by decide +kernel
theorem dX10_most_31 : decode cX10_most 31 = .ok (.iload_n 3, 1) := by decide +kernel
theorem dX10_most_32 : decode cX10_most 32 = .ok (.bipush 13, 2) := by decide +kernel
theorem dX10_most_34 : decode cX10_most 34 = .ok (.if_icmp .ge 107, 3) := by decide +kernel
theorem dX10_most_37 : decode cX10_most 37 = .ok (.bipush 63, 2) := by decide +kernel
theorem dX10_most_39 : decode cX10_most 39 = .ok (.istore 4, 2) := by decide +kernel
theorem dX10_most_41 : decode cX10_most 41 = .ok (.iload 4, 2) := by decide +kernel
theorem dX10_most_43 : decode cX10_most 43 = .ok (.ifCond .le 92, 3) := by decide +kernel
theorem dX10_most_46 : decode cX10_most 46 = .ok (.iload_n 2, 1) := by decide +kernel
theorem dX10_most_47 : decode cX10_most 47 = .ok (.iload_n 3, 1) := by decide +kernel
theorem dX10_most_48 : decode cX10_most 48 = .ok (.invokestatic 65, 3) := by decide +kernel
theorem dX10_most_51 : decode cX10_most 51 = .ok (.ifCond .ne 84, 3) := by decide +kernel
theorem dX10_most_54 : decode cX10_most 54 = .ok (.iload_n 1, 1) := by decide +kernel
theorem dX10_most_55 : decode cX10_most 55 = .ok (.istore 5, 2) := by decide +kernel
theorem dX10_most_57 : decode cX10_most 57 = .ok (.iload 5, 2) := by decide +kernel
theorem dX10_most_59 : decode cX10_most 59 = .ok (.bipush 6, 2) := by decide +kernel
theorem dX10_most_61 : decode cX10_most 61 = .ok (.if_icmp .ge 68, 3) := by decide +kernel
theorem dX10_most_64 : decode cX10_most 64 = .ok (.aload_n 0, 1) := by decide +kernel
theorem dX10_most_65 : decode cX10_most 65 = .ok (.getfield 28, 3) := by decide +kernel
theorem dX10_most_68 : decode cX10_most 68 = .ok (.iload 4, 2) := by decide +kernel
theorem dX10_most_70 : decode cX10_most 70 = .ok (.aload_n 0, 1) := by decide +kernel
theorem dX10_most_71 : decode cX10_most 71 = .ok (.getfield 28, 3) := by decide +kernel
theorem dX10_most_74 : decode cX10_most 74 = .ok (.iload 4, 2) := by decide +kernel
theorem dX10_most_76 : decode cX10_most 76 = .ok (.baload, 1) := by decide +kernel
theorem dX10_most_77 : decode cX10_most 77 = .ok (.ifCond .ne 40, 3) := by decide +kernel
theorem dX10_most_80 : decode cX10_most 80 = .ok (.iload 4, 2) := by decide +kernel
theorem dX10_most_82 : decode cX10_most 82 = .ok (.iload 5, 2) := by decide +kernel
theorem dX10_most_84 : decode cX10_most 84 = .ok (.invokestatic 65, 3) := by decide +kernel
theorem dX10_most_87 : decode cX10_most 87 = .ok (.ifCond .eq 34, 3) := by decide +kernel
theorem dX10_most_90 : decode cX10_most 90 = .ok (.aload_n 0, 1) := by decide +kernel
theorem dX10_most_91 : decode cX10_most 91 = .ok (.iload 5, 2) := by decide +kernel
theorem dX10_most_93 : decode cX10_most 93 = .ok (.iload_n 3, 1) := by decide +kernel
theorem dX10_most_94 : decode cX10_most 94 = .ok (.invokevirtual 90, 3) := by decide +kernel
theorem dX10_most_97 : decode cX10_most 97 = .ok (.ifCond .eq 24, 3) := by decide +kernel
theorem dX10_most_100 : decode cX10_most 100 = .ok (.aload_n 0, 1) := by decide +kernel
theorem dX10_most_101 : decode cX10_most 101 = .ok (.getfield 28, 3) := by decide +kernel
theorem dX10_most_104 : decode cX10_most 104 = .ok (.iload 4, 2) := by decide +kernel
theorem dX10_most_106 : decode cX10_most 106 = .ok (.iconst 1, 1) := by decide +kernel
theorem dX10_most_107 : decode cX10_most 107 = .ok (.iload 5, 2) := by decide +kernel
theorem dX10_most_109 : decode cX10_most 109 = .ok (.ishl, 1) := by decide +kernel
theorem dX10_most_110 : decode cX10_most 110 = .ok (.iconst (-1), 1) := by decide +kernel
theorem dX10_most_111 : decode cX10_most 111 = .ok (.ixor, 1) := by decide +kernel
theorem dX10_most_112 : decode cX10_most 112 = .ok (.iand, 1) := by decide +kernel
theorem dX10_most_113 : decode cX10_most 113 = .ok (.baload, 1) := by decide +kernel
theorem dX10_most_114 : decode cX10_most 114 = .ok (.ifCond .eq 7, 3) := by decide +kernel
theorem dX10_most_117 : decode cX10_most 117 = .ok (.iconst 1, 1) := by decide +kernel
theorem dX10_most_118 : decode cX10_most 118 = .ok (.goto 4, 3) := by decide +kernel
theorem dX10_most_121 : decode cX10_most 121 = .ok (.iconst 0, 1) := by decide +kernel
theorem dX10_most_122 : decode cX10_most 122 = .ok (.bastore, 1) := by decide +kernel
theorem dX10_most_123 : decode cX10_most 123 = .ok (.iinc 5 1, 3) := by decide +kernel
theorem dX10_most_126 : decode cX10_most 126 = .ok (.goto (-69), 3) := by decide +kernel
theorem dX10_most_129 : decode cX10_most 129 = .ok (.iinc 4 (-1), 3) := by decide +kernel
theorem dX10_most_132 : decode cX10_most 132 = .ok (.goto (-91), 3) := by decide +kernel
theorem dX10_most_135 : decode cX10_most 135 = .ok (.iinc 3 1, 3) := by decide +kernel
theorem dX10_most_138 : decode cX10_most 138 = .ok (.goto (-107), 3) := by decide +kernel
theorem dX10_most_141 : decode cX10_most 141 = .ok (.iconst 0, 1) := by decide +kernel
theorem dX10_most_142 : decode cX10_most 142 = .ok (.istore_n 3, 1) := by decide +kernel
theorem dX10_most_143 : decode cX10_most 143 = .ok (.iconst 1, 1) := by decide +kernel
theorem dX10_most_144 : decode cX10_most 144 = .ok (.istore 4, 2) := by decide +kernel
theorem dX10_most_146 : decode cX10_most 146 = .ok (.iload 4, 2) := by decide +kernel
theorem dX10_most_148 : decode cX10_most 148 = .ok (.bipush 64, 2) := by decide +kernel
theorem dX10_most_150 : decode cX10_most 150 = .ok (.if_icmp .ge 38, 3) := by decide +kernel
theorem dX10_most_153 : decode cX10_most 153 = .ok (.aload_n 0, 1) := by decide +kernel
theorem dX10_most_154 : decode cX10_most 154 = .ok (.getfield 28, 3) := by decide +kernel
theorem dX10_most_157 : decode cX10_most 157 = .ok (.iload 4, 2) := by decide +kernel
theorem dX10_most_159 : decode cX10_most 159 = .ok (.baload, 1) := by decide +kernel
theorem dX10_most_160 : decode cX10_most 160 = .ok (.ifCond .eq 20, 3) := by decide +kernel
theorem dX10_most_163 : decode cX10_most 163 = .ok (.iload 4, 2) := by decide +kernel
theorem dX10_most_165 : decode cX10_most 165 = .ok (.invokestatic 139, 3) := by decide +kernel
theorem dX10_most_168 : decode cX10_most 168 = .ok (.iload_n 3, 1) := by decide +kernel
theorem dX10_most_169 : decode cX10_most 169 = .ok (.if_icmp .le 11, 3) := by decide +kernel
theorem dX10_most_172 : decode cX10_most 172 = .ok (.iload 4, 2) := by decide +kernel
theorem dX10_most_174 : decode cX10_most 174 = .ok (.invokestatic 139, 3) := by decide +kernel
theorem dX10_most_177 : decode cX10_most 177 = .ok (.goto 4, 3) := by decide +kernel
theorem dX10_most_180 : decode cX10_most 180 = .ok (.iload_n 3, 1) := by decide +kernel
theorem dX10_most_181 : decode cX10_most 181 = .ok (.istore_n 3, 1) := by decide +kernel
theorem dX10_most_182 : decode cX10_most 182 = .ok (.iinc 4 1, 3) := by decide +kernel
theorem dX10_most_185 : decode cX10_most 185 = .ok (.goto (-39), 3) := by decide +kernel
theorem dX10_most_188 : decode cX10_most 188 = .ok (.iload_n 3, 1) := by decide +kernel
theorem dX10_most_189 : decode cX10_most 189 = .ok (.ireturn, 1) := by decide +kernel
theorem dX10_stand_0 : decode cX10_stand 0 = .ok (.iload_n 1, 1) := by decide +kernel
theorem dX10_stand_1 : decode cX10_stand 1 = .ok (.iconst (-1), 1) := by decide +kernel
theorem dX10_stand_2 : decode cX10_stand 2 = .ok (.iconst 5, 1) := by decide +kernel
theorem dX10_stand_3 : decode cX10_stand 3 = .ok (.invokestatic 48, 3) := by decide +kernel
theorem dX10_stand_6 : decode cX10_stand 6 = .ok (.ifCond .ne 5, 3) := by decide +kernel
theorem dX10_stand_9 : decode cX10_stand 9 = .ok (.iconst (-1), 1) := by decide +kernel
theorem dX10_stand_10 : decode cX10_stand 10 = .ok (.ireturn, 1) := by decide +kernel
theorem dX10_stand_11 : decode cX10_stand 11 = .ok (.aload_n 0, 1) := by decide +kernel
theorem dX10_stand_12 : decode cX10_stand 12 = .ok (.invokevirtual 110, 3) := by decide +kernel
theorem dX10_stand_15 : decode cX10_stand 15 = .ok (.aload_n 0, 1) := by decide +kernel
theorem dX10_stand_16 : decode cX10_stand 16 = .ok (.iconst 0, 1) := by decide +kernel
theorem dX10_stand_17 : decode cX10_stand 17 = .ok (.iconst 0, 1) := by decide +kernel
theorem dX10_stand_18 : decode cX10_stand 18 = .ok (.invokevirtual 142, 3) := by decide +kernel
theorem dX10_stand_21 : decode cX10_stand 21 = .ok (.istore_n 2, 1) := by decide +kernel
theorem dX10_stand_22 : decode cX10_stand 22 = .ok (.iload_n 1, 1) := by decide +kernel
theorem dX10_stand_23 : decode cX10_stand 23 = .ok (.ifCond .ge 5, 3) := by decide +kernel
theorem dX10_stand_26 : decode cX10_stand 26 = .ok (.iload_n 2, 1) := by decide +kernel
theorem dX10_stand_27 : decode cX10_stand 27 = .ok (.ireturn, 1) := by decide +kernel
theorem dX10_stand_28 : decode cX10_stand 28 = .ok (.iconst 0, 1) := by decide +kernel
theorem dX10_stand_29 : decode cX10_stand 29 = .ok (.istore_n 3, 1) := by decide +kernel
theorem dX10_stand_30 : decode cX10_stand 30 = .ok (.bipush (-6), 2) := by decide +kernel
theorem dX10_stand_32 : decode cX10_stand 32 = .ok (.istore 4, 2) := by decide +kernel
theorem dX10_stand_34 : decode cX10_stand 34 = .ok (.iconst 0, 1) := by decide +kernel
theorem dX10_stand_35 : decode cX10_stand 35 = .ok (.istore 5, 2) := by decide +kernel
theorem dX10_stand_37 : decode cX10_stand 37 = .ok (.iload 5, 2) := by decide +kernel
theorem dX10_stand_39 : decode cX10_stand 39 = .ok (.iload_n 1, 1) := by decide +kernel
theorem dX10_stand_40 : decode cX10_stand 40 = .ok (.if_icmp .gt 112, 3) := by decide +kernel
theorem dX10_stand_43 : decode cX10_stand 43 = .ok (.bipush (-6), 2) := by decide +kernel
theorem dX10_stand_45 : decode cX10_stand 45 = .ok (.istore 4, 2) := by decide +kernel
theorem dX10_stand_47 : decode cX10_stand 47 = .ok (.iconst 1, 1) := by decide +kernel
theorem dX10_stand_48 : decode cX10_stand 48 = .ok (.istore 6, 2) := by decide +kernel
theorem dX10_stand_50 : decode cX10_stand 50 = .ok (.iload 6, 2) := by decide +kernel
theorem dX10_stand_52 : decode cX10_stand 52 = .ok (.bipush 13, 2) := by decide +kernel
theorem dX10_stand_54 : decode cX10_stand 54 = .ok (.if_icmp .ge 63, 3) := by decide +kernel
theorem dX10_stand_57 : decode cX10_stand 57 = .ok (.iload 4, 2) := by decide +kernel
theorem dX10_stand_59 : decode cX10_stand 59 = .ok (.ifCond .ge 58, 3) := by decide +kernel
theorem dX10_stand_62 : decode cX10_stand 62 = .ok (.iload_n 3, 1) := by decide +kernel
theorem dX10_stand_63 : decode cX10_stand 63 = .ok (.iload 6, 2) := by decide +kernel
theorem dX10_stand_65 : decode cX10_stand 65 = .ok (.invokestatic 65, 3) := by decide +kernel
theorem dX10_stand_68 : decode cX10_stand 68 = .ok (.ifCond .ne 39, 3) := by decide +kernel
theorem dX10_stand_71 : decode cX10_stand 71 = .ok (.aload_n 0, 1) := by decide +kernel
theorem dX10_stand_72 : decode cX10_stand 72 = .ok (.iload 5, 2) := by decide +kernel
theorem dX10_stand_74 : decode cX10_stand 74 = .ok (.iload 6, 2) := by decide +kernel
theorem dX10_stand_76 : decode cX10_stand 76 = .ok (.invokevirtual 90, 3) := by decide +kernel
theorem dX10_stand_79 : decode cX10_stand 79 = .ok (.ifCond .eq 28, 3) := by decide +kernel
theorem dX10_stand_82 : decode cX10_stand 82 = .ok (.iconst 1, 1) := by decide +kernel
theorem dX10_stand_83 : decode cX10_stand 83 = .ok (.aload_n 0, 1) := by decide +kernel
theorem dX10_stand_84 : decode cX10_stand 84 = .ok (.iload 5, 2) := by decide +kernel
theorem dX10_stand_86 : decode cX10_stand 86 = .ok (.iconst 1, 1) := by decide +kernel
theorem dX10_stand_87 : decode cX10_stand 87 = .ok (.iadd, 1) := by decide +kernel
theorem dX10_stand_88 : decode cX10_stand 88 = .ok (.iload_n 3, 1) := by decide +kernel
theorem dX10_stand_89 : decode cX10_stand 89 = .ok (.iconst 1, 1) := by decide +kernel
theorem dX10_stand_90 : decode cX10_stand 90 = .ok (.iload 6, 2) := by decide +kernel
theorem dX10_stand_92 : decode cX10_stand 92 = .ok (.ishl, 1) := by decide +kernel
theorem dX10_stand_93 : decode cX10_stand 93 = .ok (.ior, 1) := by decide +kernel
theorem dX10_stand_94 : decode cX10_stand 94 = .ok (.invokevirtual 142, 3) := by decide +kernel
theorem dX10_stand_97 : decode cX10_stand 97 = .ok (.iadd, 1) := by decide +kernel
theorem dX10_stand_98 : decode cX10_stand 98 = .ok (.iload_n 2, 1) := by decide +kernel
theorem dX10_stand_99 : decode cX10_stand 99 = .ok (.if_icmp .ne 8, 3) := by decide +kernel
theorem dX10_stand_102 : decode cX10_stand 102 = .ok (.iload 6, 2) := by decide +kernel
theorem dX10_stand_104 : decode cX10_stand 104 = .ok (.goto 5, 3) := by decide +kernel
theorem dX10_stand_107 : decode cX10_stand 107 = .ok (.iload 4, 2) := by decide +kernel
theorem dX10_stand_109 : decode cX10_stand 109 = .ok (.istore 4, 2) := by decide +kernel
theorem dX10_stand_111 : decode cX10_stand 111 = .ok (.iinc 6 1, 3) := by decide +kernel
theorem dX10_stand_114 : decode cX10_stand 114 = .ok (.goto (-64), 3) := by decide +kernel
theorem dX10_stand_117 : decode cX10_stand 117 = .ok (.iload_n 3, 1) := by decide +kernel
theorem dX10_stand_118 : decode cX10_stand 118 = .ok (.iload 4, 2) := by decide +kernel
theorem dX10_stand_120 : decode cX10_stand 120 = .ok (.ifCond .ge 7, 3) := by decide +kernel
theorem dX10_stand_123 : decode cX10_stand 123 = .ok (.iconst 0, 1) := by decide +kernel
theorem dX10_stand_124 : decode cX10_stand 124 = .ok (.goto 7, 3) := by decide +kernel
theorem dX10_stand_127 : decode cX10_stand 127 = .ok (.iconst 1, 1) := by decide +kernel
theorem dX10_stand_128 : decode cX10_stand 128 = .ok (.iload 4, 2) := by decide +kernel
theorem dX10_stand_130 : decode cX10_stand 130 = .ok (.ishl, 1) := by decide +kernel
theorem dX10_stand_131 : decode cX10_stand 131 = .ok (.ior, 1) := by decide +kernel
theorem dX10_stand_132 : decode cX10_stand 132 = .ok (.istore_n 3, 1) := by decide +kernel
theorem dX10_stand_133 : decode cX10_stand 133 = .ok (.iload_n 2, 1) := by decide +kernel
theorem dX10_stand_134 : decode cX10_stand 134 = .ok (.iload 4, 2) := by decide +kernel
theorem dX10_stand_136 : decode cX10_stand 136 = .ok (.ifCond .ge 7, 3) := by decide +kernel
theorem dX10_stand_139 : decode cX10_stand 139 = .ok (.iconst 0, 1) := by decide +kernel
theorem dX10_stand_140 : decode cX10_stand 140 = .ok (.goto 4, 3) := by decide +kernel
theorem dX10_stand_143 : decode cX10_stand 143 = .ok (.iconst 1, 1) := by decide +kernel
theorem dX10_stand_144 : decode cX10_stand 144 = .ok (.isub, 1) := by decide +kernel
theorem dX10_stand_145 : decode cX10_stand 145 = .ok (.istore_n 2, 1) := by decide +kernel
theorem dX10_stand_146 : decode cX10_stand 146 = .ok (.iinc 5 1, 3) := by decide +kernel
theorem dX10_stand_149 : decode cX10_stand 149 = .ok (.goto (-112), 3) := by decide +kernel
theorem dX10_stand_152 : decode cX10_stand 152 = .ok (.iload 4, 2) := by decide +kernel
theorem dX10_stand_154 : decode cX10_stand 154 = .ok (.ireturn, 1) := by decide +kernel
theorem dX10_wetOnes_0 : decode cX10_wetOnes 0 = .ok (.iload_n 1, 1) := by decide +kernel
theorem dX10_wetOnes_1 : decode cX10_wetOnes 1 = .ok (.bipush 10, 2) := by decide +kernel
theorem dX10_wetOnes_3 : decode cX10_wetOnes 3 = .ok (.idiv, 1) := by decide +kernel
theorem dX10_wetOnes_4 : decode cX10_wetOnes 4 = .ok (.istore_n 2, 1) := by decide +kernel
theorem dX10_wetOnes_5 : decode cX10_wetOnes 5 = .ok (.iconst 0, 1) := by decide +kernel
theorem dX10_wetOnes_6 : decode cX10_wetOnes 6 = .ok (.istore_n 3, 1) := by decide +kernel
theorem dX10_wetOnes_7 : decode cX10_wetOnes 7 = .ok (.iconst 0, 1) := by decide +kernel
theorem dX10_wetOnes_8 : decode cX10_wetOnes 8 = .ok (.istore 4, 2) := by decide +kernel
theorem dX10_wetOnes_10 : decode cX10_wetOnes 10 = .ok (.iconst 1, 1) := by decide +kernel
theorem dX10_wetOnes_11 : decode cX10_wetOnes 11 = .ok (.istore 5, 2) := by decide +kernel
theorem dX10_wetOnes_13 : decode cX10_wetOnes 13 = .ok (.iload 5, 2) := by decide +kernel
theorem dX10_wetOnes_15 : decode cX10_wetOnes 15 = .ok (.ifCond .eq 152, 3) := by decide +kernel
theorem dX10_wetOnes_18 : decode cX10_wetOnes 18 = .ok (.iload 4, 2) := by decide +kernel
theorem dX10_wetOnes_20 : decode cX10_wetOnes 20 = .ok (.bipush 13, 2) := by decide +kernel
theorem dX10_wetOnes_22 : decode cX10_wetOnes 22 = .ok (.if_icmp .ge 145, 3) := by decide +kernel
theorem dX10_wetOnes_25 : decode cX10_wetOnes 25 = .ok (.bipush (-6), 2) := by decide +kernel
theorem dX10_wetOnes_27 : decode cX10_wetOnes 27 = .ok (.istore 6, 2) := by decide +kernel
theorem dX10_wetOnes_29 : decode cX10_wetOnes 29 = .ok (.iload 4, 2) := by decide +kernel
theorem dX10_wetOnes_31 : decode cX10_wetOnes 31 = .ok (.iconst 1, 1) := by decide +kernel
theorem dX10_wetOnes_32 : decode cX10_wetOnes 32 = .ok (.iadd, 1) := by decide +kernel
theorem dX10_wetOnes_33 : decode cX10_wetOnes 33 = .ok (.istore 7, 2) := by decide +kernel
theorem dX10_wetOnes_35 : decode cX10_wetOnes 35 = .ok (.iload 7, 2) := by decide +kernel
theorem dX10_wetOnes_37 : decode cX10_wetOnes 37 = .ok (.iload 4, 2) := by decide +kernel
theorem dX10_wetOnes_39 : decode cX10_wetOnes 39 = .ok (.aload_n 0, 1) := by decide +kernel
theorem dX10_wetOnes_40 : decode cX10_wetOnes 40 = .ok (.getfield 13, 3) := by decide +kernel
theorem dX10_wetOnes_43 : decode cX10_wetOnes 43 = .ok (.bipush 26, 2) := by decide +kernel
theorem dX10_wetOnes_45 : decode cX10_wetOnes 45 = .ok (.iload_n 2, 1) := by decide +kernel
theorem dX10_wetOnes_46 : decode cX10_wetOnes 46 = .ok (.iadd, 1) := by decide +kernel
theorem dX10_wetOnes_47 : decode cX10_wetOnes 47 = .ok (.iaload, 1) := by decide +kernel
theorem dX10_wetOnes_48 : decode cX10_wetOnes 48 = .ok (.iadd, 1) := by decide +kernel
theorem dX10_wetOnes_49 : decode cX10_wetOnes 49 = .ok (.if_icmp .gt 66, 3) := by decide +kernel
theorem dX10_wetOnes_52 : decode cX10_wetOnes 52 = .ok (.iload 7, 2) := by decide +kernel
theorem dX10_wetOnes_54 : decode cX10_wetOnes 54 = .ok (.bipush 13, 2) := by decide +kernel
theorem dX10_wetOnes_56 : decode cX10_wetOnes 56 = .ok (.if_icmp .gt 59, 3) := by decide +kernel
theorem dX10_wetOnes_59 : decode cX10_wetOnes 59 = .ok (.iload 7, 2) := by decide +kernel
theorem dX10_wetOnes_61 : decode cX10_wetOnes 61 = .ok (.bipush 13, 2) := by decide +kernel
theorem dX10_wetOnes_63 : decode cX10_wetOnes 63 = .ok (.if_icmp .eq 13, 3) := by decide +kernel
theorem dX10_wetOnes_66 : decode cX10_wetOnes 66 = .ok (.aload_n 0, 1) := by decide +kernel
theorem dX10_wetOnes_67 : decode cX10_wetOnes 67 = .ok (.iload_n 2, 1) := by decide +kernel
theorem dX10_wetOnes_68 : decode cX10_wetOnes 68 = .ok (.iload 7, 2) := by decide +kernel
theorem dX10_wetOnes_70 : decode cX10_wetOnes 70 = .ok (.invokevirtual 90, 3) := by decide +kernel
theorem dX10_wetOnes_73 : decode cX10_wetOnes 73 = .ok (.ifCond .eq 7, 3) := by decide +kernel
theorem dX10_wetOnes_76 : decode cX10_wetOnes 76 = .ok (.iconst 1, 1) := by decide +kernel
theorem dX10_wetOnes_77 : decode cX10_wetOnes 77 = .ok (.goto 4, 3) := by decide +kernel
theorem dX10_wetOnes_80 : decode cX10_wetOnes 80 = .ok (.iconst 0, 1) := by decide +kernel
theorem dX10_wetOnes_81 : decode cX10_wetOnes 81 = .ok (.istore 8, 2) := by decide +kernel
theorem dX10_wetOnes_83 : decode cX10_wetOnes 83 = .ok (.iload 8, 2) := by decide +kernel
theorem dX10_wetOnes_85 : decode cX10_wetOnes 85 = .ok (.ifCond .eq 20, 3) := by decide +kernel
theorem dX10_wetOnes_88 : decode cX10_wetOnes 88 = .ok (.iload 6, 2) := by decide +kernel
theorem dX10_wetOnes_90 : decode cX10_wetOnes 90 = .ok (.ifCond .lt 10, 3) := by decide +kernel
theorem dX10_wetOnes_93 : decode cX10_wetOnes 93 = .ok (.iload_n 1, 1) := by decide +kernel
theorem dX10_wetOnes_94 : decode cX10_wetOnes 94 = .ok (.bipush 10, 2) := by decide +kernel
theorem dX10_wetOnes_96 : decode cX10_wetOnes 96 = .ok (.irem, 1) := by decide +kernel
theorem dX10_wetOnes_97 : decode cX10_wetOnes 97 = .ok (.ifCond .ne 8, 3) := by decide +kernel
theorem dX10_wetOnes_100 : decode cX10_wetOnes 100 = .ok (.iload 7, 2) := by decide +kernel
theorem dX10_wetOnes_102 : decode cX10_wetOnes 102 = .ok (.goto 5, 3) := by decide +kernel
theorem dX10_wetOnes_105 : decode cX10_wetOnes 105 = .ok (.iload 6, 2) := by decide +kernel
theorem dX10_wetOnes_107 : decode cX10_wetOnes 107 = .ok (.istore 6, 2) := by decide +kernel
theorem dX10_wetOnes_109 : decode cX10_wetOnes 109 = .ok (.iinc 7 1, 3) := by decide +kernel
theorem dX10_wetOnes_112 : decode cX10_wetOnes 112 = .ok (.goto (-77), 3) := by decide +kernel
theorem dX10_wetOnes_115 : decode cX10_wetOnes 115 = .ok (.iload 6, 2) := by decide +kernel
theorem dX10_wetOnes_117 : decode cX10_wetOnes 117 = .ok (.ifCond .le 7, 3) := by decide +kernel
theorem dX10_wetOnes_120 : decode cX10_wetOnes 120 = .ok (.iconst 1, 1) := by decide +kernel
theorem dX10_wetOnes_121 : decode cX10_wetOnes 121 = .ok (.goto 4, 3) := by decide +kernel
theorem dX10_wetOnes_124 : decode cX10_wetOnes 124 = .ok (.iconst 0, 1) := by decide +kernel
theorem dX10_wetOnes_125 : decode cX10_wetOnes 125 = .ok (.istore 5, 2) := by decide +kernel
theorem dX10_wetOnes_127 : decode cX10_wetOnes 127 = .ok (.iload 5, 2) := by decide +kernel
theorem dX10_wetOnes_129 : decode cX10_wetOnes 129 = .ok (.ifCond .eq 8, 3) := by decide +kernel
theorem dX10_wetOnes_132 : decode cX10_wetOnes 132 = .ok (.iload 6, 2) := by decide +kernel
theorem dX10_wetOnes_134 : decode cX10_wetOnes 134 = .ok (.goto 5, 3) := by decide +kernel
theorem dX10_wetOnes_137 : decode cX10_wetOnes 137 = .ok (.iload 4, 2) := by decide +kernel
theorem dX10_wetOnes_139 : decode cX10_wetOnes 139 = .ok (.istore 4, 2) := by decide +kernel
theorem dX10_wetOnes_141 : decode cX10_wetOnes 141 = .ok (.iload_n 3, 1) := by decide +kernel
theorem dX10_wetOnes_142 : decode cX10_wetOnes 142 = .ok (.iload 5, 2) := by decide +kernel
theorem dX10_wetOnes_144 : decode cX10_wetOnes 144 = .ok (.ifCond .eq 17, 3) := by decide +kernel
theorem dX10_wetOnes_147 : decode cX10_wetOnes 147 = .ok (.iload 6, 2) := by decide +kernel
theorem dX10_wetOnes_149 : decode cX10_wetOnes 149 = .ok (.bipush 13, 2) := by decide +kernel
theorem dX10_wetOnes_151 : decode cX10_wetOnes 151 = .ok (.if_icmp .ge 10, 3) := by decide +kernel
theorem dX10_wetOnes_154 : decode cX10_wetOnes 154 = .ok (.iconst 1, 1) := by decide +kernel
theorem dX10_wetOnes_155 : decode cX10_wetOnes 155 = .ok (.iload 6, 2) := by decide +kernel
theorem dX10_wetOnes_157 : decode cX10_wetOnes 157 = .ok (.ishl, 1) := by decide +kernel
theorem dX10_wetOnes_158 : decode cX10_wetOnes 158 = .ok (.goto 4, 3) := by decide +kernel
theorem dX10_wetOnes_161 : decode cX10_wetOnes 161 = .ok (.iconst 0, 1) := by decide +kernel
theorem dX10_wetOnes_162 : decode cX10_wetOnes 162 = .ok (.ior, 1) := by decide +kernel
theorem dX10_wetOnes_163 : decode cX10_wetOnes 163 = .ok (.istore_n 3, 1) := by decide +kernel
theorem dX10_wetOnes_164 : decode cX10_wetOnes 164 = .ok (.goto (-151), 3) := by decide +kernel
theorem dX10_wetOnes_167 : decode cX10_wetOnes 167 = .ok (.iload_n 3, 1) := by decide +kernel
theorem dX10_wetOnes_168 : decode cX10_wetOnes 168 = .ok (.ireturn, 1) := by decide +kernel
theorem dX10_felt_0 : decode cX10_felt 0 = .ok (.iload_n 1, 1) := by decide +kernel
theorem dX10_felt_1 : decode cX10_felt 1 = .ok (.invokestatic 73, 3) := by decide +kernel
theorem dX10_felt_4 : decode cX10_felt 4 = .ok (.ifCond .ne 5, 3) := by decide +kernel
theorem dX10_felt_7 : decode cX10_felt 7 = .ok (.iconst (-1), 1) := by decide +kernel
theorem dX10_felt_8 : decode cX10_felt 8 = .ok (.ireturn, 1) := by decide +kernel
theorem dX10_felt_9 : decode cX10_felt 9 = .ok (.aload_n 0, 1) := by decide +kernel
theorem dX10_felt_10 : decode cX10_felt 10 = .ok (.getfield 145, 3) := by decide +kernel
theorem dX10_felt_13 : decode cX10_felt 13 = .ok (.bipush 8, 2) := by decide +kernel
theorem dX10_felt_15 : decode cX10_felt 15 = .ok (.if_icmp .ne 6, 3) := by decide +kernel
theorem dX10_felt_18 : decode cX10_felt 18 = .ok (.bipush (-4), 2) := by decide +kernel
theorem dX10_felt_20 : decode cX10_felt 20 = .ok (.ireturn, 1) := by decide +kernel
theorem dX10_felt_21 : decode cX10_felt 21 = .ok (.aload_n 0, 1) := by decide +kernel
theorem dX10_felt_22 : decode cX10_felt 22 = .ok (.getfield 16, 3) := by decide +kernel
theorem dX10_felt_25 : decode cX10_felt 25 = .ok (.iconst 2, 1) := by decide +kernel
theorem dX10_felt_26 : decode cX10_felt 26 = .ok (.aload_n 0, 1) := by decide +kernel
theorem dX10_felt_27 : decode cX10_felt 27 = .ok (.getfield 145, 3) := by decide +kernel
theorem dX10_felt_30 : decode cX10_felt 30 = .ok (.imul, 1) := by decide +kernel
theorem dX10_felt_31 : decode cX10_felt 31 = .ok (.iload_n 1, 1) := by decide +kernel
theorem dX10_felt_32 : decode cX10_felt 32 = .ok (.iastore, 1) := by decide +kernel
theorem dX10_felt_33 : decode cX10_felt 33 = .ok (.aload_n 0, 1) := by decide +kernel
theorem dX10_felt_34 : decode cX10_felt 34 = .ok (.getfield 16, 3) := by decide +kernel
theorem dX10_felt_37 : decode cX10_felt 37 = .ok (.iconst 2, 1) := by decide +kernel
theorem dX10_felt_38 : decode cX10_felt 38 = .ok (.aload_n 0, 1) := by decide +kernel
theorem dX10_felt_39 : decode cX10_felt 39 = .ok (.getfield 145, 3) := by decide +kernel
theorem dX10_felt_42 : decode cX10_felt 42 = .ok (.imul, 1) := by decide +kernel
theorem dX10_felt_43 : decode cX10_felt 43 = .ok (.iconst 1, 1) := by decide +kernel
theorem dX10_felt_44 : decode cX10_felt 44 = .ok (.iadd, 1) := by decide +kernel
theorem dX10_felt_45 : decode cX10_felt 45 = .ok (.iload_n 2, 1) := by decide +kernel
theorem dX10_felt_46 : decode cX10_felt 46 = .ok (.ifCond .eq 7, 3) := by decide +kernel
theorem dX10_felt_49 : decode cX10_felt 49 = .ok (.iconst 1, 1) := by decide +kernel
theorem dX10_felt_50 : decode cX10_felt 50 = .ok (.goto 4, 3) := by decide +kernel
theorem dX10_felt_53 : decode cX10_felt 53 = .ok (.iconst 0, 1) := by decide +kernel
theorem dX10_felt_54 : decode cX10_felt 54 = .ok (.iastore, 1) := by decide +kernel
theorem dX10_felt_55 : decode cX10_felt 55 = .ok (.aload_n 0, 1) := by decide +kernel
theorem dX10_felt_56 : decode cX10_felt 56 = .ok (.dup, 1) := by decide +kernel
theorem dX10_felt_57 : decode cX10_felt 57 = .ok (.getfield 145, 3) := by decide +kernel
theorem dX10_felt_60 : decode cX10_felt 60 = .ok (.iconst 1, 1) := by decide +kernel
theorem dX10_felt_61 : decode cX10_felt 61 = .ok (.iadd, 1) := by decide +kernel
theorem dX10_felt_62 : decode cX10_felt 62 = .ok (.putfield 145, 3) := by decide +kernel
theorem dX10_felt_65 : decode cX10_felt 65 = .ok (.aload_n 0, 1) := by decide +kernel
theorem dX10_felt_66 : decode cX10_felt 66 = .ok (.getfield 145, 3) := by decide +kernel
theorem dX10_felt_69 : decode cX10_felt 69 = .ok (.ireturn, 1) := by decide +kernel
theorem dX10_forget_0 : decode cX10_forget 0 = .ok (.aload_n 0, 1) := by decide +kernel
theorem dX10_forget_1 : decode cX10_forget 1 = .ok (.getfield 145, 3) := by decide +kernel
theorem dX10_forget_4 : decode cX10_forget 4 = .ok (.istore_n 1, 1) := by decide +kernel
theorem dX10_forget_5 : decode cX10_forget 5 = .ok (.aload_n 0, 1) := by decide +kernel
theorem dX10_forget_6 : decode cX10_forget 6 = .ok (.iconst 0, 1) := by decide +kernel
theorem dX10_forget_7 : decode cX10_forget 7 = .ok (.putfield 145, 3) := by decide +kernel
theorem dX10_forget_10 : decode cX10_forget 10 = .ok (.iload_n 1, 1) := by decide +kernel
theorem dX10_forget_11 : decode cX10_forget 11 = .ok (.ireturn, 1) := by decide +kernel
theorem dX10_isFit_0 : decode cX10_isFit 0 = .ok (.iload_n 1, 1) := by decide +kernel
theorem dX10_isFit_1 : decode cX10_isFit 1 = .ok (.bipush 10, 2) := by decide +kernel
theorem dX10_isFit_3 : decode cX10_isFit 3 = .ok (.irem, 1) := by decide +kernel
theorem dX10_isFit_4 : decode cX10_isFit 4 = .ok (.iconst 2, 1) := by decide +kernel
theorem dX10_isFit_5 : decode cX10_isFit 5 = .ok (.if_icmp .ge 7, 3) := by decide +kernel
theorem dX10_isFit_8 : decode cX10_isFit 8 = .ok (.iconst 1, 1) := by decide +kernel
theorem dX10_isFit_9 : decode cX10_isFit 9 = .ok (.goto 4, 3) := by decide +kernel
theorem dX10_isFit_12 : decode cX10_isFit 12 = .ok (.iconst 0, 1) := by decide +kernel
theorem dX10_isFit_13 : decode cX10_isFit 13 = .ok (.istore_n 2, 1) := by decide +kernel
theorem dX10_isFit_14 : decode cX10_isFit 14 = .ok (.iconst 0, 1) := by decide +kernel
theorem dX10_isFit_15 : decode cX10_isFit 15 = .ok (.istore_n 3, 1) := by decide +kernel
theorem dX10_isFit_16 : decode cX10_isFit 16 = .ok (.iload_n 3, 1) := by decide +kernel
theorem dX10_isFit_17 : decode cX10_isFit 17 = .ok (.aload_n 0, 1) := by decide +kernel
theorem dX10_isFit_18 : decode cX10_isFit 18 = .ok (.getfield 145, 3) := by decide +kernel
theorem dX10_isFit_21 : decode cX10_isFit 21 = .ok (.if_icmp .ge 57, 3) := by decide +kernel
theorem dX10_isFit_24 : decode cX10_isFit 24 = .ok (.iload_n 2, 1) := by decide +kernel
theorem dX10_isFit_25 : decode cX10_isFit 25 = .ok (.ifCond .eq 53, 3) := by decide +kernel
theorem dX10_isFit_28 : decode cX10_isFit 28 = .ok (.aload_n 0, 1) := by decide +kernel
theorem dX10_isFit_29 : decode cX10_isFit 29 = .ok (.iload_n 1, 1) := by decide +kernel
theorem dX10_isFit_30 : decode cX10_isFit 30 = .ok (.invokevirtual 148, 3) := by decide +kernel
theorem dX10_isFit_33 : decode cX10_isFit 33 = .ok (.aload_n 0, 1) := by decide +kernel
theorem dX10_isFit_34 : decode cX10_isFit 34 = .ok (.getfield 16, 3) := by decide +kernel
theorem dX10_isFit_37 : decode cX10_isFit 37 = .ok (.iconst 2, 1) := by decide +kernel
theorem dX10_isFit_38 : decode cX10_isFit 38 = .ok (.iload_n 3, 1) := by decide +kernel
theorem dX10_isFit_39 : decode cX10_isFit 39 = .ok (.imul, 1) := by decide +kernel
theorem dX10_isFit_40 : decode cX10_isFit 40 = .ok (.iaload, 1) := by decide +kernel
theorem dX10_isFit_41 : decode cX10_isFit 41 = .ok (.invokestatic 65, 3) := by decide +kernel
theorem dX10_isFit_44 : decode cX10_isFit 44 = .ok (.aload_n 0, 1) := by decide +kernel
theorem dX10_isFit_45 : decode cX10_isFit 45 = .ok (.getfield 16, 3) := by decide +kernel
theorem dX10_isFit_48 : decode cX10_isFit 48 = .ok (.iconst 2, 1) := by decide +kernel
theorem dX10_isFit_49 : decode cX10_isFit 49 = .ok (.iload_n 3, 1) := by decide +kernel
theorem dX10_isFit_50 : decode cX10_isFit 50 = .ok (.imul, 1) := by decide +kernel
theorem dX10_isFit_51 : decode cX10_isFit 51 = .ok (.iconst 1, 1) := by decide +kernel
theorem dX10_isFit_52 : decode cX10_isFit 52 = .ok (.iadd, 1) := by decide +kernel
theorem dX10_isFit_53 : decode cX10_isFit 53 = .ok (.iaload, 1) := by decide +kernel
theorem dX10_isFit_54 : decode cX10_isFit 54 = .ok (.iconst 1, 1) := by decide +kernel
theorem dX10_isFit_55 : decode cX10_isFit 55 = .ok (.if_icmp .ne 7, 3) := by decide +kernel
theorem dX10_isFit_58 : decode cX10_isFit 58 = .ok (.iconst 1, 1) := by decide +kernel
theorem dX10_isFit_59 : decode cX10_isFit 59 = .ok (.goto 4, 3) := by decide +kernel
theorem dX10_isFit_62 : decode cX10_isFit 62 = .ok (.iconst 0, 1) := by decide +kernel
theorem dX10_isFit_63 : decode cX10_isFit 63 = .ok (.if_icmp .ne 7, 3) := by decide +kernel
theorem dX10_isFit_66 : decode cX10_isFit 66 = .ok (.iconst 1, 1) := by decide +kernel
theorem dX10_isFit_67 : decode cX10_isFit 67 = .ok (.goto 4, 3) := by decide +kernel
theorem dX10_isFit_70 : decode cX10_isFit 70 = .ok (.iconst 0, 1) := by decide +kernel
theorem dX10_isFit_71 : decode cX10_isFit 71 = .ok (.istore_n 2, 1) := by decide +kernel
theorem dX10_isFit_72 : decode cX10_isFit 72 = .ok (.iinc 3 1, 3) := by decide +kernel
theorem dX10_isFit_75 : decode cX10_isFit 75 = .ok (.goto (-59), 3) := by decide +kernel
theorem dX10_isFit_78 : decode cX10_isFit 78 = .ok (.iload_n 2, 1) := by decide +kernel
theorem dX10_isFit_79 : decode cX10_isFit 79 = .ok (.ireturn, 1) := by decide +kernel
theorem dX10_ups_0 : decode cX10_ups 0 = .ok (.aload_n 0, 1) := by decide +kernel
theorem dX10_ups_1 : decode cX10_ups 1 = .ok (.invokevirtual 110, 3) := by decide +kernel
theorem dX10_ups_4 : decode cX10_ups 4 = .ok (.iconst 0, 1) := by decide +kernel
theorem dX10_ups_5 : decode cX10_ups 5 = .ok (.istore_n 2, 1) := by decide +kernel
theorem dX10_ups_6 : decode cX10_ups 6 = .ok (.iconst 0, 1) := by decide +kernel
theorem dX10_ups_7 : decode cX10_ups 7 = .ok (.istore_n 3, 1) := by decide +kernel
theorem dX10_ups_8 : decode cX10_ups 8 = .ok (.iload_n 3, 1) := by decide +kernel
theorem dX10_ups_9 : decode cX10_ups 9 = .ok (.bipush 60, 2) := by decide +kernel
theorem dX10_ups_11 : decode cX10_ups 11 = .ok (.if_icmp .ge 27, 3) := by decide +kernel
theorem dX10_ups_14 : decode cX10_ups 14 = .ok (.aload_n 0, 1) := by decide +kernel
theorem dX10_ups_15 : decode cX10_ups 15 = .ok (.iload_n 3, 1) := by decide +kernel
theorem dX10_ups_16 : decode cX10_ups 16 = .ok (.invokevirtual 151, 3) := by decide +kernel
theorem dX10_ups_19 : decode cX10_ups 19 = .ok (.ifCond .eq 13, 3) := by decide +kernel
theorem dX10_ups_22 : decode cX10_ups 22 = .ok (.iload_n 2, 1) := by decide +kernel
theorem dX10_ups_23 : decode cX10_ups 23 = .ok (.iload_n 1, 1) := by decide +kernel
theorem dX10_ups_24 : decode cX10_ups 24 = .ok (.if_icmp .ne 5, 3) := by decide +kernel
theorem dX10_ups_27 : decode cX10_ups 27 = .ok (.iload_n 3, 1) := by decide +kernel
theorem dX10_ups_28 : decode cX10_ups 28 = .ok (.ireturn, 1) := by decide +kernel
theorem dX10_ups_29 : decode cX10_ups 29 = .ok (.iinc 2 1, 3) := by decide +kernel
theorem dX10_ups_32 : decode cX10_ups 32 = .ok (.iinc 3 1, 3) := by decide +kernel
theorem dX10_ups_35 : decode cX10_ups 35 = .ok (.goto (-27), 3) := by decide +kernel
theorem dX10_ups_38 : decode cX10_ups 38 = .ok (.iload_n 1, 1) := by decide +kernel
theorem dX10_ups_39 : decode cX10_ups 39 = .ok (.iconst (-1), 1) := by decide +kernel
theorem dX10_ups_40 : decode cX10_ups 40 = .ok (.if_icmp .ne 7, 3) := by decide +kernel
theorem dX10_ups_43 : decode cX10_ups 43 = .ok (.iload_n 2, 1) := by decide +kernel
theorem dX10_ups_44 : decode cX10_ups 44 = .ok (.goto 5, 3) := by decide +kernel
theorem dX10_ups_47 : decode cX10_ups 47 = .ok (.bipush (-6), 2) := by decide +kernel
theorem dX10_ups_49 : decode cX10_ups 49 = .ok (.ireturn, 1) := by decide +kernel
theorem dX10_ask_0 : decode cX10_ask 0 = .ok (.iload_n 1, 1) := by decide +kernel
theorem dX10_ask_1 : decode cX10_ask 1 = .ok (.iconst 0, 1) := by decide +kernel
theorem dX10_ask_2 : decode cX10_ask 2 = .ok (.iconst 1, 1) := by decide +kernel
theorem dX10_ask_3 : decode cX10_ask 3 = .ok (.invokestatic 48, 3) := by decide +kernel
theorem dX10_ask_6 : decode cX10_ask 6 = .ok (.ifCond .ne 6, 3) := by decide +kernel
theorem dX10_ask_9 : decode cX10_ask 9 = .ok (.bipush (-2), 2) := by decide +kernel
theorem dX10_ask_11 : decode cX10_ask 11 = .ok (.ireturn, 1) := by decide +kernel
theorem dX10_ask_12 : decode cX10_ask 12 = .ok (.aload_n 0, 1) := by decide +kernel
theorem dX10_ask_13 : decode cX10_ask 13 = .ok (.invokevirtual 110, 3) := by decide +kernel
theorem dX10_ask_16 : decode cX10_ask 16 = .ok (.bipush (-6), 2) := by decide +kernel
theorem dX10_ask_18 : decode cX10_ask 18 = .ok (.istore_n 2, 1) := by decide +kernel
theorem dX10_ask_19 : decode cX10_ask 19 = .ok (.ldc 134, 2) := by decide +kernel
theorem dX10_ask_21 : decode cX10_ask 21 = .ok (.istore_n 3, 1) := by decide +kernel
theorem dX10_ask_22 : decode cX10_ask 22 = .ok (.iconst 1, 1) := by decide +kernel
theorem dX10_ask_23 : decode cX10_ask 23 = .ok (.istore 4, 2) := by decide +kernel
theorem dX10_ask_25 : decode cX10_ask 25 = .ok (.iload 4, 2) := by decide +kernel
theorem dX10_ask_27 : decode cX10_ask 27 = .ok (.bipush 13, 2) := by decide +kernel
theorem dX10_ask_29 : decode cX10_ask 29 = .ok (.if_icmp .ge 147, 3) := by decide +kernel
theorem dX10_ask_32 : decode cX10_ask 32 = .ok (.iconst 0, 1) := by decide +kernel
theorem dX10_ask_33 : decode cX10_ask 33 = .ok (.istore 5, 2) := by decide +kernel
theorem dX10_ask_35 : decode cX10_ask 35 = .ok (.iconst 0, 1) := by decide +kernel
theorem dX10_ask_36 : decode cX10_ask 36 = .ok (.istore 6, 2) := by decide +kernel
theorem dX10_ask_38 : decode cX10_ask 38 = .ok (.iconst 0, 1) := by decide +kernel
theorem dX10_ask_39 : decode cX10_ask 39 = .ok (.istore 7, 2) := by decide +kernel
theorem dX10_ask_41 : decode cX10_ask 41 = .ok (.iload 7, 2) := by decide +kernel
theorem dX10_ask_43 : decode cX10_ask 43 = .ok (.bipush 60, 2) := by decide +kernel
theorem dX10_ask_45 : decode cX10_ask 45 = .ok (.if_icmp .ge 61, 3) := by decide +kernel
theorem dX10_ask_48 : decode cX10_ask 48 = .ok (.aload_n 0, 1) := by decide +kernel
theorem dX10_ask_49 : decode cX10_ask 49 = .ok (.iload 7, 2) := by decide +kernel
theorem dX10_ask_51 : decode cX10_ask 51 = .ok (.invokevirtual 151, 3) := by decide +kernel
theorem dX10_ask_54 : decode cX10_ask 54 = .ok (.istore 8, 2) := by decide +kernel
theorem dX10_ask_56 : decode cX10_ask 56 = .ok (.iload 5, 2) := by decide +kernel
theorem dX10_ask_58 : decode cX10_ask 58 = .ok (.iload 8, 2) := by decide +kernel
theorem dX10_ask_60 : decode cX10_ask 60 = .ok (.ifCond .eq 7, 3) := by decide +kernel
theorem dX10_ask_63 : decode cX10_ask 63 = .ok (.iconst 1, 1) := by decide +kernel
theorem dX10_ask_64 : decode cX10_ask 64 = .ok (.goto 4, 3) := by decide +kernel
theorem dX10_ask_67 : decode cX10_ask 67 = .ok (.iconst 0, 1) := by decide +kernel
theorem dX10_ask_68 : decode cX10_ask 68 = .ok (.iadd, 1) := by decide +kernel
theorem dX10_ask_69 : decode cX10_ask 69 = .ok (.istore 5, 2) := by decide +kernel
theorem dX10_ask_71 : decode cX10_ask 71 = .ok (.iload 6, 2) := by decide +kernel
theorem dX10_ask_73 : decode cX10_ask 73 = .ok (.iload 8, 2) := by decide +kernel
theorem dX10_ask_75 : decode cX10_ask 75 = .ok (.ifCond .eq 21, 3) := by decide +kernel
theorem dX10_ask_78 : decode cX10_ask 78 = .ok (.aload_n 0, 1) := by decide +kernel
theorem dX10_ask_79 : decode cX10_ask 79 = .ok (.iload 7, 2) := by decide +kernel
theorem dX10_ask_81 : decode cX10_ask 81 = .ok (.invokevirtual 148, 3) := by decide +kernel
theorem dX10_ask_84 : decode cX10_ask 84 = .ok (.iload 4, 2) := by decide +kernel
theorem dX10_ask_86 : decode cX10_ask 86 = .ok (.invokestatic 65, 3) := by decide +kernel
theorem dX10_ask_89 : decode cX10_ask 89 = .ok (.ifCond .eq 7, 3) := by decide +kernel
theorem dX10_ask_92 : decode cX10_ask 92 = .ok (.iconst 1, 1) := by decide +kernel
theorem dX10_ask_93 : decode cX10_ask 93 = .ok (.goto 4, 3) := by decide +kernel
theorem dX10_ask_96 : decode cX10_ask 96 = .ok (.iconst 0, 1) := by decide +kernel
theorem dX10_ask_97 : decode cX10_ask 97 = .ok (.iadd, 1) := by decide +kernel
theorem dX10_ask_98 : decode cX10_ask 98 = .ok (.istore 6, 2) := by decide +kernel
theorem dX10_ask_100 : decode cX10_ask 100 = .ok (.iinc 7 1, 3) := by decide +kernel
theorem dX10_ask_103 : decode cX10_ask 103 = .ok (.goto (-62), 3) := by decide +kernel
theorem dX10_ask_106 : decode cX10_ask 106 = .ok (.iload 6, 2) := by decide +kernel
theorem dX10_ask_108 : decode cX10_ask 108 = .ok (.iload 5, 2) := by decide +kernel
theorem dX10_ask_110 : decode cX10_ask 110 = .ok (.iload 6, 2) := by decide +kernel
theorem dX10_ask_112 : decode cX10_ask 112 = .ok (.isub, 1) := by decide +kernel
theorem dX10_ask_113 : decode cX10_ask 113 = .ok (.if_icmp .le 8, 3) := by decide +kernel
theorem dX10_ask_116 : decode cX10_ask 116 = .ok (.iload 6, 2) := by decide +kernel
theorem dX10_ask_118 : decode cX10_ask 118 = .ok (.goto 8, 3) := by decide +kernel
theorem dX10_ask_121 : decode cX10_ask 121 = .ok (.iload 5, 2) := by decide +kernel
theorem dX10_ask_123 : decode cX10_ask 123 = .ok (.iload 6, 2) := by decide +kernel
theorem dX10_ask_125 : decode cX10_ask 125 = .ok (.isub, 1) := by decide +kernel
theorem dX10_ask_126 : decode cX10_ask 126 = .ok (.istore 7, 2) := by decide +kernel
theorem dX10_ask_128 : decode cX10_ask 128 = .ok (.iload 5, 2) := by decide +kernel
theorem dX10_ask_130 : decode cX10_ask 130 = .ok (.ifCond .le 13, 3) := by decide +kernel
theorem dX10_ask_133 : decode cX10_ask 133 = .ok (.iload 7, 2) := by decide +kernel
theorem dX10_ask_135 : decode cX10_ask 135 = .ok (.iload_n 3, 1) := by decide +kernel
theorem dX10_ask_136 : decode cX10_ask 136 = .ok (.if_icmp .ge 7, 3) := by decide +kernel
theorem dX10_ask_139 : decode cX10_ask 139 = .ok (.iconst 1, 1) := by decide +kernel
theorem dX10_ask_140 : decode cX10_ask 140 = .ok (.goto 4, 3) := by decide +kernel
theorem dX10_ask_143 : decode cX10_ask 143 = .ok (.iconst 0, 1) := by decide +kernel
theorem dX10_ask_144 : decode cX10_ask 144 = .ok (.istore 8, 2) := by decide +kernel
theorem dX10_ask_146 : decode cX10_ask 146 = .ok (.iload 8, 2) := by decide +kernel
theorem dX10_ask_148 : decode cX10_ask 148 = .ok (.ifCond .eq 8, 3) := by decide +kernel
theorem dX10_ask_151 : decode cX10_ask 151 = .ok (.iload 4, 2) := by decide +kernel
theorem dX10_ask_153 : decode cX10_ask 153 = .ok (.goto 4, 3) := by decide +kernel
theorem dX10_ask_156 : decode cX10_ask 156 = .ok (.iload_n 2, 1) := by decide +kernel
theorem dX10_ask_157 : decode cX10_ask 157 = .ok (.istore_n 2, 1) := by decide +kernel
theorem dX10_ask_158 : decode cX10_ask 158 = .ok (.iload 8, 2) := by decide +kernel
theorem dX10_ask_160 : decode cX10_ask 160 = .ok (.ifCond .eq 8, 3) := by decide +kernel
theorem dX10_ask_163 : decode cX10_ask 163 = .ok (.iload 7, 2) := by decide +kernel
theorem dX10_ask_165 : decode cX10_ask 165 = .ok (.goto 4, 3) := by decide +kernel
theorem dX10_ask_168 : decode cX10_ask 168 = .ok (.iload_n 3, 1) := by decide +kernel
theorem dX10_ask_169 : decode cX10_ask 169 = .ok (.istore_n 3, 1) := by decide +kernel
theorem dX10_ask_170 : decode cX10_ask 170 = .ok (.iinc 4 1, 3) := by decide +kernel
theorem dX10_ask_173 : decode cX10_ask 173 = .ok (.goto (-148), 3) := by decide +kernel
theorem dX10_ask_176 : decode cX10_ask 176 = .ok (.iload_n 2, 1) := by decide +kernel
theorem dX10_ask_177 : decode cX10_ask 177 = .ok (.ifCond .lt 7, 3) := by decide +kernel
theorem dX10_ask_180 : decode cX10_ask 180 = .ok (.iload_n 1, 1) := by decide +kernel
theorem dX10_ask_181 : decode cX10_ask 181 = .ok (.ifCond .ne 7, 3) := by decide +kernel
theorem dX10_ask_184 : decode cX10_ask 184 = .ok (.iload_n 2, 1) := by decide +kernel
theorem dX10_ask_185 : decode cX10_ask 185 = .ok (.goto 4, 3) := by decide +kernel
theorem dX10_ask_188 : decode cX10_ask 188 = .ok (.iload_n 3, 1) := by decide +kernel
theorem dX10_ask_189 : decode cX10_ask 189 = .ok (.ireturn, 1) := by decide +kernel
theorem dX10_firstDown_0 : decode cX10_firstDown 0 = .ok (.iconst 2, 1) := by decide +kernel
theorem dX10_firstDown_1 : decode cX10_firstDown 1 = .ok (.istore_n 2, 1) := by decide +kernel
theorem dX10_firstDown_2 : decode cX10_firstDown 2 = .ok (.iload_n 2, 1) := by decide +kernel
theorem dX10_firstDown_3 : decode cX10_firstDown 3 = .ok (.bipush 13, 2) := by decide +kernel
theorem dX10_firstDown_5 : decode cX10_firstDown 5 = .ok (.if_icmp .ge 91, 3) := by decide +kernel
theorem dX10_firstDown_8 : decode cX10_firstDown 8 = .ok (.iload_n 1, 1) := by decide +kernel
theorem dX10_firstDown_9 : decode cX10_firstDown 9 = .ok (.iload_n 2, 1) := by decide +kernel
theorem dX10_firstDown_10 : decode cX10_firstDown 10 = .ok (.iconst 1, 1) := by decide +kernel
theorem dX10_firstDown_11 : decode cX10_firstDown 11 = .ok (.isub, 1) := by decide +kernel
theorem dX10_firstDown_12 : decode cX10_firstDown 12 = .ok (.invokestatic 65, 3) := by decide +kernel
theorem dX10_firstDown_15 : decode cX10_firstDown 15 = .ok (.ifCond .eq 75, 3) := by decide +kernel
theorem dX10_firstDown_18 : decode cX10_firstDown 18 = .ok (.bipush (-6), 2) := by decide +kernel
theorem dX10_firstDown_20 : decode cX10_firstDown 20 = .ok (.istore_n 3, 1) := by decide +kernel
theorem dX10_firstDown_21 : decode cX10_firstDown 21 = .ok (.iload_n 2, 1) := by decide +kernel
theorem dX10_firstDown_22 : decode cX10_firstDown 22 = .ok (.iconst 1, 1) := by decide +kernel
theorem dX10_firstDown_23 : decode cX10_firstDown 23 = .ok (.isub, 1) := by decide +kernel
theorem dX10_firstDown_24 : decode cX10_firstDown 24 = .ok (.istore 4, 2) := by decide +kernel
theorem dX10_firstDown_26 : decode cX10_firstDown 26 = .ok (.iload 4, 2) := by decide +kernel
theorem dX10_firstDown_28 : decode cX10_firstDown 28 = .ok (.ifCond .le 56, 3) := by decide +kernel
theorem dX10_firstDown_31 : decode cX10_firstDown 31 = .ok (.iload_n 1, 1) := by decide +kernel
theorem dX10_firstDown_32 : decode cX10_firstDown 32 = .ok (.iload 4, 2) := by decide +kernel
theorem dX10_firstDown_34 : decode cX10_firstDown 34 = .ok (.iconst 1, 1) := by decide +kernel
theorem dX10_firstDown_35 : decode cX10_firstDown 35 = .ok (.isub, 1) := by decide +kernel
theorem dX10_firstDown_36 : decode cX10_firstDown 36 = .ok (.invokestatic 65, 3) := by decide +kernel
theorem dX10_firstDown_39 : decode cX10_firstDown 39 = .ok (.ifCond .ne 45, 3) := by decide +kernel
theorem dX10_firstDown_42 : decode cX10_firstDown 42 = .ok (.aload_n 0, 1) := by decide +kernel
theorem dX10_firstDown_43 : decode cX10_firstDown 43 = .ok (.getfield 32, 3) := by decide +kernel
theorem dX10_firstDown_46 : decode cX10_firstDown 46 = .ok (.iload_n 1, 1) := by decide +kernel
theorem dX10_firstDown_47 : decode cX10_firstDown 47 = .ok (.iconst 1, 1) := by decide +kernel
theorem dX10_firstDown_48 : decode cX10_firstDown 48 = .ok (.iload_n 2, 1) := by decide +kernel
theorem dX10_firstDown_49 : decode cX10_firstDown 49 = .ok (.iconst 1, 1) := by decide +kernel
theorem dX10_firstDown_50 : decode cX10_firstDown 50 = .ok (.isub, 1) := by decide +kernel
theorem dX10_firstDown_51 : decode cX10_firstDown 51 = .ok (.ishl, 1) := by decide +kernel
theorem dX10_firstDown_52 : decode cX10_firstDown 52 = .ok (.iconst (-1), 1) := by decide +kernel
theorem dX10_firstDown_53 : decode cX10_firstDown 53 = .ok (.ixor, 1) := by decide +kernel
theorem dX10_firstDown_54 : decode cX10_firstDown 54 = .ok (.iand, 1) := by decide +kernel
theorem dX10_firstDown_55 : decode cX10_firstDown 55 = .ok (.iconst 1, 1) := by decide +kernel
theorem dX10_firstDown_56 : decode cX10_firstDown 56 = .ok (.iload 4, 2) := by decide +kernel
theorem dX10_firstDown_58 : decode cX10_firstDown 58 = .ok (.iconst 1, 1) := by decide +kernel
theorem dX10_firstDown_59 : decode cX10_firstDown 59 = .ok (.isub, 1) := by decide +kernel
theorem dX10_firstDown_60 : decode cX10_firstDown 60 = .ok (.ishl, 1) := by decide +kernel
theorem dX10_firstDown_61 : decode cX10_firstDown 61 = .ok (.ior, 1) := by decide +kernel
theorem dX10_firstDown_62 : decode cX10_firstDown 62 = .ok (.baload, 1) := by decide +kernel
theorem dX10_firstDown_63 : decode cX10_firstDown 63 = .ok (.ifCond .eq 7, 3) := by decide +kernel
theorem dX10_firstDown_66 : decode cX10_firstDown 66 = .ok (.iload_n 3, 1) := by decide +kernel
theorem dX10_firstDown_67 : decode cX10_firstDown 67 = .ok (.goto 10, 3) := by decide +kernel
theorem dX10_firstDown_70 : decode cX10_firstDown 70 = .ok (.bipush 100, 2) := by decide +kernel
theorem dX10_firstDown_72 : decode cX10_firstDown 72 = .ok (.iload_n 2, 1) := by decide +kernel
theorem dX10_firstDown_73 : decode cX10_firstDown 73 = .ok (.imul, 1) := by decide +kernel
theorem dX10_firstDown_74 : decode cX10_firstDown 74 = .ok (.iload 4, 2) := by decide +kernel
theorem dX10_firstDown_76 : decode cX10_firstDown 76 = .ok (.iadd, 1) := by decide +kernel
theorem dX10_firstDown_77 : decode cX10_firstDown 77 = .ok (.istore_n 3, 1) := by decide +kernel
theorem dX10_firstDown_78 : decode cX10_firstDown 78 = .ok (.iinc 4 (-1), 3) := by decide +kernel
theorem dX10_firstDown_81 : decode cX10_firstDown 81 = .ok (.goto (-55), 3) := by decide +kernel
theorem dX10_firstDown_84 : decode cX10_firstDown 84 = .ok (.iload_n 3, 1) := by decide +kernel
theorem dX10_firstDown_85 : decode cX10_firstDown 85 = .ok (.ifCond .le 5, 3) := by decide +kernel
theorem dX10_firstDown_88 : decode cX10_firstDown 88 = .ok (.iload_n 3, 1) := by decide +kernel
theorem dX10_firstDown_89 : decode cX10_firstDown 89 = .ok (.ireturn, 1) := by decide +kernel
theorem dX10_firstDown_90 : decode cX10_firstDown 90 = .ok (.iinc 2 1, 3) := by decide +kernel
theorem dX10_firstDown_93 : decode cX10_firstDown 93 = .ok (.goto (-91), 3) := by decide +kernel
theorem dX10_firstDown_96 : decode cX10_firstDown 96 = .ok (.bipush (-6), 2) := by decide +kernel
theorem dX10_firstDown_98 : decode cX10_firstDown 98 = .ok (.ireturn, 1) := by decide +kernel
theorem dX10_down_0 : decode cX10_down 0 = .ok (.iload_n 1, 1) := by decide +kernel
theorem dX10_down_1 : decode cX10_down 1 = .ok (.iconst 0, 1) := by decide +kernel
theorem dX10_down_2 : decode cX10_down 2 = .ok (.sipush 4095, 3) := by decide +kernel
theorem dX10_down_5 : decode cX10_down 5 = .ok (.invokestatic 48, 3) := by decide +kernel
theorem dX10_down_8 : decode cX10_down 8 = .ok (.ifCond .eq 12, 3) := by decide +kernel
theorem dX10_down_11 : decode cX10_down 11 = .ok (.iload_n 2, 1) := by decide +kernel
theorem dX10_down_12 : decode cX10_down 12 = .ok (.iconst 0, 1) := by decide +kernel
theorem dX10_down_13 : decode cX10_down 13 = .ok (.iconst 1, 1) := by decide +kernel
theorem dX10_down_14 : decode cX10_down 14 = .ok (.invokestatic 48, 3) := by decide +kernel
theorem dX10_down_17 : decode cX10_down 17 = .ok (.ifCond .ne 6, 3) := by decide +kernel
theorem dX10_down_20 : decode cX10_down 20 = .ok (.bipush (-2), 2) := by decide +kernel
theorem dX10_down_22 : decode cX10_down 22 = .ok (.ireturn, 1) := by decide +kernel
theorem dX10_down_23 : decode cX10_down 23 = .ok (.iconst 0, 1) := by decide +kernel
theorem dX10_down_24 : decode cX10_down 24 = .ok (.istore_n 3, 1) := by decide +kernel
theorem dX10_down_25 : decode cX10_down 25 = .ok (.iload_n 3, 1) := by decide +kernel
theorem dX10_down_26 : decode cX10_down 26 = .ok (.iload_n 1, 1) := by decide +kernel
theorem dX10_down_27 : decode cX10_down 27 = .ok (.if_icmp .ge 28, 3) := by decide +kernel
theorem dX10_down_30 : decode cX10_down 30 = .ok (.aload_n 0, 1) := by decide +kernel
theorem dX10_down_31 : decode cX10_down 31 = .ok (.getfield 32, 3) := by decide +kernel
theorem dX10_down_34 : decode cX10_down 34 = .ok (.iload_n 3, 1) := by decide +kernel
theorem dX10_down_35 : decode cX10_down 35 = .ok (.aload_n 0, 1) := by decide +kernel
theorem dX10_down_36 : decode cX10_down 36 = .ok (.iload_n 3, 1) := by decide +kernel
theorem dX10_down_37 : decode cX10_down 37 = .ok (.invokevirtual 154, 3) := by decide +kernel
theorem dX10_down_40 : decode cX10_down 40 = .ok (.ifCond .le 7, 3) := by decide +kernel
theorem dX10_down_43 : decode cX10_down 43 = .ok (.iconst 1, 1) := by decide +kernel
theorem dX10_down_44 : decode cX10_down 44 = .ok (.goto 4, 3) := by decide +kernel
theorem dX10_down_47 : decode cX10_down 47 = .ok (.iconst 0, 1) := by decide +kernel
theorem dX10_down_48 : decode cX10_down 48 = .ok (.bastore, 1) := by decide +kernel
theorem dX10_down_49 : decode cX10_down 49 = .ok (.iinc 3 1, 3) := by decide +kernel
theorem dX10_down_52 : decode cX10_down 52 = .ok (.goto (-27), 3) := by decide +kernel
theorem dX10_down_55 : decode cX10_down 55 = .ok (.aload_n 0, 1) := by decide +kernel
theorem dX10_down_56 : decode cX10_down 56 = .ok (.iload_n 1, 1) := by decide +kernel
theorem dX10_down_57 : decode cX10_down 57 = .ok (.invokevirtual 154, 3) := by decide +kernel
theorem dX10_down_60 : decode cX10_down 60 = .ok (.istore_n 3, 1) := by decide +kernel
theorem dX10_down_61 : decode cX10_down 61 = .ok (.iload_n 2, 1) := by decide +kernel
theorem dX10_down_62 : decode cX10_down 62 = .ok (.iconst 1, 1) := by decide +kernel
theorem dX10_down_63 : decode cX10_down 63 = .ok (.if_icmp .ne 7, 3) := by decide +kernel
theorem dX10_down_66 : decode cX10_down 66 = .ok (.iload_n 3, 1) := by decide +kernel
theorem dX10_down_67 : decode cX10_down 67 = .ok (.goto 12, 3) := by decide +kernel
theorem dX10_down_70 : decode cX10_down 70 = .ok (.iload_n 3, 1) := by decide +kernel
theorem dX10_down_71 : decode cX10_down 71 = .ok (.ifCond .ge 7, 3) := by decide +kernel
theorem dX10_down_74 : decode cX10_down 74 = .ok (.iconst 0, 1) := by decide +kernel
theorem dX10_down_75 : decode cX10_down 75 = .ok (.goto 4, 3) := by decide +kernel
theorem dX10_down_78 : decode cX10_down 78 = .ok (.iconst 1, 1) := by decide +kernel
theorem dX10_down_79 : decode cX10_down 79 = .ok (.ireturn, 1) := by decide +kernel
theorem dX10_foot_0 : decode cX10_foot 0 = .ok (.iload_n 2, 1) := by decide +kernel
theorem dX10_foot_1 : decode cX10_foot 1 = .ok (.invokestatic 73, 3) := by decide +kernel
theorem dX10_foot_4 : decode cX10_foot 4 = .ok (.ifCond .ne 7, 3) := by decide +kernel
theorem dX10_foot_7 : decode cX10_foot 7 = .ok (.ldc2_w 157, 3) := by decide +kernel
theorem dX10_foot_10 : decode cX10_foot 10 = .ok (.lreturn, 1) := by decide +kernel
theorem dX10_foot_11 : decode cX10_foot 11 = .ok (.iload_n 1, 1) := by decide +kernel
theorem dX10_foot_12 : decode cX10_foot 12 = .ok (.iconst 1, 1) := by decide +kernel
theorem dX10_foot_13 : decode cX10_foot 13 = .ok (.iconst 4, 1) := by decide +kernel
theorem dX10_foot_14 : decode cX10_foot 14 = .ok (.invokestatic 48, 3) := by decide +kernel
theorem dX10_foot_17 : decode cX10_foot 17 = .ok (.ifCond .eq 22, 3) := by decide +kernel
theorem dX10_foot_20 : decode cX10_foot 20 = .ok (.iload_n 3, 1) := by decide +kernel
theorem dX10_foot_21 : decode cX10_foot 21 = .ok (.iconst 0, 1) := by decide +kernel
theorem dX10_foot_22 : decode cX10_foot 22 = .ok (.iconst 1, 1) := by decide +kernel
theorem dX10_foot_23 : decode cX10_foot 23 = .ok (.invokestatic 48, 3) := by decide +kernel
theorem dX10_foot_26 : decode cX10_foot 26 = .ok (.ifCond .eq 13, 3) := by decide +kernel
theorem dX10_foot_29 : decode cX10_foot 29 = .ok (.iload 4, 2) := by decide +kernel
theorem dX10_foot_31 : decode cX10_foot 31 = .ok (.iconst 0, 1) := by decide +kernel
theorem dX10_foot_32 : decode cX10_foot 32 = .ok (.iconst 1, 1) := by decide +kernel
theorem dX10_foot_33 : decode cX10_foot 33 = .ok (.invokestatic 48, 3) := by decide +kernel
theorem dX10_foot_36 : decode cX10_foot 36 = .ok (.ifCond .ne 7, 3) := by decide +kernel
theorem dX10_foot_39 : decode cX10_foot 39 = .ok (.ldc2_w 159, 3) := by decide +kernel
theorem dX10_foot_42 : decode cX10_foot 42 = .ok (.lreturn, 1) := by decide +kernel
theorem dX10_foot_43 : decode cX10_foot 43 = .ok (.lconst 1, 1) := by decide +kernel
theorem dX10_foot_44 : decode cX10_foot 44 = .ok (.lstore 5, 2) := by decide +kernel
theorem dX10_foot_46 : decode cX10_foot 46 = .ok (.aload_n 0, 1) := by decide +kernel
theorem dX10_foot_47 : decode cX10_foot 47 = .ok (.getfield 35, 3) := by decide +kernel
theorem dX10_foot_50 : decode cX10_foot 50 = .ok (.iconst 0, 1) := by decide +kernel
theorem dX10_foot_51 : decode cX10_foot 51 = .ok (.lconst 1, 1) := by decide +kernel
theorem dX10_foot_52 : decode cX10_foot 52 = .ok (.lastore, 1) := by decide +kernel
theorem dX10_foot_53 : decode cX10_foot 53 = .ok (.aload_n 0, 1) := by decide +kernel
theorem dX10_foot_54 : decode cX10_foot 54 = .ok (.getfield 39, 3) := by decide +kernel
theorem dX10_foot_57 : decode cX10_foot 57 = .ok (.iconst 0, 1) := by decide +kernel
theorem dX10_foot_58 : decode cX10_foot 58 = .ok (.lconst 0, 1) := by decide +kernel
theorem dX10_foot_59 : decode cX10_foot 59 = .ok (.lastore, 1) := by decide +kernel
theorem dX10_foot_60 : decode cX10_foot 60 = .ok (.iconst 1, 1) := by decide +kernel
theorem dX10_foot_61 : decode cX10_foot 61 = .ok (.istore 7, 2) := by decide +kernel
theorem dX10_foot_63 : decode cX10_foot 63 = .ok (.iload 7, 2) := by decide +kernel
theorem dX10_foot_65 : decode cX10_foot 65 = .ok (.iload_n 2, 1) := by decide +kernel
theorem dX10_foot_66 : decode cX10_foot 66 = .ok (.if_icmp .gt 111, 3) := by decide +kernel
theorem dX10_foot_69 : decode cX10_foot 69 = .ok (.lload 5, 2) := by decide +kernel
theorem dX10_foot_71 : decode cX10_foot 71 = .ok (.iload_n 1, 1) := by decide +kernel
theorem dX10_foot_72 : decode cX10_foot 72 = .ok (.i2l, 1) := by decide +kernel
theorem dX10_foot_73 : decode cX10_foot 73 = .ok (.lmul, 1) := by decide +kernel
theorem dX10_foot_74 : decode cX10_foot 74 = .ok (.lstore 5, 2) := by decide +kernel
theorem dX10_foot_76 : decode cX10_foot 76 = .ok (.aload_n 0, 1) := by decide +kernel
theorem dX10_foot_77 : decode cX10_foot 77 = .ok (.getfield 35, 3) := by decide +kernel
theorem dX10_foot_80 : decode cX10_foot 80 = .ok (.iload 7, 2) := by decide +kernel
theorem dX10_foot_82 : decode cX10_foot 82 = .ok (.lconst 0, 1) := by decide +kernel
theorem dX10_foot_83 : decode cX10_foot 83 = .ok (.lastore, 1) := by decide +kernel
theorem dX10_foot_84 : decode cX10_foot 84 = .ok (.aload_n 0, 1) := by decide +kernel
theorem dX10_foot_85 : decode cX10_foot 85 = .ok (.getfield 39, 3) := by decide +kernel
theorem dX10_foot_88 : decode cX10_foot 88 = .ok (.iload 7, 2) := by decide +kernel
theorem dX10_foot_90 : decode cX10_foot 90 = .ok (.lload 5, 2) := by decide +kernel
theorem dX10_foot_92 : decode cX10_foot 92 = .ok (.lastore, 1) := by decide +kernel
theorem dX10_foot_93 : decode cX10_foot 93 = .ok (.lconst 1, 1) := by decide +kernel
theorem dX10_foot_94 : decode cX10_foot 94 = .ok (.lstore 8, 2) := by decide +kernel
theorem dX10_foot_96 : decode cX10_foot 96 = .ok (.iconst 1, 1) := by decide +kernel
theorem dX10_foot_97 : decode cX10_foot 97 = .ok (.istore 10, 2) := by decide +kernel
theorem dX10_foot_99 : decode cX10_foot 99 = .ok (.iload 10, 2) := by decide +kernel
theorem dX10_foot_101 : decode cX10_foot 101 = .ok (.iload_n 1, 1) := by decide +kernel
theorem dX10_foot_102 : decode cX10_foot 102 = .ok (.if_icmp .gt 69, 3) := by decide +kernel
theorem dX10_foot_105 : decode cX10_foot 105 = .ok (.iload 10, 2) := by decide +kernel
theorem dX10_foot_107 : decode cX10_foot 107 = .ok (.iload 7, 2) := by decide +kernel
theorem dX10_foot_109 : decode cX10_foot 109 = .ok (.if_icmp .gt 62, 3) := by decide +kernel
theorem dX10_foot_112 : decode cX10_foot 112 = .ok (.aload_n 0, 1) := by decide +kernel
theorem dX10_foot_113 : decode cX10_foot 113 = .ok (.getfield 35, 3) := by decide +kernel
theorem dX10_foot_116 : decode cX10_foot 116 = .ok (.iload 7, 2) := by decide +kernel
theorem dX10_foot_118 : decode cX10_foot 118 = .ok (.dup2, 1) := by decide +kernel
theorem dX10_foot_119 : decode cX10_foot 119 = .ok (.laload, 1) := by decide +kernel
theorem dX10_foot_120 : decode cX10_foot 120 = .ok (.aload_n 0, 1) := by decide +kernel
theorem dX10_foot_121 : decode cX10_foot 121 = .ok (.getfield 35, 3) := by decide +kernel
theorem dX10_foot_124 : decode cX10_foot 124 = .ok (.iload 7, 2) := by decide +kernel
theorem dX10_foot_126 : decode cX10_foot 126 = .ok (.iload 10, 2) := by decide +kernel
theorem dX10_foot_128 : decode cX10_foot 128 = .ok (.isub, 1) := by decide +kernel
theorem dX10_foot_129 : decode cX10_foot 129 = .ok (.laload, 1) := by decide +kernel
theorem dX10_foot_130 : decode cX10_foot 130 = .ok (.lload 8, 2) := by decide +kernel
theorem dX10_foot_132 : decode cX10_foot 132 = .ok (.lmul, 1) := by decide +kernel
theorem dX10_foot_133 : decode cX10_foot 133 = .ok (.ladd, 1) := by decide +kernel
theorem dX10_foot_134 : decode cX10_foot 134 = .ok (.lastore, 1) := by decide +kernel
theorem dX10_foot_135 : decode cX10_foot 135 = .ok (.aload_n 0, 1) := by decide +kernel
theorem dX10_foot_136 : decode cX10_foot 136 = .ok (.getfield 39, 3) := by decide +kernel
theorem dX10_foot_139 : decode cX10_foot 139 = .ok (.iload 7, 2) := by decide +kernel
theorem dX10_foot_141 : decode cX10_foot 141 = .ok (.dup2, 1) := by decide +kernel
theorem dX10_foot_142 : decode cX10_foot 142 = .ok (.laload, 1) := by decide +kernel
theorem dX10_foot_143 : decode cX10_foot 143 = .ok (.aload_n 0, 1) := by decide +kernel
theorem dX10_foot_144 : decode cX10_foot 144 = .ok (.getfield 39, 3) := by decide +kernel
theorem dX10_foot_147 : decode cX10_foot 147 = .ok (.iload 7, 2) := by decide +kernel
theorem dX10_foot_149 : decode cX10_foot 149 = .ok (.iload 10, 2) := by decide +kernel
theorem dX10_foot_151 : decode cX10_foot 151 = .ok (.isub, 1) := by decide +kernel
theorem dX10_foot_152 : decode cX10_foot 152 = .ok (.laload, 1) := by decide +kernel
theorem dX10_foot_153 : decode cX10_foot 153 = .ok (.lload 8, 2) := by decide +kernel
theorem dX10_foot_155 : decode cX10_foot 155 = .ok (.lmul, 1) := by decide +kernel
theorem dX10_foot_156 : decode cX10_foot 156 = .ok (.ladd, 1) := by decide +kernel
theorem dX10_foot_157 : decode cX10_foot 157 = .ok (.lastore, 1) := by decide +kernel
theorem dX10_foot_158 : decode cX10_foot 158 = .ok (.lload 8, 2) := by decide +kernel
theorem dX10_foot_160 : decode cX10_foot 160 = .ok (.iload_n 1, 1) := by decide +kernel
theorem dX10_foot_161 : decode cX10_foot 161 = .ok (.i2l, 1) := by decide +kernel
theorem dX10_foot_162 : decode cX10_foot 162 = .ok (.lmul, 1) := by decide +kernel
theorem dX10_foot_163 : decode cX10_foot 163 = .ok (.lstore 8, 2) := by decide +kernel
theorem dX10_foot_165 : decode cX10_foot 165 = .ok (.iinc 10 1, 3) := by decide +kernel
theorem dX10_foot_168 : decode cX10_foot 168 = .ok (.goto (-69), 3) := by decide +kernel
theorem dX10_foot_171 : decode cX10_foot 171 = .ok (.iinc 7 1, 3) := by decide +kernel
theorem dX10_foot_174 : decode cX10_foot 174 = .ok (.goto (-111), 3) := by decide +kernel
theorem dX10_foot_177 : decode cX10_foot 177 = .ok (.iload_n 3, 1) := by decide +kernel
theorem dX10_foot_178 : decode cX10_foot 178 = .ok (.ifCond .ne 12, 3) := by decide +kernel
theorem dX10_foot_181 : decode cX10_foot 181 = .ok (.aload_n 0, 1) := by decide +kernel
theorem dX10_foot_182 : decode cX10_foot 182 = .ok (.getfield 35, 3) := by decide +kernel
theorem dX10_foot_185 : decode cX10_foot 185 = .ok (.iload_n 2, 1) := by decide +kernel
theorem dX10_foot_186 : decode cX10_foot 186 = .ok (.laload, 1) := by decide +kernel
theorem dX10_foot_187 : decode cX10_foot 187 = .ok (.goto 9, 3) := by decide +kernel
theorem dX10_foot_190 : decode cX10_foot 190 = .ok (.aload_n 0, 1) := by decide +kernel
theorem dX10_foot_191 : decode cX10_foot 191 = .ok (.getfield 39, 3) := by decide +kernel
theorem dX10_foot_194 : decode cX10_foot 194 = .ok (.iload_n 2, 1) := by decide +kernel
theorem dX10_foot_195 : decode cX10_foot 195 = .ok (.laload, 1) := by decide +kernel
theorem dX10_foot_196 : decode cX10_foot 196 = .ok (.lstore 7, 2) := by decide +kernel
theorem dX10_foot_198 : decode cX10_foot 198 = .ok (.lload 7, 2) := by decide +kernel
theorem dX10_foot_200 : decode cX10_foot 200 = .ok (.lstore 9, 2) := by decide +kernel
theorem dX10_foot_202 : decode cX10_foot 202 = .ok (.lload 5, 2) := by decide +kernel
theorem dX10_foot_204 : decode cX10_foot 204 = .ok (.lstore 11, 2) := by decide +kernel
theorem dX10_foot_206 : decode cX10_foot 206 = .ok (.lload 11, 2) := by decide +kernel
theorem dX10_foot_208 : decode cX10_foot 208 = .ok (.lconst 0, 1) := by decide +kernel
theorem dX10_foot_209 : decode cX10_foot 209 = .ok (.lcmp, 1) := by decide +kernel
theorem dX10_foot_210 : decode cX10_foot 210 = .ok (.ifCond .eq 21, 3) := by decide +kernel
theorem dX10_foot_213 : decode cX10_foot 213 = .ok (.lload 9, 2) := by decide +kernel
theorem dX10_foot_215 : decode cX10_foot 215 = .ok (.lload 11, 2) := by decide +kernel
theorem dX10_foot_217 : decode cX10_foot 217 = .ok (.lrem, 1) := by decide +kernel
theorem dX10_foot_218 : decode cX10_foot 218 = .ok (.lstore 13, 2) := by decide +kernel
theorem dX10_foot_220 : decode cX10_foot 220 = .ok (.lload 11, 2) := by decide +kernel
theorem dX10_foot_222 : decode cX10_foot 222 = .ok (.lstore 9, 2) := by decide +kernel
theorem dX10_foot_224 : decode cX10_foot 224 = .ok (.lload 13, 2) := by decide +kernel
theorem dX10_foot_226 : decode cX10_foot 226 = .ok (.lstore 11, 2) := by decide +kernel
theorem dX10_foot_228 : decode cX10_foot 228 = .ok (.goto (-22), 3) := by decide +kernel
theorem dX10_foot_231 : decode cX10_foot 231 = .ok (.iload 4, 2) := by decide +kernel
theorem dX10_foot_233 : decode cX10_foot 233 = .ok (.ifCond .ne 11, 3) := by decide +kernel
theorem dX10_foot_236 : decode cX10_foot 236 = .ok (.lload 7, 2) := by decide +kernel
theorem dX10_foot_238 : decode cX10_foot 238 = .ok (.lload 9, 2) := by decide +kernel
theorem dX10_foot_240 : decode cX10_foot 240 = .ok (.ldiv, 1) := by decide +kernel
theorem dX10_foot_241 : decode cX10_foot 241 = .ok (.goto 8, 3) := by decide +kernel
theorem dX10_foot_244 : decode cX10_foot 244 = .ok (.lload 5, 2) := by decide +kernel
theorem dX10_foot_246 : decode cX10_foot 246 = .ok (.lload 9, 2) := by decide +kernel
theorem dX10_foot_248 : decode cX10_foot 248 = .ok (.ldiv, 1) := by decide +kernel
theorem dX10_foot_249 : decode cX10_foot 249 = .ok (.lreturn, 1) := by decide +kernel
theorem dX10_year_0 : decode cX10_year 0 = .ok (.iload_n 1, 1) := by decide +kernel
theorem dX10_year_1 : decode cX10_year 1 = .ok (.iconst 0, 1) := by decide +kernel
theorem dX10_year_2 : decode cX10_year 2 = .ok (.sipush 9999, 3) := by decide +kernel
theorem dX10_year_5 : decode cX10_year 5 = .ok (.invokestatic 48, 3) := by decide +kernel
theorem dX10_year_8 : decode cX10_year 8 = .ok (.ifCond .eq 22, 3) := by decide +kernel
theorem dX10_year_11 : decode cX10_year 11 = .ok (.iload_n 2, 1) := by decide +kernel
theorem dX10_year_12 : decode cX10_year 12 = .ok (.iconst 1, 1) := by decide +kernel
theorem dX10_year_13 : decode cX10_year 13 = .ok (.bipush 99, 2) := by decide +kernel
theorem dX10_year_15 : decode cX10_year 15 = .ok (.invokestatic 48, 3) := by decide +kernel
theorem dX10_year_18 : decode cX10_year 18 = .ok (.ifCond .eq 12, 3) := by decide +kernel
theorem dX10_year_21 : decode cX10_year 21 = .ok (.iload_n 3, 1) := by decide +kernel
theorem dX10_year_22 : decode cX10_year 22 = .ok (.iconst 0, 1) := by decide +kernel
theorem dX10_year_23 : decode cX10_year 23 = .ok (.iconst 2, 1) := by decide +kernel
theorem dX10_year_24 : decode cX10_year 24 = .ok (.invokestatic 48, 3) := by decide +kernel
theorem dX10_year_27 : decode cX10_year 27 = .ok (.ifCond .ne 6, 3) := by decide +kernel
theorem dX10_year_30 : decode cX10_year 30 = .ok (.bipush (-2), 2) := by decide +kernel
theorem dX10_year_32 : decode cX10_year 32 = .ok (.ireturn, 1) := by decide +kernel
theorem dX10_year_33 : decode cX10_year 33 = .ok (.aload_n 0, 1) := by decide +kernel
theorem dX10_year_34 : decode cX10_year 34 = .ok (.invokevirtual 110, 3) := by decide +kernel
theorem dX10_year_37 : decode cX10_year 37 = .ok (.iload_n 1, 1) := by decide +kernel
theorem dX10_year_38 : decode cX10_year 38 = .ok (.istore 4, 2) := by decide +kernel
theorem dX10_year_40 : decode cX10_year 40 = .ok (.iconst 0, 1) := by decide +kernel
theorem dX10_year_41 : decode cX10_year 41 = .ok (.istore 5, 2) := by decide +kernel
theorem dX10_year_43 : decode cX10_year 43 = .ok (.iload 5, 2) := by decide +kernel
theorem dX10_year_45 : decode cX10_year 45 = .ok (.iload_n 2, 1) := by decide +kernel
theorem dX10_year_46 : decode cX10_year 46 = .ok (.if_icmp .ge 218, 3) := by decide +kernel
theorem dX10_year_49 : decode cX10_year 49 = .ok (.bipush 75, 2) := by decide +kernel
theorem dX10_year_51 : decode cX10_year 51 = .ok (.iload 4, 2) := by decide +kernel
theorem dX10_year_53 : decode cX10_year 53 = .ok (.imul, 1) := by decide +kernel
theorem dX10_year_54 : decode cX10_year 54 = .ok (.bipush 74, 2) := by decide +kernel
theorem dX10_year_56 : decode cX10_year 56 = .ok (.iadd, 1) := by decide +kernel
theorem dX10_year_57 : decode cX10_year 57 = .ok (.ldc 161, 2) := by decide +kernel
theorem dX10_year_59 : decode cX10_year 59 = .ok (.irem, 1) := by decide +kernel
theorem dX10_year_60 : decode cX10_year 60 = .ok (.istore 4, 2) := by decide +kernel
theorem dX10_year_62 : decode cX10_year 62 = .ok (.iload 4, 2) := by decide +kernel
theorem dX10_year_64 : decode cX10_year 64 = .ok (.bipush 6, 2) := by decide +kernel
theorem dX10_year_66 : decode cX10_year 66 = .ok (.irem, 1) := by decide +kernel
theorem dX10_year_67 : decode cX10_year 67 = .ok (.istore 6, 2) := by decide +kernel
theorem dX10_year_69 : decode cX10_year 69 = .ok (.iload 4, 2) := by decide +kernel
theorem dX10_year_71 : decode cX10_year 71 = .ok (.bipush 6, 2) := by decide +kernel
theorem dX10_year_73 : decode cX10_year 73 = .ok (.idiv, 1) := by decide +kernel
theorem dX10_year_74 : decode cX10_year 74 = .ok (.bipush 8, 2) := by decide +kernel
theorem dX10_year_76 : decode cX10_year 76 = .ok (.irem, 1) := by decide +kernel
theorem dX10_year_77 : decode cX10_year 77 = .ok (.istore 7, 2) := by decide +kernel
theorem dX10_year_79 : decode cX10_year 79 = .ok (.iload 4, 2) := by decide +kernel
theorem dX10_year_81 : decode cX10_year 81 = .ok (.bipush 48, 2) := by decide +kernel
theorem dX10_year_83 : decode cX10_year 83 = .ok (.idiv, 1) := by decide +kernel
theorem dX10_year_84 : decode cX10_year 84 = .ok (.istore 8, 2) := by decide +kernel
theorem dX10_year_86 : decode cX10_year 86 = .ok (.iload 7, 2) := by decide +kernel
theorem dX10_year_88 : decode cX10_year 88 = .ok (.iconst 4, 1) := by decide +kernel
theorem dX10_year_89 : decode cX10_year 89 = .ok (.if_icmp .ge 96, 3) := by decide +kernel
theorem dX10_year_92 : decode cX10_year 92 = .ok (.iconst 1, 1) := by decide +kernel
theorem dX10_year_93 : decode cX10_year 93 = .ok (.iload 8, 2) := by decide +kernel
theorem dX10_year_95 : decode cX10_year 95 = .ok (.aload_n 0, 1) := by decide +kernel
theorem dX10_year_96 : decode cX10_year 96 = .ok (.getfield 13, 3) := by decide +kernel
theorem dX10_year_99 : decode cX10_year 99 = .ok (.bipush 26, 2) := by decide +kernel
theorem dX10_year_101 : decode cX10_year 101 = .ok (.iload 6, 2) := by decide +kernel
theorem dX10_year_103 : decode cX10_year 103 = .ok (.iadd, 1) := by decide +kernel
theorem dX10_year_104 : decode cX10_year 104 = .ok (.iaload, 1) := by decide +kernel
theorem dX10_year_105 : decode cX10_year 105 = .ok (.irem, 1) := by decide +kernel
theorem dX10_year_106 : decode cX10_year 106 = .ok (.iadd, 1) := by decide +kernel
theorem dX10_year_107 : decode cX10_year 107 = .ok (.istore 9, 2) := by decide +kernel
theorem dX10_year_109 : decode cX10_year 109 = .ok (.iload 8, 2) := by decide +kernel
theorem dX10_year_111 : decode cX10_year 111 = .ok (.iconst 4, 1) := by decide +kernel
theorem dX10_year_112 : decode cX10_year 112 = .ok (.idiv, 1) := by decide +kernel
theorem dX10_year_113 : decode cX10_year 113 = .ok (.iconst 4, 1) := by decide +kernel
theorem dX10_year_114 : decode cX10_year 114 = .ok (.irem, 1) := by decide +kernel
theorem dX10_year_115 : decode cX10_year 115 = .ok (.ifCond .eq 19, 3) := by decide +kernel
theorem dX10_year_118 : decode cX10_year 118 = .ok (.aload_n 0, 1) := by decide +kernel
theorem dX10_year_119 : decode cX10_year 119 = .ok (.getfield 13, 3) := by decide +kernel
theorem dX10_year_122 : decode cX10_year 122 = .ok (.bipush 38, 2) := by decide +kernel
theorem dX10_year_124 : decode cX10_year 124 = .ok (.iload 6, 2) := by decide +kernel
theorem dX10_year_126 : decode cX10_year 126 = .ok (.iadd, 1) := by decide +kernel
theorem dX10_year_127 : decode cX10_year 127 = .ok (.iaload, 1) := by decide +kernel
theorem dX10_year_128 : decode cX10_year 128 = .ok (.iload 9, 2) := by decide +kernel
theorem dX10_year_130 : decode cX10_year 130 = .ok (.iadd, 1) := by decide +kernel
theorem dX10_year_131 : decode cX10_year 131 = .ok (.goto 16, 3) := by decide +kernel
theorem dX10_year_134 : decode cX10_year 134 = .ok (.aload_n 0, 1) := by decide +kernel
theorem dX10_year_135 : decode cX10_year 135 = .ok (.getfield 13, 3) := by decide +kernel
theorem dX10_year_138 : decode cX10_year 138 = .ok (.bipush 38, 2) := by decide +kernel
theorem dX10_year_140 : decode cX10_year 140 = .ok (.iload 6, 2) := by decide +kernel
theorem dX10_year_142 : decode cX10_year 142 = .ok (.iadd, 1) := by decide +kernel
theorem dX10_year_143 : decode cX10_year 143 = .ok (.iaload, 1) := by decide +kernel
theorem dX10_year_144 : decode cX10_year 144 = .ok (.iload 9, 2) := by decide +kernel
theorem dX10_year_146 : decode cX10_year 146 = .ok (.isub, 1) := by decide +kernel
theorem dX10_year_147 : decode cX10_year 147 = .ok (.istore 10, 2) := by decide +kernel
theorem dX10_year_149 : decode cX10_year 149 = .ok (.aload_n 0, 1) := by decide +kernel
theorem dX10_year_150 : decode cX10_year 150 = .ok (.aload_n 0, 1) := by decide +kernel
theorem dX10_year_151 : decode cX10_year 151 = .ok (.iload 6, 2) := by decide +kernel
theorem dX10_year_153 : decode cX10_year 153 = .ok (.iload 10, 2) := by decide +kernel
theorem dX10_year_155 : decode cX10_year 155 = .ok (.ifCond .ge 7, 3) := by decide +kernel
theorem dX10_year_158 : decode cX10_year 158 = .ok (.iconst 0, 1) := by decide +kernel
theorem dX10_year_159 : decode cX10_year 159 = .ok (.goto 17, 3) := by decide +kernel
theorem dX10_year_162 : decode cX10_year 162 = .ok (.iload 10, 2) := by decide +kernel
theorem dX10_year_164 : decode cX10_year 164 = .ok (.bipush 13, 2) := by decide +kernel
theorem dX10_year_166 : decode cX10_year 166 = .ok (.if_icmp .le 8, 3) := by decide +kernel
theorem dX10_year_169 : decode cX10_year 169 = .ok (.bipush 13, 2) := by decide +kernel
theorem dX10_year_171 : decode cX10_year 171 = .ok (.goto 5, 3) := by decide +kernel
theorem dX10_year_174 : decode cX10_year 174 = .ok (.iload 10, 2) := by decide +kernel
theorem dX10_year_176 : decode cX10_year 176 = .ok (.invokevirtual 107, 3) := by decide +kernel
theorem dX10_year_179 : decode cX10_year 179 = .ok (.putfield 122, 3) := by decide +kernel
theorem dX10_year_182 : decode cX10_year 182 = .ok (.goto 76, 3) := by decide +kernel
theorem dX10_year_185 : decode cX10_year 185 = .ok (.iload 7, 2) := by decide +kernel
theorem dX10_year_187 : decode cX10_year 187 = .ok (.iconst 4, 1) := by decide +kernel
theorem dX10_year_188 : decode cX10_year 188 = .ok (.if_icmp .ne 23, 3) := by decide +kernel
theorem dX10_year_191 : decode cX10_year 191 = .ok (.aload_n 0, 1) := by decide +kernel
theorem dX10_year_192 : decode cX10_year 192 = .ok (.aload_n 0, 1) := by decide +kernel
theorem dX10_year_193 : decode cX10_year 193 = .ok (.iload 6, 2) := by decide +kernel
theorem dX10_year_195 : decode cX10_year 195 = .ok (.iconst 1, 1) := by decide +kernel
theorem dX10_year_196 : decode cX10_year 196 = .ok (.iload 8, 2) := by decide +kernel
theorem dX10_year_198 : decode cX10_year 198 = .ok (.bipush 12, 2) := by decide +kernel
theorem dX10_year_200 : decode cX10_year 200 = .ok (.irem, 1) := by decide +kernel
theorem dX10_year_201 : decode cX10_year 201 = .ok (.iadd, 1) := by decide +kernel
theorem dX10_year_202 : decode cX10_year 202 = .ok (.invokevirtual 104, 3) := by decide +kernel
theorem dX10_year_205 : decode cX10_year 205 = .ok (.putfield 122, 3) := by decide +kernel
theorem dX10_year_208 : decode cX10_year 208 = .ok (.goto 50, 3) := by decide +kernel
theorem dX10_year_211 : decode cX10_year 211 = .ok (.iload 7, 2) := by decide +kernel
theorem dX10_year_213 : decode cX10_year 213 = .ok (.iconst 5, 1) := by decide +kernel
theorem dX10_year_214 : decode cX10_year 214 = .ok (.if_icmp .ne 36, 3) := by decide +kernel
theorem dX10_year_217 : decode cX10_year 217 = .ok (.aload_n 0, 1) := by decide +kernel
theorem dX10_year_218 : decode cX10_year 218 = .ok (.aload_n 0, 1) := by decide +kernel
theorem dX10_year_219 : decode cX10_year 219 = .ok (.iconst 1, 1) := by decide +kernel
theorem dX10_year_220 : decode cX10_year 220 = .ok (.iload 8, 2) := by decide +kernel
theorem dX10_year_222 : decode cX10_year 222 = .ok (.bipush 12, 2) := by decide +kernel
theorem dX10_year_224 : decode cX10_year 224 = .ok (.irem, 1) := by decide +kernel
theorem dX10_year_225 : decode cX10_year 225 = .ok (.iadd, 1) := by decide +kernel
theorem dX10_year_226 : decode cX10_year 226 = .ok (.iload 8, 2) := by decide +kernel
theorem dX10_year_228 : decode cX10_year 228 = .ok (.bipush 12, 2) := by decide +kernel
theorem dX10_year_230 : decode cX10_year 230 = .ok (.idiv, 1) := by decide +kernel
theorem dX10_year_231 : decode cX10_year 231 = .ok (.iconst 2, 1) := by decide +kernel
theorem dX10_year_232 : decode cX10_year 232 = .ok (.irem, 1) := by decide +kernel
theorem dX10_year_233 : decode cX10_year 233 = .ok (.ifCond .ne 7, 3) := by decide +kernel
theorem dX10_year_236 : decode cX10_year 236 = .ok (.iconst 1, 1) := by decide +kernel
theorem dX10_year_237 : decode cX10_year 237 = .ok (.goto 4, 3) := by decide +kernel
theorem dX10_year_240 : decode cX10_year 240 = .ok (.iconst 0, 1) := by decide +kernel
theorem dX10_year_241 : decode cX10_year 241 = .ok (.invokevirtual 100, 3) := by decide +kernel
theorem dX10_year_244 : decode cX10_year 244 = .ok (.putfield 122, 3) := by decide +kernel
theorem dX10_year_247 : decode cX10_year 247 = .ok (.goto 11, 3) := by decide +kernel
theorem dX10_year_250 : decode cX10_year 250 = .ok (.aload_n 0, 1) := by decide +kernel
theorem dX10_year_251 : decode cX10_year 251 = .ok (.aload_n 0, 1) := by decide +kernel
theorem dX10_year_252 : decode cX10_year 252 = .ok (.invokevirtual 97, 3) := by decide +kernel
theorem dX10_year_255 : decode cX10_year 255 = .ok (.putfield 122, 3) := by decide +kernel
theorem dX10_year_258 : decode cX10_year 258 = .ok (.iinc 5 1, 3) := by decide +kernel
theorem dX10_year_261 : decode cX10_year 261 = .ok (.goto (-218), 3) := by decide +kernel
theorem dX10_year_264 : decode cX10_year 264 = .ok (.iload_n 3, 1) := by decide +kernel
theorem dX10_year_265 : decode cX10_year 265 = .ok (.ifCond .ne 10, 3) := by decide +kernel
theorem dX10_year_268 : decode cX10_year 268 = .ok (.aload_n 0, 1) := by decide +kernel
theorem dX10_year_269 : decode cX10_year 269 = .ok (.invokevirtual 116, 3) := by decide +kernel
theorem dX10_year_272 : decode cX10_year 272 = .ok (.goto 22, 3) := by decide +kernel
theorem dX10_year_275 : decode cX10_year 275 = .ok (.iload_n 3, 1) := by decide +kernel
theorem dX10_year_276 : decode cX10_year 276 = .ok (.iconst 1, 1) := by decide +kernel
theorem dX10_year_277 : decode cX10_year 277 = .ok (.if_icmp .ne 13, 3) := by decide +kernel
theorem dX10_year_280 : decode cX10_year 280 = .ok (.aload_n 0, 1) := by decide +kernel
theorem dX10_year_281 : decode cX10_year 281 = .ok (.getfield 13, 3) := by decide +kernel
theorem dX10_year_284 : decode cX10_year 284 = .ok (.bipush 32, 2) := by decide +kernel
theorem dX10_year_286 : decode cX10_year 286 = .ok (.iaload, 1) := by decide +kernel
theorem dX10_year_287 : decode cX10_year 287 = .ok (.goto 7, 3) := by decide +kernel
theorem dX10_year_290 : decode cX10_year 290 = .ok (.aload_n 0, 1) := by decide +kernel
theorem dX10_year_291 : decode cX10_year 291 = .ok (.getfield 52, 3) := by decide +kernel
theorem dX10_year_294 : decode cX10_year 294 = .ok (.ireturn, 1) := by decide +kernel
theorem dX10_image_0 : decode cX10_image 0 = .ok (.iload_n 1, 1) := by decide +kernel
theorem dX10_image_1 : decode cX10_image 1 = .ok (.iconst 0, 1) := by decide +kernel
theorem dX10_image_2 : decode cX10_image 2 = .ok (.iconst 1, 1) := by decide +kernel
theorem dX10_image_3 : decode cX10_image 3 = .ok (.invokestatic 48, 3) := by decide +kernel
theorem dX10_image_6 : decode cX10_image 6 = .ok (.ifCond .ne 6, 3) := by decide +kernel
theorem dX10_image_9 : decode cX10_image 9 = .ok (.bipush (-2), 2) := by decide +kernel
theorem dX10_image_11 : decode cX10_image 11 = .ok (.ireturn, 1) := by decide +kernel
theorem dX10_image_12 : decode cX10_image 12 = .ok (.bipush 70, 2) := by decide +kernel
theorem dX10_image_14 : decode cX10_image 14 = .ok (.iload_n 1, 1) := by decide +kernel
theorem dX10_image_15 : decode cX10_image 15 = .ok (.imul, 1) := by decide +kernel
theorem dX10_image_16 : decode cX10_image 16 = .ok (.istore_n 2, 1) := by decide +kernel
theorem dX10_image_17 : decode cX10_image 17 = .ok (.iconst 0, 1) := by decide +kernel
theorem dX10_image_18 : decode cX10_image 18 = .ok (.istore_n 3, 1) := by decide +kernel
theorem dX10_image_19 : decode cX10_image 19 = .ok (.iload_n 3, 1) := by decide +kernel
theorem dX10_image_20 : decode cX10_image 20 = .ok (.bipush 47, 2) := by decide +kernel
theorem dX10_image_22 : decode cX10_image 22 = .ok (.if_icmp .ge 23, 3) := by decide +kernel
theorem dX10_image_25 : decode cX10_image 25 = .ok (.aload_n 0, 1) := by decide +kernel
theorem dX10_image_26 : decode cX10_image 26 = .ok (.getfield 42, 3) := by decide +kernel
theorem dX10_image_29 : decode cX10_image 29 = .ok (.iload_n 2, 1) := by decide +kernel
theorem dX10_image_30 : decode cX10_image 30 = .ok (.iload_n 3, 1) := by decide +kernel
theorem dX10_image_31 : decode cX10_image 31 = .ok (.iadd, 1) := by decide +kernel
theorem dX10_image_32 : decode cX10_image 32 = .ok (.aload_n 0, 1) := by decide +kernel
theorem dX10_image_33 : decode cX10_image 33 = .ok (.getfield 7, 3) := by decide +kernel
theorem dX10_image_36 : decode cX10_image 36 = .ok (.iload_n 3, 1) := by decide +kernel
theorem dX10_image_37 : decode cX10_image 37 = .ok (.iaload, 1) := by decide +kernel
theorem dX10_image_38 : decode cX10_image 38 = .ok (.iastore, 1) := by decide +kernel
theorem dX10_image_39 : decode cX10_image 39 = .ok (.iinc 3 1, 3) := by decide +kernel
theorem dX10_image_42 : decode cX10_image 42 = .ok (.goto (-23), 3) := by decide +kernel
theorem dX10_image_45 : decode cX10_image 45 = .ok (.iconst 0, 1) := by decide +kernel
theorem dX10_image_46 : decode cX10_image 46 = .ok (.istore_n 3, 1) := by decide +kernel
theorem dX10_image_47 : decode cX10_image 47 = .ok (.iload_n 3, 1) := by decide +kernel
theorem dX10_image_48 : decode cX10_image 48 = .ok (.bipush 16, 2) := by decide +kernel
theorem dX10_image_50 : decode cX10_image 50 = .ok (.if_icmp .ge 26, 3) := by decide +kernel
theorem dX10_image_53 : decode cX10_image 53 = .ok (.aload_n 0, 1) := by decide +kernel
theorem dX10_image_54 : decode cX10_image 54 = .ok (.getfield 42, 3) := by decide +kernel
theorem dX10_image_57 : decode cX10_image 57 = .ok (.iload_n 2, 1) := by decide +kernel
theorem dX10_image_58 : decode cX10_image 58 = .ok (.bipush 47, 2) := by decide +kernel
theorem dX10_image_60 : decode cX10_image 60 = .ok (.iadd, 1) := by decide +kernel
theorem dX10_image_61 : decode cX10_image 61 = .ok (.iload_n 3, 1) := by decide +kernel
theorem dX10_image_62 : decode cX10_image 62 = .ok (.iadd, 1) := by decide +kernel
theorem dX10_image_63 : decode cX10_image 63 = .ok (.aload_n 0, 1) := by decide +kernel
theorem dX10_image_64 : decode cX10_image 64 = .ok (.getfield 16, 3) := by decide +kernel
theorem dX10_image_67 : decode cX10_image 67 = .ok (.iload_n 3, 1) := by decide +kernel
theorem dX10_image_68 : decode cX10_image 68 = .ok (.iaload, 1) := by decide +kernel
theorem dX10_image_69 : decode cX10_image 69 = .ok (.iastore, 1) := by decide +kernel
theorem dX10_image_70 : decode cX10_image 70 = .ok (.iinc 3 1, 3) := by decide +kernel
theorem dX10_image_73 : decode cX10_image 73 = .ok (.goto (-26), 3) := by decide +kernel
theorem dX10_image_76 : decode cX10_image 76 = .ok (.aload_n 0, 1) := by decide +kernel
theorem dX10_image_77 : decode cX10_image 77 = .ok (.getfield 42, 3) := by decide +kernel
theorem dX10_image_80 : decode cX10_image 80 = .ok (.iload_n 2, 1) := by decide +kernel
theorem dX10_image_81 : decode cX10_image 81 = .ok (.bipush 64, 2) := by decide +kernel
theorem dX10_image_83 : decode cX10_image 83 = .ok (.iadd, 1) := by decide +kernel
theorem dX10_image_84 : decode cX10_image 84 = .ok (.aload_n 0, 1) := by decide +kernel
theorem dX10_image_85 : decode cX10_image 85 = .ok (.getfield 145, 3) := by decide +kernel
theorem dX10_image_88 : decode cX10_image 88 = .ok (.iastore, 1) := by decide +kernel
theorem dX10_image_89 : decode cX10_image 89 = .ok (.aload_n 0, 1) := by decide +kernel
theorem dX10_image_90 : decode cX10_image 90 = .ok (.getfield 45, 3) := by decide +kernel
theorem dX10_image_93 : decode cX10_image 93 = .ok (.iload_n 1, 1) := by decide +kernel
theorem dX10_image_94 : decode cX10_image 94 = .ok (.iconst 1, 1) := by decide +kernel
theorem dX10_image_95 : decode cX10_image 95 = .ok (.bastore, 1) := by decide +kernel
theorem dX10_image_96 : decode cX10_image 96 = .ok (.iconst 1, 1) := by decide +kernel
theorem dX10_image_97 : decode cX10_image 97 = .ok (.ireturn, 1) := by decide +kernel
theorem dX10_restore_0 : decode cX10_restore 0 = .ok (.iload_n 1, 1) := by decide +kernel
theorem dX10_restore_1 : decode cX10_restore 1 = .ok (.iconst 0, 1) := by decide +kernel
theorem dX10_restore_2 : decode cX10_restore 2 = .ok (.iconst 1, 1) := by decide +kernel
theorem dX10_restore_3 : decode cX10_restore 3 = .ok (.invokestatic 48, 3) := by decide +kernel
theorem dX10_restore_6 : decode cX10_restore 6 = .ok (.ifCond .ne 6, 3) := by decide +kernel
theorem dX10_restore_9 : decode cX10_restore 9 = .ok (.bipush (-2), 2) := by decide +kernel
theorem dX10_restore_11 : decode cX10_restore 11 = .ok (.ireturn, 1) := by decide +kernel
theorem dX10_restore_12 : decode cX10_restore 12 = .ok (.aload_n 0, 1) := by decide +kernel
theorem dX10_restore_13 : decode cX10_restore 13 = .ok (.getfield 45, 3) := by decide +kernel
theorem dX10_restore_16 : decode cX10_restore 16 = .ok (.iload_n 1, 1) := by decide +kernel
theorem dX10_restore_17 : decode cX10_restore 17 = .ok (.baload, 1) := by decide +kernel
theorem dX10_restore_18 : decode cX10_restore 18 = .ok (.ifCond .ne 6, 3) := by decide +kernel
theorem dX10_restore_21 : decode cX10_restore 21 = .ok (.bipush (-3), 2) := by decide +kernel
theorem dX10_restore_23 : decode cX10_restore 23 = .ok (.ireturn, 1) := by decide +kernel
theorem dX10_restore_24 : decode cX10_restore 24 = .ok (.bipush 70, 2) := by decide +kernel
theorem dX10_restore_26 : decode cX10_restore 26 = .ok (.iload_n 1, 1) := by decide +kernel
theorem dX10_restore_27 : decode cX10_restore 27 = .ok (.imul, 1) := by decide +kernel
theorem dX10_restore_28 : decode cX10_restore 28 = .ok (.istore_n 2, 1) := by decide +kernel
theorem dX10_restore_29 : decode cX10_restore 29 = .ok (.iconst 0, 1) := by decide +kernel
theorem dX10_restore_30 : decode cX10_restore 30 = .ok (.istore_n 3, 1) := by decide +kernel
theorem dX10_restore_31 : decode cX10_restore 31 = .ok (.iload_n 3, 1) := by decide +kernel
theorem dX10_restore_32 : decode cX10_restore 32 = .ok (.bipush 47, 2) := by decide +kernel
theorem dX10_restore_34 : decode cX10_restore 34 = .ok (.if_icmp .ge 23, 3) := by decide +kernel
theorem dX10_restore_37 : decode cX10_restore 37 = .ok (.aload_n 0, 1) := by decide +kernel
theorem dX10_restore_38 : decode cX10_restore 38 = .ok (.getfield 7, 3) := by decide +kernel
theorem dX10_restore_41 : decode cX10_restore 41 = .ok (.iload_n 3, 1) := by decide +kernel
theorem dX10_restore_42 : decode cX10_restore 42 = .ok (.aload_n 0, 1) := by decide +kernel
theorem dX10_restore_43 : decode cX10_restore 43 = .ok (.getfield 42, 3) := by decide +kernel
theorem dX10_restore_46 : decode cX10_restore 46 = .ok (.iload_n 2, 1) := by decide +kernel
theorem dX10_restore_47 : decode cX10_restore 47 = .ok (.iload_n 3, 1) := by decide +kernel
theorem dX10_restore_48 : decode cX10_restore 48 = .ok (.iadd, 1) := by decide +kernel
theorem dX10_restore_49 : decode cX10_restore 49 = .ok (.iaload, 1) := by decide +kernel
theorem dX10_restore_50 : decode cX10_restore 50 = .ok (.iastore, 1) := by decide +kernel
theorem dX10_restore_51 : decode cX10_restore 51 = .ok (.iinc 3 1, 3) := by decide +kernel
theorem dX10_restore_54 : decode cX10_restore 54 = .ok (.goto (-23), 3) := by decide +kernel
theorem dX10_restore_57 : decode cX10_restore 57 = .ok (.iconst 0, 1) := by decide +kernel
theorem dX10_restore_58 : decode cX10_restore 58 = .ok (.istore_n 3, 1) := by decide +kernel
theorem dX10_restore_59 : decode cX10_restore 59 = .ok (.iload_n 3, 1) := by decide +kernel
theorem dX10_restore_60 : decode cX10_restore 60 = .ok (.bipush 16, 2) := by decide +kernel
theorem dX10_restore_62 : decode cX10_restore 62 = .ok (.if_icmp .ge 26, 3) := by decide +kernel
theorem dX10_restore_65 : decode cX10_restore 65 = .ok (.aload_n 0, 1) := by decide +kernel
theorem dX10_restore_66 : decode cX10_restore 66 = .ok (.getfield 16, 3) := by decide +kernel
theorem dX10_restore_69 : decode cX10_restore 69 = .ok (.iload_n 3, 1) := by decide +kernel
theorem dX10_restore_70 : decode cX10_restore 70 = .ok (.aload_n 0, 1) := by decide +kernel
theorem dX10_restore_71 : decode cX10_restore 71 = .ok (.getfield 42, 3) := by decide +kernel
theorem dX10_restore_74 : decode cX10_restore 74 = .ok (.iload_n 2, 1) := by decide +kernel
theorem dX10_restore_75 : decode cX10_restore 75 = .ok (.bipush 47, 2) := by decide +kernel
theorem dX10_restore_77 : decode cX10_restore 77 = .ok (.iadd, 1) := by decide +kernel
theorem dX10_restore_78 : decode cX10_restore 78 = .ok (.iload_n 3, 1) := by decide +kernel
theorem dX10_restore_79 : decode cX10_restore 79 = .ok (.iadd, 1) := by decide +kernel
theorem dX10_restore_80 : decode cX10_restore 80 = .ok (.iaload, 1) := by decide +kernel
theorem dX10_restore_81 : decode cX10_restore 81 = .ok (.iastore, 1) := by decide +kernel
theorem dX10_restore_82 : decode cX10_restore 82 = .ok (.iinc 3 1, 3) := by decide +kernel
theorem dX10_restore_85 : decode cX10_restore 85 = .ok (.goto (-26), 3) := by decide +kernel
theorem dX10_restore_88 : decode cX10_restore 88 = .ok (.aload_n 0, 1) := by decide +kernel
theorem dX10_restore_89 : decode cX10_restore 89 = .ok (.aload_n 0, 1) := by decide +kernel
theorem dX10_restore_90 : decode cX10_restore 90 = .ok (.getfield 42, 3) := by decide +kernel
theorem dX10_restore_93 : decode cX10_restore 93 = .ok (.iload_n 2, 1) := by decide +kernel
theorem dX10_restore_94 : decode cX10_restore 94 = .ok (.bipush 64, 2) := by decide +kernel
theorem dX10_restore_96 : decode cX10_restore 96 = .ok (.iadd, 1) := by decide +kernel
theorem dX10_restore_97 : decode cX10_restore 97 = .ok (.iaload, 1) := by decide +kernel
theorem dX10_restore_98 : decode cX10_restore 98 = .ok (.putfield 145, 3) := by decide +kernel
theorem dX10_restore_101 : decode cX10_restore 101 = .ok (.iconst 1, 1) := by decide +kernel
theorem dX10_restore_102 : decode cX10_restore 102 = .ok (.ireturn, 1) := by decide +kernel
theorem dX10_told_0 : decode cX10_told 0 = .ok (.aload_n 0, 1) := by decide +kernel
theorem dX10_told_1 : decode cX10_told 1 = .ok (.invokevirtual 110, 3) := by decide +kernel
theorem dX10_told_4 : decode cX10_told 4 = .ok (.iload_n 1, 1) := by decide +kernel
theorem dX10_told_5 : decode cX10_told 5 = .ok (.bipush 40, 2) := by decide +kernel
theorem dX10_told_7 : decode cX10_told 7 = .ok (.if_icmp .lt 58, 3) := by decide +kernel
theorem dX10_told_10 : decode cX10_told 10 = .ok (.iload_n 1, 1) := by decide +kernel
theorem dX10_told_11 : decode cX10_told 11 = .ok (.bipush 60, 2) := by decide +kernel
theorem dX10_told_13 : decode cX10_told 13 = .ok (.if_icmp .lt 10, 3) := by decide +kernel
theorem dX10_told_16 : decode cX10_told 16 = .ok (.iload_n 1, 1) := by decide +kernel
theorem dX10_told_17 : decode cX10_told 17 = .ok (.bipush 60, 2) := by decide +kernel
theorem dX10_told_19 : decode cX10_told 19 = .ok (.isub, 1) := by decide +kernel
theorem dX10_told_20 : decode cX10_told 20 = .ok (.goto 7, 3) := by decide +kernel
theorem dX10_told_23 : decode cX10_told 23 = .ok (.iload_n 1, 1) := by decide +kernel
theorem dX10_told_24 : decode cX10_told 24 = .ok (.bipush 40, 2) := by decide +kernel
theorem dX10_told_26 : decode cX10_told 26 = .ok (.isub, 1) := by decide +kernel
theorem dX10_told_27 : decode cX10_told 27 = .ok (.istore_n 2, 1) := by decide +kernel
theorem dX10_told_28 : decode cX10_told 28 = .ok (.iload_n 2, 1) := by decide +kernel
theorem dX10_told_29 : decode cX10_told 29 = .ok (.invokestatic 73, 3) := by decide +kernel
theorem dX10_told_32 : decode cX10_told 32 = .ok (.ifCond .ne 8, 3) := by decide +kernel
theorem dX10_told_35 : decode cX10_told 35 = .ok (.bipush (-2), 2) := by decide +kernel
theorem dX10_told_37 : decode cX10_told 37 = .ok (.goto 27, 3) := by decide +kernel
theorem dX10_told_40 : decode cX10_told 40 = .ok (.iload_n 1, 1) := by decide +kernel
theorem dX10_told_41 : decode cX10_told 41 = .ok (.bipush 60, 2) := by decide +kernel
theorem dX10_told_43 : decode cX10_told 43 = .ok (.if_icmp .lt 15, 3) := by decide +kernel
theorem dX10_told_46 : decode cX10_told 46 = .ok (.aload_n 0, 1) := by decide +kernel
theorem dX10_told_47 : decode cX10_told 47 = .ok (.getfield 7, 3) := by decide +kernel
theorem dX10_told_50 : decode cX10_told 50 = .ok (.bipush 13, 2) := by decide +kernel
theorem dX10_told_52 : decode cX10_told 52 = .ok (.iload_n 2, 1) := by decide +kernel
theorem dX10_told_53 : decode cX10_told 53 = .ok (.iadd, 1) := by decide +kernel
theorem dX10_told_54 : decode cX10_told 54 = .ok (.iaload, 1) := by decide +kernel
theorem dX10_told_55 : decode cX10_told 55 = .ok (.goto 9, 3) := by decide +kernel
theorem dX10_told_58 : decode cX10_told 58 = .ok (.aload_n 0, 1) := by decide +kernel
theorem dX10_told_59 : decode cX10_told 59 = .ok (.getfield 7, 3) := by decide +kernel
theorem dX10_told_62 : decode cX10_told 62 = .ok (.iload_n 2, 1) := by decide +kernel
theorem dX10_told_63 : decode cX10_told 63 = .ok (.iaload, 1) := by decide +kernel
theorem dX10_told_64 : decode cX10_told 64 = .ok (.ireturn, 1) := by decide +kernel
theorem dX10_told_65 : decode cX10_told 65 = .ok (.iload_n 1, 1) := by decide +kernel
theorem dX10_told_66 : decode cX10_told 66 = .ok (.bipush 10, 2) := by decide +kernel
theorem dX10_told_68 : decode cX10_told 68 = .ok (.if_icmp .lt 66, 3) := by decide +kernel
theorem dX10_told_71 : decode cX10_told 71 = .ok (.iload_n 1, 1) := by decide +kernel
theorem dX10_told_72 : decode cX10_told 72 = .ok (.bipush 10, 2) := by decide +kernel
theorem dX10_told_74 : decode cX10_told 74 = .ok (.irem, 1) := by decide +kernel
theorem dX10_told_75 : decode cX10_told 75 = .ok (.istore_n 2, 1) := by decide +kernel
theorem dX10_told_76 : decode cX10_told 76 = .ok (.iload_n 2, 1) := by decide +kernel
theorem dX10_told_77 : decode cX10_told 77 = .ok (.invokestatic 76, 3) := by decide +kernel
theorem dX10_told_80 : decode cX10_told 80 = .ok (.ifCond .ne 8, 3) := by decide +kernel
theorem dX10_told_83 : decode cX10_told 83 = .ok (.bipush (-2), 2) := by decide +kernel
theorem dX10_told_85 : decode cX10_told 85 = .ok (.goto 48, 3) := by decide +kernel
theorem dX10_told_88 : decode cX10_told 88 = .ok (.iload_n 1, 1) := by decide +kernel
theorem dX10_told_89 : decode cX10_told 89 = .ok (.bipush 20, 2) := by decide +kernel
theorem dX10_told_91 : decode cX10_told 91 = .ok (.if_icmp .ge 15, 3) := by decide +kernel
theorem dX10_told_94 : decode cX10_told 94 = .ok (.aload_n 0, 1) := by decide +kernel
theorem dX10_told_95 : decode cX10_told 95 = .ok (.getfield 7, 3) := by decide +kernel
theorem dX10_told_98 : decode cX10_told 98 = .ok (.bipush 38, 2) := by decide +kernel
theorem dX10_told_100 : decode cX10_told 100 = .ok (.iload_n 2, 1) := by decide +kernel
theorem dX10_told_101 : decode cX10_told 101 = .ok (.iadd, 1) := by decide +kernel
theorem dX10_told_102 : decode cX10_told 102 = .ok (.iaload, 1) := by decide +kernel
theorem dX10_told_103 : decode cX10_told 103 = .ok (.goto 30, 3) := by decide +kernel
theorem dX10_told_106 : decode cX10_told 106 = .ok (.iload_n 1, 1) := by decide +kernel
theorem dX10_told_107 : decode cX10_told 107 = .ok (.bipush 30, 2) := by decide +kernel
theorem dX10_told_109 : decode cX10_told 109 = .ok (.if_icmp .ge 15, 3) := by decide +kernel
theorem dX10_told_112 : decode cX10_told 112 = .ok (.aload_n 0, 1) := by decide +kernel
theorem dX10_told_113 : decode cX10_told 113 = .ok (.getfield 7, 3) := by decide +kernel
theorem dX10_told_116 : decode cX10_told 116 = .ok (.bipush 32, 2) := by decide +kernel
theorem dX10_told_118 : decode cX10_told 118 = .ok (.iload_n 2, 1) := by decide +kernel
theorem dX10_told_119 : decode cX10_told 119 = .ok (.iadd, 1) := by decide +kernel
theorem dX10_told_120 : decode cX10_told 120 = .ok (.iaload, 1) := by decide +kernel
theorem dX10_told_121 : decode cX10_told 121 = .ok (.goto 12, 3) := by decide +kernel
theorem dX10_told_124 : decode cX10_told 124 = .ok (.aload_n 0, 1) := by decide +kernel
theorem dX10_told_125 : decode cX10_told 125 = .ok (.getfield 7, 3) := by decide +kernel
theorem dX10_told_128 : decode cX10_told 128 = .ok (.bipush 26, 2) := by decide +kernel
theorem dX10_told_130 : decode cX10_told 130 = .ok (.iload_n 2, 1) := by decide +kernel
theorem dX10_told_131 : decode cX10_told 131 = .ok (.iadd, 1) := by decide +kernel
theorem dX10_told_132 : decode cX10_told 132 = .ok (.iaload, 1) := by decide +kernel
theorem dX10_told_133 : decode cX10_told 133 = .ok (.ireturn, 1) := by decide +kernel
theorem dX10_told_134 : decode cX10_told 134 = .ok (.iload_n 1, 1) := by decide +kernel
theorem dX10_told_135 : decode cX10_told 135 = .ok (.tableswitch 69 0 4 #[33, 38, 46, 51, 59], 33) := by decide +kernel
theorem dX10_told_168 : decode cX10_told 168 = .ok (.aload_n 0, 1) := by decide +kernel
theorem dX10_told_169 : decode cX10_told 169 = .ok (.getfield 79, 3) := by decide +kernel
theorem dX10_told_172 : decode cX10_told 172 = .ok (.ireturn, 1) := by decide +kernel
theorem dX10_told_173 : decode cX10_told 173 = .ok (.aload_n 0, 1) := by decide +kernel
theorem dX10_told_174 : decode cX10_told 174 = .ok (.getfield 7, 3) := by decide +kernel
theorem dX10_told_177 : decode cX10_told 177 = .ok (.bipush 46, 2) := by decide +kernel
theorem dX10_told_179 : decode cX10_told 179 = .ok (.iaload, 1) := by decide +kernel
theorem dX10_told_180 : decode cX10_told 180 = .ok (.ireturn, 1) := by decide +kernel
theorem dX10_told_181 : decode cX10_told 181 = .ok (.aload_n 0, 1) := by decide +kernel
theorem dX10_told_182 : decode cX10_told 182 = .ok (.invokevirtual 116, 3) := by decide +kernel
theorem dX10_told_185 : decode cX10_told 185 = .ok (.ireturn, 1) := by decide +kernel
theorem dX10_told_186 : decode cX10_told 186 = .ok (.aload_n 0, 1) := by decide +kernel
theorem dX10_told_187 : decode cX10_told 187 = .ok (.getfield 7, 3) := by decide +kernel
theorem dX10_told_190 : decode cX10_told 190 = .ok (.bipush 44, 2) := by decide +kernel
theorem dX10_told_192 : decode cX10_told 192 = .ok (.iaload, 1) := by decide +kernel
theorem dX10_told_193 : decode cX10_told 193 = .ok (.ireturn, 1) := by decide +kernel
theorem dX10_told_194 : decode cX10_told 194 = .ok (.aload_n 0, 1) := by decide +kernel
theorem dX10_told_195 : decode cX10_told 195 = .ok (.getfield 7, 3) := by decide +kernel
theorem dX10_told_198 : decode cX10_told 198 = .ok (.bipush 45, 2) := by decide +kernel
theorem dX10_told_200 : decode cX10_told 200 = .ok (.iaload, 1) := by decide +kernel
theorem dX10_told_201 : decode cX10_told 201 = .ok (.iconst 1, 1) := by decide +kernel
theorem dX10_told_202 : decode cX10_told 202 = .ok (.ishr, 1) := by decide +kernel
theorem dX10_told_203 : decode cX10_told 203 = .ok (.ireturn, 1) := by decide +kernel
theorem dX10_told_204 : decode cX10_told 204 = .ok (.iload_n 1, 1) := by decide +kernel
theorem dX10_told_205 : decode cX10_told 205 = .ok (.iconst 5, 1) := by decide +kernel
theorem dX10_told_206 : decode cX10_told 206 = .ok (.if_icmp .ne 10, 3) := by decide +kernel
theorem dX10_told_209 : decode cX10_told 209 = .ok (.aload_n 0, 1) := by decide +kernel
theorem dX10_told_210 : decode cX10_told 210 = .ok (.getfield 145, 3) := by decide +kernel
theorem dX10_told_213 : decode cX10_told 213 = .ok (.goto 5, 3) := by decide +kernel
theorem dX10_told_216 : decode cX10_told 216 = .ok (.bipush (-2), 2) := by decide +kernel
theorem dX10_told_218 : decode cX10_told 218 = .ok (.ireturn, 1) := by decide +kernel
theorem dJ6_bitCount_0f7a4_0 : decode cJ6_bitCount_0f7a4 0 = .ok (.iload_n 0, 1) := by decide +kernel
theorem dJ6_bitCount_0f7a4_1 : decode cJ6_bitCount_0f7a4 1 = .ok (.iload_n 0, 1) := by decide +kernel
theorem dJ6_bitCount_0f7a4_2 : decode cJ6_bitCount_0f7a4 2 = .ok (.iconst 1, 1) := by decide +kernel
theorem dJ6_bitCount_0f7a4_3 : decode cJ6_bitCount_0f7a4 3 = .ok (.iushr, 1) := by decide +kernel
theorem dJ6_bitCount_0f7a4_4 : decode cJ6_bitCount_0f7a4 4 = .ok (.ldc_w 265, 3) := by decide +kernel
theorem dJ6_bitCount_0f7a4_7 : decode cJ6_bitCount_0f7a4 7 = .ok (.iand, 1) := by decide +kernel
theorem dJ6_bitCount_0f7a4_8 : decode cJ6_bitCount_0f7a4 8 = .ok (.isub, 1) := by decide +kernel
theorem dJ6_bitCount_0f7a4_9 : decode cJ6_bitCount_0f7a4 9 = .ok (.istore_n 0, 1) := by decide +kernel
theorem dJ6_bitCount_0f7a4_10 : decode cJ6_bitCount_0f7a4 10 = .ok (.iload_n 0, 1) := by decide +kernel
theorem dJ6_bitCount_0f7a4_11 : decode cJ6_bitCount_0f7a4 11 = .ok (.ldc_w 266, 3) := by decide +kernel
theorem dJ6_bitCount_0f7a4_14 : decode cJ6_bitCount_0f7a4 14 = .ok (.iand, 1) := by decide +kernel
theorem dJ6_bitCount_0f7a4_15 : decode cJ6_bitCount_0f7a4 15 = .ok (.iload_n 0, 1) := by decide +kernel
theorem dJ6_bitCount_0f7a4_16 : decode cJ6_bitCount_0f7a4 16 = .ok (.iconst 2, 1) := by decide +kernel
theorem dJ6_bitCount_0f7a4_17 : decode cJ6_bitCount_0f7a4 17 = .ok (.iushr, 1) := by decide +kernel
theorem dJ6_bitCount_0f7a4_18 : decode cJ6_bitCount_0f7a4 18 = .ok (.ldc_w 266, 3) := by decide +kernel
theorem dJ6_bitCount_0f7a4_21 : decode cJ6_bitCount_0f7a4 21 = .ok (.iand, 1) := by decide +kernel
theorem dJ6_bitCount_0f7a4_22 : decode cJ6_bitCount_0f7a4 22 = .ok (.iadd, 1) := by decide +kernel
theorem dJ6_bitCount_0f7a4_23 : decode cJ6_bitCount_0f7a4 23 = .ok (.istore_n 0, 1) := by decide +kernel
theorem dJ6_bitCount_0f7a4_24 : decode cJ6_bitCount_0f7a4 24 = .ok (.iload_n 0, 1) := by decide +kernel
theorem dJ6_bitCount_0f7a4_25 : decode cJ6_bitCount_0f7a4 25 = .ok (.iload_n 0, 1) := by decide +kernel
theorem dJ6_bitCount_0f7a4_26 : decode cJ6_bitCount_0f7a4 26 = .ok (.iconst 4, 1) := by decide +kernel
theorem dJ6_bitCount_0f7a4_27 : decode cJ6_bitCount_0f7a4 27 = .ok (.iushr, 1) := by decide +kernel
theorem dJ6_bitCount_0f7a4_28 : decode cJ6_bitCount_0f7a4 28 = .ok (.iadd, 1) := by decide +kernel
theorem dJ6_bitCount_0f7a4_29 : decode cJ6_bitCount_0f7a4 29 = .ok (.ldc_w 267, 3) := by decide +kernel
theorem dJ6_bitCount_0f7a4_32 : decode cJ6_bitCount_0f7a4 32 = .ok (.iand, 1) := by decide +kernel
theorem dJ6_bitCount_0f7a4_33 : decode cJ6_bitCount_0f7a4 33 = .ok (.istore_n 0, 1) := by decide +kernel
theorem dJ6_bitCount_0f7a4_34 : decode cJ6_bitCount_0f7a4 34 = .ok (.iload_n 0, 1) := by decide +kernel
theorem dJ6_bitCount_0f7a4_35 : decode cJ6_bitCount_0f7a4 35 = .ok (.iload_n 0, 1) := by decide +kernel
theorem dJ6_bitCount_0f7a4_36 : decode cJ6_bitCount_0f7a4 36 = .ok (.bipush 8, 2) := by decide +kernel
theorem dJ6_bitCount_0f7a4_38 : decode cJ6_bitCount_0f7a4 38 = .ok (.iushr, 1) := by decide +kernel
theorem dJ6_bitCount_0f7a4_39 : decode cJ6_bitCount_0f7a4 39 = .ok (.iadd, 1) := by decide +kernel
theorem dJ6_bitCount_0f7a4_40 : decode cJ6_bitCount_0f7a4 40 = .ok (.istore_n 0, 1) := by decide +kernel
theorem dJ6_bitCount_0f7a4_41 : decode cJ6_bitCount_0f7a4 41 = .ok (.iload_n 0, 1) := by decide +kernel
theorem dJ6_bitCount_0f7a4_42 : decode cJ6_bitCount_0f7a4 42 = .ok (.iload_n 0, 1) := by decide +kernel
theorem dJ6_bitCount_0f7a4_43 : decode cJ6_bitCount_0f7a4 43 = .ok (.bipush 16, 2) := by decide +kernel
theorem dJ6_bitCount_0f7a4_45 : decode cJ6_bitCount_0f7a4 45 = .ok (.iushr, 1) := by decide +kernel
theorem dJ6_bitCount_0f7a4_46 : decode cJ6_bitCount_0f7a4 46 = .ok (.iadd, 1) := by decide +kernel
theorem dJ6_bitCount_0f7a4_47 : decode cJ6_bitCount_0f7a4 47 = .ok (.istore_n 0, 1) := by decide +kernel
theorem dJ6_bitCount_0f7a4_48 : decode cJ6_bitCount_0f7a4 48 = .ok (.iload_n 0, 1) := by decide +kernel
theorem dJ6_bitCount_0f7a4_49 : decode cJ6_bitCount_0f7a4 49 = .ok (.bipush 63, 2) := by decide +kernel
theorem dJ6_bitCount_0f7a4_51 : decode cJ6_bitCount_0f7a4 51 = .ok (.iand, 1) := by decide +kernel
theorem dJ6_bitCount_0f7a4_52 : decode cJ6_bitCount_0f7a4 52 = .ok (.ireturn, 1) := by decide +kernel
theorem dJ9_abs_0f7a4_0 : decode cJ9_abs_0f7a4 0 = .ok (.iload_n 0, 1) := by decide +kernel
theorem dJ9_abs_0f7a4_1 : decode cJ9_abs_0f7a4 1 = .ok (.ifCond .ge 8, 3) := by decide +kernel
theorem dJ9_abs_0f7a4_4 : decode cJ9_abs_0f7a4 4 = .ok (.iload_n 0, 1) := by decide +kernel
theorem dJ9_abs_0f7a4_5 : decode cJ9_abs_0f7a4 5 = .ok (.ineg, 1) := by decide +kernel
theorem dJ9_abs_0f7a4_6 : decode cJ9_abs_0f7a4 6 = .ok (.goto 4, 3) := by decide +kernel
theorem dJ9_abs_0f7a4_9 : decode cJ9_abs_0f7a4 9 = .ok (.iload_n 0, 1) := by decide +kernel
theorem dJ9_abs_0f7a4_10 : decode cJ9_abs_0f7a4 10 = .ok (.ireturn, 1) := by decide +kernel
theorem dJ9_max_7cf53_0 : decode cJ9_max_7cf53 0 = .ok (.iload_n 0, 1) := by decide +kernel
theorem dJ9_max_7cf53_1 : decode cJ9_max_7cf53 1 = .ok (.iload_n 1, 1) := by decide +kernel
theorem dJ9_max_7cf53_2 : decode cJ9_max_7cf53 2 = .ok (.if_icmp .lt 7, 3) := by decide +kernel
theorem dJ9_max_7cf53_5 : decode cJ9_max_7cf53 5 = .ok (.iload_n 0, 1) := by decide +kernel
theorem dJ9_max_7cf53_6 : decode cJ9_max_7cf53 6 = .ok (.goto 4, 3) := by decide +kernel
theorem dJ9_max_7cf53_9 : decode cJ9_max_7cf53 9 = .ok (.iload_n 1, 1) := by decide +kernel
theorem dJ9_max_7cf53_10 : decode cJ9_max_7cf53 10 = .ok (.ireturn, 1) := by decide +kernel
theorem dJ9_min_7cf53_0 : decode cJ9_min_7cf53 0 = .ok (.iload_n 0, 1) := by decide +kernel
theorem dJ9_min_7cf53_1 : decode cJ9_min_7cf53 1 = .ok (.iload_n 1, 1) := by decide +kernel
theorem dJ9_min_7cf53_2 : decode cJ9_min_7cf53 2 = .ok (.if_icmp .gt 7, 3) := by decide +kernel
theorem dJ9_min_7cf53_5 : decode cJ9_min_7cf53 5 = .ok (.iload_n 0, 1) := by decide +kernel
theorem dJ9_min_7cf53_6 : decode cJ9_min_7cf53 6 = .ok (.goto 4, 3) := by decide +kernel
theorem dJ9_min_7cf53_9 : decode cJ9_min_7cf53 9 = .ok (.iload_n 1, 1) := by decide +kernel
theorem dJ9_min_7cf53_10 : decode cJ9_min_7cf53 10 = .ok (.ireturn, 1) := by decide +kernel
theorem dJ7_fill_53178_0 : decode cJ7_fill_53178 0 = .ok (.iconst 0, 1) := by decide +kernel
theorem dJ7_fill_53178_1 : decode cJ7_fill_53178 1 = .ok (.istore_n 2, 1) := by decide +kernel
theorem dJ7_fill_53178_2 : decode cJ7_fill_53178 2 = .ok (.aload_n 0, 1) := by decide +kernel
theorem dJ7_fill_53178_3 : decode cJ7_fill_53178 3 = .ok (.arraylength, 1) := by decide +kernel
theorem dJ7_fill_53178_4 : decode cJ7_fill_53178 4 = .ok (.istore_n 3, 1) := by decide +kernel
theorem dJ7_fill_53178_5 : decode cJ7_fill_53178 5 = .ok (.iload_n 2, 1) := by decide +kernel
theorem dJ7_fill_53178_6 : decode cJ7_fill_53178 6 = .ok (.iload_n 3, 1) := by decide +kernel
theorem dJ7_fill_53178_7 : decode cJ7_fill_53178 7 = .ok (.if_icmp .ge 13, 3) := by decide +kernel
theorem dJ7_fill_53178_10 : decode cJ7_fill_53178 10 = .ok (.aload_n 0, 1) := by decide +kernel
theorem dJ7_fill_53178_11 : decode cJ7_fill_53178 11 = .ok (.iload_n 2, 1) := by decide +kernel
theorem dJ7_fill_53178_12 : decode cJ7_fill_53178 12 = .ok (.iload_n 1, 1) := by decide +kernel
theorem dJ7_fill_53178_13 : decode cJ7_fill_53178 13 = .ok (.iastore, 1) := by decide +kernel
theorem dJ7_fill_53178_14 : decode cJ7_fill_53178 14 = .ok (.iinc 2 1, 3) := by decide +kernel
theorem dJ7_fill_53178_17 : decode cJ7_fill_53178 17 = .ok (.goto (-12), 3) := by decide +kernel
theorem dJ7_fill_53178_20 : decode cJ7_fill_53178 20 = .ok (.return_, 1) := by decide +kernel
