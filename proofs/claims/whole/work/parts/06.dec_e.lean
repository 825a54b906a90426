theorem dX10_choice_57 : decode cX10_choice 57 = .ok (.lcmp, 1) := by decide +kernel
theorem dX10_choice_58 : decode cX10_choice 58 = .ok (.ifCond .le 9, 3) := by decide +kernel
theorem dX10_choice_61 : decode cX10_choice 61 = .ok (.iload 5, 2) := by decide +kernel
theorem dX10_choice_63 : decode cX10_choice 63 = .ok (.istore_n 2, 1) := by decide +kernel
theorem dX10_choice_64 : decode cX10_choice 64 = .ok (.lload 6, 2) := by decide +kernel
theorem dX10_choice_66 : decode cX10_choice 66 = .ok (.lstore_n 3, 1) := by decide +kernel
theorem dX10_choice_67 : decode cX10_choice 67 = .ok (.iinc 5 1, 3) := by decide +kernel
theorem dX10_choice_70 : decode cX10_choice 70 = .ok (.goto (-50), 3) := by decide +kernel
theorem dX10_choice_73 : decode cX10_choice 73 = .ok (.iload_n 2, 1) := by decide +kernel
theorem dX10_choice_74 : decode cX10_choice 74 = .ok (.ireturn, 1) := by decide +kernel
theorem dX10_goes_0 : decode cX10_goes 0 = .ok (.iconst 0, 1) := by decide +kernel
theorem dX10_goes_1 : decode cX10_goes 1 = .ok (.istore_n 1, 1) := by decide +kernel
theorem dX10_goes_2 : decode cX10_goes 2 = .ok (.iconst 0, 1) := by decide +kernel
theorem dX10_goes_3 : decode cX10_goes 3 = .ok (.istore_n 2, 1) := by decide +kernel
theorem dX10_goes_4 : decode cX10_goes 4 = .ok (.iload_n 2, 1) := by decide +kernel
theorem dX10_goes_5 : decode cX10_goes 5 = .ok (.aload_n 0, 1) := by decide +kernel
theorem dX10_goes_6 : decode cX10_goes 6 = .ok (.getfield 9, 3) := by decide +kernel
theorem dX10_goes_9 : decode cX10_goes 9 = .ok (.iconst 3, 1) := by decide +kernel
theorem dX10_goes_10 : decode cX10_goes 10 = .ok (.iaload, 1) := by decide +kernel
theorem dX10_goes_11 : decode cX10_goes 11 = .ok (.if_icmp .ge 62, 3) := by decide +kernel
theorem dX10_goes_14 : decode cX10_goes 14 = .ok (.aload_n 0, 1) := by decide +kernel
theorem dX10_goes_15 : decode cX10_goes 15 = .ok (.getfield 94, 3) := by decide +kernel
theorem dX10_goes_18 : decode cX10_goes 18 = .ok (.iload_n 2, 1) := by decide +kernel
theorem dX10_goes_19 : decode cX10_goes 19 = .ok (.aload_n 0, 1) := by decide +kernel
theorem dX10_goes_20 : decode cX10_goes 20 = .ok (.iload_n 2, 1) := by decide +kernel
theorem dX10_goes_21 : decode cX10_goes 21 = .ok (.invokevirtual 350, 3) := by decide +kernel
theorem dX10_goes_24 : decode cX10_goes 24 = .ok (.ifCond .eq 11, 3) := by decide +kernel
theorem dX10_goes_27 : decode cX10_goes 27 = .ok (.aload_n 0, 1) := by decide +kernel
theorem dX10_goes_28 : decode cX10_goes 28 = .ok (.iload_n 2, 1) := by decide +kernel
theorem dX10_goes_29 : decode cX10_goes 29 = .ok (.invokevirtual 384, 3) := by decide +kernel
theorem dX10_goes_32 : decode cX10_goes 32 = .ok (.goto 4, 3) := by decide +kernel
theorem dX10_goes_35 : decode cX10_goes 35 = .ok (.iconst (-1), 1) := by decide +kernel
theorem dX10_goes_36 : decode cX10_goes 36 = .ok (.iastore, 1) := by decide +kernel
theorem dX10_goes_37 : decode cX10_goes 37 = .ok (.aload_n 0, 1) := by decide +kernel
theorem dX10_goes_38 : decode cX10_goes 38 = .ok (.getfield 94, 3) := by decide +kernel
theorem dX10_goes_41 : decode cX10_goes 41 = .ok (.iload_n 2, 1) := by decide +kernel
theorem dX10_goes_42 : decode cX10_goes 42 = .ok (.iaload, 1) := by decide +kernel
theorem dX10_goes_43 : decode cX10_goes 43 = .ok (.iconst (-1), 1) := by decide +kernel
theorem dX10_goes_44 : decode cX10_goes 44 = .ok (.if_icmp .eq 23, 3) := by decide +kernel
theorem dX10_goes_47 : decode cX10_goes 47 = .ok (.aload_n 0, 1) := by decide +kernel
theorem dX10_goes_48 : decode cX10_goes 48 = .ok (.iload_n 2, 1) := by decide +kernel
theorem dX10_goes_49 : decode cX10_goes 49 = .ok (.aload_n 0, 1) := by decide +kernel
theorem dX10_goes_50 : decode cX10_goes 50 = .ok (.getfield 94, 3) := by decide +kernel
theorem dX10_goes_53 : decode cX10_goes 53 = .ok (.iload_n 2, 1) := by decide +kernel
theorem dX10_goes_54 : decode cX10_goes 54 = .ok (.iaload, 1) := by decide +kernel
theorem dX10_goes_55 : decode cX10_goes 55 = .ok (.invokevirtual 387, 3) := by decide +kernel
theorem dX10_goes_58 : decode cX10_goes 58 = .ok (.ifCond .eq 9, 3) := by decide +kernel
theorem dX10_goes_61 : decode cX10_goes 61 = .ok (.iload_n 1, 1) := by decide +kernel
theorem dX10_goes_62 : decode cX10_goes 62 = .ok (.iconst 1, 1) := by decide +kernel
theorem dX10_goes_63 : decode cX10_goes 63 = .ok (.iload_n 2, 1) := by decide +kernel
theorem dX10_goes_64 : decode cX10_goes 64 = .ok (.ishl, 1) := by decide +kernel
theorem dX10_goes_65 : decode cX10_goes 65 = .ok (.ior, 1) := by decide +kernel
theorem dX10_goes_66 : decode cX10_goes 66 = .ok (.istore_n 1, 1) := by decide +kernel
theorem dX10_goes_67 : decode cX10_goes 67 = .ok (.iinc 2 1, 3) := by decide +kernel
theorem dX10_goes_70 : decode cX10_goes 70 = .ok (.goto (-66), 3) := by decide +kernel
theorem dX10_goes_73 : decode cX10_goes 73 = .ok (.aload_n 0, 1) := by decide +kernel
theorem dX10_goes_74 : decode cX10_goes 74 = .ok (.getfield 9, 3) := by decide +kernel
theorem dX10_goes_77 : decode cX10_goes 77 = .ok (.iconst 4, 1) := by decide +kernel
theorem dX10_goes_78 : decode cX10_goes 78 = .ok (.dup2, 1) := by decide +kernel
theorem dX10_goes_79 : decode cX10_goes 79 = .ok (.iaload, 1) := by decide +kernel
theorem dX10_goes_80 : decode cX10_goes 80 = .ok (.iconst 1, 1) := by decide +kernel
theorem dX10_goes_81 : decode cX10_goes 81 = .ok (.iadd, 1) := by decide +kernel
theorem dX10_goes_82 : decode cX10_goes 82 = .ok (.iastore, 1) := by decide +kernel
theorem dX10_goes_83 : decode cX10_goes 83 = .ok (.iload_n 1, 1) := by decide +kernel
theorem dX10_goes_84 : decode cX10_goes 84 = .ok (.ireturn, 1) := by decide +kernel
theorem dX10_goFor_0 : decode cX10_goFor 0 = .ok (.iconst 0, 1) := by decide +kernel
theorem dX10_goFor_1 : decode cX10_goFor 1 = .ok (.istore_n 2, 1) := by decide +kernel
theorem dX10_goFor_2 : decode cX10_goFor 2 = .ok (.iload_n 2, 1) := by decide +kernel
theorem dX10_goFor_3 : decode cX10_goFor 3 = .ok (.iload_n 1, 1) := by decide +kernel
theorem dX10_goFor_4 : decode cX10_goFor 4 = .ok (.if_icmp .ge 14, 3) := by decide +kernel
theorem dX10_goFor_7 : decode cX10_goFor 7 = .ok (.aload_n 0, 1) := by decide +kernel
theorem dX10_goFor_8 : decode cX10_goFor 8 = .ok (.invokevirtual 390, 3) := by decide +kernel
theorem dX10_goFor_11 : decode cX10_goFor 11 = .ok (.pop, 1) := by decide +kernel
theorem dX10_goFor_12 : decode cX10_goFor 12 = .ok (.iinc 2 1, 3) := by decide +kernel
theorem dX10_goFor_15 : decode cX10_goFor 15 = .ok (.goto (-13), 3) := by decide +kernel
theorem dX10_goFor_18 : decode cX10_goFor 18 = .ok (.return_, 1) := by decide +kernel
theorem dX10_moves_0 : decode cX10_moves 0 = .ok (.aload_n 0, 1) := by decide +kernel
theorem dX10_moves_1 : decode cX10_moves 1 = .ok (.getfield 393, 3) := by decide +kernel
theorem dX10_moves_4 : decode cX10_moves 4 = .ok (.ifCond .eq 15, 3) := by decide +kernel
theorem dX10_moves_7 : decode cX10_moves 7 = .ok (.aload_n 0, 1) := by decide +kernel
theorem dX10_moves_8 : decode cX10_moves 8 = .ok (.getfield 100, 3) := by decide +kernel
theorem dX10_moves_11 : decode cX10_moves 11 = .ok (.aload_n 0, 1) := by decide +kernel
theorem dX10_moves_12 : decode cX10_moves 12 = .ok (.getfield 397, 3) := by decide +kernel
theorem dX10_moves_15 : decode cX10_moves 15 = .ok (.iaload, 1) := by decide +kernel
theorem dX10_moves_16 : decode cX10_moves 16 = .ok (.goto 4, 3) := by decide +kernel
theorem dX10_moves_19 : decode cX10_moves 19 = .ok (.iload_n 1, 1) := by decide +kernel
theorem dX10_moves_20 : decode cX10_moves 20 = .ok (.istore_n 2, 1) := by decide +kernel
theorem dX10_moves_21 : decode cX10_moves 21 = .ok (.aload_n 0, 1) := by decide +kernel
theorem dX10_moves_22 : decode cX10_moves 22 = .ok (.getfield 100, 3) := by decide +kernel
theorem dX10_moves_25 : decode cX10_moves 25 = .ok (.aload_n 0, 1) := by decide +kernel
theorem dX10_moves_26 : decode cX10_moves 26 = .ok (.getfield 397, 3) := by decide +kernel
theorem dX10_moves_29 : decode cX10_moves 29 = .ok (.iload_n 2, 1) := by decide +kernel
theorem dX10_moves_30 : decode cX10_moves 30 = .ok (.iastore, 1) := by decide +kernel
theorem dX10_moves_31 : decode cX10_moves 31 = .ok (.aload_n 0, 1) := by decide +kernel
theorem dX10_moves_32 : decode cX10_moves 32 = .ok (.dup, 1) := by decide +kernel
theorem dX10_moves_33 : decode cX10_moves 33 = .ok (.getfield 397, 3) := by decide +kernel
theorem dX10_moves_36 : decode cX10_moves 36 = .ok (.iconst 1, 1) := by decide +kernel
theorem dX10_moves_37 : decode cX10_moves 37 = .ok (.iadd, 1) := by decide +kernel
theorem dX10_moves_38 : decode cX10_moves 38 = .ok (.putfield 397, 3) := by decide +kernel
theorem dX10_moves_41 : decode cX10_moves 41 = .ok (.iload_n 2, 1) := by decide +kernel
theorem dX10_moves_42 : decode cX10_moves 42 = .ok (.ireturn, 1) := by decide +kernel
theorem dX10_movesRow_0 : decode cX10_movesRow 0 = .ok (.iconst 0, 1) := by decide +kernel
theorem dX10_movesRow_1 : decode cX10_movesRow 1 = .ok (.istore_n 2, 1) := by decide +kernel
theorem dX10_movesRow_2 : decode cX10_movesRow 2 = .ok (.iload_n 2, 1) := by decide +kernel
theorem dX10_movesRow_3 : decode cX10_movesRow 3 = .ok (.aload_n 1, 1) := by decide +kernel
theorem dX10_movesRow_4 : decode cX10_movesRow 4 = .ok (.arraylength, 1) := by decide +kernel
theorem dX10_movesRow_5 : decode cX10_movesRow 5 = .ok (.if_icmp .ge 19, 3) := by decide +kernel
theorem dX10_movesRow_8 : decode cX10_movesRow 8 = .ok (.aload_n 1, 1) := by decide +kernel
theorem dX10_movesRow_9 : decode cX10_movesRow 9 = .ok (.iload_n 2, 1) := by decide +kernel
theorem dX10_movesRow_10 : decode cX10_movesRow 10 = .ok (.aload_n 0, 1) := by decide +kernel
theorem dX10_movesRow_11 : decode cX10_movesRow 11 = .ok (.aload_n 1, 1) := by decide +kernel
theorem dX10_movesRow_12 : decode cX10_movesRow 12 = .ok (.iload_n 2, 1) := by decide +kernel
theorem dX10_movesRow_13 : decode cX10_movesRow 13 = .ok (.iaload, 1) := by decide +kernel
theorem dX10_movesRow_14 : decode cX10_movesRow 14 = .ok (.invokevirtual 400, 3) := by decide +kernel
theorem dX10_movesRow_17 : decode cX10_movesRow 17 = .ok (.iastore, 1) := by decide +kernel
theorem dX10_movesRow_18 : decode cX10_movesRow 18 = .ok (.iinc 2 1, 3) := by decide +kernel
theorem dX10_movesRow_21 : decode cX10_movesRow 21 = .ok (.goto (-19), 3) := by decide +kernel
theorem dX10_movesRow_24 : decode cX10_movesRow 24 = .ok (.return_, 1) := by decide +kernel
theorem dX10_movesAll_0 : decode cX10_movesAll 0 = .ok (.aload_n 0, 1) := by decide +kernel
theorem dX10_movesAll_1 : decode cX10_movesAll 1 = .ok (.bipush 20, 2) := by decide +kernel
theorem dX10_movesAll_3 : decode cX10_movesAll 3 = .ok (.iload_n 1, 1) := by decide +kernel
theorem dX10_movesAll_4 : decode cX10_movesAll 4 = .ok (.imul, 1) := by decide +kernel
theorem dX10_movesAll_5 : decode cX10_movesAll 5 = .ok (.putfield 397, 3) := by decide +kernel
theorem dX10_movesAll_8 : decode cX10_movesAll 8 = .ok (.aload_n 0, 1) := by decide +kernel
theorem dX10_movesAll_9 : decode cX10_movesAll 9 = .ok (.iload_n 2, 1) := by decide +kernel
theorem dX10_movesAll_10 : decode cX10_movesAll 10 = .ok (.putfield 393, 3) := by decide +kernel
theorem dX10_movesAll_13 : decode cX10_movesAll 13 = .ok (.aload_n 0, 1) := by decide +kernel
theorem dX10_movesAll_14 : decode cX10_movesAll 14 = .ok (.getfield 9, 3) := by decide +kernel
theorem dX10_movesAll_17 : decode cX10_movesAll 17 = .ok (.iconst 4, 1) := by decide +kernel
theorem dX10_movesAll_18 : decode cX10_movesAll 18 = .ok (.aload_n 0, 1) := by decide +kernel
theorem dX10_movesAll_19 : decode cX10_movesAll 19 = .ok (.aload_n 0, 1) := by decide +kernel
theorem dX10_movesAll_20 : decode cX10_movesAll 20 = .ok (.getfield 9, 3) := by decide +kernel
theorem dX10_movesAll_23 : decode cX10_movesAll 23 = .ok (.iconst 4, 1) := by decide +kernel
theorem dX10_movesAll_24 : decode cX10_movesAll 24 = .ok (.iaload, 1) := by decide +kernel
theorem dX10_movesAll_25 : decode cX10_movesAll 25 = .ok (.invokevirtual 400, 3) := by decide +kernel
theorem dX10_movesAll_28 : decode cX10_movesAll 28 = .ok (.iastore, 1) := by decide +kernel
theorem dX10_movesAll_29 : decode cX10_movesAll 29 = .ok (.aload_n 0, 1) := by decide +kernel
theorem dX10_movesAll_30 : decode cX10_movesAll 30 = .ok (.getfield 9, 3) := by decide +kernel
theorem dX10_movesAll_33 : decode cX10_movesAll 33 = .ok (.iconst 5, 1) := by decide +kernel
theorem dX10_movesAll_34 : decode cX10_movesAll 34 = .ok (.aload_n 0, 1) := by decide +kernel
theorem dX10_movesAll_35 : decode cX10_movesAll 35 = .ok (.aload_n 0, 1) := by decide +kernel
theorem dX10_movesAll_36 : decode cX10_movesAll 36 = .ok (.getfield 9, 3) := by decide +kernel
theorem dX10_movesAll_39 : decode cX10_movesAll 39 = .ok (.iconst 5, 1) := by decide +kernel
theorem dX10_movesAll_40 : decode cX10_movesAll 40 = .ok (.iaload, 1) := by decide +kernel
theorem dX10_movesAll_41 : decode cX10_movesAll 41 = .ok (.invokevirtual 400, 3) := by decide +kernel
theorem dX10_movesAll_44 : decode cX10_movesAll 44 = .ok (.iastore, 1) := by decide +kernel
theorem dX10_movesAll_45 : decode cX10_movesAll 45 = .ok (.aload_n 0, 1) := by decide +kernel
theorem dX10_movesAll_46 : decode cX10_movesAll 46 = .ok (.aload_n 0, 1) := by decide +kernel
theorem dX10_movesAll_47 : decode cX10_movesAll 47 = .ok (.getfield 22, 3) := by decide +kernel
theorem dX10_movesAll_50 : decode cX10_movesAll 50 = .ok (.invokevirtual 403, 3) := by decide +kernel
theorem dX10_movesAll_53 : decode cX10_movesAll 53 = .ok (.aload_n 0, 1) := by decide +kernel
theorem dX10_movesAll_54 : decode cX10_movesAll 54 = .ok (.aload_n 0, 1) := by decide +kernel
theorem dX10_movesAll_55 : decode cX10_movesAll 55 = .ok (.getfield 25, 3) := by decide +kernel
theorem dX10_movesAll_58 : decode cX10_movesAll 58 = .ok (.invokevirtual 403, 3) := by decide +kernel
theorem dX10_movesAll_61 : decode cX10_movesAll 61 = .ok (.aload_n 0, 1) := by decide +kernel
theorem dX10_movesAll_62 : decode cX10_movesAll 62 = .ok (.aload_n 0, 1) := by decide +kernel
theorem dX10_movesAll_63 : decode cX10_movesAll 63 = .ok (.getfield 28, 3) := by decide +kernel
theorem dX10_movesAll_66 : decode cX10_movesAll 66 = .ok (.invokevirtual 403, 3) := by decide +kernel
theorem dX10_movesAll_69 : decode cX10_movesAll 69 = .ok (.return_, 1) := by decide +kernel
theorem dX10_keepsAct_0 : decode cX10_keepsAct 0 = .ok (.aload_n 0, 1) := by decide +kernel
theorem dX10_keepsAct_1 : decode cX10_keepsAct 1 = .ok (.getfield 299, 3) := by decide +kernel
theorem dX10_keepsAct_4 : decode cX10_keepsAct 4 = .ok (.bipush 20, 2) := by decide +kernel
theorem dX10_keepsAct_6 : decode cX10_keepsAct 6 = .ok (.if_icmp .ne 44, 3) := by decide +kernel
theorem dX10_keepsAct_9 : decode cX10_keepsAct 9 = .ok (.bipush 20, 2) := by decide +kernel
theorem dX10_keepsAct_11 : decode cX10_keepsAct 11 = .ok (.istore_n 1, 1) := by decide +kernel
theorem dX10_keepsAct_12 : decode cX10_keepsAct 12 = .ok (.iload_n 1, 1) := by decide +kernel
theorem dX10_keepsAct_13 : decode cX10_keepsAct 13 = .ok (.sipush 400, 3) := by decide +kernel
theorem dX10_keepsAct_16 : decode cX10_keepsAct 16 = .ok (.if_icmp .ge 24, 3) := by decide +kernel
theorem dX10_keepsAct_19 : decode cX10_keepsAct 19 = .ok (.aload_n 0, 1) := by decide +kernel
theorem dX10_keepsAct_20 : decode cX10_keepsAct 20 = .ok (.getfield 100, 3) := by decide +kernel
theorem dX10_keepsAct_23 : decode cX10_keepsAct 23 = .ok (.iload_n 1, 1) := by decide +kernel
theorem dX10_keepsAct_24 : decode cX10_keepsAct 24 = .ok (.bipush 20, 2) := by decide +kernel
theorem dX10_keepsAct_26 : decode cX10_keepsAct 26 = .ok (.isub, 1) := by decide +kernel
theorem dX10_keepsAct_27 : decode cX10_keepsAct 27 = .ok (.aload_n 0, 1) := by decide +kernel
theorem dX10_keepsAct_28 : decode cX10_keepsAct 28 = .ok (.getfield 100, 3) := by decide +kernel
theorem dX10_keepsAct_31 : decode cX10_keepsAct 31 = .ok (.iload_n 1, 1) := by decide +kernel
theorem dX10_keepsAct_32 : decode cX10_keepsAct 32 = .ok (.iaload, 1) := by decide +kernel
theorem dX10_keepsAct_33 : decode cX10_keepsAct 33 = .ok (.iastore, 1) := by decide +kernel
theorem dX10_keepsAct_34 : decode cX10_keepsAct 34 = .ok (.iinc 1 1, 3) := by decide +kernel
theorem dX10_keepsAct_37 : decode cX10_keepsAct 37 = .ok (.goto (-25), 3) := by decide +kernel
theorem dX10_keepsAct_40 : decode cX10_keepsAct 40 = .ok (.aload_n 0, 1) := by decide +kernel
theorem dX10_keepsAct_41 : decode cX10_keepsAct 41 = .ok (.dup, 1) := by decide +kernel
theorem dX10_keepsAct_42 : decode cX10_keepsAct 42 = .ok (.getfield 299, 3) := by decide +kernel
theorem dX10_keepsAct_45 : decode cX10_keepsAct 45 = .ok (.iconst 1, 1) := by decide +kernel
theorem dX10_keepsAct_46 : decode cX10_keepsAct 46 = .ok (.isub, 1) := by decide +kernel
theorem dX10_keepsAct_47 : decode cX10_keepsAct 47 = .ok (.putfield 299, 3) := by decide +kernel
theorem dX10_keepsAct_50 : decode cX10_keepsAct 50 = .ok (.aload_n 0, 1) := by decide +kernel
theorem dX10_keepsAct_51 : decode cX10_keepsAct 51 = .ok (.aload_n 0, 1) := by decide +kernel
theorem dX10_keepsAct_52 : decode cX10_keepsAct 52 = .ok (.getfield 299, 3) := by decide +kernel
theorem dX10_keepsAct_55 : decode cX10_keepsAct 55 = .ok (.iconst 0, 1) := by decide +kernel
theorem dX10_keepsAct_56 : decode cX10_keepsAct 56 = .ok (.invokevirtual 407, 3) := by decide +kernel
theorem dX10_keepsAct_59 : decode cX10_keepsAct 59 = .ok (.aload_n 0, 1) := by decide +kernel
theorem dX10_keepsAct_60 : decode cX10_keepsAct 60 = .ok (.dup, 1) := by decide +kernel
theorem dX10_keepsAct_61 : decode cX10_keepsAct 61 = .ok (.getfield 299, 3) := by decide +kernel
theorem dX10_keepsAct_64 : decode cX10_keepsAct 64 = .ok (.iconst 1, 1) := by decide +kernel
theorem dX10_keepsAct_65 : decode cX10_keepsAct 65 = .ok (.iadd, 1) := by decide +kernel
theorem dX10_keepsAct_66 : decode cX10_keepsAct 66 = .ok (.putfield 299, 3) := by decide +kernel
theorem dX10_keepsAct_69 : decode cX10_keepsAct 69 = .ok (.return_, 1) := by decide +kernel
theorem dX10_undo_0 : decode cX10_undo 0 = .ok (.aload_n 0, 1) := by decide +kernel
theorem dX10_undo_1 : decode cX10_undo 1 = .ok (.getfield 299, 3) := by decide +kernel
theorem dX10_undo_4 : decode cX10_undo 4 = .ok (.ifCond .ne 6, 3) := by decide +kernel
theorem dX10_undo_7 : decode cX10_undo 7 = .ok (.bipush (-2), 2) := by decide +kernel
theorem dX10_undo_9 : decode cX10_undo 9 = .ok (.ireturn, 1) := by decide +kernel
theorem dX10_undo_10 : decode cX10_undo 10 = .ok (.aload_n 0, 1) := by decide +kernel
theorem dX10_undo_11 : decode cX10_undo 11 = .ok (.dup, 1) := by decide +kernel
theorem dX10_undo_12 : decode cX10_undo 12 = .ok (.getfield 299, 3) := by decide +kernel
theorem dX10_undo_15 : decode cX10_undo 15 = .ok (.iconst 1, 1) := by decide +kernel
theorem dX10_undo_16 : decode cX10_undo 16 = .ok (.isub, 1) := by decide +kernel
theorem dX10_undo_17 : decode cX10_undo 17 = .ok (.putfield 299, 3) := by decide +kernel
theorem dX10_undo_20 : decode cX10_undo 20 = .ok (.aload_n 0, 1) := by decide +kernel
theorem dX10_undo_21 : decode cX10_undo 21 = .ok (.aload_n 0, 1) := by decide +kernel
theorem dX10_undo_22 : decode cX10_undo 22 = .ok (.getfield 299, 3) := by decide +kernel
theorem dX10_undo_25 : decode cX10_undo 25 = .ok (.iconst 1, 1) := by decide +kernel
theorem dX10_undo_26 : decode cX10_undo 26 = .ok (.invokevirtual 407, 3) := by decide +kernel
theorem dX10_undo_29 : decode cX10_undo 29 = .ok (.aload_n 0, 1) := by decide +kernel
theorem dX10_undo_30 : decode cX10_undo 30 = .ok (.getfield 299, 3) := by decide +kernel
theorem dX10_undo_33 : decode cX10_undo 33 = .ok (.ireturn, 1) := by decide +kernel
theorem dX10_tide_0 : decode cX10_tide 0 = .ok (.aload_n 0, 1) := by decide +kernel
theorem dX10_tide_1 : decode cX10_tide 1 = .ok (.invokevirtual 411, 3) := by decide +kernel
theorem dX10_tide_4 : decode cX10_tide 4 = .ok (.ifCond .eq 15, 3) := by decide +kernel
theorem dX10_tide_7 : decode cX10_tide 7 = .ok (.aload_n 0, 1) := by decide +kernel
theorem dX10_tide_8 : decode cX10_tide 8 = .ok (.getfield 9, 3) := by decide +kernel
theorem dX10_tide_11 : decode cX10_tide 11 = .ok (.iconst 4, 1) := by decide +kernel
theorem dX10_tide_12 : decode cX10_tide 12 = .ok (.iaload, 1) := by decide +kernel
theorem dX10_tide_13 : decode cX10_tide 13 = .ok (.sipush 999, 3) := by decide +kernel
theorem dX10_tide_16 : decode cX10_tide 16 = .ok (.if_icmp .ne 5, 3) := by decide +kernel
theorem dX10_tide_19 : decode cX10_tide 19 = .ok (.iconst (-1), 1) := by decide +kernel
theorem dX10_tide_20 : decode cX10_tide 20 = .ok (.ireturn, 1) := by decide +kernel
theorem dX10_tide_21 : decode cX10_tide 21 = .ok (.aload_n 0, 1) := by decide +kernel
theorem dX10_tide_22 : decode cX10_tide 22 = .ok (.invokevirtual 414, 3) := by decide +kernel
theorem dX10_tide_25 : decode cX10_tide 25 = .ok (.aload_n 0, 1) := by decide +kernel
theorem dX10_tide_26 : decode cX10_tide 26 = .ok (.invokevirtual 390, 3) := by decide +kernel
theorem dX10_tide_29 : decode cX10_tide 29 = .ok (.ireturn, 1) := by decide +kernel
theorem dX10_say_0 : decode cX10_say 0 = .ok (.aload_n 0, 1) := by decide +kernel
theorem dX10_say_1 : decode cX10_say 1 = .ok (.iload_n 1, 1) := by decide +kernel
theorem dX10_say_2 : decode cX10_say 2 = .ok (.invokevirtual 350, 3) := by decide +kernel
theorem dX10_say_5 : decode cX10_say 5 = .ok (.ifCond .eq 24, 3) := by decide +kernel
theorem dX10_say_8 : decode cX10_say 8 = .ok (.aload_n 0, 1) := by decide +kernel
theorem dX10_say_9 : decode cX10_say 9 = .ok (.iload_n 2, 1) := by decide +kernel
theorem dX10_say_10 : decode cX10_say 10 = .ok (.invokevirtual 341, 3) := by decide +kernel
theorem dX10_say_13 : decode cX10_say 13 = .ok (.ifCond .eq 16, 3) := by decide +kernel
theorem dX10_say_16 : decode cX10_say 16 = .ok (.aload_n 0, 1) := by decide +kernel
theorem dX10_say_17 : decode cX10_say 17 = .ok (.getfield 25, 3) := by decide +kernel
theorem dX10_say_20 : decode cX10_say 20 = .ok (.iload_n 1, 1) := by decide +kernel
theorem dX10_say_21 : decode cX10_say 21 = .ok (.iaload, 1) := by decide +kernel
theorem dX10_say_22 : decode cX10_say 22 = .ok (.iload_n 2, 1) := by decide +kernel
theorem dX10_say_23 : decode cX10_say 23 = .ok (.invokestatic 353, 3) := by decide +kernel
theorem dX10_say_26 : decode cX10_say 26 = .ok (.ifCond .ne 5, 3) := by decide +kernel
theorem dX10_say_29 : decode cX10_say 29 = .ok (.iconst (-1), 1) := by decide +kernel
theorem dX10_say_30 : decode cX10_say 30 = .ok (.ireturn, 1) := by decide +kernel
theorem dX10_say_31 : decode cX10_say 31 = .ok (.aload_n 0, 1) := by decide +kernel
theorem dX10_say_32 : decode cX10_say 32 = .ok (.invokevirtual 414, 3) := by decide +kernel
theorem dX10_say_35 : decode cX10_say 35 = .ok (.aload_n 0, 1) := by decide +kernel
theorem dX10_say_36 : decode cX10_say 36 = .ok (.iload_n 1, 1) := by decide +kernel
theorem dX10_say_37 : decode cX10_say 37 = .ok (.iload_n 2, 1) := by decide +kernel
theorem dX10_say_38 : decode cX10_say 38 = .ok (.invokevirtual 387, 3) := by decide +kernel
theorem dX10_say_41 : decode cX10_say 41 = .ok (.ifCond .eq 7, 3) := by decide +kernel
theorem dX10_say_44 : decode cX10_say 44 = .ok (.iconst 1, 1) := by decide +kernel
theorem dX10_say_45 : decode cX10_say 45 = .ok (.goto 4, 3) := by decide +kernel
theorem dX10_say_48 : decode cX10_say 48 = .ok (.iconst 0, 1) := by decide +kernel
theorem dX10_say_49 : decode cX10_say 49 = .ok (.ireturn, 1) := by decide +kernel
theorem dX10_trade_0 : decode cX10_trade 0 = .ok (.aload_n 0, 1) := by decide +kernel
theorem dX10_trade_1 : decode cX10_trade 1 = .ok (.iload_n 1, 1) := by decide +kernel
theorem dX10_trade_2 : decode cX10_trade 2 = .ok (.invokevirtual 350, 3) := by decide +kernel
theorem dX10_trade_5 : decode cX10_trade 5 = .ok (.ifCond .eq 26, 3) := by decide +kernel
theorem dX10_trade_8 : decode cX10_trade 8 = .ok (.aload_n 0, 1) := by decide +kernel
theorem dX10_trade_9 : decode cX10_trade 9 = .ok (.iload_n 2, 1) := by decide +kernel
theorem dX10_trade_10 : decode cX10_trade 10 = .ok (.invokevirtual 350, 3) := by decide +kernel
theorem dX10_trade_13 : decode cX10_trade 13 = .ok (.ifCond .eq 18, 3) := by decide +kernel
theorem dX10_trade_16 : decode cX10_trade 16 = .ok (.aload_n 0, 1) := by decide +kernel
theorem dX10_trade_17 : decode cX10_trade 17 = .ok (.getfield 25, 3) := by decide +kernel
theorem dX10_trade_20 : decode cX10_trade 20 = .ok (.iload_n 1, 1) := by decide +kernel
theorem dX10_trade_21 : decode cX10_trade 21 = .ok (.iaload, 1) := by decide +kernel
theorem dX10_trade_22 : decode cX10_trade 22 = .ok (.aload_n 0, 1) := by decide +kernel
theorem dX10_trade_23 : decode cX10_trade 23 = .ok (.getfield 25, 3) := by decide +kernel
theorem dX10_trade_26 : decode cX10_trade 26 = .ok (.iload_n 2, 1) := by decide +kernel
theorem dX10_trade_27 : decode cX10_trade 27 = .ok (.iaload, 1) := by decide +kernel
theorem dX10_trade_28 : decode cX10_trade 28 = .ok (.if_icmp .ne 5, 3) := by decide +kernel
theorem dX10_trade_31 : decode cX10_trade 31 = .ok (.iconst (-1), 1) := by decide +kernel
theorem dX10_trade_32 : decode cX10_trade 32 = .ok (.ireturn, 1) := by decide +kernel
theorem dX10_trade_33 : decode cX10_trade 33 = .ok (.aload_n 0, 1) := by decide +kernel
theorem dX10_trade_34 : decode cX10_trade 34 = .ok (.invokevirtual 414, 3) := by decide +kernel
theorem dX10_trade_37 : decode cX10_trade 37 = .ok (.aload_n 0, 1) := by decide +kernel
theorem dX10_trade_38 : decode cX10_trade 38 = .ok (.getfield 25, 3) := by decide +kernel
theorem dX10_trade_41 : decode cX10_trade 41 = .ok (.iload_n 1, 1) := by decide +kernel
theorem dX10_trade_42 : decode cX10_trade 42 = .ok (.dup2, 1) := by decide +kernel
theorem dX10_trade_43 : decode cX10_trade 43 = .ok (.iaload, 1) := by decide +kernel
theorem dX10_trade_44 : decode cX10_trade 44 = .ok (.aload_n 0, 1) := by decide +kernel
theorem dX10_trade_45 : decode cX10_trade 45 = .ok (.getfield 25, 3) := by decide +kernel
theorem dX10_trade_48 : decode cX10_trade 48 = .ok (.iload_n 2, 1) := by decide +kernel
theorem dX10_trade_49 : decode cX10_trade 49 = .ok (.iaload, 1) := by decide +kernel
theorem dX10_trade_50 : decode cX10_trade 50 = .ok (.ior, 1) := by decide +kernel
theorem dX10_trade_51 : decode cX10_trade 51 = .ok (.iastore, 1) := by decide +kernel
theorem dX10_trade_52 : decode cX10_trade 52 = .ok (.aload_n 0, 1) := by decide +kernel
theorem dX10_trade_53 : decode cX10_trade 53 = .ok (.getfield 25, 3) := by decide +kernel
theorem dX10_trade_56 : decode cX10_trade 56 = .ok (.iload_n 2, 1) := by decide +kernel
theorem dX10_trade_57 : decode cX10_trade 57 = .ok (.aload_n 0, 1) := by decide +kernel
theorem dX10_trade_58 : decode cX10_trade 58 = .ok (.getfield 25, 3) := by decide +kernel
theorem dX10_trade_61 : decode cX10_trade 61 = .ok (.iload_n 1, 1) := by decide +kernel
theorem dX10_trade_62 : decode cX10_trade 62 = .ok (.iaload, 1) := by decide +kernel
theorem dX10_trade_63 : decode cX10_trade 63 = .ok (.iastore, 1) := by decide +kernel
theorem dX10_trade_64 : decode cX10_trade 64 = .ok (.aload_n 0, 1) := by decide +kernel
theorem dX10_trade_65 : decode cX10_trade 65 = .ok (.getfield 25, 3) := by decide +kernel
theorem dX10_trade_68 : decode cX10_trade 68 = .ok (.iload_n 1, 1) := by decide +kernel
theorem dX10_trade_69 : decode cX10_trade 69 = .ok (.iaload, 1) := by decide +kernel
theorem dX10_trade_70 : decode cX10_trade 70 = .ok (.ireturn, 1) := by decide +kernel
theorem dX10_coin_0 : decode cX10_coin 0 = .ok (.aload_n 0, 1) := by decide +kernel
theorem dX10_coin_1 : decode cX10_coin 1 = .ok (.iload_n 1, 1) := by decide +kernel
theorem dX10_coin_2 : decode cX10_coin 2 = .ok (.invokevirtual 350, 3) := by decide +kernel
theorem dX10_coin_5 : decode cX10_coin 5 = .ok (.ifCond .eq 24, 3) := by decide +kernel
theorem dX10_coin_8 : decode cX10_coin 8 = .ok (.aload_n 0, 1) := by decide +kernel
theorem dX10_coin_9 : decode cX10_coin 9 = .ok (.iload_n 2, 1) := by decide +kernel
theorem dX10_coin_10 : decode cX10_coin 10 = .ok (.invokevirtual 341, 3) := by decide +kernel
theorem dX10_coin_13 : decode cX10_coin 13 = .ok (.ifCond .eq 16, 3) := by decide +kernel
theorem dX10_coin_16 : decode cX10_coin 16 = .ok (.aload_n 0, 1) := by decide +kernel
theorem dX10_coin_17 : decode cX10_coin 17 = .ok (.getfield 25, 3) := by decide +kernel
theorem dX10_coin_20 : decode cX10_coin 20 = .ok (.iload_n 1, 1) := by decide +kernel
theorem dX10_coin_21 : decode cX10_coin 21 = .ok (.iaload, 1) := by decide +kernel
theorem dX10_coin_22 : decode cX10_coin 22 = .ok (.iload_n 2, 1) := by decide +kernel
theorem dX10_coin_23 : decode cX10_coin 23 = .ok (.invokestatic 353, 3) := by decide +kernel
theorem dX10_coin_26 : decode cX10_coin 26 = .ok (.ifCond .eq 5, 3) := by decide +kernel
theorem dX10_coin_29 : decode cX10_coin 29 = .ok (.iconst (-1), 1) := by decide +kernel
theorem dX10_coin_30 : decode cX10_coin 30 = .ok (.ireturn, 1) := by decide +kernel
theorem dX10_coin_31 : decode cX10_coin 31 = .ok (.aload_n 0, 1) := by decide +kernel
theorem dX10_coin_32 : decode cX10_coin 32 = .ok (.invokevirtual 414, 3) := by decide +kernel
theorem dX10_coin_35 : decode cX10_coin 35 = .ok (.aload_n 0, 1) := by decide +kernel
theorem dX10_coin_36 : decode cX10_coin 36 = .ok (.getfield 25, 3) := by decide +kernel
theorem dX10_coin_39 : decode cX10_coin 39 = .ok (.iload_n 1, 1) := by decide +kernel
theorem dX10_coin_40 : decode cX10_coin 40 = .ok (.dup2, 1) := by decide +kernel
theorem dX10_coin_41 : decode cX10_coin 41 = .ok (.iaload, 1) := by decide +kernel
theorem dX10_coin_42 : decode cX10_coin 42 = .ok (.iconst 1, 1) := by decide +kernel
theorem dX10_coin_43 : decode cX10_coin 43 = .ok (.iload_n 2, 1) := by decide +kernel
theorem dX10_coin_44 : decode cX10_coin 44 = .ok (.ishl, 1) := by decide +kernel
theorem dX10_coin_45 : decode cX10_coin 45 = .ok (.ior, 1) := by decide +kernel
theorem dX10_coin_46 : decode cX10_coin 46 = .ok (.iastore, 1) := by decide +kernel
theorem dX10_coin_47 : decode cX10_coin 47 = .ok (.aload_n 0, 1) := by decide +kernel
theorem dX10_coin_48 : decode cX10_coin 48 = .ok (.getfield 25, 3) := by decide +kernel
theorem dX10_coin_51 : decode cX10_coin 51 = .ok (.iload_n 1, 1) := by decide +kernel
theorem dX10_coin_52 : decode cX10_coin 52 = .ok (.iaload, 1) := by decide +kernel
theorem dX10_coin_53 : decode cX10_coin 53 = .ok (.ireturn, 1) := by decide +kernel
theorem dX10_dull_0 : decode cX10_dull 0 = .ok (.aload_n 0, 1) := by decide +kernel
theorem dX10_dull_1 : decode cX10_dull 1 = .ok (.iload_n 1, 1) := by decide +kernel
theorem dX10_dull_2 : decode cX10_dull 2 = .ok (.invokevirtual 341, 3) := by decide +kernel
theorem dX10_dull_5 : decode cX10_dull 5 = .ok (.ifCond .eq 11, 3) := by decide +kernel
theorem dX10_dull_8 : decode cX10_dull 8 = .ok (.aload_n 0, 1) := by decide +kernel
theorem dX10_dull_9 : decode cX10_dull 9 = .ok (.iload_n 1, 1) := by decide +kernel
theorem dX10_dull_10 : decode cX10_dull 10 = .ok (.invokevirtual 332, 3) := by decide +kernel
theorem dX10_dull_13 : decode cX10_dull 13 = .ok (.ifCond .ne 5, 3) := by decide +kernel
theorem dX10_dull_16 : decode cX10_dull 16 = .ok (.iconst (-1), 1) := by decide +kernel
theorem dX10_dull_17 : decode cX10_dull 17 = .ok (.ireturn, 1) := by decide +kernel
theorem dX10_dull_18 : decode cX10_dull 18 = .ok (.aload_n 0, 1) := by decide +kernel
theorem dX10_dull_19 : decode cX10_dull 19 = .ok (.invokevirtual 414, 3) := by decide +kernel
theorem dX10_dull_22 : decode cX10_dull 22 = .ok (.aload_n 0, 1) := by decide +kernel
theorem dX10_dull_23 : decode cX10_dull 23 = .ok (.getfield 9, 3) := by decide +kernel
theorem dX10_dull_26 : decode cX10_dull 26 = .ok (.iconst 4, 1) := by decide +kernel
theorem dX10_dull_27 : decode cX10_dull 27 = .ok (.iaload, 1) := by decide +kernel
theorem dX10_dull_28 : decode cX10_dull 28 = .ok (.aload_n 0, 1) := by decide +kernel
theorem dX10_dull_29 : decode cX10_dull 29 = .ok (.getfield 22, 3) := by decide +kernel
theorem dX10_dull_32 : decode cX10_dull 32 = .ok (.iload_n 1, 1) := by decide +kernel
theorem dX10_dull_33 : decode cX10_dull 33 = .ok (.iaload, 1) := by decide +kernel
theorem dX10_dull_34 : decode cX10_dull 34 = .ok (.isub, 1) := by decide +kernel
theorem dX10_dull_35 : decode cX10_dull 35 = .ok (.istore_n 2, 1) := by decide +kernel
theorem dX10_dull_36 : decode cX10_dull 36 = .ok (.aload_n 0, 1) := by decide +kernel
theorem dX10_dull_37 : decode cX10_dull 37 = .ok (.getfield 22, 3) := by decide +kernel
theorem dX10_dull_40 : decode cX10_dull 40 = .ok (.iload_n 1, 1) := by decide +kernel
theorem dX10_dull_41 : decode cX10_dull 41 = .ok (.sipush (-1000), 3) := by decide +kernel
theorem dX10_dull_44 : decode cX10_dull 44 = .ok (.iastore, 1) := by decide +kernel
theorem dX10_dull_45 : decode cX10_dull 45 = .ok (.iload_n 2, 1) := by decide +kernel
theorem dX10_dull_46 : decode cX10_dull 46 = .ok (.ireturn, 1) := by decide +kernel
theorem dX10_keepsAll_0 : decode cX10_keepsAll 0 = .ok (.aload_n 0, 1) := by decide +kernel
theorem dX10_keepsAll_1 : decode cX10_keepsAll 1 = .ok (.iconst 4, 1) := by decide +kernel
theorem dX10_keepsAll_2 : decode cX10_keepsAll 2 = .ok (.iconst 0, 1) := by decide +kernel
theorem dX10_keepsAll_3 : decode cX10_keepsAll 3 = .ok (.invokevirtual 417, 3) := by decide +kernel
theorem dX10_keepsAll_6 : decode cX10_keepsAll 6 = .ok (.return_, 1) := by decide +kernel
theorem dX10_laysBack_0 : decode cX10_laysBack 0 = .ok (.aload_n 0, 1) := by decide +kernel
theorem dX10_laysBack_1 : decode cX10_laysBack 1 = .ok (.iconst 4, 1) := by decide +kernel
theorem dX10_laysBack_2 : decode cX10_laysBack 2 = .ok (.iconst 1, 1) := by decide +kernel
theorem dX10_laysBack_3 : decode cX10_laysBack 3 = .ok (.invokevirtual 417, 3) := by decide +kernel
theorem dX10_laysBack_6 : decode cX10_laysBack 6 = .ok (.return_, 1) := by decide +kernel
theorem dX10_earnedIn_0 : decode cX10_earnedIn 0 = .ok (.aload_n 0, 1) := by decide +kernel
theorem dX10_earnedIn_1 : decode cX10_earnedIn 1 = .ok (.iload_n 1, 1) := by decide +kernel
theorem dX10_earnedIn_2 : decode cX10_earnedIn 2 = .ok (.invokevirtual 420, 3) := by decide +kernel
theorem dX10_earnedIn_5 : decode cX10_earnedIn 5 = .ok (.aload_n 0, 1) := by decide +kernel
theorem dX10_earnedIn_6 : decode cX10_earnedIn 6 = .ok (.getfield 9, 3) := by decide +kernel
theorem dX10_earnedIn_9 : decode cX10_earnedIn 9 = .ok (.iconst 5, 1) := by decide +kernel
theorem dX10_earnedIn_10 : decode cX10_earnedIn 10 = .ok (.iaload, 1) := by decide +kernel
theorem dX10_earnedIn_11 : decode cX10_earnedIn 11 = .ok (.istore_n 2, 1) := by decide +kernel
theorem dX10_earnedIn_12 : decode cX10_earnedIn 12 = .ok (.aload_n 0, 1) := by decide +kernel
theorem dX10_earnedIn_13 : decode cX10_earnedIn 13 = .ok (.invokevirtual 423, 3) := by decide +kernel
theorem dX10_earnedIn_16 : decode cX10_earnedIn 16 = .ok (.iload_n 2, 1) := by decide +kernel
theorem dX10_earnedIn_17 : decode cX10_earnedIn 17 = .ok (.ireturn, 1) := by decide +kernel
theorem dX10_ahead_0 : decode cX10_ahead 0 = .ok (.aload_n 0, 1) := by decide +kernel
theorem dX10_ahead_1 : decode cX10_ahead 1 = .ok (.invokevirtual 411, 3) := by decide +kernel
theorem dX10_ahead_4 : decode cX10_ahead 4 = .ok (.ifCond .eq 39, 3) := by decide +kernel
theorem dX10_ahead_7 : decode cX10_ahead 7 = .ok (.iload_n 3, 1) := by decide +kernel
theorem dX10_ahead_8 : decode cX10_ahead 8 = .ok (.i2l, 1) := by decide +kernel
theorem dX10_ahead_9 : decode cX10_ahead 9 = .ok (.lconst 0, 1) := by decide +kernel
theorem dX10_ahead_10 : decode cX10_ahead 10 = .ok (.ldc2_w 426, 3) := by decide +kernel
theorem dX10_ahead_13 : decode cX10_ahead 13 = .ok (.invokestatic 131, 3) := by decide +kernel
theorem dX10_ahead_16 : decode cX10_ahead 16 = .ok (.ifCond .eq 27, 3) := by decide +kernel
theorem dX10_ahead_19 : decode cX10_ahead 19 = .ok (.iload_n 3, 1) := by decide +kernel
theorem dX10_ahead_20 : decode cX10_ahead 20 = .ok (.ifCond .ne 11, 3) := by decide +kernel
theorem dX10_ahead_23 : decode cX10_ahead 23 = .ok (.aload_n 0, 1) := by decide +kernel
theorem dX10_ahead_24 : decode cX10_ahead 24 = .ok (.iload_n 1, 1) := by decide +kernel
theorem dX10_ahead_25 : decode cX10_ahead 25 = .ok (.invokevirtual 135, 3) := by decide +kernel
theorem dX10_ahead_28 : decode cX10_ahead 28 = .ok (.ifCond .eq 15, 3) := by decide +kernel
theorem dX10_ahead_31 : decode cX10_ahead 31 = .ok (.iload_n 2, 1) := by decide +kernel
theorem dX10_ahead_32 : decode cX10_ahead 32 = .ok (.i2l, 1) := by decide +kernel
theorem dX10_ahead_33 : decode cX10_ahead 33 = .ok (.lconst 0, 1) := by decide +kernel
theorem dX10_ahead_34 : decode cX10_ahead 34 = .ok (.ldc2_w 428, 3) := by decide +kernel
theorem dX10_ahead_37 : decode cX10_ahead 37 = .ok (.invokestatic 131, 3) := by decide +kernel
theorem dX10_ahead_40 : decode cX10_ahead 40 = .ok (.ifCond .ne 6, 3) := by decide +kernel
theorem dX10_ahead_43 : decode cX10_ahead 43 = .ok (.bipush (-2), 2) := by decide +kernel
theorem dX10_ahead_45 : decode cX10_ahead 45 = .ok (.ireturn, 1) := by decide +kernel
theorem dX10_ahead_46 : decode cX10_ahead 46 = .ok (.aload_n 0, 1) := by decide +kernel
theorem dX10_ahead_47 : decode cX10_ahead 47 = .ok (.invokevirtual 430, 3) := by decide +kernel
theorem dX10_ahead_50 : decode cX10_ahead 50 = .ok (.aload_n 0, 1) := by decide +kernel
theorem dX10_ahead_51 : decode cX10_ahead 51 = .ok (.iload_n 2, 1) := by decide +kernel
theorem dX10_ahead_52 : decode cX10_ahead 52 = .ok (.invokevirtual 420, 3) := by decide +kernel
theorem dX10_ahead_55 : decode cX10_ahead 55 = .ok (.iload_n 3, 1) := by decide +kernel
theorem dX10_ahead_56 : decode cX10_ahead 56 = .ok (.ifCond .ne 12, 3) := by decide +kernel
theorem dX10_ahead_59 : decode cX10_ahead 59 = .ok (.aload_n 0, 1) := by decide +kernel
theorem dX10_ahead_60 : decode cX10_ahead 60 = .ok (.getfield 28, 3) := by decide +kernel
theorem dX10_ahead_63 : decode cX10_ahead 63 = .ok (.iload_n 1, 1) := by decide +kernel
theorem dX10_ahead_64 : decode cX10_ahead 64 = .ok (.iaload, 1) := by decide +kernel
theorem dX10_ahead_65 : decode cX10_ahead 65 = .ok (.goto 21, 3) := by decide +kernel
theorem dX10_ahead_68 : decode cX10_ahead 68 = .ok (.iload_n 3, 1) := by decide +kernel
theorem dX10_ahead_69 : decode cX10_ahead 69 = .ok (.iconst 1, 1) := by decide +kernel
theorem dX10_ahead_70 : decode cX10_ahead 70 = .ok (.if_icmp .ne 12, 3) := by decide +kernel
theorem dX10_ahead_73 : decode cX10_ahead 73 = .ok (.aload_n 0, 1) := by decide +kernel
theorem dX10_ahead_74 : decode cX10_ahead 74 = .ok (.getfield 9, 3) := by decide +kernel
theorem dX10_ahead_77 : decode cX10_ahead 77 = .ok (.iconst 5, 1) := by decide +kernel
theorem dX10_ahead_78 : decode cX10_ahead 78 = .ok (.iaload, 1) := by decide +kernel
theorem dX10_ahead_79 : decode cX10_ahead 79 = .ok (.goto 7, 3) := by decide +kernel
theorem dX10_ahead_82 : decode cX10_ahead 82 = .ok (.aload_n 0, 1) := by decide +kernel
theorem dX10_ahead_83 : decode cX10_ahead 83 = .ok (.invokevirtual 367, 3) := by decide +kernel
theorem dX10_ahead_86 : decode cX10_ahead 86 = .ok (.istore 4, 2) := by decide +kernel
theorem dX10_ahead_88 : decode cX10_ahead 88 = .ok (.aload_n 0, 1) := by decide +kernel
theorem dX10_ahead_89 : decode cX10_ahead 89 = .ok (.invokevirtual 423, 3) := by decide +kernel
theorem dX10_ahead_92 : decode cX10_ahead 92 = .ok (.iload 4, 2) := by decide +kernel
theorem dX10_ahead_94 : decode cX10_ahead 94 = .ok (.ireturn, 1) := by decide +kernel
theorem dX10_over_0 : decode cX10_over 0 = .ok (.aload_n 0, 1) := by decide +kernel
theorem dX10_over_1 : decode cX10_over 1 = .ok (.iload_n 1, 1) := by decide +kernel
theorem dX10_over_2 : decode cX10_over 2 = .ok (.invokevirtual 350, 3) := by decide +kernel
theorem dX10_over_5 : decode cX10_over 5 = .ok (.ifCond .eq 13, 3) := by decide +kernel
theorem dX10_over_8 : decode cX10_over 8 = .ok (.iload_n 2, 1) := by decide +kernel
theorem dX10_over_9 : decode cX10_over 9 = .ok (.i2l, 1) := by decide +kernel
theorem dX10_over_10 : decode cX10_over 10 = .ok (.lconst 0, 1) := by decide +kernel
theorem dX10_over_11 : decode cX10_over 11 = .ok (.lconst 1, 1) := by decide +kernel
theorem dX10_over_12 : decode cX10_over 12 = .ok (.invokestatic 131, 3) := by decide +kernel
theorem dX10_over_15 : decode cX10_over 15 = .ok (.ifCond .ne 5, 3) := by decide +kernel
theorem dX10_over_18 : decode cX10_over 18 = .ok (.iconst (-1), 1) := by decide +kernel
theorem dX10_over_19 : decode cX10_over 19 = .ok (.ireturn, 1) := by decide +kernel
theorem dX10_over_20 : decode cX10_over 20 = .ok (.aload_n 0, 1) := by decide +kernel
theorem dX10_over_21 : decode cX10_over 21 = .ok (.invokevirtual 430, 3) := by decide +kernel
theorem dX10_over_24 : decode cX10_over 24 = .ok (.bipush (-2), 2) := by decide +kernel
theorem dX10_over_26 : decode cX10_over 26 = .ok (.istore_n 3, 1) := by decide +kernel
theorem dX10_over_27 : decode cX10_over 27 = .ok (.iconst 0, 1) := by decide +kernel
theorem dX10_over_28 : decode cX10_over 28 = .ok (.istore 4, 2) := by decide +kernel
theorem dX10_over_30 : decode cX10_over 30 = .ok (.iload 4, 2) := by decide +kernel
theorem dX10_over_32 : decode cX10_over 32 = .ok (.bipush 100, 2) := by decide +kernel
theorem dX10_over_34 : decode cX10_over 34 = .ok (.if_icmp .ge 46, 3) := by decide +kernel
theorem dX10_over_37 : decode cX10_over 37 = .ok (.iload_n 3, 1) := by decide +kernel
theorem dX10_over_38 : decode cX10_over 38 = .ok (.bipush (-2), 2) := by decide +kernel
theorem dX10_over_40 : decode cX10_over 40 = .ok (.if_icmp .ne 40, 3) := by decide +kernel
theorem dX10_over_43 : decode cX10_over 43 = .ok (.aload_n 0, 1) := by decide +kernel
theorem dX10_over_44 : decode cX10_over 44 = .ok (.invokevirtual 390, 3) := by decide +kernel
theorem dX10_over_47 : decode cX10_over 47 = .ok (.iload_n 1, 1) := by decide +kernel
theorem dX10_over_48 : decode cX10_over 48 = .ok (.invokestatic 353, 3) := by decide +kernel
theorem dX10_over_51 : decode cX10_over 51 = .ok (.ifCond .eq 23, 3) := by decide +kernel
theorem dX10_over_54 : decode cX10_over 54 = .ok (.iload_n 2, 1) := by decide +kernel
theorem dX10_over_55 : decode cX10_over 55 = .ok (.ifCond .ne 12, 3) := by decide +kernel
theorem dX10_over_58 : decode cX10_over 58 = .ok (.aload_n 0, 1) := by decide +kernel
theorem dX10_over_59 : decode cX10_over 59 = .ok (.getfield 28, 3) := by decide +kernel
theorem dX10_over_62 : decode cX10_over 62 = .ok (.iload_n 1, 1) := by decide +kernel
theorem dX10_over_63 : decode cX10_over 63 = .ok (.iaload, 1) := by decide +kernel
theorem dX10_over_64 : decode cX10_over 64 = .ok (.goto 9, 3) := by decide +kernel
theorem dX10_over_67 : decode cX10_over 67 = .ok (.aload_n 0, 1) := by decide +kernel
theorem dX10_over_68 : decode cX10_over 68 = .ok (.getfield 94, 3) := by decide +kernel
theorem dX10_over_71 : decode cX10_over 71 = .ok (.iload_n 1, 1) := by decide +kernel
theorem dX10_over_72 : decode cX10_over 72 = .ok (.iaload, 1) := by decide +kernel
theorem dX10_over_73 : decode cX10_over 73 = .ok (.istore_n 3, 1) := by decide +kernel
theorem dX10_over_74 : decode cX10_over 74 = .ok (.iinc 4 1, 3) := by decide +kernel
theorem dX10_over_77 : decode cX10_over 77 = .ok (.goto (-47), 3) := by decide +kernel
theorem dX10_over_80 : decode cX10_over 80 = .ok (.aload_n 0, 1) := by decide +kernel
theorem dX10_over_81 : decode cX10_over 81 = .ok (.invokevirtual 423, 3) := by decide +kernel
theorem dX10_over_84 : decode cX10_over 84 = .ok (.iload_n 3, 1) := by decide +kernel
theorem dX10_over_85 : decode cX10_over 85 = .ok (.ireturn, 1) := by decide +kernel
theorem dX10_alike_0 : decode cX10_alike 0 = .ok (.aload_n 0, 1) := by decide +kernel
theorem dX10_alike_1 : decode cX10_alike 1 = .ok (.iload_n 1, 1) := by decide +kernel
theorem dX10_alike_2 : decode cX10_alike 2 = .ok (.invokevirtual 341, 3) := by decide +kernel
theorem dX10_alike_5 : decode cX10_alike 5 = .ok (.ifCond .eq 20, 3) := by decide +kernel
theorem dX10_alike_8 : decode cX10_alike 8 = .ok (.aload_n 0, 1) := by decide +kernel
theorem dX10_alike_9 : decode cX10_alike 9 = .ok (.iload_n 2, 1) := by decide +kernel
theorem dX10_alike_10 : decode cX10_alike 10 = .ok (.invokevirtual 341, 3) := by decide +kernel
theorem dX10_alike_13 : decode cX10_alike 13 = .ok (.ifCond .eq 12, 3) := by decide +kernel
theorem dX10_alike_16 : decode cX10_alike 16 = .ok (.aload_n 0, 1) := by decide +kernel
theorem dX10_alike_17 : decode cX10_alike 17 = .ok (.iload_n 1, 1) := by decide +kernel
theorem dX10_alike_18 : decode cX10_alike 18 = .ok (.iload_n 2, 1) := by decide +kernel
theorem dX10_alike_19 : decode cX10_alike 19 = .ok (.invokevirtual 335, 3) := by decide +kernel
theorem dX10_alike_22 : decode cX10_alike 22 = .ok (.goto 4, 3) := by decide +kernel
theorem dX10_alike_25 : decode cX10_alike 25 = .ok (.iconst (-1), 1) := by decide +kernel
theorem dX10_alike_26 : decode cX10_alike 26 = .ok (.ireturn, 1) := by decide +kernel
theorem dX10_fresh_0 : decode cX10_fresh 0 = .ok (.aload_n 0, 1) := by decide +kernel
theorem dX10_fresh_1 : decode cX10_fresh 1 = .ok (.invokevirtual 411, 3) := by decide +kernel
theorem dX10_fresh_4 : decode cX10_fresh 4 = .ok (.ifCond .ne 5, 3) := by decide +kernel
theorem dX10_fresh_7 : decode cX10_fresh 7 = .ok (.iconst (-1), 1) := by decide +kernel
theorem dX10_fresh_8 : decode cX10_fresh 8 = .ok (.ireturn, 1) := by decide +kernel
theorem dX10_fresh_9 : decode cX10_fresh 9 = .ok (.iconst 0, 1) := by decide +kernel
theorem dX10_fresh_10 : decode cX10_fresh 10 = .ok (.istore_n 1, 1) := by decide +kernel
theorem dX10_fresh_11 : decode cX10_fresh 11 = .ok (.iconst 0, 1) := by decide +kernel
theorem dX10_fresh_12 : decode cX10_fresh 12 = .ok (.istore_n 2, 1) := by decide +kernel
theorem dX10_fresh_13 : decode cX10_fresh 13 = .ok (.iload_n 2, 1) := by decide +kernel
theorem dX10_fresh_14 : decode cX10_fresh 14 = .ok (.aload_n 0, 1) := by decide +kernel
theorem dX10_fresh_15 : decode cX10_fresh 15 = .ok (.getfield 9, 3) := by decide +kernel
theorem dX10_fresh_18 : decode cX10_fresh 18 = .ok (.iconst 2, 1) := by decide +kernel
theorem dX10_fresh_19 : decode cX10_fresh 19 = .ok (.iaload, 1) := by decide +kernel
theorem dX10_fresh_20 : decode cX10_fresh 20 = .ok (.if_icmp .ge 27, 3) := by decide +kernel
theorem dX10_fresh_23 : decode cX10_fresh 23 = .ok (.iload_n 1, 1) := by decide +kernel
theorem dX10_fresh_24 : decode cX10_fresh 24 = .ok (.aload_n 0, 1) := by decide +kernel
theorem dX10_fresh_25 : decode cX10_fresh 25 = .ok (.iload_n 2, 1) := by decide +kernel
theorem dX10_fresh_26 : decode cX10_fresh 26 = .ok (.invokevirtual 344, 3) := by decide +kernel
theorem dX10_fresh_29 : decode cX10_fresh 29 = .ok (.ifCond .eq 9, 3) := by decide +kernel
theorem dX10_fresh_32 : decode cX10_fresh 32 = .ok (.iconst 1, 1) := by decide +kernel
theorem dX10_fresh_33 : decode cX10_fresh 33 = .ok (.iload_n 2, 1) := by decide +kernel
theorem dX10_fresh_34 : decode cX10_fresh 34 = .ok (.ishl, 1) := by decide +kernel
theorem dX10_fresh_35 : decode cX10_fresh 35 = .ok (.goto 4, 3) := by decide +kernel
theorem dX10_fresh_38 : decode cX10_fresh 38 = .ok (.iconst 0, 1) := by decide +kernel
theorem dX10_fresh_39 : decode cX10_fresh 39 = .ok (.ior, 1) := by decide +kernel
theorem dX10_fresh_40 : decode cX10_fresh 40 = .ok (.istore_n 1, 1) := by decide +kernel
theorem dX10_fresh_41 : decode cX10_fresh 41 = .ok (.iinc 2 1, 3) := by decide +kernel
theorem dX10_fresh_44 : decode cX10_fresh 44 = .ok (.goto (-31), 3) := by decide +kernel
theorem dX10_fresh_47 : decode cX10_fresh 47 = .ok (.iload_n 1, 1) := by decide +kernel
theorem dX10_fresh_48 : decode cX10_fresh 48 = .ok (.ireturn, 1) := by decide +kernel
theorem dX10_isLikeNone_0 : decode cX10_isLikeNone 0 = .ok (.iconst 0, 1) := by decide +kernel
theorem dX10_isLikeNone_1 : decode cX10_isLikeNone 1 = .ok (.istore 4, 2) := by decide +kernel
theorem dX10_isLikeNone_3 : decode cX10_isLikeNone 3 = .ok (.iload 4, 2) := by decide +kernel
theorem dX10_isLikeNone_5 : decode cX10_isLikeNone 5 = .ok (.aload_n 0, 1) := by decide +kernel
theorem dX10_isLikeNone_6 : decode cX10_isLikeNone 6 = .ok (.getfield 9, 3) := by decide +kernel
theorem dX10_isLikeNone_9 : decode cX10_isLikeNone 9 = .ok (.iconst 2, 1) := by decide +kernel
theorem dX10_isLikeNone_10 : decode cX10_isLikeNone 10 = .ok (.iaload, 1) := by decide +kernel
theorem dX10_isLikeNone_11 : decode cX10_isLikeNone 11 = .ok (.if_icmp .ge 84, 3) := by decide +kernel
theorem dX10_isLikeNone_14 : decode cX10_isLikeNone 14 = .ok (.aload_n 0, 1) := by decide +kernel
theorem dX10_isLikeNone_15 : decode cX10_isLikeNone 15 = .ok (.getfield 13, 3) := by decide +kernel
theorem dX10_isLikeNone_18 : decode cX10_isLikeNone 18 = .ok (.iconst 3, 1) := by decide +kernel
theorem dX10_isLikeNone_19 : decode cX10_isLikeNone 19 = .ok (.iload 4, 2) := by decide +kernel
theorem dX10_isLikeNone_21 : decode cX10_isLikeNone 21 = .ok (.imul, 1) := by decide +kernel
theorem dX10_isLikeNone_22 : decode cX10_isLikeNone 22 = .ok (.iaload, 1) := by decide +kernel
theorem dX10_isLikeNone_23 : decode cX10_isLikeNone 23 = .ok (.iload_n 1, 1) := by decide +kernel
theorem dX10_isLikeNone_24 : decode cX10_isLikeNone 24 = .ok (.if_icmp .ne 7, 3) := by decide +kernel
theorem dX10_isLikeNone_27 : decode cX10_isLikeNone 27 = .ok (.iconst 1, 1) := by decide +kernel
theorem dX10_isLikeNone_28 : decode cX10_isLikeNone 28 = .ok (.goto 4, 3) := by decide +kernel
theorem dX10_isLikeNone_31 : decode cX10_isLikeNone 31 = .ok (.iconst 0, 1) := by decide +kernel
theorem dX10_isLikeNone_32 : decode cX10_isLikeNone 32 = .ok (.aload_n 0, 1) := by decide +kernel
theorem dX10_isLikeNone_33 : decode cX10_isLikeNone 33 = .ok (.getfield 13, 3) := by decide +kernel
theorem dX10_isLikeNone_36 : decode cX10_isLikeNone 36 = .ok (.iconst 3, 1) := by decide +kernel
theorem dX10_isLikeNone_37 : decode cX10_isLikeNone 37 = .ok (.iload 4, 2) := by decide +kernel
theorem dX10_isLikeNone_39 : decode cX10_isLikeNone 39 = .ok (.imul, 1) := by decide +kernel
theorem dX10_isLikeNone_40 : decode cX10_isLikeNone 40 = .ok (.iconst 1, 1) := by decide +kernel
theorem dX10_isLikeNone_41 : decode cX10_isLikeNone 41 = .ok (.iadd, 1) := by decide +kernel
theorem dX10_isLikeNone_42 : decode cX10_isLikeNone 42 = .ok (.iaload, 1) := by decide +kernel
theorem dX10_isLikeNone_43 : decode cX10_isLikeNone 43 = .ok (.iload_n 2, 1) := by decide +kernel
theorem dX10_isLikeNone_44 : decode cX10_isLikeNone 44 = .ok (.if_icmp .ne 7, 3) := by decide +kernel
theorem dX10_isLikeNone_47 : decode cX10_isLikeNone 47 = .ok (.iconst 1, 1) := by decide +kernel
theorem dX10_isLikeNone_48 : decode cX10_isLikeNone 48 = .ok (.goto 4, 3) := by decide +kernel
theorem dX10_isLikeNone_51 : decode cX10_isLikeNone 51 = .ok (.iconst 0, 1) := by decide +kernel
theorem dX10_isLikeNone_52 : decode cX10_isLikeNone 52 = .ok (.iadd, 1) := by decide +kernel
theorem dX10_isLikeNone_53 : decode cX10_isLikeNone 53 = .ok (.aload_n 0, 1) := by decide +kernel
theorem dX10_isLikeNone_54 : decode cX10_isLikeNone 54 = .ok (.getfield 13, 3) := by decide +kernel
theorem dX10_isLikeNone_57 : decode cX10_isLikeNone 57 = .ok (.iconst 3, 1) := by decide +kernel
theorem dX10_isLikeNone_58 : decode cX10_isLikeNone 58 = .ok (.iload 4, 2) := by decide +kernel
theorem dX10_isLikeNone_60 : decode cX10_isLikeNone 60 = .ok (.imul, 1) := by decide +kernel
theorem dX10_isLikeNone_61 : decode cX10_isLikeNone 61 = .ok (.iconst 2, 1) := by decide +kernel
theorem dX10_isLikeNone_62 : decode cX10_isLikeNone 62 = .ok (.iadd, 1) := by decide +kernel
theorem dX10_isLikeNone_63 : decode cX10_isLikeNone 63 = .ok (.iaload, 1) := by decide +kernel
theorem dX10_isLikeNone_64 : decode cX10_isLikeNone 64 = .ok (.iload_n 3, 1) := by decide +kernel
theorem dX10_isLikeNone_65 : decode cX10_isLikeNone 65 = .ok (.if_icmp .ne 7, 3) := by decide +kernel
theorem dX10_isLikeNone_68 : decode cX10_isLikeNone 68 = .ok (.iconst 1, 1) := by decide +kernel
theorem dX10_isLikeNone_69 : decode cX10_isLikeNone 69 = .ok (.goto 4, 3) := by decide +kernel
theorem dX10_isLikeNone_72 : decode cX10_isLikeNone 72 = .ok (.iconst 0, 1) := by decide +kernel
theorem dX10_isLikeNone_73 : decode cX10_isLikeNone 73 = .ok (.iadd, 1) := by decide +kernel
theorem dX10_isLikeNone_74 : decode cX10_isLikeNone 74 = .ok (.istore 5, 2) := by decide +kernel
theorem dX10_isLikeNone_76 : decode cX10_isLikeNone 76 = .ok (.iload 5, 2) := by decide +kernel
theorem dX10_isLikeNone_78 : decode cX10_isLikeNone 78 = .ok (.aload_n 0, 1) := by decide +kernel
theorem dX10_isLikeNone_79 : decode cX10_isLikeNone 79 = .ok (.getfield 9, 3) := by decide +kernel
theorem dX10_isLikeNone_82 : decode cX10_isLikeNone 82 = .ok (.iconst 1, 1) := by decide +kernel
theorem dX10_isLikeNone_83 : decode cX10_isLikeNone 83 = .ok (.iaload, 1) := by decide +kernel
theorem dX10_isLikeNone_84 : decode cX10_isLikeNone 84 = .ok (.if_icmp .lt 5, 3) := by decide +kernel
theorem dX10_isLikeNone_87 : decode cX10_isLikeNone 87 = .ok (.iconst 0, 1) := by decide +kernel
theorem dX10_isLikeNone_88 : decode cX10_isLikeNone 88 = .ok (.ireturn, 1) := by decide +kernel
theorem dX10_isLikeNone_89 : decode cX10_isLikeNone 89 = .ok (.iinc 4 1, 3) := by decide +kernel
theorem dX10_isLikeNone_92 : decode cX10_isLikeNone 92 = .ok (.goto (-89), 3) := by decide +kernel
theorem dX10_isLikeNone_95 : decode cX10_isLikeNone 95 = .ok (.iconst 1, 1) := by decide +kernel
theorem dX10_isLikeNone_96 : decode cX10_isLikeNone 96 = .ok (.ireturn, 1) := by decide +kernel
theorem dX10_least_0 : decode cX10_least 0 = .ok (.aload_n 0, 1) := by decide +kernel
theorem dX10_least_1 : decode cX10_least 1 = .ok (.invokevirtual 411, 3) := by decide +kernel
theorem dX10_least_4 : decode cX10_least 4 = .ok (.ifCond .ne 5, 3) := by decide +kernel
theorem dX10_least_7 : decode cX10_least 7 = .ok (.iconst (-1), 1) := by decide +kernel
theorem dX10_least_8 : decode cX10_least 8 = .ok (.ireturn, 1) := by decide +kernel
theorem dX10_least_9 : decode cX10_least 9 = .ok (.iconst 0, 1) := by decide +kernel
theorem dX10_least_10 : decode cX10_least 10 = .ok (.istore_n 1, 1) := by decide +kernel
theorem dX10_least_11 : decode cX10_least 11 = .ok (.iload_n 1, 1) := by decide +kernel
theorem dX10_least_12 : decode cX10_least 12 = .ok (.sipush 1000, 3) := by decide +kernel
theorem dX10_least_15 : decode cX10_least 15 = .ok (.if_icmp .ge 33, 3) := by decide +kernel
theorem dX10_least_18 : decode cX10_least 18 = .ok (.aload_n 0, 1) := by decide +kernel
theorem dX10_least_19 : decode cX10_least 19 = .ok (.iload_n 1, 1) := by decide +kernel
theorem dX10_least_20 : decode cX10_least 20 = .ok (.bipush 100, 2) := by decide +kernel
theorem dX10_least_22 : decode cX10_least 22 = .ok (.idiv, 1) := by decide +kernel
theorem dX10_least_23 : decode cX10_least 23 = .ok (.iload_n 1, 1) := by decide +kernel
theorem dX10_least_24 : decode cX10_least 24 = .ok (.bipush 10, 2) := by decide +kernel
theorem dX10_least_26 : decode cX10_least 26 = .ok (.idiv, 1) := by decide +kernel
theorem dX10_least_27 : decode cX10_least 27 = .ok (.bipush 10, 2) := by decide +kernel
theorem dX10_least_29 : decode cX10_least 29 = .ok (.irem, 1) := by decide +kernel
theorem dX10_least_30 : decode cX10_least 30 = .ok (.iload_n 1, 1) := by decide +kernel
theorem dX10_least_31 : decode cX10_least 31 = .ok (.bipush 10, 2) := by decide +kernel
theorem dX10_least_33 : decode cX10_least 33 = .ok (.irem, 1) := by decide +kernel
theorem dX10_least_34 : decode cX10_least 34 = .ok (.invokevirtual 433, 3) := by decide +kernel
theorem dX10_least_37 : decode cX10_least 37 = .ok (.ifCond .eq 5, 3) := by decide +kernel
theorem dX10_least_40 : decode cX10_least 40 = .ok (.iload_n 1, 1) := by decide +kernel
theorem dX10_least_41 : decode cX10_least 41 = .ok (.ireturn, 1) := by decide +kernel
theorem dX10_least_42 : decode cX10_least 42 = .ok (.iinc 1 1, 3) := by decide +kernel
theorem dX10_least_45 : decode cX10_least 45 = .ok (.goto (-34), 3) := by decide +kernel
theorem dX10_least_48 : decode cX10_least 48 = .ok (.bipush (-2), 2) := by decide +kernel
theorem dX10_least_50 : decode cX10_least 50 = .ok (.ireturn, 1) := by decide +kernel
theorem dX10_passesByRow_0 : decode cX10_passesByRow 0 = .ok (.iload 4, 2) := by decide +kernel
theorem dX10_passesByRow_2 : decode cX10_passesByRow 2 = .ok (.istore 5, 2) := by decide +kernel
theorem dX10_passesByRow_4 : decode cX10_passesByRow 4 = .ok (.iconst 1, 1) := by decide +kernel
theorem dX10_passesByRow_5 : decode cX10_passesByRow 5 = .ok (.istore 6, 2) := by decide +kernel
theorem dX10_passesByRow_7 : decode cX10_passesByRow 7 = .ok (.aload_n 0, 1) := by decide +kernel
theorem dX10_passesByRow_8 : decode cX10_passesByRow 8 = .ok (.iload_n 1, 1) := by decide +kernel
theorem dX10_passesByRow_9 : decode cX10_passesByRow 9 = .ok (.putfield 97, 3) := by decide +kernel
theorem dX10_passesByRow_12 : decode cX10_passesByRow 12 = .ok (.iconst 0, 1) := by decide +kernel
theorem dX10_passesByRow_13 : decode cX10_passesByRow 13 = .ok (.istore 7, 2) := by decide +kernel
theorem dX10_passesByRow_15 : decode cX10_passesByRow 15 = .ok (.iload 7, 2) := by decide +kernel
theorem dX10_passesByRow_17 : decode cX10_passesByRow 17 = .ok (.iload_n 2, 1) := by decide +kernel
theorem dX10_passesByRow_18 : decode cX10_passesByRow 18 = .ok (.if_icmp .ge 106, 3) := by decide +kernel
theorem dX10_passesByRow_21 : decode cX10_passesByRow 21 = .ok (.iload 6, 2) := by decide +kernel
theorem dX10_passesByRow_23 : decode cX10_passesByRow 23 = .ok (.ifCond .eq 101, 3) := by decide +kernel
theorem dX10_passesByRow_26 : decode cX10_passesByRow 26 = .ok (.iload 5, 2) := by decide +kernel
theorem dX10_passesByRow_28 : decode cX10_passesByRow 28 = .ok (.aload_n 0, 1) := by decide +kernel
theorem dX10_passesByRow_29 : decode cX10_passesByRow 29 = .ok (.getfield 9, 3) := by decide +kernel
theorem dX10_passesByRow_32 : decode cX10_passesByRow 32 = .ok (.iconst 2, 1) := by decide +kernel
theorem dX10_passesByRow_33 : decode cX10_passesByRow 33 = .ok (.iaload, 1) := by decide +kernel
theorem dX10_passesByRow_34 : decode cX10_passesByRow 34 = .ok (.iconst 1, 1) := by decide +kernel
theorem dX10_passesByRow_35 : decode cX10_passesByRow 35 = .ok (.iadd, 1) := by decide +kernel
theorem dX10_passesByRow_36 : decode cX10_passesByRow 36 = .ok (.idiv, 1) := by decide +kernel
theorem dX10_passesByRow_37 : decode cX10_passesByRow 37 = .ok (.istore 5, 2) := by decide +kernel
theorem dX10_passesByRow_39 : decode cX10_passesByRow 39 = .ok (.aload_n 0, 1) := by decide +kernel
theorem dX10_passesByRow_40 : decode cX10_passesByRow 40 = .ok (.iload_n 3, 1) := by decide +kernel
theorem dX10_passesByRow_41 : decode cX10_passesByRow 41 = .ok (.iload 5, 2) := by decide +kernel
theorem dX10_passesByRow_43 : decode cX10_passesByRow 43 = .ok (.idiv, 1) := by decide +kernel
theorem dX10_passesByRow_44 : decode cX10_passesByRow 44 = .ok (.aload_n 0, 1) := by decide +kernel
theorem dX10_passesByRow_45 : decode cX10_passesByRow 45 = .ok (.getfield 9, 3) := by decide +kernel
theorem dX10_passesByRow_48 : decode cX10_passesByRow 48 = .ok (.iconst 2, 1) := by decide +kernel
theorem dX10_passesByRow_49 : decode cX10_passesByRow 49 = .ok (.iaload, 1) := by decide +kernel
theorem dX10_passesByRow_50 : decode cX10_passesByRow 50 = .ok (.iconst 1, 1) := by decide +kernel
theorem dX10_passesByRow_51 : decode cX10_passesByRow 51 = .ok (.iadd, 1) := by decide +kernel
theorem dX10_passesByRow_52 : decode cX10_passesByRow 52 = .ok (.irem, 1) := by decide +kernel
theorem dX10_passesByRow_53 : decode cX10_passesByRow 53 = .ok (.iconst 1, 1) := by decide +kernel
theorem dX10_passesByRow_54 : decode cX10_passesByRow 54 = .ok (.isub, 1) := by decide +kernel
theorem dX10_passesByRow_55 : decode cX10_passesByRow 55 = .ok (.putfield 378, 3) := by decide +kernel
theorem dX10_passesByRow_58 : decode cX10_passesByRow 58 = .ok (.aload_n 0, 1) := by decide +kernel
theorem dX10_passesByRow_59 : decode cX10_passesByRow 59 = .ok (.getfield 106, 3) := by decide +kernel
theorem dX10_passesByRow_62 : decode cX10_passesByRow 62 = .ok (.iload 7, 2) := by decide +kernel
theorem dX10_passesByRow_64 : decode cX10_passesByRow 64 = .ok (.aload_n 0, 1) := by decide +kernel
theorem dX10_passesByRow_65 : decode cX10_passesByRow 65 = .ok (.getfield 378, 3) := by decide +kernel
theorem dX10_passesByRow_68 : decode cX10_passesByRow 68 = .ok (.iastore, 1) := by decide +kernel
theorem dX10_passesByRow_69 : decode cX10_passesByRow 69 = .ok (.aload_n 0, 1) := by decide +kernel
theorem dX10_passesByRow_70 : decode cX10_passesByRow 70 = .ok (.getfield 378, 3) := by decide +kernel
theorem dX10_passesByRow_73 : decode cX10_passesByRow 73 = .ok (.iconst (-1), 1) := by decide +kernel
theorem dX10_passesByRow_74 : decode cX10_passesByRow 74 = .ok (.if_icmp .eq 27, 3) := by decide +kernel
theorem dX10_passesByRow_77 : decode cX10_passesByRow 77 = .ok (.aload_n 0, 1) := by decide +kernel
theorem dX10_passesByRow_78 : decode cX10_passesByRow 78 = .ok (.iload_n 1, 1) := by decide +kernel
theorem dX10_passesByRow_79 : decode cX10_passesByRow 79 = .ok (.invokevirtual 350, 3) := by decide +kernel
theorem dX10_passesByRow_82 : decode cX10_passesByRow 82 = .ok (.ifCond .eq 23, 3) := by decide +kernel
theorem dX10_passesByRow_85 : decode cX10_passesByRow 85 = .ok (.aload_n 0, 1) := by decide +kernel
theorem dX10_passesByRow_86 : decode cX10_passesByRow 86 = .ok (.getfield 25, 3) := by decide +kernel
theorem dX10_passesByRow_89 : decode cX10_passesByRow 89 = .ok (.iload_n 1, 1) := by decide +kernel
theorem dX10_passesByRow_90 : decode cX10_passesByRow 90 = .ok (.iaload, 1) := by decide +kernel
theorem dX10_passesByRow_91 : decode cX10_passesByRow 91 = .ok (.aload_n 0, 1) := by decide +kernel
theorem dX10_passesByRow_92 : decode cX10_passesByRow 92 = .ok (.getfield 378, 3) := by decide +kernel
theorem dX10_passesByRow_95 : decode cX10_passesByRow 95 = .ok (.invokestatic 353, 3) := by decide +kernel
theorem dX10_passesByRow_98 : decode cX10_passesByRow 98 = .ok (.ifCond .eq 7, 3) := by decide +kernel
theorem dX10_passesByRow_101 : decode cX10_passesByRow 101 = .ok (.iconst 1, 1) := by decide +kernel
theorem dX10_passesByRow_102 : decode cX10_passesByRow 102 = .ok (.goto 4, 3) := by decide +kernel
theorem dX10_passesByRow_105 : decode cX10_passesByRow 105 = .ok (.iconst 0, 1) := by decide +kernel
theorem dX10_passesByRow_106 : decode cX10_passesByRow 106 = .ok (.istore 6, 2) := by decide +kernel
theorem dX10_passesByRow_108 : decode cX10_passesByRow 108 = .ok (.iload 6, 2) := by decide +kernel
theorem dX10_passesByRow_110 : decode cX10_passesByRow 110 = .ok (.ifCond .eq 8, 3) := by decide +kernel
theorem dX10_passesByRow_113 : decode cX10_passesByRow 113 = .ok (.aload_n 0, 1) := by decide +kernel
theorem dX10_passesByRow_114 : decode cX10_passesByRow 114 = .ok (.invokevirtual 390, 3) := by decide +kernel
theorem dX10_passesByRow_117 : decode cX10_passesByRow 117 = .ok (.pop, 1) := by decide +kernel
theorem dX10_passesByRow_118 : decode cX10_passesByRow 118 = .ok (.iinc 7 1, 3) := by decide +kernel
theorem dX10_passesByRow_121 : decode cX10_passesByRow 121 = .ok (.goto (-106), 3) := by decide +kernel
theorem dX10_passesByRow_124 : decode cX10_passesByRow 124 = .ok (.aload_n 0, 1) := by decide +kernel
theorem dX10_passesByRow_125 : decode cX10_passesByRow 125 = .ok (.iconst (-1), 1) := by decide +kernel
theorem dX10_passesByRow_126 : decode cX10_passesByRow 126 = .ok (.putfield 97, 3) := by decide +kernel
theorem dX10_passesByRow_129 : decode cX10_passesByRow 129 = .ok (.iload 6, 2) := by decide +kernel
theorem dX10_passesByRow_131 : decode cX10_passesByRow 131 = .ok (.ifCond .eq 22, 3) := by decide +kernel
theorem dX10_passesByRow_134 : decode cX10_passesByRow 134 = .ok (.aload_n 0, 1) := by decide +kernel
theorem dX10_passesByRow_135 : decode cX10_passesByRow 135 = .ok (.getfield 28, 3) := by decide +kernel
theorem dX10_passesByRow_138 : decode cX10_passesByRow 138 = .ok (.iload_n 1, 1) := by decide +kernel
theorem dX10_passesByRow_139 : decode cX10_passesByRow 139 = .ok (.iaload, 1) := by decide +kernel
theorem dX10_passesByRow_140 : decode cX10_passesByRow 140 = .ok (.iconst (-1), 1) := by decide +kernel
theorem dX10_passesByRow_141 : decode cX10_passesByRow 141 = .ok (.if_icmp .eq 12, 3) := by decide +kernel
theorem dX10_passesByRow_144 : decode cX10_passesByRow 144 = .ok (.aload_n 0, 1) := by decide +kernel
theorem dX10_passesByRow_145 : decode cX10_passesByRow 145 = .ok (.getfield 28, 3) := by decide +kernel
theorem dX10_passesByRow_148 : decode cX10_passesByRow 148 = .ok (.iload_n 1, 1) := by decide +kernel
theorem dX10_passesByRow_149 : decode cX10_passesByRow 149 = .ok (.iaload, 1) := by decide +kernel
theorem dX10_passesByRow_150 : decode cX10_passesByRow 150 = .ok (.goto 6, 3) := by decide +kernel
theorem dX10_passesByRow_153 : decode cX10_passesByRow 153 = .ok (.ldc_w 437, 3) := by decide +kernel
theorem dX10_passesByRow_156 : decode cX10_passesByRow 156 = .ok (.istore 7, 2) := by decide +kernel
theorem dX10_passesByRow_158 : decode cX10_passesByRow 158 = .ok (.aload_n 0, 1) := by decide +kernel
theorem dX10_passesByRow_159 : decode cX10_passesByRow 159 = .ok (.invokevirtual 423, 3) := by decide +kernel
theorem dX10_passesByRow_162 : decode cX10_passesByRow 162 = .ok (.iload 7, 2) := by decide +kernel
theorem dX10_passesByRow_164 : decode cX10_passesByRow 164 = .ok (.ireturn, 1) := by decide +kernel
theorem dX10_row_0 : decode cX10_row 0 = .ok (.aload_n 0, 1) := by decide +kernel
theorem dX10_row_1 : decode cX10_row 1 = .ok (.iload_n 1, 1) := by decide +kernel
theorem dX10_row_2 : decode cX10_row 2 = .ok (.invokevirtual 350, 3) := by decide +kernel
theorem dX10_row_5 : decode cX10_row 5 = .ok (.ifCond .eq 27, 3) := by decide +kernel
theorem dX10_row_8 : decode cX10_row 8 = .ok (.iload_n 2, 1) := by decide +kernel
theorem dX10_row_9 : decode cX10_row 9 = .ok (.i2l, 1) := by decide +kernel
theorem dX10_row_10 : decode cX10_row 10 = .ok (.lconst 1, 1) := by decide +kernel
theorem dX10_row_11 : decode cX10_row 11 = .ok (.ldc2_w 438, 3) := by decide +kernel
theorem dX10_row_14 : decode cX10_row 14 = .ok (.invokestatic 131, 3) := by decide +kernel
theorem dX10_row_17 : decode cX10_row 17 = .ok (.ifCond .eq 15, 3) := by decide +kernel
theorem dX10_row_20 : decode cX10_row 20 = .ok (.iload_n 3, 1) := by decide +kernel
theorem dX10_row_21 : decode cX10_row 21 = .ok (.i2l, 1) := by decide +kernel
theorem dX10_row_22 : decode cX10_row 22 = .ok (.lconst 0, 1) := by decide +kernel
theorem dX10_row_23 : decode cX10_row 23 = .ok (.ldc2_w 438, 3) := by decide +kernel
theorem dX10_row_26 : decode cX10_row 26 = .ok (.invokestatic 131, 3) := by decide +kernel
theorem dX10_row_29 : decode cX10_row 29 = .ok (.ifCond .ne 6, 3) := by decide +kernel
theorem dX10_row_32 : decode cX10_row 32 = .ok (.bipush (-3), 2) := by decide +kernel
theorem dX10_row_34 : decode cX10_row 34 = .ok (.ireturn, 1) := by decide +kernel
theorem dX10_row_35 : decode cX10_row 35 = .ok (.iconst 1, 1) := by decide +kernel
theorem dX10_row_36 : decode cX10_row 36 = .ok (.istore 4, 2) := by decide +kernel
theorem dX10_row_38 : decode cX10_row 38 = .ok (.iconst 0, 1) := by decide +kernel
theorem dX10_row_39 : decode cX10_row 39 = .ok (.istore 5, 2) := by decide +kernel
theorem dX10_row_41 : decode cX10_row 41 = .ok (.iload 5, 2) := by decide +kernel
theorem dX10_row_43 : decode cX10_row 43 = .ok (.iload_n 2, 1) := by decide +kernel
theorem dX10_row_44 : decode cX10_row 44 = .ok (.if_icmp .ge 22, 3) := by decide +kernel
theorem dX10_row_47 : decode cX10_row 47 = .ok (.iload 4, 2) := by decide +kernel
theorem dX10_row_49 : decode cX10_row 49 = .ok (.aload_n 0, 1) := by decide +kernel
theorem dX10_row_50 : decode cX10_row 50 = .ok (.getfield 9, 3) := by decide +kernel
theorem dX10_row_53 : decode cX10_row 53 = .ok (.iconst 2, 1) := by decide +kernel
theorem dX10_row_54 : decode cX10_row 54 = .ok (.iaload, 1) := by decide +kernel
theorem dX10_row_55 : decode cX10_row 55 = .ok (.iconst 1, 1) := by decide +kernel
theorem dX10_row_56 : decode cX10_row 56 = .ok (.iadd, 1) := by decide +kernel
theorem dX10_row_57 : decode cX10_row 57 = .ok (.imul, 1) := by decide +kernel
theorem dX10_row_58 : decode cX10_row 58 = .ok (.istore 4, 2) := by decide +kernel
theorem dX10_row_60 : decode cX10_row 60 = .ok (.iinc 5 1, 3) := by decide +kernel
theorem dX10_row_63 : decode cX10_row 63 = .ok (.goto (-22), 3) := by decide +kernel
theorem dX10_row_66 : decode cX10_row 66 = .ok (.ldc_w 437, 3) := by decide +kernel
theorem dX10_row_69 : decode cX10_row 69 = .ok (.istore 5, 2) := by decide +kernel
theorem dX10_row_71 : decode cX10_row 71 = .ok (.aload_n 0, 1) := by decide +kernel
theorem dX10_row_72 : decode cX10_row 72 = .ok (.invokevirtual 430, 3) := by decide +kernel
theorem dX10_row_75 : decode cX10_row 75 = .ok (.iconst 0, 1) := by decide +kernel
theorem dX10_row_76 : decode cX10_row 76 = .ok (.istore 6, 2) := by decide +kernel
theorem dX10_row_78 : decode cX10_row 78 = .ok (.iload 6, 2) := by decide +kernel
theorem dX10_row_80 : decode cX10_row 80 = .ok (.iload 4, 2) := by decide +kernel
theorem dX10_row_82 : decode cX10_row 82 = .ok (.if_icmp .ge 43, 3) := by decide +kernel
theorem dX10_row_85 : decode cX10_row 85 = .ok (.aload_n 0, 1) := by decide +kernel
theorem dX10_row_86 : decode cX10_row 86 = .ok (.iload_n 1, 1) := by decide +kernel
theorem dX10_row_87 : decode cX10_row 87 = .ok (.iload_n 2, 1) := by decide +kernel
theorem dX10_row_88 : decode cX10_row 88 = .ok (.iload 6, 2) := by decide +kernel
theorem dX10_row_90 : decode cX10_row 90 = .ok (.iload 4, 2) := by decide +kernel
theorem dX10_row_92 : decode cX10_row 92 = .ok (.invokevirtual 440, 3) := by decide +kernel
theorem dX10_row_95 : decode cX10_row 95 = .ok (.istore 7, 2) := by decide +kernel
theorem dX10_row_97 : decode cX10_row 97 = .ok (.iload 7, 2) := by decide +kernel
theorem dX10_row_99 : decode cX10_row 99 = .ok (.iload 5, 2) := by decide +kernel
theorem dX10_row_101 : decode cX10_row 101 = .ok (.if_icmp .ge 18, 3) := by decide +kernel
theorem dX10_row_104 : decode cX10_row 104 = .ok (.iload 7, 2) := by decide +kernel
theorem dX10_row_106 : decode cX10_row 106 = .ok (.istore 5, 2) := by decide +kernel
theorem dX10_row_108 : decode cX10_row 108 = .ok (.aload_n 0, 1) := by decide +kernel
theorem dX10_row_109 : decode cX10_row 109 = .ok (.getfield 106, 3) := by decide +kernel
theorem dX10_row_112 : decode cX10_row 112 = .ok (.aload_n 0, 1) := by decide +kernel
theorem dX10_row_113 : decode cX10_row 113 = .ok (.getfield 109, 3) := by decide +kernel
theorem dX10_row_116 : decode cX10_row 116 = .ok (.invokestatic 289, 3) := by decide +kernel
theorem dX10_row_119 : decode cX10_row 119 = .ok (.iinc 6 1, 3) := by decide +kernel
theorem dX10_row_122 : decode cX10_row 122 = .ok (.goto (-44), 3) := by decide +kernel
theorem dX10_row_125 : decode cX10_row 125 = .ok (.iload 5, 2) := by decide +kernel
theorem dX10_row_127 : decode cX10_row 127 = .ok (.ldc_w 437, 3) := by decide +kernel
theorem dX10_row_130 : decode cX10_row 130 = .ok (.if_icmp .ne 6, 3) := by decide +kernel
theorem dX10_row_133 : decode cX10_row 133 = .ok (.bipush (-2), 2) := by decide +kernel
theorem dX10_row_135 : decode cX10_row 135 = .ok (.ireturn, 1) := by decide +kernel
theorem dX10_row_136 : decode cX10_row 136 = .ok (.iload_n 3, 1) := by decide +kernel
theorem dX10_row_137 : decode cX10_row 137 = .ok (.ifCond .ne 8, 3) := by decide +kernel
theorem dX10_row_140 : decode cX10_row 140 = .ok (.iload 5, 2) := by decide +kernel
theorem dX10_row_142 : decode cX10_row 142 = .ok (.goto 21, 3) := by decide +kernel
theorem dX10_row_145 : decode cX10_row 145 = .ok (.iload_n 3, 1) := by decide +kernel
theorem dX10_row_146 : decode cX10_row 146 = .ok (.iload_n 2, 1) := by decide +kernel
theorem dX10_row_147 : decode cX10_row 147 = .ok (.if_icmp .gt 14, 3) := by decide +kernel
theorem dX10_row_150 : decode cX10_row 150 = .ok (.aload_n 0, 1) := by decide +kernel
theorem dX10_row_151 : decode cX10_row 151 = .ok (.getfield 109, 3) := by decide +kernel
theorem dX10_row_154 : decode cX10_row 154 = .ok (.iload_n 3, 1) := by decide +kernel
theorem dX10_row_155 : decode cX10_row 155 = .ok (.iconst 1, 1) := by decide +kernel
theorem dX10_row_156 : decode cX10_row 156 = .ok (.isub, 1) := by decide +kernel
theorem dX10_row_157 : decode cX10_row 157 = .ok (.iaload, 1) := by decide +kernel
theorem dX10_row_158 : decode cX10_row 158 = .ok (.goto 5, 3) := by decide +kernel
theorem dX10_row_161 : decode cX10_row 161 = .ok (.bipush (-2), 2) := by decide +kernel
theorem dX10_row_163 : decode cX10_row 163 = .ok (.ireturn, 1) := by decide +kernel
theorem dX10_forget_0 : decode cX10_forget 0 = .ok (.aload_n 0, 1) := by decide +kernel
theorem dX10_forget_1 : decode cX10_forget 1 = .ok (.invokevirtual 411, 3) := by decide +kernel
theorem dX10_forget_4 : decode cX10_forget 4 = .ok (.ifCond .eq 25, 3) := by decide +kernel
theorem dX10_forget_7 : decode cX10_forget 7 = .ok (.iload_n 1, 1) := by decide +kernel
theorem dX10_forget_8 : decode cX10_forget 8 = .ok (.i2l, 1) := by decide +kernel
theorem dX10_forget_9 : decode cX10_forget 9 = .ok (.lconst 1, 1) := by decide +kernel
theorem dX10_forget_10 : decode cX10_forget 10 = .ok (.ldc2_w 444, 3) := by decide +kernel
theorem dX10_forget_13 : decode cX10_forget 13 = .ok (.invokestatic 131, 3) := by decide +kernel
theorem dX10_forget_16 : decode cX10_forget 16 = .ok (.ifCond .eq 13, 3) := by decide +kernel
theorem dX10_forget_19 : decode cX10_forget 19 = .ok (.iload_n 2, 1) := by decide +kernel
theorem dX10_forget_20 : decode cX10_forget 20 = .ok (.i2l, 1) := by decide +kernel
theorem dX10_forget_21 : decode cX10_forget 21 = .ok (.lconst 0, 1) := by decide +kernel
theorem dX10_forget_22 : decode cX10_forget 22 = .ok (.lconst 1, 1) := by decide +kernel
theorem dX10_forget_23 : decode cX10_forget 23 = .ok (.invokestatic 131, 3) := by decide +kernel
theorem dX10_forget_26 : decode cX10_forget 26 = .ok (.ifCond .ne 6, 3) := by decide +kernel
theorem dX10_forget_29 : decode cX10_forget 29 = .ok (.bipush (-2), 2) := by decide +kernel
theorem dX10_forget_31 : decode cX10_forget 31 = .ok (.ireturn, 1) := by decide +kernel
theorem dX10_forget_32 : decode cX10_forget 32 = .ok (.aload_n 0, 1) := by decide +kernel
theorem dX10_forget_33 : decode cX10_forget 33 = .ok (.invokevirtual 430, 3) := by decide +kernel
theorem dX10_forget_36 : decode cX10_forget 36 = .ok (.iconst (-1), 1) := by decide +kernel
theorem dX10_forget_37 : decode cX10_forget 37 = .ok (.istore_n 3, 1) := by decide +kernel
theorem dX10_forget_38 : decode cX10_forget 38 = .ok (.aload_n 0, 1) := by decide +kernel
theorem dX10_forget_39 : decode cX10_forget 39 = .ok (.iload_n 1, 1) := by decide +kernel
theorem dX10_forget_40 : decode cX10_forget 40 = .ok (.invokevirtual 446, 3) := by decide +kernel
theorem dX10_forget_43 : decode cX10_forget 43 = .ok (.istore 4, 2) := by decide +kernel
theorem dX10_forget_45 : decode cX10_forget 45 = .ok (.iconst 0, 1) := by decide +kernel
theorem dX10_forget_46 : decode cX10_forget 46 = .ok (.istore 5, 2) := by decide +kernel
theorem dX10_forget_48 : decode cX10_forget 48 = .ok (.iload 5, 2) := by decide +kernel
theorem dX10_forget_50 : decode cX10_forget 50 = .ok (.aload_n 0, 1) := by decide +kernel
theorem dX10_forget_51 : decode cX10_forget 51 = .ok (.getfield 9, 3) := by decide +kernel
theorem dX10_forget_54 : decode cX10_forget 54 = .ok (.iconst 2, 1) := by decide +kernel
theorem dX10_forget_55 : decode cX10_forget 55 = .ok (.iaload, 1) := by decide +kernel
theorem dX10_forget_56 : decode cX10_forget 56 = .ok (.if_icmp .ge 49, 3) := by decide +kernel
theorem dX10_forget_59 : decode cX10_forget 59 = .ok (.aload_n 0, 1) := by decide +kernel
theorem dX10_forget_60 : decode cX10_forget 60 = .ok (.iload 5, 2) := by decide +kernel
theorem dX10_forget_62 : decode cX10_forget 62 = .ok (.invokevirtual 332, 3) := by decide +kernel
theorem dX10_forget_65 : decode cX10_forget 65 = .ok (.ifCond .eq 34, 3) := by decide +kernel
theorem dX10_forget_68 : decode cX10_forget 68 = .ok (.aload_n 0, 1) := by decide +kernel
theorem dX10_forget_69 : decode cX10_forget 69 = .ok (.getfield 22, 3) := by decide +kernel
theorem dX10_forget_72 : decode cX10_forget 72 = .ok (.iload 5, 2) := by decide +kernel
theorem dX10_forget_74 : decode cX10_forget 74 = .ok (.sipush (-1000), 3) := by decide +kernel
theorem dX10_forget_77 : decode cX10_forget 77 = .ok (.iastore, 1) := by decide +kernel
theorem dX10_forget_78 : decode cX10_forget 78 = .ok (.aload_n 0, 1) := by decide +kernel
theorem dX10_forget_79 : decode cX10_forget 79 = .ok (.iload_n 1, 1) := by decide +kernel
theorem dX10_forget_80 : decode cX10_forget 80 = .ok (.invokevirtual 446, 3) := by decide +kernel
theorem dX10_forget_83 : decode cX10_forget 83 = .ok (.istore 6, 2) := by decide +kernel
theorem dX10_forget_85 : decode cX10_forget 85 = .ok (.iload 6, 2) := by decide +kernel
theorem dX10_forget_87 : decode cX10_forget 87 = .ok (.iload 4, 2) := by decide +kernel
theorem dX10_forget_89 : decode cX10_forget 89 = .ok (.if_icmp .le 10, 3) := by decide +kernel
theorem dX10_forget_92 : decode cX10_forget 92 = .ok (.iload 5, 2) := by decide +kernel
theorem dX10_forget_94 : decode cX10_forget 94 = .ok (.istore_n 3, 1) := by decide +kernel
theorem dX10_forget_95 : decode cX10_forget 95 = .ok (.iload 6, 2) := by decide +kernel
theorem dX10_forget_97 : decode cX10_forget 97 = .ok (.istore 4, 2) := by decide +kernel
theorem dX10_forget_99 : decode cX10_forget 99 = .ok (.iinc 5 1, 3) := by decide +kernel
theorem dX10_forget_102 : decode cX10_forget 102 = .ok (.goto (-54), 3) := by decide +kernel
theorem dX10_forget_105 : decode cX10_forget 105 = .ok (.iload_n 2, 1) := by decide +kernel
theorem dX10_forget_106 : decode cX10_forget 106 = .ok (.ifCond .ne 7, 3) := by decide +kernel
theorem dX10_forget_109 : decode cX10_forget 109 = .ok (.iload_n 3, 1) := by decide +kernel
theorem dX10_forget_110 : decode cX10_forget 110 = .ok (.goto 5, 3) := by decide +kernel
theorem dX10_forget_113 : decode cX10_forget 113 = .ok (.iload 4, 2) := by decide +kernel
theorem dX10_forget_115 : decode cX10_forget 115 = .ok (.ireturn, 1) := by decide +kernel
theorem dX10_barter_0 : decode cX10_barter 0 = .ok (.aload_n 0, 1) := by decide +kernel
theorem dX10_barter_1 : decode cX10_barter 1 = .ok (.invokevirtual 411, 3) := by decide +kernel
theorem dX10_barter_4 : decode cX10_barter 4 = .ok (.ifCond .eq 27, 3) := by decide +kernel
theorem dX10_barter_7 : decode cX10_barter 7 = .ok (.iload_n 1, 1) := by decide +kernel
theorem dX10_barter_8 : decode cX10_barter 8 = .ok (.i2l, 1) := by decide +kernel
theorem dX10_barter_9 : decode cX10_barter 9 = .ok (.lconst 1, 1) := by decide +kernel
theorem dX10_barter_10 : decode cX10_barter 10 = .ok (.ldc2_w 444, 3) := by decide +kernel
theorem dX10_barter_13 : decode cX10_barter 13 = .ok (.invokestatic 131, 3) := by decide +kernel
theorem dX10_barter_16 : decode cX10_barter 16 = .ok (.ifCond .eq 15, 3) := by decide +kernel
theorem dX10_barter_19 : decode cX10_barter 19 = .ok (.iload_n 2, 1) := by decide +kernel
theorem dX10_barter_20 : decode cX10_barter 20 = .ok (.i2l, 1) := by decide +kernel
theorem dX10_barter_21 : decode cX10_barter 21 = .ok (.lconst 0, 1) := by decide +kernel
theorem dX10_barter_22 : decode cX10_barter 22 = .ok (.ldc2_w 426, 3) := by decide +kernel
theorem dX10_barter_25 : decode cX10_barter 25 = .ok (.invokestatic 131, 3) := by decide +kernel
theorem dX10_barter_28 : decode cX10_barter 28 = .ok (.ifCond .ne 6, 3) := by decide +kernel
theorem dX10_barter_31 : decode cX10_barter 31 = .ok (.bipush (-2), 2) := by decide +kernel
theorem dX10_barter_33 : decode cX10_barter 33 = .ok (.ireturn, 1) := by decide +kernel
theorem dX10_barter_34 : decode cX10_barter 34 = .ok (.aload_n 0, 1) := by decide +kernel
theorem dX10_barter_35 : decode cX10_barter 35 = .ok (.invokevirtual 430, 3) := by decide +kernel
theorem dX10_barter_38 : decode cX10_barter 38 = .ok (.iconst (-1), 1) := by decide +kernel
theorem dX10_barter_39 : decode cX10_barter 39 = .ok (.istore_n 3, 1) := by decide +kernel
theorem dX10_barter_40 : decode cX10_barter 40 = .ok (.iconst (-1), 1) := by decide +kernel
theorem dX10_barter_41 : decode cX10_barter 41 = .ok (.istore 4, 2) := by decide +kernel
theorem dX10_barter_43 : decode cX10_barter 43 = .ok (.aload_n 0, 1) := by decide +kernel
theorem dX10_barter_44 : decode cX10_barter 44 = .ok (.iload_n 1, 1) := by decide +kernel
theorem dX10_barter_45 : decode cX10_barter 45 = .ok (.invokevirtual 446, 3) := by decide +kernel
theorem dX10_barter_48 : decode cX10_barter 48 = .ok (.istore 5, 2) := by decide +kernel
theorem dX10_barter_50 : decode cX10_barter 50 = .ok (.iconst 0, 1) := by decide +kernel
theorem dX10_barter_51 : decode cX10_barter 51 = .ok (.istore 6, 2) := by decide +kernel
theorem dX10_barter_53 : decode cX10_barter 53 = .ok (.iload 6, 2) := by decide +kernel
theorem dX10_barter_55 : decode cX10_barter 55 = .ok (.aload_n 0, 1) := by decide +kernel
theorem dX10_barter_56 : decode cX10_barter 56 = .ok (.getfield 9, 3) := by decide +kernel
theorem dX10_barter_59 : decode cX10_barter 59 = .ok (.iconst 3, 1) := by decide +kernel
theorem dX10_barter_60 : decode cX10_barter 60 = .ok (.iaload, 1) := by decide +kernel
theorem dX10_barter_61 : decode cX10_barter 61 = .ok (.if_icmp .ge 106, 3) := by decide +kernel
theorem dX10_barter_64 : decode cX10_barter 64 = .ok (.iload 6, 2) := by decide +kernel
theorem dX10_barter_66 : decode cX10_barter 66 = .ok (.iconst 1, 1) := by decide +kernel
theorem dX10_barter_67 : decode cX10_barter 67 = .ok (.iadd, 1) := by decide +kernel
theorem dX10_barter_68 : decode cX10_barter 68 = .ok (.istore 7, 2) := by decide +kernel
theorem dX10_barter_70 : decode cX10_barter 70 = .ok (.iload 7, 2) := by decide +kernel
theorem dX10_barter_72 : decode cX10_barter 72 = .ok (.aload_n 0, 1) := by decide +kernel
theorem dX10_barter_73 : decode cX10_barter 73 = .ok (.getfield 9, 3) := by decide +kernel
theorem dX10_barter_76 : decode cX10_barter 76 = .ok (.iconst 3, 1) := by decide +kernel
theorem dX10_barter_77 : decode cX10_barter 77 = .ok (.iaload, 1) := by decide +kernel
theorem dX10_barter_78 : decode cX10_barter 78 = .ok (.if_icmp .ge 83, 3) := by decide +kernel
theorem dX10_barter_81 : decode cX10_barter 81 = .ok (.aload_n 0, 1) := by decide +kernel
theorem dX10_barter_82 : decode cX10_barter 82 = .ok (.iload 6, 2) := by decide +kernel
theorem dX10_barter_84 : decode cX10_barter 84 = .ok (.invokevirtual 350, 3) := by decide +kernel
theorem dX10_barter_87 : decode cX10_barter 87 = .ok (.ifCond .eq 68, 3) := by decide +kernel
theorem dX10_barter_90 : decode cX10_barter 90 = .ok (.aload_n 0, 1) := by decide +kernel
theorem dX10_barter_91 : decode cX10_barter 91 = .ok (.iload 7, 2) := by decide +kernel
theorem dX10_barter_93 : decode cX10_barter 93 = .ok (.invokevirtual 350, 3) := by decide +kernel
theorem dX10_barter_96 : decode cX10_barter 96 = .ok (.ifCond .eq 59, 3) := by decide +kernel
theorem dX10_barter_99 : decode cX10_barter 99 = .ok (.aload_n 0, 1) := by decide +kernel
theorem dX10_barter_100 : decode cX10_barter 100 = .ok (.getfield 25, 3) := by decide +kernel
theorem dX10_barter_103 : decode cX10_barter 103 = .ok (.iload 6, 2) := by decide +kernel
theorem dX10_barter_105 : decode cX10_barter 105 = .ok (.dup2, 1) := by decide +kernel
theorem dX10_barter_106 : decode cX10_barter 106 = .ok (.iaload, 1) := by decide +kernel
theorem dX10_barter_107 : decode cX10_barter 107 = .ok (.aload_n 0, 1) := by decide +kernel
theorem dX10_barter_108 : decode cX10_barter 108 = .ok (.getfield 25, 3) := by decide +kernel
theorem dX10_barter_111 : decode cX10_barter 111 = .ok (.iload 7, 2) := by decide +kernel
theorem dX10_barter_113 : decode cX10_barter 113 = .ok (.iaload, 1) := by decide +kernel
theorem dX10_barter_114 : decode cX10_barter 114 = .ok (.ior, 1) := by decide +kernel
theorem dX10_barter_115 : decode cX10_barter 115 = .ok (.iastore, 1) := by decide +kernel
theorem dX10_barter_116 : decode cX10_barter 116 = .ok (.aload_n 0, 1) := by decide +kernel
theorem dX10_barter_117 : decode cX10_barter 117 = .ok (.getfield 25, 3) := by decide +kernel
theorem dX10_barter_120 : decode cX10_barter 120 = .ok (.iload 7, 2) := by decide +kernel
theorem dX10_barter_122 : decode cX10_barter 122 = .ok (.aload_n 0, 1) := by decide +kernel
theorem dX10_barter_123 : decode cX10_barter 123 = .ok (.getfield 25, 3) := by decide +kernel
theorem dX10_barter_126 : decode cX10_barter 126 = .ok (.iload 6, 2) := by decide +kernel
theorem dX10_barter_128 : decode cX10_barter 128 = .ok (.iaload, 1) := by decide +kernel
theorem dX10_barter_129 : decode cX10_barter 129 = .ok (.iastore, 1) := by decide +kernel
theorem dX10_barter_130 : decode cX10_barter 130 = .ok (.aload_n 0, 1) := by decide +kernel
theorem dX10_barter_131 : decode cX10_barter 131 = .ok (.iload_n 1, 1) := by decide +kernel
theorem dX10_barter_132 : decode cX10_barter 132 = .ok (.invokevirtual 446, 3) := by decide +kernel
theorem dX10_barter_135 : decode cX10_barter 135 = .ok (.istore 8, 2) := by decide +kernel
theorem dX10_barter_137 : decode cX10_barter 137 = .ok (.iload 8, 2) := by decide +kernel
theorem dX10_barter_139 : decode cX10_barter 139 = .ok (.iload 5, 2) := by decide +kernel
theorem dX10_barter_141 : decode cX10_barter 141 = .ok (.if_icmp .le 14, 3) := by decide +kernel
theorem dX10_barter_144 : decode cX10_barter 144 = .ok (.iload 6, 2) := by decide +kernel
theorem dX10_barter_146 : decode cX10_barter 146 = .ok (.istore_n 3, 1) := by decide +kernel
theorem dX10_barter_147 : decode cX10_barter 147 = .ok (.iload 7, 2) := by decide +kernel
theorem dX10_barter_149 : decode cX10_barter 149 = .ok (.istore 4, 2) := by decide +kernel
theorem dX10_barter_151 : decode cX10_barter 151 = .ok (.iload 8, 2) := by decide +kernel
theorem dX10_barter_153 : decode cX10_barter 153 = .ok (.istore 5, 2) := by decide +kernel
theorem dX10_barter_155 : decode cX10_barter 155 = .ok (.iinc 7 1, 3) := by decide +kernel
theorem dX10_barter_158 : decode cX10_barter 158 = .ok (.goto (-88), 3) := by decide +kernel
theorem dX10_barter_161 : decode cX10_barter 161 = .ok (.iinc 6 1, 3) := by decide +kernel
theorem dX10_barter_164 : decode cX10_barter 164 = .ok (.goto (-111), 3) := by decide +kernel
theorem dX10_barter_167 : decode cX10_barter 167 = .ok (.iload_n 2, 1) := by decide +kernel
theorem dX10_barter_168 : decode cX10_barter 168 = .ok (.ifCond .ne 7, 3) := by decide +kernel
theorem dX10_barter_171 : decode cX10_barter 171 = .ok (.iload_n 3, 1) := by decide +kernel
theorem dX10_barter_172 : decode cX10_barter 172 = .ok (.goto 15, 3) := by decide +kernel
theorem dX10_barter_175 : decode cX10_barter 175 = .ok (.iload_n 2, 1) := by decide +kernel
theorem dX10_barter_176 : decode cX10_barter 176 = .ok (.iconst 1, 1) := by decide +kernel
theorem dX10_barter_177 : decode cX10_barter 177 = .ok (.if_icmp .ne 8, 3) := by decide +kernel
theorem dX10_barter_180 : decode cX10_barter 180 = .ok (.iload 4, 2) := by decide +kernel
theorem dX10_barter_182 : decode cX10_barter 182 = .ok (.goto 5, 3) := by decide +kernel
theorem dX10_barter_185 : decode cX10_barter 185 = .ok (.iload 5, 2) := by decide +kernel
theorem dX10_barter_187 : decode cX10_barter 187 = .ok (.ireturn, 1) := by decide +kernel
theorem dX10_school_0 : decode cX10_school 0 = .ok (.aload_n 0, 1) := by decide +kernel
theorem dX10_school_1 : decode cX10_school 1 = .ok (.invokevirtual 411, 3) := by decide +kernel
theorem dX10_school_4 : decode cX10_school 4 = .ok (.ifCond .eq 25, 3) := by decide +kernel
theorem dX10_school_7 : decode cX10_school 7 = .ok (.iload_n 1, 1) := by decide +kernel
theorem dX10_school_8 : decode cX10_school 8 = .ok (.i2l, 1) := by decide +kernel
theorem dX10_school_9 : decode cX10_school 9 = .ok (.lconst 1, 1) := by decide +kernel
theorem dX10_school_10 : decode cX10_school 10 = .ok (.ldc2_w 444, 3) := by decide +kernel
theorem dX10_school_13 : decode cX10_school 13 = .ok (.invokestatic 131, 3) := by decide +kernel
theorem dX10_school_16 : decode cX10_school 16 = .ok (.ifCond .eq 13, 3) := by decide +kernel
theorem dX10_school_19 : decode cX10_school 19 = .ok (.iload_n 2, 1) := by decide +kernel
theorem dX10_school_20 : decode cX10_school 20 = .ok (.i2l, 1) := by decide +kernel
theorem dX10_school_21 : decode cX10_school 21 = .ok (.lconst 0, 1) := by decide +kernel
theorem dX10_school_22 : decode cX10_school 22 = .ok (.lconst 1, 1) := by decide +kernel
theorem dX10_school_23 : decode cX10_school 23 = .ok (.invokestatic 131, 3) := by decide +kernel
theorem dX10_school_26 : decode cX10_school 26 = .ok (.ifCond .ne 5, 3) := by decide +kernel
theorem dX10_school_29 : decode cX10_school 29 = .ok (.iconst (-1), 1) := by decide +kernel
theorem dX10_school_30 : decode cX10_school 30 = .ok (.ireturn, 1) := by decide +kernel
theorem dX10_school_31 : decode cX10_school 31 = .ok (.bipush (-2), 2) := by decide +kernel
theorem dX10_school_33 : decode cX10_school 33 = .ok (.istore_n 3, 1) := by decide +kernel
theorem dX10_school_34 : decode cX10_school 34 = .ok (.aload_n 0, 1) := by decide +kernel
theorem dX10_school_35 : decode cX10_school 35 = .ok (.invokevirtual 430, 3) := by decide +kernel
theorem dX10_school_38 : decode cX10_school 38 = .ok (.iconst 0, 1) := by decide +kernel
theorem dX10_school_39 : decode cX10_school 39 = .ok (.istore 4, 2) := by decide +kernel
theorem dX10_school_41 : decode cX10_school 41 = .ok (.iload 4, 2) := by decide +kernel
theorem dX10_school_43 : decode cX10_school 43 = .ok (.iconst 1, 1) := by decide +kernel
theorem dX10_school_44 : decode cX10_school 44 = .ok (.aload_n 0, 1) := by decide +kernel
theorem dX10_school_45 : decode cX10_school 45 = .ok (.getfield 9, 3) := by decide +kernel
theorem dX10_school_48 : decode cX10_school 48 = .ok (.iconst 2, 1) := by decide +kernel
theorem dX10_school_49 : decode cX10_school 49 = .ok (.iaload, 1) := by decide +kernel
theorem dX10_school_50 : decode cX10_school 50 = .ok (.ishl, 1) := by decide +kernel
theorem dX10_school_51 : decode cX10_school 51 = .ok (.if_icmp .ge 95, 3) := by decide +kernel
theorem dX10_school_54 : decode cX10_school 54 = .ok (.iload_n 3, 1) := by decide +kernel
theorem dX10_school_55 : decode cX10_school 55 = .ok (.bipush (-2), 2) := by decide +kernel
theorem dX10_school_57 : decode cX10_school 57 = .ok (.if_icmp .eq 15, 3) := by decide +kernel
theorem dX10_school_60 : decode cX10_school 60 = .ok (.iload 4, 2) := by decide +kernel
theorem dX10_school_62 : decode cX10_school 62 = .ok (.invokestatic 358, 3) := by decide +kernel
theorem dX10_school_65 : decode cX10_school 65 = .ok (.iload_n 3, 1) := by decide +kernel
theorem dX10_school_66 : decode cX10_school 66 = .ok (.invokestatic 358, 3) := by decide +kernel
theorem dX10_school_69 : decode cX10_school 69 = .ok (.if_icmp .ge 71, 3) := by decide +kernel
theorem dX10_school_72 : decode cX10_school 72 = .ok (.iconst 0, 1) := by decide +kernel
theorem dX10_school_73 : decode cX10_school 73 = .ok (.istore 5, 2) := by decide +kernel
theorem dX10_school_75 : decode cX10_school 75 = .ok (.iload 5, 2) := by decide +kernel
theorem dX10_school_77 : decode cX10_school 77 = .ok (.aload_n 0, 1) := by decide +kernel
theorem dX10_school_78 : decode cX10_school 78 = .ok (.getfield 9, 3) := by decide +kernel
theorem dX10_school_81 : decode cX10_school 81 = .ok (.iconst 3, 1) := by decide +kernel
theorem dX10_school_82 : decode cX10_school 82 = .ok (.iaload, 1) := by decide +kernel
theorem dX10_school_83 : decode cX10_school 83 = .ok (.if_icmp .ge 34, 3) := by decide +kernel
theorem dX10_school_86 : decode cX10_school 86 = .ok (.aload_n 0, 1) := by decide +kernel
theorem dX10_school_87 : decode cX10_school 87 = .ok (.getfield 25, 3) := by decide +kernel
theorem dX10_school_90 : decode cX10_school 90 = .ok (.iload 5, 2) := by decide +kernel
theorem dX10_school_92 : decode cX10_school 92 = .ok (.dup2, 1) := by decide +kernel
theorem dX10_school_93 : decode cX10_school 93 = .ok (.iaload, 1) := by decide +kernel
theorem dX10_school_94 : decode cX10_school 94 = .ok (.aload_n 0, 1) := by decide +kernel
theorem dX10_school_95 : decode cX10_school 95 = .ok (.iload 5, 2) := by decide +kernel
theorem dX10_school_97 : decode cX10_school 97 = .ok (.invokevirtual 350, 3) := by decide +kernel
theorem dX10_school_100 : decode cX10_school 100 = .ok (.ifCond .eq 8, 3) := by decide +kernel
theorem dX10_school_103 : decode cX10_school 103 = .ok (.iload 4, 2) := by decide +kernel
theorem dX10_school_105 : decode cX10_school 105 = .ok (.goto 4, 3) := by decide +kernel
theorem dX10_school_108 : decode cX10_school 108 = .ok (.iconst 0, 1) := by decide +kernel
theorem dX10_school_109 : decode cX10_school 109 = .ok (.ior, 1) := by decide +kernel
theorem dX10_school_110 : decode cX10_school 110 = .ok (.iastore, 1) := by decide +kernel
theorem dX10_school_111 : decode cX10_school 111 = .ok (.iinc 5 1, 3) := by decide +kernel
theorem dX10_school_114 : decode cX10_school 114 = .ok (.goto (-39), 3) := by decide +kernel
theorem dX10_school_117 : decode cX10_school 117 = .ok (.aload_n 0, 1) := by decide +kernel
theorem dX10_school_118 : decode cX10_school 118 = .ok (.iload_n 1, 1) := by decide +kernel
theorem dX10_school_119 : decode cX10_school 119 = .ok (.invokevirtual 420, 3) := by decide +kernel
theorem dX10_school_122 : decode cX10_school 122 = .ok (.aload_n 0, 1) := by decide +kernel
theorem dX10_school_123 : decode cX10_school 123 = .ok (.invokevirtual 356, 3) := by decide +kernel
theorem dX10_school_126 : decode cX10_school 126 = .ok (.ifCond .ne 8, 3) := by decide +kernel
theorem dX10_school_129 : decode cX10_school 129 = .ok (.iload 4, 2) := by decide +kernel
theorem dX10_school_131 : decode cX10_school 131 = .ok (.goto 4, 3) := by decide +kernel
theorem dX10_school_134 : decode cX10_school 134 = .ok (.iload_n 3, 1) := by decide +kernel
theorem dX10_school_135 : decode cX10_school 135 = .ok (.istore_n 3, 1) := by decide +kernel
theorem dX10_school_136 : decode cX10_school 136 = .ok (.aload_n 0, 1) := by decide +kernel
theorem dX10_school_137 : decode cX10_school 137 = .ok (.invokevirtual 423, 3) := by decide +kernel
theorem dX10_school_140 : decode cX10_school 140 = .ok (.iinc 4 1, 3) := by decide +kernel
theorem dX10_school_143 : decode cX10_school 143 = .ok (.goto (-102), 3) := by decide +kernel
theorem dX10_school_146 : decode cX10_school 146 = .ok (.iload_n 3, 1) := by decide +kernel
theorem dX10_school_147 : decode cX10_school 147 = .ok (.bipush (-2), 2) := by decide +kernel
theorem dX10_school_149 : decode cX10_school 149 = .ok (.if_icmp .eq 8, 3) := by decide +kernel
theorem dX10_school_152 : decode cX10_school 152 = .ok (.iload_n 2, 1) := by decide +kernel
theorem dX10_school_153 : decode cX10_school 153 = .ok (.iconst 1, 1) := by decide +kernel
theorem dX10_school_154 : decode cX10_school 154 = .ok (.if_icmp .ne 7, 3) := by decide +kernel
theorem dX10_school_157 : decode cX10_school 157 = .ok (.iload_n 3, 1) := by decide +kernel
theorem dX10_school_158 : decode cX10_school 158 = .ok (.goto 7, 3) := by decide +kernel
theorem dX10_school_161 : decode cX10_school 161 = .ok (.iload_n 3, 1) := by decide +kernel
theorem dX10_school_162 : decode cX10_school 162 = .ok (.invokestatic 358, 3) := by decide +kernel
theorem dX10_school_165 : decode cX10_school 165 = .ok (.ireturn, 1) := by decide +kernel
theorem dX10_howManyBy_0 : decode cX10_howManyBy 0 = .ok (.aload_n 0, 1) := by decide +kernel
theorem dX10_howManyBy_1 : decode cX10_howManyBy 1 = .ok (.getfield 9, 3) := by decide +kernel
theorem dX10_howManyBy_4 : decode cX10_howManyBy 4 = .ok (.bipush 8, 2) := by decide +kernel
theorem dX10_howManyBy_6 : decode cX10_howManyBy 6 = .ok (.iload_n 2, 1) := by decide +kernel
theorem dX10_howManyBy_7 : decode cX10_howManyBy 7 = .ok (.iastore, 1) := by decide +kernel
theorem dX10_howManyBy_8 : decode cX10_howManyBy 8 = .ok (.aload_n 0, 1) := by decide +kernel
theorem dX10_howManyBy_9 : decode cX10_howManyBy 9 = .ok (.invokevirtual 296, 3) := by decide +kernel
theorem dX10_howManyBy_12 : decode cX10_howManyBy 12 = .ok (.iconst 0, 1) := by decide +kernel
theorem dX10_howManyBy_13 : decode cX10_howManyBy 13 = .ok (.istore 4, 2) := by decide +kernel
theorem dX10_howManyBy_15 : decode cX10_howManyBy 15 = .ok (.iload 4, 2) := by decide +kernel
theorem dX10_howManyBy_17 : decode cX10_howManyBy 17 = .ok (.aload_n 0, 1) := by decide +kernel
theorem dX10_howManyBy_18 : decode cX10_howManyBy 18 = .ok (.getfield 9, 3) := by decide +kernel
theorem dX10_howManyBy_21 : decode cX10_howManyBy 21 = .ok (.iconst 2, 1) := by decide +kernel
theorem dX10_howManyBy_22 : decode cX10_howManyBy 22 = .ok (.iaload, 1) := by decide +kernel
theorem dX10_howManyBy_23 : decode cX10_howManyBy 23 = .ok (.if_icmp .ge 32, 3) := by decide +kernel
theorem dX10_howManyBy_26 : decode cX10_howManyBy 26 = .ok (.aload_n 0, 1) := by decide +kernel
theorem dX10_howManyBy_27 : decode cX10_howManyBy 27 = .ok (.getfield 22, 3) := by decide +kernel
theorem dX10_howManyBy_30 : decode cX10_howManyBy 30 = .ok (.iload 4, 2) := by decide +kernel
theorem dX10_howManyBy_32 : decode cX10_howManyBy 32 = .ok (.iload_n 1, 1) := by decide +kernel
theorem dX10_howManyBy_33 : decode cX10_howManyBy 33 = .ok (.iload 4, 2) := by decide +kernel
theorem dX10_howManyBy_35 : decode cX10_howManyBy 35 = .ok (.invokestatic 353, 3) := by decide +kernel
theorem dX10_howManyBy_38 : decode cX10_howManyBy 38 = .ok (.ifCond .eq 7, 3) := by decide +kernel
theorem dX10_howManyBy_41 : decode cX10_howManyBy 41 = .ok (.iconst (-1), 1) := by decide +kernel
theorem dX10_howManyBy_42 : decode cX10_howManyBy 42 = .ok (.goto 6, 3) := by decide +kernel
theorem dX10_howManyBy_45 : decode cX10_howManyBy 45 = .ok (.sipush (-1000), 3) := by decide +kernel
theorem dX10_howManyBy_48 : decode cX10_howManyBy 48 = .ok (.iastore, 1) := by decide +kernel
theorem dX10_howManyBy_49 : decode cX10_howManyBy 49 = .ok (.iinc 4 1, 3) := by decide +kernel
theorem dX10_howManyBy_52 : decode cX10_howManyBy 52 = .ok (.goto (-37), 3) := by decide +kernel
theorem dX10_howManyBy_55 : decode cX10_howManyBy 55 = .ok (.aload_n 0, 1) := by decide +kernel
theorem dX10_howManyBy_56 : decode cX10_howManyBy 56 = .ok (.iload_n 3, 1) := by decide +kernel
theorem dX10_howManyBy_57 : decode cX10_howManyBy 57 = .ok (.invokevirtual 420, 3) := by decide +kernel
theorem dX10_howManyBy_60 : decode cX10_howManyBy 60 = .ok (.aload_n 0, 1) := by decide +kernel
theorem dX10_howManyBy_61 : decode cX10_howManyBy 61 = .ok (.invokevirtual 367, 3) := by decide +kernel
theorem dX10_howManyBy_64 : decode cX10_howManyBy 64 = .ok (.istore 4, 2) := by decide +kernel
theorem dX10_howManyBy_66 : decode cX10_howManyBy 66 = .ok (.aload_n 0, 1) := by decide +kernel
theorem dX10_howManyBy_67 : decode cX10_howManyBy 67 = .ok (.invokevirtual 423, 3) := by decide +kernel
theorem dX10_howManyBy_70 : decode cX10_howManyBy 70 = .ok (.iload 4, 2) := by decide +kernel
theorem dX10_howManyBy_72 : decode cX10_howManyBy 72 = .ok (.ireturn, 1) := by decide +kernel
theorem dX10_old_0 : decode cX10_old 0 = .ok (.aload_n 0, 1) := by decide +kernel
theorem dX10_old_1 : decode cX10_old 1 = .ok (.invokevirtual 411, 3) := by decide +kernel
theorem dX10_old_4 : decode cX10_old 4 = .ok (.ifCond .eq 58, 3) := by decide +kernel
theorem dX10_old_7 : decode cX10_old 7 = .ok (.iload_n 1, 1) := by decide +kernel
theorem dX10_old_8 : decode cX10_old 8 = .ok (.i2l, 1) := by decide +kernel
theorem dX10_old_9 : decode cX10_old 9 = .ok (.ldc2_w 318, 3) := by decide +kernel
theorem dX10_old_12 : decode cX10_old 12 = .ok (.aload_n 0, 1) := by decide +kernel
theorem dX10_old_13 : decode cX10_old 13 = .ok (.getfield 312, 3) := by decide +kernel
theorem dX10_old_16 : decode cX10_old 16 = .ok (.iconst 1, 1) := by decide +kernel
theorem dX10_old_17 : decode cX10_old 17 = .ok (.isub, 1) := by decide +kernel
theorem dX10_old_18 : decode cX10_old 18 = .ok (.i2l, 1) := by decide +kernel
theorem dX10_old_19 : decode cX10_old 19 = .ok (.invokestatic 131, 3) := by decide +kernel
theorem dX10_old_22 : decode cX10_old 22 = .ok (.ifCond .eq 40, 3) := by decide +kernel
theorem dX10_old_25 : decode cX10_old 25 = .ok (.iload_n 2, 1) := by decide +kernel
theorem dX10_old_26 : decode cX10_old 26 = .ok (.i2l, 1) := by decide +kernel
theorem dX10_old_27 : decode cX10_old 27 = .ok (.lconst 1, 1) := by decide +kernel
theorem dX10_old_28 : decode cX10_old 28 = .ok (.ldc2_w 444, 3) := by decide +kernel
theorem dX10_old_31 : decode cX10_old 31 = .ok (.invokestatic 131, 3) := by decide +kernel
theorem dX10_old_34 : decode cX10_old 34 = .ok (.ifCond .eq 28, 3) := by decide +kernel
theorem dX10_old_37 : decode cX10_old 37 = .ok (.iload_n 3, 1) := by decide +kernel
theorem dX10_old_38 : decode cX10_old 38 = .ok (.i2l, 1) := by decide +kernel
theorem dX10_old_39 : decode cX10_old 39 = .ok (.lconst 0, 1) := by decide +kernel
theorem dX10_old_40 : decode cX10_old 40 = .ok (.ldc2_w 449, 3) := by decide +kernel
theorem dX10_old_43 : decode cX10_old 43 = .ok (.invokestatic 131, 3) := by decide +kernel
theorem dX10_old_46 : decode cX10_old 46 = .ok (.ifCond .eq 16, 3) := by decide +kernel
theorem dX10_old_49 : decode cX10_old 49 = .ok (.iload 4, 2) := by decide +kernel
theorem dX10_old_51 : decode cX10_old 51 = .ok (.i2l, 1) := by decide +kernel
theorem dX10_old_52 : decode cX10_old 52 = .ok (.lconst 0, 1) := by decide +kernel
theorem dX10_old_53 : decode cX10_old 53 = .ok (.ldc2_w 426, 3) := by decide +kernel
theorem dX10_old_56 : decode cX10_old 56 = .ok (.invokestatic 131, 3) := by decide +kernel
theorem dX10_old_59 : decode cX10_old 59 = .ok (.ifCond .ne 6, 3) := by decide +kernel
theorem dX10_old_62 : decode cX10_old 62 = .ok (.bipush (-3), 2) := by decide +kernel
theorem dX10_old_64 : decode cX10_old 64 = .ok (.ireturn, 1) := by decide +kernel
theorem dX10_old_65 : decode cX10_old 65 = .ok (.iconst 0, 1) := by decide +kernel
theorem dX10_old_66 : decode cX10_old 66 = .ok (.istore 5, 2) := by decide +kernel
theorem dX10_old_68 : decode cX10_old 68 = .ok (.bipush (-2), 2) := by decide +kernel
theorem dX10_old_70 : decode cX10_old 70 = .ok (.istore 6, 2) := by decide +kernel
theorem dX10_old_72 : decode cX10_old 72 = .ok (.iconst 0, 1) := by decide +kernel
theorem dX10_old_73 : decode cX10_old 73 = .ok (.istore 7, 2) := by decide +kernel
theorem dX10_old_75 : decode cX10_old 75 = .ok (.aload_n 0, 1) := by decide +kernel
theorem dX10_old_76 : decode cX10_old 76 = .ok (.invokevirtual 430, 3) := by decide +kernel
theorem dX10_old_79 : decode cX10_old 79 = .ok (.iconst 0, 1) := by decide +kernel
theorem dX10_old_80 : decode cX10_old 80 = .ok (.istore 8, 2) := by decide +kernel
theorem dX10_old_82 : decode cX10_old 82 = .ok (.iload 8, 2) := by decide +kernel
theorem dX10_old_84 : decode cX10_old 84 = .ok (.iconst 1, 1) := by decide +kernel
theorem dX10_old_85 : decode cX10_old 85 = .ok (.aload_n 0, 1) := by decide +kernel
theorem dX10_old_86 : decode cX10_old 86 = .ok (.getfield 9, 3) := by decide +kernel
theorem dX10_old_89 : decode cX10_old 89 = .ok (.iconst 2, 1) := by decide +kernel
theorem dX10_old_90 : decode cX10_old 90 = .ok (.iaload, 1) := by decide +kernel
theorem dX10_old_91 : decode cX10_old 91 = .ok (.ishl, 1) := by decide +kernel
theorem dX10_old_92 : decode cX10_old 92 = .ok (.if_icmp .ge 55, 3) := by decide +kernel
theorem dX10_old_95 : decode cX10_old 95 = .ok (.aload_n 0, 1) := by decide +kernel
theorem dX10_old_96 : decode cX10_old 96 = .ok (.iload 8, 2) := by decide +kernel
theorem dX10_old_98 : decode cX10_old 98 = .ok (.iload_n 1, 1) := by decide +kernel
theorem dX10_old_99 : decode cX10_old 99 = .ok (.iload_n 2, 1) := by decide +kernel
theorem dX10_old_100 : decode cX10_old 100 = .ok (.invokevirtual 451, 3) := by decide +kernel
theorem dX10_old_103 : decode cX10_old 103 = .ok (.iload_n 3, 1) := by decide +kernel
theorem dX10_old_104 : decode cX10_old 104 = .ok (.if_icmp .ne 37, 3) := by decide +kernel
theorem dX10_old_107 : decode cX10_old 107 = .ok (.iload 5, 2) := by decide +kernel
theorem dX10_old_109 : decode cX10_old 109 = .ok (.ifCond .ne 8, 3) := by decide +kernel
theorem dX10_old_112 : decode cX10_old 112 = .ok (.iload 8, 2) := by decide +kernel
theorem dX10_old_114 : decode cX10_old 114 = .ok (.goto 5, 3) := by decide +kernel
theorem dX10_old_117 : decode cX10_old 117 = .ok (.iload 6, 2) := by decide +kernel
theorem dX10_old_119 : decode cX10_old 119 = .ok (.istore 6, 2) := by decide +kernel
theorem dX10_old_121 : decode cX10_old 121 = .ok (.iload 5, 2) := by decide +kernel
theorem dX10_old_123 : decode cX10_old 123 = .ok (.ifCond .ne 8, 3) := by decide +kernel
theorem dX10_old_126 : decode cX10_old 126 = .ok (.iload 8, 2) := by decide +kernel
theorem dX10_old_128 : decode cX10_old 128 = .ok (.goto 8, 3) := by decide +kernel
theorem dX10_old_131 : decode cX10_old 131 = .ok (.iload 7, 2) := by decide +kernel
theorem dX10_old_133 : decode cX10_old 133 = .ok (.iload 8, 2) := by decide +kernel
theorem dX10_old_135 : decode cX10_old 135 = .ok (.iand, 1) := by decide +kernel
theorem dX10_old_136 : decode cX10_old 136 = .ok (.istore 7, 2) := by decide +kernel
theorem dX10_old_138 : decode cX10_old 138 = .ok (.iinc 5 1, 3) := by decide +kernel
theorem dX10_old_141 : decode cX10_old 141 = .ok (.iinc 8 1, 3) := by decide +kernel
theorem dX10_old_144 : decode cX10_old 144 = .ok (.goto (-62), 3) := by decide +kernel
theorem dX10_old_147 : decode cX10_old 147 = .ok (.iload 4, 2) := by decide +kernel
theorem dX10_old_149 : decode cX10_old 149 = .ok (.ifCond .ne 8, 3) := by decide +kernel
theorem dX10_old_152 : decode cX10_old 152 = .ok (.iload 5, 2) := by decide +kernel
theorem dX10_old_154 : decode cX10_old 154 = .ok (.goto 16, 3) := by decide +kernel
theorem dX10_old_157 : decode cX10_old 157 = .ok (.iload 4, 2) := by decide +kernel
theorem dX10_old_159 : decode cX10_old 159 = .ok (.iconst 1, 1) := by decide +kernel
theorem dX10_old_160 : decode cX10_old 160 = .ok (.if_icmp .ne 8, 3) := by decide +kernel
theorem dX10_old_163 : decode cX10_old 163 = .ok (.iload 6, 2) := by decide +kernel
theorem dX10_old_165 : decode cX10_old 165 = .ok (.goto 5, 3) := by decide +kernel
theorem dX10_old_168 : decode cX10_old 168 = .ok (.iload 7, 2) := by decide +kernel
theorem dX10_old_170 : decode cX10_old 170 = .ok (.ireturn, 1) := by decide +kernel
theorem dX10_playOf_0 : decode cX10_playOf 0 = .ok (.iload 5, 2) := by decide +kernel
theorem dX10_playOf_2 : decode cX10_playOf 2 = .ok (.istore 6, 2) := by decide +kernel
theorem dX10_playOf_4 : decode cX10_playOf 4 = .ok (.iconst 1, 1) := by decide +kernel
theorem dX10_playOf_5 : decode cX10_playOf 5 = .ok (.istore 7, 2) := by decide +kernel
theorem dX10_playOf_7 : decode cX10_playOf 7 = .ok (.iconst 0, 1) := by decide +kernel
theorem dX10_playOf_8 : decode cX10_playOf 8 = .ok (.istore 8, 2) := by decide +kernel
theorem dX10_playOf_10 : decode cX10_playOf 10 = .ok (.iload 8, 2) := by decide +kernel
theorem dX10_playOf_12 : decode cX10_playOf 12 = .ok (.iload_n 3, 1) := by decide +kernel
theorem dX10_playOf_13 : decode cX10_playOf 13 = .ok (.if_icmp .ge 126, 3) := by decide +kernel
theorem dX10_playOf_16 : decode cX10_playOf 16 = .ok (.iload 7, 2) := by decide +kernel
theorem dX10_playOf_18 : decode cX10_playOf 18 = .ok (.ifCond .eq 121, 3) := by decide +kernel
theorem dX10_playOf_21 : decode cX10_playOf 21 = .ok (.iload 8, 2) := by decide +kernel
theorem dX10_playOf_23 : decode cX10_playOf 23 = .ok (.iconst 2, 1) := by decide +kernel
theorem dX10_playOf_24 : decode cX10_playOf 24 = .ok (.irem, 1) := by decide +kernel
theorem dX10_playOf_25 : decode cX10_playOf 25 = .ok (.ifCond .ne 7, 3) := by decide +kernel
theorem dX10_playOf_28 : decode cX10_playOf 28 = .ok (.iload_n 1, 1) := by decide +kernel
theorem dX10_playOf_29 : decode cX10_playOf 29 = .ok (.goto 4, 3) := by decide +kernel
theorem dX10_playOf_32 : decode cX10_playOf 32 = .ok (.iload_n 2, 1) := by decide +kernel
theorem dX10_playOf_33 : decode cX10_playOf 33 = .ok (.istore 9, 2) := by decide +kernel
theorem dX10_playOf_35 : decode cX10_playOf 35 = .ok (.iload 6, 2) := by decide +kernel
theorem dX10_playOf_37 : decode cX10_playOf 37 = .ok (.aload_n 0, 1) := by decide +kernel
theorem dX10_playOf_38 : decode cX10_playOf 38 = .ok (.getfield 9, 3) := by decide +kernel
theorem dX10_playOf_41 : decode cX10_playOf 41 = .ok (.iconst 2, 1) := by decide +kernel
theorem dX10_playOf_42 : decode cX10_playOf 42 = .ok (.iaload, 1) := by decide +kernel
theorem dX10_playOf_43 : decode cX10_playOf 43 = .ok (.iconst 1, 1) := by decide +kernel
theorem dX10_playOf_44 : decode cX10_playOf 44 = .ok (.iadd, 1) := by decide +kernel
theorem dX10_playOf_45 : decode cX10_playOf 45 = .ok (.idiv, 1) := by decide +kernel
theorem dX10_playOf_46 : decode cX10_playOf 46 = .ok (.istore 6, 2) := by decide +kernel
theorem dX10_playOf_48 : decode cX10_playOf 48 = .ok (.iload 4, 2) := by decide +kernel
theorem dX10_playOf_50 : decode cX10_playOf 50 = .ok (.iload 6, 2) := by decide +kernel
theorem dX10_playOf_52 : decode cX10_playOf 52 = .ok (.idiv, 1) := by decide +kernel
theorem dX10_playOf_53 : decode cX10_playOf 53 = .ok (.aload_n 0, 1) := by decide +kernel
theorem dX10_playOf_54 : decode cX10_playOf 54 = .ok (.getfield 9, 3) := by decide +kernel
theorem dX10_playOf_57 : decode cX10_playOf 57 = .ok (.iconst 2, 1) := by decide +kernel
theorem dX10_playOf_58 : decode cX10_playOf 58 = .ok (.iaload, 1) := by decide +kernel
theorem dX10_playOf_59 : decode cX10_playOf 59 = .ok (.iconst 1, 1) := by decide +kernel
theorem dX10_playOf_60 : decode cX10_playOf 60 = .ok (.iadd, 1) := by decide +kernel
theorem dX10_playOf_61 : decode cX10_playOf 61 = .ok (.irem, 1) := by decide +kernel
theorem dX10_playOf_62 : decode cX10_playOf 62 = .ok (.iconst 1, 1) := by decide +kernel
theorem dX10_playOf_63 : decode cX10_playOf 63 = .ok (.isub, 1) := by decide +kernel
theorem dX10_playOf_64 : decode cX10_playOf 64 = .ok (.istore 10, 2) := by decide +kernel
theorem dX10_playOf_66 : decode cX10_playOf 66 = .ok (.iload 10, 2) := by decide +kernel
theorem dX10_playOf_68 : decode cX10_playOf 68 = .ok (.iconst (-1), 1) := by decide +kernel
theorem dX10_playOf_69 : decode cX10_playOf 69 = .ok (.if_icmp .eq 27, 3) := by decide +kernel
theorem dX10_playOf_72 : decode cX10_playOf 72 = .ok (.aload_n 0, 1) := by decide +kernel
theorem dX10_playOf_73 : decode cX10_playOf 73 = .ok (.iload 9, 2) := by decide +kernel
theorem dX10_playOf_75 : decode cX10_playOf 75 = .ok (.invokevirtual 350, 3) := by decide +kernel
theorem dX10_playOf_78 : decode cX10_playOf 78 = .ok (.ifCond .eq 22, 3) := by decide +kernel
theorem dX10_playOf_81 : decode cX10_playOf 81 = .ok (.aload_n 0, 1) := by decide +kernel
theorem dX10_playOf_82 : decode cX10_playOf 82 = .ok (.getfield 25, 3) := by decide +kernel
theorem dX10_playOf_85 : decode cX10_playOf 85 = .ok (.iload 9, 2) := by decide +kernel
theorem dX10_playOf_87 : decode cX10_playOf 87 = .ok (.iaload, 1) := by decide +kernel
theorem dX10_playOf_88 : decode cX10_playOf 88 = .ok (.iload 10, 2) := by decide +kernel
theorem dX10_playOf_90 : decode cX10_playOf 90 = .ok (.invokestatic 353, 3) := by decide +kernel
theorem dX10_playOf_93 : decode cX10_playOf 93 = .ok (.ifCond .eq 7, 3) := by decide +kernel
theorem dX10_playOf_96 : decode cX10_playOf 96 = .ok (.iconst 1, 1) := by decide +kernel
theorem dX10_playOf_97 : decode cX10_playOf 97 = .ok (.goto 4, 3) := by decide +kernel
theorem dX10_playOf_100 : decode cX10_playOf 100 = .ok (.iconst 0, 1) := by decide +kernel
theorem dX10_playOf_101 : decode cX10_playOf 101 = .ok (.istore 7, 2) := by decide +kernel
theorem dX10_playOf_103 : decode cX10_playOf 103 = .ok (.iload 7, 2) := by decide +kernel
theorem dX10_playOf_105 : decode cX10_playOf 105 = .ok (.ifCond .eq 18, 3) := by decide +kernel
theorem dX10_playOf_108 : decode cX10_playOf 108 = .ok (.iload 10, 2) := by decide +kernel
theorem dX10_playOf_110 : decode cX10_playOf 110 = .ok (.iconst (-1), 1) := by decide +kernel
theorem dX10_playOf_111 : decode cX10_playOf 111 = .ok (.if_icmp .eq 12, 3) := by decide +kernel
theorem dX10_playOf_114 : decode cX10_playOf 114 = .ok (.aload_n 0, 1) := by decide +kernel
theorem dX10_playOf_115 : decode cX10_playOf 115 = .ok (.iload 9, 2) := by decide +kernel
theorem dX10_playOf_117 : decode cX10_playOf 117 = .ok (.iload 10, 2) := by decide +kernel
theorem dX10_playOf_119 : decode cX10_playOf 119 = .ok (.invokevirtual 387, 3) := by decide +kernel
theorem dX10_playOf_122 : decode cX10_playOf 122 = .ok (.pop, 1) := by decide +kernel
theorem dX10_playOf_123 : decode cX10_playOf 123 = .ok (.aload_n 0, 1) := by decide +kernel
theorem dX10_playOf_124 : decode cX10_playOf 124 = .ok (.getfield 9, 3) := by decide +kernel
theorem dX10_playOf_127 : decode cX10_playOf 127 = .ok (.iconst 4, 1) := by decide +kernel
theorem dX10_playOf_128 : decode cX10_playOf 128 = .ok (.dup2, 1) := by decide +kernel
theorem dX10_playOf_129 : decode cX10_playOf 129 = .ok (.iaload, 1) := by decide +kernel
theorem dX10_playOf_130 : decode cX10_playOf 130 = .ok (.iconst 1, 1) := by decide +kernel
theorem dX10_playOf_131 : decode cX10_playOf 131 = .ok (.iadd, 1) := by decide +kernel
theorem dX10_playOf_132 : decode cX10_playOf 132 = .ok (.iastore, 1) := by decide +kernel
theorem dX10_playOf_133 : decode cX10_playOf 133 = .ok (.iinc 8 1, 3) := by decide +kernel
theorem dX10_playOf_136 : decode cX10_playOf 136 = .ok (.goto (-126), 3) := by decide +kernel
theorem dX10_playOf_139 : decode cX10_playOf 139 = .ok (.iload 7, 2) := by decide +kernel
theorem dX10_playOf_141 : decode cX10_playOf 141 = .ok (.ifCond .eq 17, 3) := by decide +kernel
theorem dX10_playOf_144 : decode cX10_playOf 144 = .ok (.aload_n 0, 1) := by decide +kernel
theorem dX10_playOf_145 : decode cX10_playOf 145 = .ok (.iload_n 1, 1) := by decide +kernel
theorem dX10_playOf_146 : decode cX10_playOf 146 = .ok (.invokevirtual 361, 3) := by decide +kernel
theorem dX10_playOf_149 : decode cX10_playOf 149 = .ok (.aload_n 0, 1) := by decide +kernel
theorem dX10_playOf_150 : decode cX10_playOf 150 = .ok (.iload_n 2, 1) := by decide +kernel
theorem dX10_playOf_151 : decode cX10_playOf 151 = .ok (.invokevirtual 361, 3) := by decide +kernel
theorem dX10_playOf_154 : decode cX10_playOf 154 = .ok (.isub, 1) := by decide +kernel
theorem dX10_playOf_155 : decode cX10_playOf 155 = .ok (.goto 6, 3) := by decide +kernel
theorem dX10_playOf_158 : decode cX10_playOf 158 = .ok (.ldc_w 455, 3) := by decide +kernel
theorem dX10_playOf_161 : decode cX10_playOf 161 = .ok (.istore 8, 2) := by decide +kernel
theorem dX10_playOf_163 : decode cX10_playOf 163 = .ok (.aload_n 0, 1) := by decide +kernel
theorem dX10_playOf_164 : decode cX10_playOf 164 = .ok (.invokevirtual 423, 3) := by decide +kernel
theorem dX10_playOf_167 : decode cX10_playOf 167 = .ok (.iload 8, 2) := by decide +kernel
theorem dX10_playOf_169 : decode cX10_playOf 169 = .ok (.ireturn, 1) := by decide +kernel
theorem dX10_bestAt_0 : decode cX10_bestAt 0 = .ok (.iload_n 1, 1) := by decide +kernel
theorem dX10_bestAt_1 : decode cX10_bestAt 1 = .ok (.istore 4, 2) := by decide +kernel
theorem dX10_bestAt_3 : decode cX10_bestAt 3 = .ok (.iload_n 1, 1) := by decide +kernel
theorem dX10_bestAt_4 : decode cX10_bestAt 4 = .ok (.iconst 1, 1) := by decide +kernel
theorem dX10_bestAt_5 : decode cX10_bestAt 5 = .ok (.iadd, 1) := by decide +kernel
theorem dX10_bestAt_6 : decode cX10_bestAt 6 = .ok (.istore 5, 2) := by decide +kernel
theorem dX10_bestAt_8 : decode cX10_bestAt 8 = .ok (.iload 5, 2) := by decide +kernel
theorem dX10_bestAt_10 : decode cX10_bestAt 10 = .ok (.iload_n 1, 1) := by decide +kernel
theorem dX10_bestAt_11 : decode cX10_bestAt 11 = .ok (.iload_n 2, 1) := by decide +kernel
theorem dX10_bestAt_12 : decode cX10_bestAt 12 = .ok (.iadd, 1) := by decide +kernel
theorem dX10_bestAt_13 : decode cX10_bestAt 13 = .ok (.if_icmp .ge 67, 3) := by decide +kernel
theorem dX10_bestAt_16 : decode cX10_bestAt 16 = .ok (.aload_n 0, 1) := by decide +kernel
theorem dX10_bestAt_17 : decode cX10_bestAt 17 = .ok (.getfield 112, 3) := by decide +kernel
theorem dX10_bestAt_20 : decode cX10_bestAt 20 = .ok (.iload 5, 2) := by decide +kernel
theorem dX10_bestAt_22 : decode cX10_bestAt 22 = .ok (.iaload, 1) := by decide +kernel
theorem dX10_bestAt_23 : decode cX10_bestAt 23 = .ok (.ldc_w 455, 3) := by decide +kernel
theorem dX10_bestAt_26 : decode cX10_bestAt 26 = .ok (.if_icmp .eq 48, 3) := by decide +kernel
theorem dX10_bestAt_29 : decode cX10_bestAt 29 = .ok (.iload_n 3, 1) := by decide +kernel
theorem dX10_bestAt_30 : decode cX10_bestAt 30 = .ok (.ifCond .eq 23, 3) := by decide +kernel
theorem dX10_bestAt_33 : decode cX10_bestAt 33 = .ok (.aload_n 0, 1) := by decide +kernel
theorem dX10_bestAt_34 : decode cX10_bestAt 34 = .ok (.getfield 112, 3) := by decide +kernel
theorem dX10_bestAt_37 : decode cX10_bestAt 37 = .ok (.iload 5, 2) := by decide +kernel
theorem dX10_bestAt_39 : decode cX10_bestAt 39 = .ok (.iaload, 1) := by decide +kernel
theorem dX10_bestAt_40 : decode cX10_bestAt 40 = .ok (.aload_n 0, 1) := by decide +kernel
theorem dX10_bestAt_41 : decode cX10_bestAt 41 = .ok (.getfield 112, 3) := by decide +kernel
theorem dX10_bestAt_44 : decode cX10_bestAt 44 = .ok (.iload 4, 2) := by decide +kernel
theorem dX10_bestAt_46 : decode cX10_bestAt 46 = .ok (.iaload, 1) := by decide +kernel
theorem dX10_bestAt_47 : decode cX10_bestAt 47 = .ok (.if_icmp .le 27, 3) := by decide +kernel
theorem dX10_bestAt_50 : decode cX10_bestAt 50 = .ok (.goto 20, 3) := by decide +kernel
theorem dX10_bestAt_53 : decode cX10_bestAt 53 = .ok (.aload_n 0, 1) := by decide +kernel
theorem dX10_bestAt_54 : decode cX10_bestAt 54 = .ok (.getfield 112, 3) := by decide +kernel
theorem dX10_bestAt_57 : decode cX10_bestAt 57 = .ok (.iload 5, 2) := by decide +kernel
theorem dX10_bestAt_59 : decode cX10_bestAt 59 = .ok (.iaload, 1) := by decide +kernel
theorem dX10_bestAt_60 : decode cX10_bestAt 60 = .ok (.aload_n 0, 1) := by decide +kernel
theorem dX10_bestAt_61 : decode cX10_bestAt 61 = .ok (.getfield 112, 3) := by decide +kernel
theorem dX10_bestAt_64 : decode cX10_bestAt 64 = .ok (.iload 4, 2) := by decide +kernel
theorem dX10_bestAt_66 : decode cX10_bestAt 66 = .ok (.iaload, 1) := by decide +kernel
theorem dX10_bestAt_67 : decode cX10_bestAt 67 = .ok (.if_icmp .ge 7, 3) := by decide +kernel
theorem dX10_bestAt_70 : decode cX10_bestAt 70 = .ok (.iload 5, 2) := by decide +kernel
theorem dX10_bestAt_72 : decode cX10_bestAt 72 = .ok (.istore 4, 2) := by decide +kernel
theorem dX10_bestAt_74 : decode cX10_bestAt 74 = .ok (.iinc 5 1, 3) := by decide +kernel
theorem dX10_bestAt_77 : decode cX10_bestAt 77 = .ok (.goto (-69), 3) := by decide +kernel
theorem dX10_bestAt_80 : decode cX10_bestAt 80 = .ok (.iload 4, 2) := by decide +kernel
theorem dX10_bestAt_82 : decode cX10_bestAt 82 = .ok (.ireturn, 1) := by decide +kernel
theorem dX10_game_0 : decode cX10_game 0 = .ok (.aload_n 0, 1) := by decide +kernel
theorem dX10_game_1 : decode cX10_game 1 = .ok (.iload_n 1, 1) := by decide +kernel
theorem dX10_game_2 : decode cX10_game 2 = .ok (.invokevirtual 350, 3) := by decide +kernel
theorem dX10_game_5 : decode cX10_game 5 = .ok (.ifCond .eq 39, 3) := by decide +kernel
theorem dX10_game_8 : decode cX10_game 8 = .ok (.aload_n 0, 1) := by decide +kernel
theorem dX10_game_9 : decode cX10_game 9 = .ok (.iload_n 2, 1) := by decide +kernel
theorem dX10_game_10 : decode cX10_game 10 = .ok (.invokevirtual 350, 3) := by decide +kernel
theorem dX10_game_13 : decode cX10_game 13 = .ok (.ifCond .eq 31, 3) := by decide +kernel
theorem dX10_game_16 : decode cX10_game 16 = .ok (.iload_n 1, 1) := by decide +kernel
theorem dX10_game_17 : decode cX10_game 17 = .ok (.iload_n 2, 1) := by decide +kernel
theorem dX10_game_18 : decode cX10_game 18 = .ok (.if_icmp .eq 26, 3) := by decide +kernel
theorem dX10_game_21 : decode cX10_game 21 = .ok (.iload_n 3, 1) := by decide +kernel
theorem dX10_game_22 : decode cX10_game 22 = .ok (.i2l, 1) := by decide +kernel
theorem dX10_game_23 : decode cX10_game 23 = .ok (.lconst 1, 1) := by decide +kernel
theorem dX10_game_24 : decode cX10_game 24 = .ok (.ldc2_w 456, 3) := by decide +kernel
theorem dX10_game_27 : decode cX10_game 27 = .ok (.invokestatic 131, 3) := by decide +kernel
theorem dX10_game_30 : decode cX10_game 30 = .ok (.ifCond .eq 14, 3) := by decide +kernel
theorem dX10_game_33 : decode cX10_game 33 = .ok (.iload 4, 2) := by decide +kernel
theorem dX10_game_35 : decode cX10_game 35 = .ok (.i2l, 1) := by decide +kernel
theorem dX10_game_36 : decode cX10_game 36 = .ok (.lconst 0, 1) := by decide +kernel
theorem dX10_game_37 : decode cX10_game 37 = .ok (.lconst 1, 1) := by decide +kernel
theorem dX10_game_38 : decode cX10_game 38 = .ok (.invokestatic 131, 3) := by decide +kernel
theorem dX10_game_41 : decode cX10_game 41 = .ok (.ifCond .ne 7, 3) := by decide +kernel
theorem dX10_game_44 : decode cX10_game 44 = .ok (.sipush (-1000), 3) := by decide +kernel
theorem dX10_game_47 : decode cX10_game 47 = .ok (.ireturn, 1) := by decide +kernel
theorem dX10_game_48 : decode cX10_game 48 = .ok (.aload_n 0, 1) := by decide +kernel
theorem dX10_game_49 : decode cX10_game 49 = .ok (.getfield 9, 3) := by decide +kernel
theorem dX10_game_52 : decode cX10_game 52 = .ok (.iconst 2, 1) := by decide +kernel
theorem dX10_game_53 : decode cX10_game 53 = .ok (.iaload, 1) := by decide +kernel
theorem dX10_game_54 : decode cX10_game 54 = .ok (.iconst 1, 1) := by decide +kernel
theorem dX10_game_55 : decode cX10_game 55 = .ok (.iadd, 1) := by decide +kernel
theorem dX10_game_56 : decode cX10_game 56 = .ok (.istore 5, 2) := by decide +kernel
theorem dX10_game_58 : decode cX10_game 58 = .ok (.iconst 1, 1) := by decide +kernel
theorem dX10_game_59 : decode cX10_game 59 = .ok (.istore 6, 2) := by decide +kernel
theorem dX10_game_61 : decode cX10_game 61 = .ok (.iconst 0, 1) := by decide +kernel
theorem dX10_game_62 : decode cX10_game 62 = .ok (.istore 7, 2) := by decide +kernel
theorem dX10_game_64 : decode cX10_game 64 = .ok (.iload 7, 2) := by decide +kernel
theorem dX10_game_66 : decode cX10_game 66 = .ok (.iload_n 3, 1) := by decide +kernel
theorem dX10_game_67 : decode cX10_game 67 = .ok (.if_icmp .ge 16, 3) := by decide +kernel
theorem dX10_game_70 : decode cX10_game 70 = .ok (.iload 6, 2) := by decide +kernel
theorem dX10_game_72 : decode cX10_game 72 = .ok (.iload 5, 2) := by decide +kernel
theorem dX10_game_74 : decode cX10_game 74 = .ok (.imul, 1) := by decide +kernel
theorem dX10_game_75 : decode cX10_game 75 = .ok (.istore 6, 2) := by decide +kernel
theorem dX10_game_77 : decode cX10_game 77 = .ok (.iinc 7 1, 3) := by decide +kernel
theorem dX10_game_80 : decode cX10_game 80 = .ok (.goto (-16), 3) := by decide +kernel
theorem dX10_game_83 : decode cX10_game 83 = .ok (.aload_n 0, 1) := by decide +kernel
theorem dX10_game_84 : decode cX10_game 84 = .ok (.invokevirtual 430, 3) := by decide +kernel
theorem dX10_game_87 : decode cX10_game 87 = .ok (.iconst 0, 1) := by decide +kernel
theorem dX10_game_88 : decode cX10_game 88 = .ok (.istore 7, 2) := by decide +kernel
theorem dX10_game_90 : decode cX10_game 90 = .ok (.iload 7, 2) := by decide +kernel
theorem dX10_game_92 : decode cX10_game 92 = .ok (.iload 6, 2) := by decide +kernel
theorem dX10_game_94 : decode cX10_game 94 = .ok (.if_icmp .ge 27, 3) := by decide +kernel
theorem dX10_game_97 : decode cX10_game 97 = .ok (.aload_n 0, 1) := by decide +kernel
theorem dX10_game_98 : decode cX10_game 98 = .ok (.getfield 112, 3) := by decide +kernel
theorem dX10_game_101 : decode cX10_game 101 = .ok (.iload 7, 2) := by decide +kernel
theorem dX10_game_103 : decode cX10_game 103 = .ok (.aload_n 0, 1) := by decide +kernel
theorem dX10_game_104 : decode cX10_game 104 = .ok (.iload_n 1, 1) := by decide +kernel
theorem dX10_game_105 : decode cX10_game 105 = .ok (.iload_n 2, 1) := by decide +kernel
theorem dX10_game_106 : decode cX10_game 106 = .ok (.iload_n 3, 1) := by decide +kernel
theorem dX10_game_107 : decode cX10_game 107 = .ok (.iload 7, 2) := by decide +kernel
theorem dX10_game_109 : decode cX10_game 109 = .ok (.iload 6, 2) := by decide +kernel
theorem dX10_game_111 : decode cX10_game 111 = .ok (.invokevirtual 458, 3) := by decide +kernel
theorem dX10_game_114 : decode cX10_game 114 = .ok (.iastore, 1) := by decide +kernel
theorem dX10_game_115 : decode cX10_game 115 = .ok (.iinc 7 1, 3) := by decide +kernel
theorem dX10_game_118 : decode cX10_game 118 = .ok (.goto (-28), 3) := by decide +kernel
theorem dX10_game_121 : decode cX10_game 121 = .ok (.iload_n 3, 1) := by decide +kernel
theorem dX10_game_122 : decode cX10_game 122 = .ok (.iconst 1, 1) := by decide +kernel
theorem dX10_game_123 : decode cX10_game 123 = .ok (.isub, 1) := by decide +kernel
theorem dX10_game_124 : decode cX10_game 124 = .ok (.istore 7, 2) := by decide +kernel
theorem dX10_game_126 : decode cX10_game 126 = .ok (.iload 7, 2) := by decide +kernel
theorem dX10_game_128 : decode cX10_game 128 = .ok (.ifCond .le 67, 3) := by decide +kernel
theorem dX10_game_131 : decode cX10_game 131 = .ok (.iload 6, 2) := by decide +kernel
theorem dX10_game_133 : decode cX10_game 133 = .ok (.iload 5, 2) := by decide +kernel
theorem dX10_game_135 : decode cX10_game 135 = .ok (.idiv, 1) := by decide +kernel
theorem dX10_game_136 : decode cX10_game 136 = .ok (.istore 6, 2) := by decide +kernel
theorem dX10_game_138 : decode cX10_game 138 = .ok (.iconst 0, 1) := by decide +kernel
theorem dX10_game_139 : decode cX10_game 139 = .ok (.istore 8, 2) := by decide +kernel
theorem dX10_game_141 : decode cX10_game 141 = .ok (.iload 8, 2) := by decide +kernel
theorem dX10_game_143 : decode cX10_game 143 = .ok (.iload 6, 2) := by decide +kernel
theorem dX10_game_145 : decode cX10_game 145 = .ok (.if_icmp .ge 44, 3) := by decide +kernel
theorem dX10_game_148 : decode cX10_game 148 = .ok (.aload_n 0, 1) := by decide +kernel
theorem dX10_game_149 : decode cX10_game 149 = .ok (.getfield 112, 3) := by decide +kernel
theorem dX10_game_152 : decode cX10_game 152 = .ok (.iload 8, 2) := by decide +kernel
theorem dX10_game_154 : decode cX10_game 154 = .ok (.aload_n 0, 1) := by decide +kernel
theorem dX10_game_155 : decode cX10_game 155 = .ok (.getfield 112, 3) := by decide +kernel
theorem dX10_game_158 : decode cX10_game 158 = .ok (.aload_n 0, 1) := by decide +kernel
theorem dX10_game_159 : decode cX10_game 159 = .ok (.iload 5, 2) := by decide +kernel
theorem dX10_game_161 : decode cX10_game 161 = .ok (.iload 8, 2) := by decide +kernel
theorem dX10_game_163 : decode cX10_game 163 = .ok (.imul, 1) := by decide +kernel
theorem dX10_game_164 : decode cX10_game 164 = .ok (.iload 5, 2) := by decide +kernel
theorem dX10_game_166 : decode cX10_game 166 = .ok (.iload 7, 2) := by decide +kernel
theorem dX10_game_168 : decode cX10_game 168 = .ok (.iconst 2, 1) := by decide +kernel
theorem dX10_game_169 : decode cX10_game 169 = .ok (.irem, 1) := by decide +kernel
theorem dX10_game_170 : decode cX10_game 170 = .ok (.ifCond .ne 7, 3) := by decide +kernel
theorem dX10_game_173 : decode cX10_game 173 = .ok (.iconst 1, 1) := by decide +kernel
theorem dX10_game_174 : decode cX10_game 174 = .ok (.goto 4, 3) := by decide +kernel
theorem dX10_game_177 : decode cX10_game 177 = .ok (.iconst 0, 1) := by decide +kernel
theorem dX10_game_178 : decode cX10_game 178 = .ok (.invokevirtual 462, 3) := by decide +kernel
theorem dX10_game_181 : decode cX10_game 181 = .ok (.iaload, 1) := by decide +kernel
theorem dX10_game_182 : decode cX10_game 182 = .ok (.iastore, 1) := by decide +kernel
theorem dX10_game_183 : decode cX10_game 183 = .ok (.iinc 8 1, 3) := by decide +kernel
theorem dX10_game_186 : decode cX10_game 186 = .ok (.goto (-45), 3) := by decide +kernel
theorem dX10_game_189 : decode cX10_game 189 = .ok (.iinc 7 (-1), 3) := by decide +kernel
theorem dX10_game_192 : decode cX10_game 192 = .ok (.goto (-66), 3) := by decide +kernel
theorem dX10_game_195 : decode cX10_game 195 = .ok (.aload_n 0, 1) := by decide +kernel
theorem dX10_game_196 : decode cX10_game 196 = .ok (.iconst 0, 1) := by decide +kernel
theorem dX10_game_197 : decode cX10_game 197 = .ok (.iload 5, 2) := by decide +kernel
theorem dX10_game_199 : decode cX10_game 199 = .ok (.iconst 1, 1) := by decide +kernel
theorem dX10_game_200 : decode cX10_game 200 = .ok (.invokevirtual 462, 3) := by decide +kernel
theorem dX10_game_203 : decode cX10_game 203 = .ok (.istore 7, 2) := by decide +kernel
theorem dX10_game_205 : decode cX10_game 205 = .ok (.iload 4, 2) := by decide +kernel
theorem dX10_game_207 : decode cX10_game 207 = .ok (.ifCond .ne 13, 3) := by decide +kernel
theorem dX10_game_210 : decode cX10_game 210 = .ok (.aload_n 0, 1) := by decide +kernel
theorem dX10_game_211 : decode cX10_game 211 = .ok (.getfield 112, 3) := by decide +kernel
theorem dX10_game_214 : decode cX10_game 214 = .ok (.iload 7, 2) := by decide +kernel
theorem dX10_game_216 : decode cX10_game 216 = .ok (.iaload, 1) := by decide +kernel
theorem dX10_game_217 : decode cX10_game 217 = .ok (.goto 7, 3) := by decide +kernel
theorem dX10_game_220 : decode cX10_game 220 = .ok (.iload 7, 2) := by decide +kernel
theorem dX10_game_222 : decode cX10_game 222 = .ok (.iconst 1, 1) := by decide +kernel
theorem dX10_game_223 : decode cX10_game 223 = .ok (.isub, 1) := by decide +kernel
theorem dX10_game_224 : decode cX10_game 224 = .ok (.ireturn, 1) := by decide +kernel
theorem dX10_shareOf_0 : decode cX10_shareOf 0 = .ok (.aload_n 0, 1) := by decide +kernel
theorem dX10_shareOf_1 : decode cX10_shareOf 1 = .ok (.getfield 28, 3) := by decide +kernel
theorem dX10_shareOf_4 : decode cX10_shareOf 4 = .ok (.iload_n 1, 1) := by decide +kernel
theorem dX10_shareOf_5 : decode cX10_shareOf 5 = .ok (.iaload, 1) := by decide +kernel
theorem dX10_shareOf_6 : decode cX10_shareOf 6 = .ok (.iconst (-1), 1) := by decide +kernel
theorem dX10_shareOf_7 : decode cX10_shareOf 7 = .ok (.if_icmp .ne 7, 3) := by decide +kernel
theorem dX10_shareOf_10 : decode cX10_shareOf 10 = .ok (.iconst 0, 1) := by decide +kernel
theorem dX10_shareOf_11 : decode cX10_shareOf 11 = .ok (.goto 9, 3) := by decide +kernel
theorem dX10_shareOf_14 : decode cX10_shareOf 14 = .ok (.aload_n 0, 1) := by decide +kernel
theorem dX10_shareOf_15 : decode cX10_shareOf 15 = .ok (.getfield 16, 3) := by decide +kernel
theorem dX10_shareOf_18 : decode cX10_shareOf 18 = .ok (.iload_n 1, 1) := by decide +kernel
theorem dX10_shareOf_19 : decode cX10_shareOf 19 = .ok (.iaload, 1) := by decide +kernel
theorem dX10_shareOf_20 : decode cX10_shareOf 20 = .ok (.ireturn, 1) := by decide +kernel
theorem dX10_parts_0 : decode cX10_parts 0 = .ok (.aload_n 0, 1) := by decide +kernel
theorem dX10_parts_1 : decode cX10_parts 1 = .ok (.iload_n 2, 1) := by decide +kernel
theorem dX10_parts_2 : decode cX10_parts 2 = .ok (.invokevirtual 135, 3) := by decide +kernel
theorem dX10_parts_5 : decode cX10_parts 5 = .ok (.ifCond .eq 15, 3) := by decide +kernel
theorem dX10_parts_8 : decode cX10_parts 8 = .ok (.iload_n 1, 1) := by decide +kernel
theorem dX10_parts_9 : decode cX10_parts 9 = .ok (.i2l, 1) := by decide +kernel
theorem dX10_parts_10 : decode cX10_parts 10 = .ok (.lconst 0, 1) := by decide +kernel
theorem dX10_parts_11 : decode cX10_parts 11 = .ok (.ldc2_w 466, 3) := by decide +kernel
theorem dX10_parts_14 : decode cX10_parts 14 = .ok (.invokestatic 131, 3) := by decide +kernel
theorem dX10_parts_17 : decode cX10_parts 17 = .ok (.ifCond .ne 5, 3) := by decide +kernel
theorem dX10_parts_20 : decode cX10_parts 20 = .ok (.iconst (-1), 1) := by decide +kernel
theorem dX10_parts_21 : decode cX10_parts 21 = .ok (.ireturn, 1) := by decide +kernel
theorem dX10_parts_22 : decode cX10_parts 22 = .ok (.iconst 0, 1) := by decide +kernel
theorem dX10_parts_23 : decode cX10_parts 23 = .ok (.istore_n 3, 1) := by decide +kernel
theorem dX10_parts_24 : decode cX10_parts 24 = .ok (.iconst 0, 1) := by decide +kernel
theorem dX10_parts_25 : decode cX10_parts 25 = .ok (.istore 4, 2) := by decide +kernel
theorem dX10_parts_27 : decode cX10_parts 27 = .ok (.iload 4, 2) := by decide +kernel
theorem dX10_parts_29 : decode cX10_parts 29 = .ok (.aload_n 0, 1) := by decide +kernel
theorem dX10_parts_30 : decode cX10_parts 30 = .ok (.getfield 9, 3) := by decide +kernel
theorem dX10_parts_33 : decode cX10_parts 33 = .ok (.iconst 3, 1) := by decide +kernel
theorem dX10_parts_34 : decode cX10_parts 34 = .ok (.iaload, 1) := by decide +kernel
theorem dX10_parts_35 : decode cX10_parts 35 = .ok (.if_icmp .ge 18, 3) := by decide +kernel
theorem dX10_parts_38 : decode cX10_parts 38 = .ok (.iload_n 3, 1) := by decide +kernel
theorem dX10_parts_39 : decode cX10_parts 39 = .ok (.aload_n 0, 1) := by decide +kernel
theorem dX10_parts_40 : decode cX10_parts 40 = .ok (.iload 4, 2) := by decide +kernel
theorem dX10_parts_42 : decode cX10_parts 42 = .ok (.invokevirtual 468, 3) := by decide +kernel
theorem dX10_parts_45 : decode cX10_parts 45 = .ok (.iadd, 1) := by decide +kernel
theorem dX10_parts_46 : decode cX10_parts 46 = .ok (.istore_n 3, 1) := by decide +kernel
theorem dX10_parts_47 : decode cX10_parts 47 = .ok (.iinc 4 1, 3) := by decide +kernel
theorem dX10_parts_50 : decode cX10_parts 50 = .ok (.goto (-23), 3) := by decide +kernel
theorem dX10_parts_53 : decode cX10_parts 53 = .ok (.iload_n 3, 1) := by decide +kernel
theorem dX10_parts_54 : decode cX10_parts 54 = .ok (.ifCond .ne 5, 3) := by decide +kernel
theorem dX10_parts_57 : decode cX10_parts 57 = .ok (.iconst 0, 1) := by decide +kernel
theorem dX10_parts_58 : decode cX10_parts 58 = .ok (.ireturn, 1) := by decide +kernel
theorem dX10_parts_59 : decode cX10_parts 59 = .ok (.iload_n 1, 1) := by decide +kernel
theorem dX10_parts_60 : decode cX10_parts 60 = .ok (.istore 4, 2) := by decide +kernel
theorem dX10_parts_62 : decode cX10_parts 62 = .ok (.iconst 0, 1) := by decide +kernel
theorem dX10_parts_63 : decode cX10_parts 63 = .ok (.istore 5, 2) := by decide +kernel
theorem dX10_parts_65 : decode cX10_parts 65 = .ok (.iconst 0, 1) := by decide +kernel
theorem dX10_parts_66 : decode cX10_parts 66 = .ok (.istore 6, 2) := by decide +kernel
theorem dX10_parts_68 : decode cX10_parts 68 = .ok (.iload 6, 2) := by decide +kernel
theorem dX10_parts_70 : decode cX10_parts 70 = .ok (.aload_n 0, 1) := by decide +kernel
theorem dX10_parts_71 : decode cX10_parts 71 = .ok (.getfield 9, 3) := by decide +kernel
theorem dX10_parts_74 : decode cX10_parts 74 = .ok (.iconst 3, 1) := by decide +kernel
theorem dX10_parts_75 : decode cX10_parts 75 = .ok (.iaload, 1) := by decide +kernel
theorem dX10_parts_76 : decode cX10_parts 76 = .ok (.if_icmp .ge 72, 3) := by decide +kernel
theorem dX10_parts_79 : decode cX10_parts 79 = .ok (.iload 4, 2) := by decide +kernel
theorem dX10_parts_81 : decode cX10_parts 81 = .ok (.iload_n 1, 1) := by decide +kernel
theorem dX10_parts_82 : decode cX10_parts 82 = .ok (.aload_n 0, 1) := by decide +kernel
theorem dX10_parts_83 : decode cX10_parts 83 = .ok (.iload 6, 2) := by decide +kernel
theorem dX10_parts_85 : decode cX10_parts 85 = .ok (.invokevirtual 468, 3) := by decide +kernel
theorem dX10_parts_88 : decode cX10_parts 88 = .ok (.imul, 1) := by decide +kernel
theorem dX10_parts_89 : decode cX10_parts 89 = .ok (.iload_n 3, 1) := by decide +kernel
theorem dX10_parts_90 : decode cX10_parts 90 = .ok (.idiv, 1) := by decide +kernel
theorem dX10_parts_91 : decode cX10_parts 91 = .ok (.isub, 1) := by decide +kernel
theorem dX10_parts_92 : decode cX10_parts 92 = .ok (.istore 4, 2) := by decide +kernel
theorem dX10_parts_94 : decode cX10_parts 94 = .ok (.iload_n 1, 1) := by decide +kernel
theorem dX10_parts_95 : decode cX10_parts 95 = .ok (.aload_n 0, 1) := by decide +kernel
theorem dX10_parts_96 : decode cX10_parts 96 = .ok (.iload 6, 2) := by decide +kernel
theorem dX10_parts_98 : decode cX10_parts 98 = .ok (.invokevirtual 468, 3) := by decide +kernel
theorem dX10_parts_101 : decode cX10_parts 101 = .ok (.imul, 1) := by decide +kernel
theorem dX10_parts_102 : decode cX10_parts 102 = .ok (.iload_n 3, 1) := by decide +kernel
theorem dX10_parts_103 : decode cX10_parts 103 = .ok (.irem, 1) := by decide +kernel
theorem dX10_parts_104 : decode cX10_parts 104 = .ok (.iload_n 1, 1) := by decide +kernel
theorem dX10_parts_105 : decode cX10_parts 105 = .ok (.aload_n 0, 1) := by decide +kernel
theorem dX10_parts_106 : decode cX10_parts 106 = .ok (.iload_n 2, 1) := by decide +kernel
theorem dX10_parts_107 : decode cX10_parts 107 = .ok (.invokevirtual 468, 3) := by decide +kernel
theorem dX10_parts_110 : decode cX10_parts 110 = .ok (.imul, 1) := by decide +kernel
theorem dX10_parts_111 : decode cX10_parts 111 = .ok (.iload_n 3, 1) := by decide +kernel
theorem dX10_parts_112 : decode cX10_parts 112 = .ok (.irem, 1) := by decide +kernel
theorem dX10_parts_113 : decode cX10_parts 113 = .ok (.isub, 1) := by decide +kernel
theorem dX10_parts_114 : decode cX10_parts 114 = .ok (.istore 7, 2) := by decide +kernel
theorem dX10_parts_116 : decode cX10_parts 116 = .ok (.iload 5, 2) := by decide +kernel
theorem dX10_parts_118 : decode cX10_parts 118 = .ok (.iload 7, 2) := by decide +kernel
theorem dX10_parts_120 : decode cX10_parts 120 = .ok (.ifCond .gt 14, 3) := by decide +kernel
theorem dX10_parts_123 : decode cX10_parts 123 = .ok (.iload 7, 2) := by decide +kernel
theorem dX10_parts_125 : decode cX10_parts 125 = .ok (.ifCond .ne 13, 3) := by decide +kernel
theorem dX10_parts_128 : decode cX10_parts 128 = .ok (.iload 6, 2) := by decide +kernel
theorem dX10_parts_130 : decode cX10_parts 130 = .ok (.iload_n 2, 1) := by decide +kernel
theorem dX10_parts_131 : decode cX10_parts 131 = .ok (.if_icmp .ge 7, 3) := by decide +kernel
theorem dX10_parts_134 : decode cX10_parts 134 = .ok (.iconst 1, 1) := by decide +kernel
theorem dX10_parts_135 : decode cX10_parts 135 = .ok (.goto 4, 3) := by decide +kernel
theorem dX10_parts_138 : decode cX10_parts 138 = .ok (.iconst 0, 1) := by decide +kernel
theorem dX10_parts_139 : decode cX10_parts 139 = .ok (.iadd, 1) := by decide +kernel
theorem dX10_parts_140 : decode cX10_parts 140 = .ok (.istore 5, 2) := by decide +kernel
theorem dX10_parts_142 : decode cX10_parts 142 = .ok (.iinc 6 1, 3) := by decide +kernel
theorem dX10_parts_145 : decode cX10_parts 145 = .ok (.goto (-77), 3) := by decide +kernel
theorem dX10_parts_148 : decode cX10_parts 148 = .ok (.iload_n 1, 1) := by decide +kernel
theorem dX10_parts_149 : decode cX10_parts 149 = .ok (.aload_n 0, 1) := by decide +kernel
theorem dX10_parts_150 : decode cX10_parts 150 = .ok (.iload_n 2, 1) := by decide +kernel
theorem dX10_parts_151 : decode cX10_parts 151 = .ok (.invokevirtual 468, 3) := by decide +kernel
theorem dX10_parts_154 : decode cX10_parts 154 = .ok (.imul, 1) := by decide +kernel
theorem dX10_parts_155 : decode cX10_parts 155 = .ok (.iload_n 3, 1) := by decide +kernel
theorem dX10_parts_156 : decode cX10_parts 156 = .ok (.idiv, 1) := by decide +kernel
theorem dX10_parts_157 : decode cX10_parts 157 = .ok (.iload 5, 2) := by decide +kernel
theorem dX10_parts_159 : decode cX10_parts 159 = .ok (.iload 4, 2) := by decide +kernel
theorem dX10_parts_161 : decode cX10_parts 161 = .ok (.if_icmp .ge 7, 3) := by decide +kernel
theorem dX10_parts_164 : decode cX10_parts 164 = .ok (.iconst 1, 1) := by decide +kernel
theorem dX10_parts_165 : decode cX10_parts 165 = .ok (.goto 4, 3) := by decide +kernel
theorem dX10_parts_168 : decode cX10_parts 168 = .ok (.iconst 0, 1) := by decide +kernel
theorem dX10_parts_169 : decode cX10_parts 169 = .ok (.iadd, 1) := by decide +kernel
theorem dX10_parts_170 : decode cX10_parts 170 = .ok (.ireturn, 1) := by decide +kernel
theorem dX10_order_0 : decode cX10_order 0 = .ok (.aload_n 0, 1) := by decide +kernel
theorem dX10_order_1 : decode cX10_order 1 = .ok (.iload_n 1, 1) := by decide +kernel
theorem dX10_order_2 : decode cX10_order 2 = .ok (.invokevirtual 135, 3) := by decide +kernel
theorem dX10_order_5 : decode cX10_order 5 = .ok (.ifCond .ne 5, 3) := by decide +kernel
theorem dX10_order_8 : decode cX10_order 8 = .ok (.iconst (-1), 1) := by decide +kernel
theorem dX10_order_9 : decode cX10_order 9 = .ok (.ireturn, 1) := by decide +kernel
theorem dX10_order_10 : decode cX10_order 10 = .ok (.aload_n 0, 1) := by decide +kernel
theorem dX10_order_11 : decode cX10_order 11 = .ok (.invokevirtual 430, 3) := by decide +kernel
theorem dX10_order_14 : decode cX10_order 14 = .ok (.aload_n 0, 1) := by decide +kernel
theorem dX10_order_15 : decode cX10_order 15 = .ok (.bipush 100, 2) := by decide +kernel
theorem dX10_order_17 : decode cX10_order 17 = .ok (.invokevirtual 420, 3) := by decide +kernel
theorem dX10_order_20 : decode cX10_order 20 = .ok (.aload_n 0, 1) := by decide +kernel
theorem dX10_order_21 : decode cX10_order 21 = .ok (.getfield 28, 3) := by decide +kernel
theorem dX10_order_24 : decode cX10_order 24 = .ok (.iload_n 1, 1) := by decide +kernel
theorem dX10_order_25 : decode cX10_order 25 = .ok (.iaload, 1) := by decide +kernel
theorem dX10_order_26 : decode cX10_order 26 = .ok (.iconst (-1), 1) := by decide +kernel
theorem dX10_order_27 : decode cX10_order 27 = .ok (.if_icmp .ne 9, 3) := by decide +kernel
theorem dX10_order_30 : decode cX10_order 30 = .ok (.ldc_w 437, 3) := by decide +kernel
theorem dX10_order_33 : decode cX10_order 33 = .ok (.goto 9, 3) := by decide +kernel
theorem dX10_order_36 : decode cX10_order 36 = .ok (.aload_n 0, 1) := by decide +kernel
theorem dX10_order_37 : decode cX10_order 37 = .ok (.getfield 28, 3) := by decide +kernel
theorem dX10_order_40 : decode cX10_order 40 = .ok (.iload_n 1, 1) := by decide +kernel
theorem dX10_order_41 : decode cX10_order 41 = .ok (.iaload, 1) := by decide +kernel
theorem dX10_order_42 : decode cX10_order 42 = .ok (.istore_n 2, 1) := by decide +kernel
theorem dX10_order_43 : decode cX10_order 43 = .ok (.iconst 0, 1) := by decide +kernel
theorem dX10_order_44 : decode cX10_order 44 = .ok (.istore_n 3, 1) := by decide +kernel
theorem dX10_order_45 : decode cX10_order 45 = .ok (.iconst 0, 1) := by decide +kernel
theorem dX10_order_46 : decode cX10_order 46 = .ok (.istore 4, 2) := by decide +kernel
theorem dX10_order_48 : decode cX10_order 48 = .ok (.iload 4, 2) := by decide +kernel
theorem dX10_order_50 : decode cX10_order 50 = .ok (.aload_n 0, 1) := by decide +kernel
theorem dX10_order_51 : decode cX10_order 51 = .ok (.getfield 9, 3) := by decide +kernel
theorem dX10_order_54 : decode cX10_order 54 = .ok (.iconst 3, 1) := by decide +kernel
theorem dX10_order_55 : decode cX10_order 55 = .ok (.iaload, 1) := by decide +kernel
theorem dX10_order_56 : decode cX10_order 56 = .ok (.if_icmp .ge 61, 3) := by decide +kernel
theorem dX10_order_59 : decode cX10_order 59 = .ok (.aload_n 0, 1) := by decide +kernel
theorem dX10_order_60 : decode cX10_order 60 = .ok (.getfield 28, 3) := by decide +kernel
theorem dX10_order_63 : decode cX10_order 63 = .ok (.iload 4, 2) := by decide +kernel
theorem dX10_order_65 : decode cX10_order 65 = .ok (.iaload, 1) := by decide +kernel
theorem dX10_order_66 : decode cX10_order 66 = .ok (.iconst (-1), 1) := by decide +kernel
theorem dX10_order_67 : decode cX10_order 67 = .ok (.if_icmp .ne 9, 3) := by decide +kernel
theorem dX10_order_70 : decode cX10_order 70 = .ok (.ldc_w 437, 3) := by decide +kernel
theorem dX10_order_73 : decode cX10_order 73 = .ok (.goto 10, 3) := by decide +kernel
theorem dX10_order_76 : decode cX10_order 76 = .ok (.aload_n 0, 1) := by decide +kernel
theorem dX10_order_77 : decode cX10_order 77 = .ok (.getfield 28, 3) := by decide +kernel
theorem dX10_order_80 : decode cX10_order 80 = .ok (.iload 4, 2) := by decide +kernel
theorem dX10_order_82 : decode cX10_order 82 = .ok (.iaload, 1) := by decide +kernel
theorem dX10_order_83 : decode cX10_order 83 = .ok (.istore 5, 2) := by decide +kernel
theorem dX10_order_85 : decode cX10_order 85 = .ok (.iload_n 3, 1) := by decide +kernel
theorem dX10_order_86 : decode cX10_order 86 = .ok (.iload 5, 2) := by decide +kernel
theorem dX10_order_88 : decode cX10_order 88 = .ok (.iload_n 2, 1) := by decide +kernel
theorem dX10_order_89 : decode cX10_order 89 = .ok (.if_icmp .lt 15, 3) := by decide +kernel
theorem dX10_order_92 : decode cX10_order 92 = .ok (.iload 5, 2) := by decide +kernel
theorem dX10_order_94 : decode cX10_order 94 = .ok (.iload_n 2, 1) := by decide +kernel
theorem dX10_order_95 : decode cX10_order 95 = .ok (.if_icmp .ne 13, 3) := by decide +kernel
theorem dX10_order_98 : decode cX10_order 98 = .ok (.iload 4, 2) := by decide +kernel
theorem dX10_order_100 : decode cX10_order 100 = .ok (.iload_n 1, 1) := by decide +kernel
theorem dX10_order_101 : decode cX10_order 101 = .ok (.if_icmp .ge 7, 3) := by decide +kernel
theorem dX10_order_104 : decode cX10_order 104 = .ok (.iconst 1, 1) := by decide +kernel
theorem dX10_order_105 : decode cX10_order 105 = .ok (.goto 4, 3) := by decide +kernel
theorem dX10_order_108 : decode cX10_order 108 = .ok (.iconst 0, 1) := by decide +kernel
theorem dX10_order_109 : decode cX10_order 109 = .ok (.iadd, 1) := by decide +kernel
theorem dX10_order_110 : decode cX10_order 110 = .ok (.istore_n 3, 1) := by decide +kernel
theorem dX10_order_111 : decode cX10_order 111 = .ok (.iinc 4 1, 3) := by decide +kernel
theorem dX10_order_114 : decode cX10_order 114 = .ok (.goto (-66), 3) := by decide +kernel
theorem dX10_order_117 : decode cX10_order 117 = .ok (.aload_n 0, 1) := by decide +kernel
theorem dX10_order_118 : decode cX10_order 118 = .ok (.invokevirtual 423, 3) := by decide +kernel
theorem dX10_order_121 : decode cX10_order 121 = .ok (.iload_n 3, 1) := by decide +kernel
theorem dX10_order_122 : decode cX10_order 122 = .ok (.ireturn, 1) := by decide +kernel
theorem dX10_note_0 : decode cX10_note 0 = .ok (.iload_n 1, 1) := by decide +kernel
theorem dX10_note_1 : decode cX10_note 1 = .ok (.iconst (-1), 1) := by decide +kernel
theorem dX10_note_2 : decode cX10_note 2 = .ok (.if_icmp .ne 13, 3) := by decide +kernel
theorem dX10_note_5 : decode cX10_note 5 = .ok (.aload_n 0, 1) := by decide +kernel
theorem dX10_note_6 : decode cX10_note 6 = .ok (.getfield 9, 3) := by decide +kernel
theorem dX10_note_9 : decode cX10_note 9 = .ok (.bipush 6, 2) := by decide +kernel
theorem dX10_note_11 : decode cX10_note 11 = .ok (.iconst 0, 1) := by decide +kernel
theorem dX10_note_12 : decode cX10_note 12 = .ok (.iastore, 1) := by decide +kernel
theorem dX10_note_13 : decode cX10_note 13 = .ok (.iconst 0, 1) := by decide +kernel
theorem dX10_note_14 : decode cX10_note 14 = .ok (.ireturn, 1) := by decide +kernel
theorem dX10_note_15 : decode cX10_note 15 = .ok (.aload_n 0, 1) := by decide +kernel
theorem dX10_note_16 : decode cX10_note 16 = .ok (.getfield 9, 3) := by decide +kernel
theorem dX10_note_19 : decode cX10_note 19 = .ok (.bipush 6, 2) := by decide +kernel
theorem dX10_note_21 : decode cX10_note 21 = .ok (.iaload, 1) := by decide +kernel
theorem dX10_note_22 : decode cX10_note 22 = .ok (.istore 4, 2) := by decide +kernel
theorem dX10_note_24 : decode cX10_note 24 = .ok (.iload_n 1, 1) := by decide +kernel
theorem dX10_note_25 : decode cX10_note 25 = .ok (.i2l, 1) := by decide +kernel
theorem dX10_note_26 : decode cX10_note 26 = .ok (.lconst 0, 1) := by decide +kernel
theorem dX10_note_27 : decode cX10_note 27 = .ok (.ldc2_w 444, 3) := by decide +kernel
theorem dX10_note_30 : decode cX10_note 30 = .ok (.invokestatic 131, 3) := by decide +kernel
theorem dX10_note_33 : decode cX10_note 33 = .ok (.ifCond .eq 31, 3) := by decide +kernel
theorem dX10_note_36 : decode cX10_note 36 = .ok (.aload_n 0, 1) := by decide +kernel
theorem dX10_note_37 : decode cX10_note 37 = .ok (.iload_n 2, 1) := by decide +kernel
theorem dX10_note_38 : decode cX10_note 38 = .ok (.invokevirtual 135, 3) := by decide +kernel
theorem dX10_note_41 : decode cX10_note 41 = .ok (.ifCond .eq 23, 3) := by decide +kernel
theorem dX10_note_44 : decode cX10_note 44 = .ok (.iload_n 3, 1) := by decide +kernel
theorem dX10_note_45 : decode cX10_note 45 = .ok (.iconst (-1), 1) := by decide +kernel
theorem dX10_note_46 : decode cX10_note 46 = .ok (.if_icmp .eq 11, 3) := by decide +kernel
theorem dX10_note_49 : decode cX10_note 49 = .ok (.aload_n 0, 1) := by decide +kernel
theorem dX10_note_50 : decode cX10_note 50 = .ok (.iload_n 3, 1) := by decide +kernel
theorem dX10_note_51 : decode cX10_note 51 = .ok (.invokevirtual 341, 3) := by decide +kernel
theorem dX10_note_54 : decode cX10_note 54 = .ok (.ifCond .eq 10, 3) := by decide +kernel
theorem dX10_note_57 : decode cX10_note 57 = .ok (.iload 4, 2) := by decide +kernel
theorem dX10_note_59 : decode cX10_note 59 = .ok (.bipush 10, 2) := by decide +kernel
theorem dX10_note_61 : decode cX10_note 61 = .ok (.if_icmp .ne 6, 3) := by decide +kernel
theorem dX10_note_64 : decode cX10_note 64 = .ok (.bipush (-2), 2) := by decide +kernel
theorem dX10_note_66 : decode cX10_note 66 = .ok (.ireturn, 1) := by decide +kernel
theorem dX10_note_67 : decode cX10_note 67 = .ok (.aload_n 0, 1) := by decide +kernel
theorem dX10_note_68 : decode cX10_note 68 = .ok (.getfield 31, 3) := by decide +kernel
theorem dX10_note_71 : decode cX10_note 71 = .ok (.iload 4, 2) := by decide +kernel
theorem dX10_note_73 : decode cX10_note 73 = .ok (.iload_n 1, 1) := by decide +kernel
theorem dX10_note_74 : decode cX10_note 74 = .ok (.iastore, 1) := by decide +kernel
theorem dX10_note_75 : decode cX10_note 75 = .ok (.aload_n 0, 1) := by decide +kernel
theorem dX10_note_76 : decode cX10_note 76 = .ok (.getfield 34, 3) := by decide +kernel
theorem dX10_note_79 : decode cX10_note 79 = .ok (.iload 4, 2) := by decide +kernel
theorem dX10_note_81 : decode cX10_note 81 = .ok (.iload_n 2, 1) := by decide +kernel
theorem dX10_note_82 : decode cX10_note 82 = .ok (.iastore, 1) := by decide +kernel
theorem dX10_note_83 : decode cX10_note 83 = .ok (.aload_n 0, 1) := by decide +kernel
theorem dX10_note_84 : decode cX10_note 84 = .ok (.getfield 37, 3) := by decide +kernel
theorem dX10_note_87 : decode cX10_note 87 = .ok (.iload 4, 2) := by decide +kernel
theorem dX10_note_89 : decode cX10_note 89 = .ok (.iload_n 3, 1) := by decide +kernel
theorem dX10_note_90 : decode cX10_note 90 = .ok (.iastore, 1) := by decide +kernel
theorem dX10_note_91 : decode cX10_note 91 = .ok (.aload_n 0, 1) := by decide +kernel
theorem dX10_note_92 : decode cX10_note 92 = .ok (.getfield 9, 3) := by decide +kernel
theorem dX10_note_95 : decode cX10_note 95 = .ok (.bipush 6, 2) := by decide +kernel
theorem dX10_note_97 : decode cX10_note 97 = .ok (.dup2, 1) := by decide +kernel
theorem dX10_note_98 : decode cX10_note 98 = .ok (.iaload, 1) := by decide +kernel
theorem dX10_note_99 : decode cX10_note 99 = .ok (.iconst 1, 1) := by decide +kernel
theorem dX10_note_100 : decode cX10_note 100 = .ok (.iadd, 1) := by decide +kernel
theorem dX10_note_101 : decode cX10_note 101 = .ok (.iastore, 1) := by decide +kernel
theorem dX10_note_102 : decode cX10_note 102 = .ok (.iload 4, 2) := by decide +kernel
theorem dX10_note_104 : decode cX10_note 104 = .ok (.iconst 1, 1) := by decide +kernel
theorem dX10_note_105 : decode cX10_note 105 = .ok (.iadd, 1) := by decide +kernel
theorem dX10_note_106 : decode cX10_note 106 = .ok (.ireturn, 1) := by decide +kernel
theorem dX10_couldRule_0 : decode cX10_couldRule 0 = .ok (.aload_n 0, 1) := by decide +kernel
theorem dX10_couldRule_1 : decode cX10_couldRule 1 = .ok (.getfield 9, 3) := by decide +kernel
theorem dX10_couldRule_4 : decode cX10_couldRule 4 = .ok (.bipush 8, 2) := by decide +kernel
theorem dX10_couldRule_6 : decode cX10_couldRule 6 = .ok (.iload_n 1, 1) := by decide +kernel
theorem dX10_couldRule_7 : decode cX10_couldRule 7 = .ok (.iastore, 1) := by decide +kernel
theorem dX10_couldRule_8 : decode cX10_couldRule 8 = .ok (.aload_n 0, 1) := by decide +kernel
theorem dX10_couldRule_9 : decode cX10_couldRule 9 = .ok (.invokevirtual 296, 3) := by decide +kernel
theorem dX10_couldRule_12 : decode cX10_couldRule 12 = .ok (.iconst 0, 1) := by decide +kernel
theorem dX10_couldRule_13 : decode cX10_couldRule 13 = .ok (.istore_n 2, 1) := by decide +kernel
theorem dX10_couldRule_14 : decode cX10_couldRule 14 = .ok (.iload_n 2, 1) := by decide +kernel
theorem dX10_couldRule_15 : decode cX10_couldRule 15 = .ok (.bipush 60, 2) := by decide +kernel
theorem dX10_couldRule_17 : decode cX10_couldRule 17 = .ok (.if_icmp .gt 43, 3) := by decide +kernel
theorem dX10_couldRule_20 : decode cX10_couldRule 20 = .ok (.aload_n 0, 1) := by decide +kernel
theorem dX10_couldRule_21 : decode cX10_couldRule 21 = .ok (.invokevirtual 390, 3) := by decide +kernel
theorem dX10_couldRule_24 : decode cX10_couldRule 24 = .ok (.pop, 1) := by decide +kernel
theorem dX10_couldRule_25 : decode cX10_couldRule 25 = .ok (.iconst 0, 1) := by decide +kernel
theorem dX10_couldRule_26 : decode cX10_couldRule 26 = .ok (.istore_n 3, 1) := by decide +kernel
theorem dX10_couldRule_27 : decode cX10_couldRule 27 = .ok (.iload_n 3, 1) := by decide +kernel
theorem dX10_couldRule_28 : decode cX10_couldRule 28 = .ok (.iconst 5, 1) := by decide +kernel
theorem dX10_couldRule_29 : decode cX10_couldRule 29 = .ok (.if_icmp .ge 25, 3) := by decide +kernel
theorem dX10_couldRule_32 : decode cX10_couldRule 32 = .ok (.aload_n 0, 1) := by decide +kernel
theorem dX10_couldRule_33 : decode cX10_couldRule 33 = .ok (.getfield 115, 3) := by decide +kernel
theorem dX10_couldRule_36 : decode cX10_couldRule 36 = .ok (.iconst 5, 1) := by decide +kernel
theorem dX10_couldRule_37 : decode cX10_couldRule 37 = .ok (.iload_n 2, 1) := by decide +kernel
theorem dX10_couldRule_38 : decode cX10_couldRule 38 = .ok (.imul, 1) := by decide +kernel
theorem dX10_couldRule_39 : decode cX10_couldRule 39 = .ok (.iload_n 3, 1) := by decide +kernel
theorem dX10_couldRule_40 : decode cX10_couldRule 40 = .ok (.iadd, 1) := by decide +kernel
theorem dX10_couldRule_41 : decode cX10_couldRule 41 = .ok (.aload_n 0, 1) := by decide +kernel
theorem dX10_couldRule_42 : decode cX10_couldRule 42 = .ok (.getfield 94, 3) := by decide +kernel
theorem dX10_couldRule_45 : decode cX10_couldRule 45 = .ok (.iload_n 3, 1) := by decide +kernel
theorem dX10_couldRule_46 : decode cX10_couldRule 46 = .ok (.iaload, 1) := by decide +kernel
theorem dX10_couldRule_47 : decode cX10_couldRule 47 = .ok (.iastore, 1) := by decide +kernel
theorem dX10_couldRule_48 : decode cX10_couldRule 48 = .ok (.iinc 3 1, 3) := by decide +kernel
theorem dX10_couldRule_51 : decode cX10_couldRule 51 = .ok (.goto (-24), 3) := by decide +kernel
theorem dX10_couldRule_54 : decode cX10_couldRule 54 = .ok (.iinc 2 1, 3) := by decide +kernel
theorem dX10_couldRule_57 : decode cX10_couldRule 57 = .ok (.goto (-43), 3) := by decide +kernel
theorem dX10_couldRule_60 : decode cX10_couldRule 60 = .ok (.aload_n 0, 1) := by decide +kernel
theorem dX10_couldRule_61 : decode cX10_couldRule 61 = .ok (.invokevirtual 423, 3) := by decide +kernel
theorem dX10_couldRule_64 : decode cX10_couldRule 64 = .ok (.iconst 0, 1) := by decide +kernel
theorem dX10_couldRule_65 : decode cX10_couldRule 65 = .ok (.istore_n 2, 1) := by decide +kernel
theorem dX10_couldRule_66 : decode cX10_couldRule 66 = .ok (.iload_n 2, 1) := by decide +kernel
theorem dX10_couldRule_67 : decode cX10_couldRule 67 = .ok (.aload_n 0, 1) := by decide +kernel
theorem dX10_couldRule_68 : decode cX10_couldRule 68 = .ok (.getfield 9, 3) := by decide +kernel
theorem dX10_couldRule_71 : decode cX10_couldRule 71 = .ok (.bipush 6, 2) := by decide +kernel
theorem dX10_couldRule_73 : decode cX10_couldRule 73 = .ok (.iaload, 1) := by decide +kernel
theorem dX10_couldRule_74 : decode cX10_couldRule 74 = .ok (.if_icmp .ge 40, 3) := by decide +kernel
theorem dX10_couldRule_77 : decode cX10_couldRule 77 = .ok (.aload_n 0, 1) := by decide +kernel
theorem dX10_couldRule_78 : decode cX10_couldRule 78 = .ok (.getfield 115, 3) := by decide +kernel
theorem dX10_couldRule_81 : decode cX10_couldRule 81 = .ok (.iconst 5, 1) := by decide +kernel
theorem dX10_couldRule_82 : decode cX10_couldRule 82 = .ok (.aload_n 0, 1) := by decide +kernel
theorem dX10_couldRule_83 : decode cX10_couldRule 83 = .ok (.getfield 31, 3) := by decide +kernel
theorem dX10_couldRule_86 : decode cX10_couldRule 86 = .ok (.iload_n 2, 1) := by decide +kernel
theorem dX10_couldRule_87 : decode cX10_couldRule 87 = .ok (.iaload, 1) := by decide +kernel
theorem dX10_couldRule_88 : decode cX10_couldRule 88 = .ok (.imul, 1) := by decide +kernel
theorem dX10_couldRule_89 : decode cX10_couldRule 89 = .ok (.aload_n 0, 1) := by decide +kernel
theorem dX10_couldRule_90 : decode cX10_couldRule 90 = .ok (.getfield 34, 3) := by decide +kernel
theorem dX10_couldRule_93 : decode cX10_couldRule 93 = .ok (.iload_n 2, 1) := by decide +kernel
theorem dX10_couldRule_94 : decode cX10_couldRule 94 = .ok (.iaload, 1) := by decide +kernel
theorem dX10_couldRule_95 : decode cX10_couldRule 95 = .ok (.iadd, 1) := by decide +kernel
theorem dX10_couldRule_96 : decode cX10_couldRule 96 = .ok (.iaload, 1) := by decide +kernel
theorem dX10_couldRule_97 : decode cX10_couldRule 97 = .ok (.aload_n 0, 1) := by decide +kernel
theorem dX10_couldRule_98 : decode cX10_couldRule 98 = .ok (.getfield 37, 3) := by decide +kernel
theorem dX10_couldRule_101 : decode cX10_couldRule 101 = .ok (.iload_n 2, 1) := by decide +kernel
theorem dX10_couldRule_102 : decode cX10_couldRule 102 = .ok (.iaload, 1) := by decide +kernel
theorem dX10_couldRule_103 : decode cX10_couldRule 103 = .ok (.if_icmp .eq 5, 3) := by decide +kernel
theorem dX10_couldRule_106 : decode cX10_couldRule 106 = .ok (.iconst 0, 1) := by decide +kernel
theorem dX10_couldRule_107 : decode cX10_couldRule 107 = .ok (.ireturn, 1) := by decide +kernel
theorem dX10_couldRule_108 : decode cX10_couldRule 108 = .ok (.iinc 2 1, 3) := by decide +kernel
theorem dX10_couldRule_111 : decode cX10_couldRule 111 = .ok (.goto (-45), 3) := by decide +kernel
theorem dX10_couldRule_114 : decode cX10_couldRule 114 = .ok (.iconst 1, 1) := by decide +kernel
theorem dX10_couldRule_115 : decode cX10_couldRule 115 = .ok (.ireturn, 1) := by decide +kernel
theorem dX10_ruled_0 : decode cX10_ruled 0 = .ok (.aload_n 0, 1) := by decide +kernel
theorem dX10_ruled_1 : decode cX10_ruled 1 = .ok (.invokevirtual 411, 3) := by decide +kernel
theorem dX10_ruled_4 : decode cX10_ruled 4 = .ok (.ifCond .eq 13, 3) := by decide +kernel
theorem dX10_ruled_7 : decode cX10_ruled 7 = .ok (.iload_n 1, 1) := by decide +kernel
theorem dX10_ruled_8 : decode cX10_ruled 8 = .ok (.i2l, 1) := by decide +kernel
theorem dX10_ruled_9 : decode cX10_ruled 9 = .ok (.lconst 0, 1) := by decide +kernel
theorem dX10_ruled_10 : decode cX10_ruled 10 = .ok (.lconst 1, 1) := by decide +kernel
theorem dX10_ruled_11 : decode cX10_ruled 11 = .ok (.invokestatic 131, 3) := by decide +kernel
theorem dX10_ruled_14 : decode cX10_ruled 14 = .ok (.ifCond .ne 6, 3) := by decide +kernel
theorem dX10_ruled_17 : decode cX10_ruled 17 = .ok (.bipush (-3), 2) := by decide +kernel
theorem dX10_ruled_19 : decode cX10_ruled 19 = .ok (.ireturn, 1) := by decide +kernel
theorem dX10_ruled_20 : decode cX10_ruled 20 = .ok (.aload_n 0, 1) := by decide +kernel
theorem dX10_ruled_21 : decode cX10_ruled 21 = .ok (.invokevirtual 430, 3) := by decide +kernel
theorem dX10_ruled_24 : decode cX10_ruled 24 = .ok (.iconst 0, 1) := by decide +kernel
theorem dX10_ruled_25 : decode cX10_ruled 25 = .ok (.istore_n 2, 1) := by decide +kernel
theorem dX10_ruled_26 : decode cX10_ruled 26 = .ok (.bipush (-2), 2) := by decide +kernel
theorem dX10_ruled_28 : decode cX10_ruled 28 = .ok (.istore_n 3, 1) := by decide +kernel
theorem dX10_ruled_29 : decode cX10_ruled 29 = .ok (.iconst (-1), 1) := by decide +kernel
theorem dX10_ruled_30 : decode cX10_ruled 30 = .ok (.istore 4, 2) := by decide +kernel
theorem dX10_ruled_32 : decode cX10_ruled 32 = .ok (.iload 4, 2) := by decide +kernel
theorem dX10_ruled_34 : decode cX10_ruled 34 = .ok (.aload_n 0, 1) := by decide +kernel
theorem dX10_ruled_35 : decode cX10_ruled 35 = .ok (.getfield 312, 3) := by decide +kernel
theorem dX10_ruled_38 : decode cX10_ruled 38 = .ok (.if_icmp .ge 32, 3) := by decide +kernel
theorem dX10_ruled_41 : decode cX10_ruled 41 = .ok (.aload_n 0, 1) := by decide +kernel
theorem dX10_ruled_42 : decode cX10_ruled 42 = .ok (.iload 4, 2) := by decide +kernel
theorem dX10_ruled_44 : decode cX10_ruled 44 = .ok (.invokevirtual 471, 3) := by decide +kernel
theorem dX10_ruled_47 : decode cX10_ruled 47 = .ok (.ifCond .eq 17, 3) := by decide +kernel
theorem dX10_ruled_50 : decode cX10_ruled 50 = .ok (.iload_n 2, 1) := by decide +kernel
theorem dX10_ruled_51 : decode cX10_ruled 51 = .ok (.ifCond .ne 8, 3) := by decide +kernel
theorem dX10_ruled_54 : decode cX10_ruled 54 = .ok (.iload 4, 2) := by decide +kernel
theorem dX10_ruled_56 : decode cX10_ruled 56 = .ok (.goto 4, 3) := by decide +kernel
theorem dX10_ruled_59 : decode cX10_ruled 59 = .ok (.iload_n 3, 1) := by decide +kernel
theorem dX10_ruled_60 : decode cX10_ruled 60 = .ok (.istore_n 3, 1) := by decide +kernel
theorem dX10_ruled_61 : decode cX10_ruled 61 = .ok (.iinc 2 1, 3) := by decide +kernel
theorem dX10_ruled_64 : decode cX10_ruled 64 = .ok (.iinc 4 1, 3) := by decide +kernel
theorem dX10_ruled_67 : decode cX10_ruled 67 = .ok (.goto (-35), 3) := by decide +kernel
theorem dX10_ruled_70 : decode cX10_ruled 70 = .ok (.iload_n 1, 1) := by decide +kernel
theorem dX10_ruled_71 : decode cX10_ruled 71 = .ok (.ifCond .ne 7, 3) := by decide +kernel
theorem dX10_ruled_74 : decode cX10_ruled 74 = .ok (.iload_n 2, 1) := by decide +kernel
theorem dX10_ruled_75 : decode cX10_ruled 75 = .ok (.goto 4, 3) := by decide +kernel
theorem dX10_ruled_78 : decode cX10_ruled 78 = .ok (.iload_n 3, 1) := by decide +kernel
theorem dX10_ruled_79 : decode cX10_ruled 79 = .ok (.ireturn, 1) := by decide +kernel
theorem dX10_mostAlike_0 : decode cX10_mostAlike 0 = .ok (.iconst 0, 1) := by decide +kernel
theorem dX10_mostAlike_1 : decode cX10_mostAlike 1 = .ok (.istore_n 3, 1) := by decide +kernel
theorem dX10_mostAlike_2 : decode cX10_mostAlike 2 = .ok (.iconst 0, 1) := by decide +kernel
theorem dX10_mostAlike_3 : decode cX10_mostAlike 3 = .ok (.istore 4, 2) := by decide +kernel
theorem dX10_mostAlike_5 : decode cX10_mostAlike 5 = .ok (.iload 4, 2) := by decide +kernel
theorem dX10_mostAlike_7 : decode cX10_mostAlike 7 = .ok (.iload_n 2, 1) := by decide +kernel
theorem dX10_mostAlike_8 : decode cX10_mostAlike 8 = .ok (.if_icmp .ge 75, 3) := by decide +kernel
theorem dX10_mostAlike_11 : decode cX10_mostAlike 11 = .ok (.iconst 0, 1) := by decide +kernel
theorem dX10_mostAlike_12 : decode cX10_mostAlike 12 = .ok (.istore 5, 2) := by decide +kernel
theorem dX10_mostAlike_14 : decode cX10_mostAlike 14 = .ok (.iconst 0, 1) := by decide +kernel
theorem dX10_mostAlike_15 : decode cX10_mostAlike 15 = .ok (.istore 6, 2) := by decide +kernel
theorem dX10_mostAlike_17 : decode cX10_mostAlike 17 = .ok (.iload 6, 2) := by decide +kernel
theorem dX10_mostAlike_19 : decode cX10_mostAlike 19 = .ok (.iload_n 2, 1) := by decide +kernel
theorem dX10_mostAlike_20 : decode cX10_mostAlike 20 = .ok (.if_icmp .ge 44, 3) := by decide +kernel
theorem dX10_mostAlike_23 : decode cX10_mostAlike 23 = .ok (.iload 5, 2) := by decide +kernel
theorem dX10_mostAlike_25 : decode cX10_mostAlike 25 = .ok (.aload_n 0, 1) := by decide +kernel
theorem dX10_mostAlike_26 : decode cX10_mostAlike 26 = .ok (.getfield 118, 3) := by decide +kernel
theorem dX10_mostAlike_29 : decode cX10_mostAlike 29 = .ok (.iconst 5, 1) := by decide +kernel
theorem dX10_mostAlike_30 : decode cX10_mostAlike 30 = .ok (.iload 6, 2) := by decide +kernel
theorem dX10_mostAlike_32 : decode cX10_mostAlike 32 = .ok (.imul, 1) := by decide +kernel
theorem dX10_mostAlike_33 : decode cX10_mostAlike 33 = .ok (.iload_n 1, 1) := by decide +kernel
theorem dX10_mostAlike_34 : decode cX10_mostAlike 34 = .ok (.iadd, 1) := by decide +kernel
theorem dX10_mostAlike_35 : decode cX10_mostAlike 35 = .ok (.iaload, 1) := by decide +kernel
theorem dX10_mostAlike_36 : decode cX10_mostAlike 36 = .ok (.aload_n 0, 1) := by decide +kernel
theorem dX10_mostAlike_37 : decode cX10_mostAlike 37 = .ok (.getfield 118, 3) := by decide +kernel
theorem dX10_mostAlike_40 : decode cX10_mostAlike 40 = .ok (.iconst 5, 1) := by decide +kernel
theorem dX10_mostAlike_41 : decode cX10_mostAlike 41 = .ok (.iload 4, 2) := by decide +kernel
theorem dX10_mostAlike_43 : decode cX10_mostAlike 43 = .ok (.imul, 1) := by decide +kernel
theorem dX10_mostAlike_44 : decode cX10_mostAlike 44 = .ok (.iload_n 1, 1) := by decide +kernel
theorem dX10_mostAlike_45 : decode cX10_mostAlike 45 = .ok (.iadd, 1) := by decide +kernel
theorem dX10_mostAlike_46 : decode cX10_mostAlike 46 = .ok (.iaload, 1) := by decide +kernel
theorem dX10_mostAlike_47 : decode cX10_mostAlike 47 = .ok (.if_icmp .ne 7, 3) := by decide +kernel
theorem dX10_mostAlike_50 : decode cX10_mostAlike 50 = .ok (.iconst 1, 1) := by decide +kernel
theorem dX10_mostAlike_51 : decode cX10_mostAlike 51 = .ok (.goto 4, 3) := by decide +kernel
theorem dX10_mostAlike_54 : decode cX10_mostAlike 54 = .ok (.iconst 0, 1) := by decide +kernel
theorem dX10_mostAlike_55 : decode cX10_mostAlike 55 = .ok (.iadd, 1) := by decide +kernel
theorem dX10_mostAlike_56 : decode cX10_mostAlike 56 = .ok (.istore 5, 2) := by decide +kernel
theorem dX10_mostAlike_58 : decode cX10_mostAlike 58 = .ok (.iinc 6 1, 3) := by decide +kernel
theorem dX10_mostAlike_61 : decode cX10_mostAlike 61 = .ok (.goto (-44), 3) := by decide +kernel
theorem dX10_mostAlike_64 : decode cX10_mostAlike 64 = .ok (.iload 5, 2) := by decide +kernel
theorem dX10_mostAlike_66 : decode cX10_mostAlike 66 = .ok (.iload_n 3, 1) := by decide +kernel
theorem dX10_mostAlike_67 : decode cX10_mostAlike 67 = .ok (.if_icmp .le 8, 3) := by decide +kernel
theorem dX10_mostAlike_70 : decode cX10_mostAlike 70 = .ok (.iload 5, 2) := by decide +kernel
theorem dX10_mostAlike_72 : decode cX10_mostAlike 72 = .ok (.goto 4, 3) := by decide +kernel
theorem dX10_mostAlike_75 : decode cX10_mostAlike 75 = .ok (.iload_n 3, 1) := by decide +kernel
theorem dX10_mostAlike_76 : decode cX10_mostAlike 76 = .ok (.istore_n 3, 1) := by decide +kernel
theorem dX10_mostAlike_77 : decode cX10_mostAlike 77 = .ok (.iinc 4 1, 3) := by decide +kernel
theorem dX10_mostAlike_80 : decode cX10_mostAlike 80 = .ok (.goto (-75), 3) := by decide +kernel
theorem dX10_mostAlike_83 : decode cX10_mostAlike 83 = .ok (.iload_n 3, 1) := by decide +kernel
theorem dX10_mostAlike_84 : decode cX10_mostAlike 84 = .ok (.ireturn, 1) := by decide +kernel
theorem dX10_look_0 : decode cX10_look 0 = .ok (.aload_n 0, 1) := by decide +kernel
theorem dX10_look_1 : decode cX10_look 1 = .ok (.invokevirtual 411, 3) := by decide +kernel
theorem dX10_look_4 : decode cX10_look 4 = .ok (.ifCond .eq 25, 3) := by decide +kernel
theorem dX10_look_7 : decode cX10_look 7 = .ok (.iload_n 1, 1) := by decide +kernel
theorem dX10_look_8 : decode cX10_look 8 = .ok (.i2l, 1) := by decide +kernel
theorem dX10_look_9 : decode cX10_look 9 = .ok (.lconst 0, 1) := by decide +kernel
theorem dX10_look_10 : decode cX10_look 10 = .ok (.ldc2_w 444, 3) := by decide +kernel
theorem dX10_look_13 : decode cX10_look 13 = .ok (.invokestatic 131, 3) := by decide +kernel
theorem dX10_look_16 : decode cX10_look 16 = .ok (.ifCond .eq 13, 3) := by decide +kernel
theorem dX10_look_19 : decode cX10_look 19 = .ok (.iload_n 2, 1) := by decide +kernel
theorem dX10_look_20 : decode cX10_look 20 = .ok (.i2l, 1) := by decide +kernel
theorem dX10_look_21 : decode cX10_look 21 = .ok (.lconst 0, 1) := by decide +kernel
theorem dX10_look_22 : decode cX10_look 22 = .ok (.lconst 1, 1) := by decide +kernel
theorem dX10_look_23 : decode cX10_look 23 = .ok (.invokestatic 131, 3) := by decide +kernel
theorem dX10_look_26 : decode cX10_look 26 = .ok (.ifCond .ne 5, 3) := by decide +kernel
theorem dX10_look_29 : decode cX10_look 29 = .ok (.iconst (-1), 1) := by decide +kernel
theorem dX10_look_30 : decode cX10_look 30 = .ok (.ireturn, 1) := by decide +kernel
theorem dX10_look_31 : decode cX10_look 31 = .ok (.aload_n 0, 1) := by decide +kernel
theorem dX10_look_32 : decode cX10_look 32 = .ok (.invokevirtual 430, 3) := by decide +kernel
theorem dX10_look_35 : decode cX10_look 35 = .ok (.iconst 0, 1) := by decide +kernel
theorem dX10_look_36 : decode cX10_look 36 = .ok (.istore_n 3, 1) := by decide +kernel
theorem dX10_look_37 : decode cX10_look 37 = .ok (.iconst (-1), 1) := by decide +kernel
theorem dX10_look_38 : decode cX10_look 38 = .ok (.istore 4, 2) := by decide +kernel
theorem dX10_look_40 : decode cX10_look 40 = .ok (.iload 4, 2) := by decide +kernel
theorem dX10_look_42 : decode cX10_look 42 = .ok (.aload_n 0, 1) := by decide +kernel
theorem dX10_look_43 : decode cX10_look 43 = .ok (.getfield 312, 3) := by decide +kernel
theorem dX10_look_46 : decode cX10_look 46 = .ok (.if_icmp .ge 58, 3) := by decide +kernel
theorem dX10_look_49 : decode cX10_look 49 = .ok (.aload_n 0, 1) := by decide +kernel
theorem dX10_look_50 : decode cX10_look 50 = .ok (.iload 4, 2) := by decide +kernel
theorem dX10_look_52 : decode cX10_look 52 = .ok (.invokevirtual 471, 3) := by decide +kernel
theorem dX10_look_55 : decode cX10_look 55 = .ok (.ifCond .eq 43, 3) := by decide +kernel
theorem dX10_look_58 : decode cX10_look 58 = .ok (.iconst 0, 1) := by decide +kernel
theorem dX10_look_59 : decode cX10_look 59 = .ok (.istore 5, 2) := by decide +kernel
theorem dX10_look_61 : decode cX10_look 61 = .ok (.iload 5, 2) := by decide +kernel
theorem dX10_look_63 : decode cX10_look 63 = .ok (.iconst 5, 1) := by decide +kernel
theorem dX10_look_64 : decode cX10_look 64 = .ok (.if_icmp .ge 31, 3) := by decide +kernel
theorem dX10_look_67 : decode cX10_look 67 = .ok (.aload_n 0, 1) := by decide +kernel
theorem dX10_look_68 : decode cX10_look 68 = .ok (.getfield 118, 3) := by decide +kernel
theorem dX10_look_71 : decode cX10_look 71 = .ok (.iconst 5, 1) := by decide +kernel
theorem dX10_look_72 : decode cX10_look 72 = .ok (.iload_n 3, 1) := by decide +kernel
theorem dX10_look_73 : decode cX10_look 73 = .ok (.imul, 1) := by decide +kernel
theorem dX10_look_74 : decode cX10_look 74 = .ok (.iload 5, 2) := by decide +kernel
theorem dX10_look_76 : decode cX10_look 76 = .ok (.iadd, 1) := by decide +kernel
theorem dX10_look_77 : decode cX10_look 77 = .ok (.aload_n 0, 1) := by decide +kernel
theorem dX10_look_78 : decode cX10_look 78 = .ok (.getfield 115, 3) := by decide +kernel
theorem dX10_look_81 : decode cX10_look 81 = .ok (.iconst 5, 1) := by decide +kernel
theorem dX10_look_82 : decode cX10_look 82 = .ok (.iload_n 1, 1) := by decide +kernel
theorem dX10_look_83 : decode cX10_look 83 = .ok (.imul, 1) := by decide +kernel
theorem dX10_look_84 : decode cX10_look 84 = .ok (.iload 5, 2) := by decide +kernel
theorem dX10_look_86 : decode cX10_look 86 = .ok (.iadd, 1) := by decide +kernel
theorem dX10_look_87 : decode cX10_look 87 = .ok (.iaload, 1) := by decide +kernel
theorem dX10_look_88 : decode cX10_look 88 = .ok (.iastore, 1) := by decide +kernel
theorem dX10_look_89 : decode cX10_look 89 = .ok (.iinc 5 1, 3) := by decide +kernel
theorem dX10_look_92 : decode cX10_look 92 = .ok (.goto (-31), 3) := by decide +kernel
theorem dX10_look_95 : decode cX10_look 95 = .ok (.iinc 3 1, 3) := by decide +kernel
theorem dX10_look_98 : decode cX10_look 98 = .ok (.iinc 4 1, 3) := by decide +kernel
theorem dX10_look_101 : decode cX10_look 101 = .ok (.goto (-61), 3) := by decide +kernel
theorem dX10_look_104 : decode cX10_look 104 = .ok (.iload_n 3, 1) := by decide +kernel
theorem dX10_look_105 : decode cX10_look 105 = .ok (.ifCond .eq 12, 3) := by decide +kernel
theorem dX10_look_108 : decode cX10_look 108 = .ok (.aload_n 0, 1) := by decide +kernel
theorem dX10_look_109 : decode cX10_look 109 = .ok (.getfield 9, 3) := by decide +kernel
theorem dX10_look_112 : decode cX10_look 112 = .ok (.iconst 3, 1) := by decide +kernel
theorem dX10_look_113 : decode cX10_look 113 = .ok (.iaload, 1) := by decide +kernel
theorem dX10_look_114 : decode cX10_look 114 = .ok (.ifCond .ne 6, 3) := by decide +kernel
theorem dX10_look_117 : decode cX10_look 117 = .ok (.bipush (-2), 2) := by decide +kernel
theorem dX10_look_119 : decode cX10_look 119 = .ok (.ireturn, 1) := by decide +kernel
theorem dX10_look_120 : decode cX10_look 120 = .ok (.iconst 0, 1) := by decide +kernel
theorem dX10_look_121 : decode cX10_look 121 = .ok (.istore 4, 2) := by decide +kernel
theorem dX10_look_123 : decode cX10_look 123 = .ok (.iconst 1, 1) := by decide +kernel
theorem dX10_look_124 : decode cX10_look 124 = .ok (.istore 5, 2) := by decide +kernel
theorem dX10_look_126 : decode cX10_look 126 = .ok (.iload 5, 2) := by decide +kernel
theorem dX10_look_128 : decode cX10_look 128 = .ok (.aload_n 0, 1) := by decide +kernel
theorem dX10_look_129 : decode cX10_look 129 = .ok (.getfield 9, 3) := by decide +kernel
theorem dX10_look_132 : decode cX10_look 132 = .ok (.iconst 3, 1) := by decide +kernel
theorem dX10_look_133 : decode cX10_look 133 = .ok (.iaload, 1) := by decide +kernel
theorem dX10_look_134 : decode cX10_look 134 = .ok (.if_icmp .ge 35, 3) := by decide +kernel
theorem dX10_look_137 : decode cX10_look 137 = .ok (.aload_n 0, 1) := by decide +kernel
theorem dX10_look_138 : decode cX10_look 138 = .ok (.iload 5, 2) := by decide +kernel
theorem dX10_look_140 : decode cX10_look 140 = .ok (.iload_n 3, 1) := by decide +kernel
theorem dX10_look_141 : decode cX10_look 141 = .ok (.invokevirtual 474, 3) := by decide +kernel
theorem dX10_look_144 : decode cX10_look 144 = .ok (.aload_n 0, 1) := by decide +kernel
theorem dX10_look_145 : decode cX10_look 145 = .ok (.iload 4, 2) := by decide +kernel
theorem dX10_look_147 : decode cX10_look 147 = .ok (.iload_n 3, 1) := by decide +kernel
theorem dX10_look_148 : decode cX10_look 148 = .ok (.invokevirtual 474, 3) := by decide +kernel
theorem dX10_look_151 : decode cX10_look 151 = .ok (.if_icmp .ge 8, 3) := by decide +kernel
theorem dX10_look_154 : decode cX10_look 154 = .ok (.iload 5, 2) := by decide +kernel
theorem dX10_look_156 : decode cX10_look 156 = .ok (.goto 5, 3) := by decide +kernel
theorem dX10_look_159 : decode cX10_look 159 = .ok (.iload 4, 2) := by decide +kernel
theorem dX10_look_161 : decode cX10_look 161 = .ok (.istore 4, 2) := by decide +kernel
theorem dX10_look_163 : decode cX10_look 163 = .ok (.iinc 5 1, 3) := by decide +kernel
theorem dX10_look_166 : decode cX10_look 166 = .ok (.goto (-40), 3) := by decide +kernel
theorem dX10_look_169 : decode cX10_look 169 = .ok (.iload_n 2, 1) := by decide +kernel
theorem dX10_look_170 : decode cX10_look 170 = .ok (.ifCond .ne 8, 3) := by decide +kernel
theorem dX10_look_173 : decode cX10_look 173 = .ok (.iload 4, 2) := by decide +kernel
theorem dX10_look_175 : decode cX10_look 175 = .ok (.goto 10, 3) := by decide +kernel
theorem dX10_look_178 : decode cX10_look 178 = .ok (.aload_n 0, 1) := by decide +kernel
theorem dX10_look_179 : decode cX10_look 179 = .ok (.iload 4, 2) := by decide +kernel
theorem dX10_look_181 : decode cX10_look 181 = .ok (.iload_n 3, 1) := by decide +kernel
theorem dX10_look_182 : decode cX10_look 182 = .ok (.invokevirtual 474, 3) := by decide +kernel
theorem dX10_look_185 : decode cX10_look 185 = .ok (.ireturn, 1) := by decide +kernel
theorem dX10_seed_0 : decode cX10_seed 0 = .ok (.iload_n 1, 1) := by decide +kernel
theorem dX10_seed_1 : decode cX10_seed 1 = .ok (.ifCond .ge 5, 3) := by decide +kernel
theorem dX10_seed_4 : decode cX10_seed 4 = .ok (.iconst (-1), 1) := by decide +kernel
theorem dX10_seed_5 : decode cX10_seed 5 = .ok (.ireturn, 1) := by decide +kernel
theorem dX10_seed_6 : decode cX10_seed 6 = .ok (.aload_n 0, 1) := by decide +kernel
theorem dX10_seed_7 : decode cX10_seed 7 = .ok (.getfield 9, 3) := by decide +kernel
theorem dX10_seed_10 : decode cX10_seed 10 = .ok (.bipush 7, 2) := by decide +kernel
theorem dX10_seed_12 : decode cX10_seed 12 = .ok (.iaload, 1) := by decide +kernel
theorem dX10_seed_13 : decode cX10_seed 13 = .ok (.istore_n 2, 1) := by decide +kernel
theorem dX10_seed_14 : decode cX10_seed 14 = .ok (.aload_n 0, 1) := by decide +kernel
theorem dX10_seed_15 : decode cX10_seed 15 = .ok (.getfield 9, 3) := by decide +kernel
theorem dX10_seed_18 : decode cX10_seed 18 = .ok (.bipush 7, 2) := by decide +kernel
theorem dX10_seed_20 : decode cX10_seed 20 = .ok (.iload_n 1, 1) := by decide +kernel
theorem dX10_seed_21 : decode cX10_seed 21 = .ok (.iastore, 1) := by decide +kernel
theorem dX10_seed_22 : decode cX10_seed 22 = .ok (.iload_n 2, 1) := by decide +kernel
theorem dX10_seed_23 : decode cX10_seed 23 = .ok (.ireturn, 1) := by decide +kernel
theorem dX10_draws_0 : decode cX10_draws 0 = .ok (.aload_n 0, 1) := by decide +kernel
theorem dX10_draws_1 : decode cX10_draws 1 = .ok (.getfield 9, 3) := by decide +kernel
theorem dX10_draws_4 : decode cX10_draws 4 = .ok (.bipush 7, 2) := by decide +kernel
theorem dX10_draws_6 : decode cX10_draws 6 = .ok (.aload_n 0, 1) := by decide +kernel
theorem dX10_draws_7 : decode cX10_draws 7 = .ok (.getfield 9, 3) := by decide +kernel
theorem dX10_draws_10 : decode cX10_draws 10 = .ok (.bipush 7, 2) := by decide +kernel
theorem dX10_draws_12 : decode cX10_draws 12 = .ok (.iaload, 1) := by decide +kernel
theorem dX10_draws_13 : decode cX10_draws 13 = .ok (.i2l, 1) := by decide +kernel
theorem dX10_draws_14 : decode cX10_draws 14 = .ok (.ldc2_w 477, 3) := by decide +kernel
theorem dX10_draws_17 : decode cX10_draws 17 = .ok (.lmul, 1) := by decide +kernel
theorem dX10_draws_18 : decode cX10_draws 18 = .ok (.ldc2_w 479, 3) := by decide +kernel
theorem dX10_draws_21 : decode cX10_draws 21 = .ok (.ladd, 1) := by decide +kernel
theorem dX10_draws_22 : decode cX10_draws 22 = .ok (.ldc2_w 481, 3) := by decide +kernel
theorem dX10_draws_25 : decode cX10_draws 25 = .ok (.lrem, 1) := by decide +kernel
theorem dX10_draws_26 : decode cX10_draws 26 = .ok (.l2i, 1) := by decide +kernel
theorem dX10_draws_27 : decode cX10_draws 27 = .ok (.iastore, 1) := by decide +kernel
theorem dX10_draws_28 : decode cX10_draws 28 = .ok (.aload_n 0, 1) := by decide +kernel
theorem dX10_draws_29 : decode cX10_draws 29 = .ok (.getfield 9, 3) := by decide +kernel
theorem dX10_draws_32 : decode cX10_draws 32 = .ok (.bipush 7, 2) := by decide +kernel
theorem dX10_draws_34 : decode cX10_draws 34 = .ok (.iaload, 1) := by decide +kernel
theorem dX10_draws_35 : decode cX10_draws 35 = .ok (.ldc_w 483, 3) := by decide +kernel
theorem dX10_draws_38 : decode cX10_draws 38 = .ok (.idiv, 1) := by decide +kernel
theorem dX10_draws_39 : decode cX10_draws 39 = .ok (.iload_n 1, 1) := by decide +kernel
theorem dX10_draws_40 : decode cX10_draws 40 = .ok (.irem, 1) := by decide +kernel
theorem dX10_draws_41 : decode cX10_draws 41 = .ok (.ireturn, 1) := by decide +kernel
theorem dX10_parrots_0 : decode cX10_parrots 0 = .ok (.aload_n 0, 1) := by decide +kernel
theorem dX10_parrots_1 : decode cX10_parrots 1 = .ok (.invokevirtual 411, 3) := by decide +kernel
theorem dX10_parrots_4 : decode cX10_parrots 4 = .ok (.ifCond .eq 50, 3) := by decide +kernel
theorem dX10_parrots_7 : decode cX10_parrots 7 = .ok (.iload_n 1, 1) := by decide +kernel
theorem dX10_parrots_8 : decode cX10_parrots 8 = .ok (.i2l, 1) := by decide +kernel
theorem dX10_parrots_9 : decode cX10_parrots 9 = .ok (.lconst 1, 1) := by decide +kernel
theorem dX10_parrots_10 : decode cX10_parrots 10 = .ok (.ldc2_w 484, 3) := by decide +kernel
theorem dX10_parrots_13 : decode cX10_parrots 13 = .ok (.invokestatic 131, 3) := by decide +kernel
theorem dX10_parrots_16 : decode cX10_parrots 16 = .ok (.ifCond .eq 38, 3) := by decide +kernel
theorem dX10_parrots_19 : decode cX10_parrots 19 = .ok (.iload_n 2, 1) := by decide +kernel
theorem dX10_parrots_20 : decode cX10_parrots 20 = .ok (.i2l, 1) := by decide +kernel
theorem dX10_parrots_21 : decode cX10_parrots 21 = .ok (.lconst 1, 1) := by decide +kernel
theorem dX10_parrots_22 : decode cX10_parrots 22 = .ok (.ldc2_w 444, 3) := by decide +kernel
theorem dX10_parrots_25 : decode cX10_parrots 25 = .ok (.invokestatic 131, 3) := by decide +kernel
theorem dX10_parrots_28 : decode cX10_parrots 28 = .ok (.ifCond .eq 26, 3) := by decide +kernel
theorem dX10_parrots_31 : decode cX10_parrots 31 = .ok (.iload_n 3, 1) := by decide +kernel
theorem dX10_parrots_32 : decode cX10_parrots 32 = .ok (.i2l, 1) := by decide +kernel
theorem dX10_parrots_33 : decode cX10_parrots 33 = .ok (.lconst 0, 1) := by decide +kernel
theorem dX10_parrots_34 : decode cX10_parrots 34 = .ok (.ldc2_w 428, 3) := by decide +kernel
theorem dX10_parrots_37 : decode cX10_parrots 37 = .ok (.invokestatic 131, 3) := by decide +kernel
theorem dX10_parrots_40 : decode cX10_parrots 40 = .ok (.ifCond .eq 14, 3) := by decide +kernel
theorem dX10_parrots_43 : decode cX10_parrots 43 = .ok (.iload 4, 2) := by decide +kernel
theorem dX10_parrots_45 : decode cX10_parrots 45 = .ok (.i2l, 1) := by decide +kernel
theorem dX10_parrots_46 : decode cX10_parrots 46 = .ok (.lconst 0, 1) := by decide +kernel
theorem dX10_parrots_47 : decode cX10_parrots 47 = .ok (.lconst 1, 1) := by decide +kernel
theorem dX10_parrots_48 : decode cX10_parrots 48 = .ok (.invokestatic 131, 3) := by decide +kernel
theorem dX10_parrots_51 : decode cX10_parrots 51 = .ok (.ifCond .ne 5, 3) := by decide +kernel
theorem dX10_parrots_54 : decode cX10_parrots 54 = .ok (.iconst (-1), 1) := by decide +kernel
theorem dX10_parrots_55 : decode cX10_parrots 55 = .ok (.ireturn, 1) := by decide +kernel
theorem dX10_parrots_56 : decode cX10_parrots 56 = .ok (.aload_n 0, 1) := by decide +kernel
theorem dX10_parrots_57 : decode cX10_parrots 57 = .ok (.getfield 9, 3) := by decide +kernel
theorem dX10_parrots_60 : decode cX10_parrots 60 = .ok (.bipush 7, 2) := by decide +kernel
theorem dX10_parrots_62 : decode cX10_parrots 62 = .ok (.iaload, 1) := by decide +kernel
theorem dX10_parrots_63 : decode cX10_parrots 63 = .ok (.istore 5, 2) := by decide +kernel
theorem dX10_parrots_65 : decode cX10_parrots 65 = .ok (.iload 5, 2) := by decide +kernel
theorem dX10_parrots_67 : decode cX10_parrots 67 = .ok (.istore 6, 2) := by decide +kernel
theorem dX10_parrots_69 : decode cX10_parrots 69 = .ok (.aload_n 0, 1) := by decide +kernel
theorem dX10_parrots_70 : decode cX10_parrots 70 = .ok (.getfield 9, 3) := by decide +kernel
theorem dX10_parrots_73 : decode cX10_parrots 73 = .ok (.iconst 5, 1) := by decide +kernel
theorem dX10_parrots_74 : decode cX10_parrots 74 = .ok (.iaload, 1) := by decide +kernel
theorem dX10_parrots_75 : decode cX10_parrots 75 = .ok (.istore 7, 2) := by decide +kernel
theorem dX10_parrots_77 : decode cX10_parrots 77 = .ok (.iconst 0, 1) := by decide +kernel
theorem dX10_parrots_78 : decode cX10_parrots 78 = .ok (.istore 8, 2) := by decide +kernel
theorem dX10_parrots_80 : decode cX10_parrots 80 = .ok (.aload_n 0, 1) := by decide +kernel
theorem dX10_parrots_81 : decode cX10_parrots 81 = .ok (.invokevirtual 430, 3) := by decide +kernel
theorem dX10_parrots_84 : decode cX10_parrots 84 = .ok (.iconst 0, 1) := by decide +kernel
theorem dX10_parrots_85 : decode cX10_parrots 85 = .ok (.istore 9, 2) := by decide +kernel
theorem dX10_parrots_87 : decode cX10_parrots 87 = .ok (.iload 9, 2) := by decide +kernel
theorem dX10_parrots_89 : decode cX10_parrots 89 = .ok (.iload_n 1, 1) := by decide +kernel
theorem dX10_parrots_90 : decode cX10_parrots 90 = .ok (.if_icmp .ge 117, 3) := by decide +kernel
theorem dX10_parrots_93 : decode cX10_parrots 93 = .ok (.aload_n 0, 1) := by decide +kernel
theorem dX10_parrots_94 : decode cX10_parrots 94 = .ok (.getfield 9, 3) := by decide +kernel
theorem dX10_parrots_97 : decode cX10_parrots 97 = .ok (.bipush 7, 2) := by decide +kernel
theorem dX10_parrots_99 : decode cX10_parrots 99 = .ok (.iload 6, 2) := by decide +kernel
theorem dX10_parrots_101 : decode cX10_parrots 101 = .ok (.iastore, 1) := by decide +kernel
theorem dX10_parrots_102 : decode cX10_parrots 102 = .ok (.iconst 0, 1) := by decide +kernel
theorem dX10_parrots_103 : decode cX10_parrots 103 = .ok (.istore 10, 2) := by decide +kernel
theorem dX10_parrots_105 : decode cX10_parrots 105 = .ok (.iload 10, 2) := by decide +kernel
theorem dX10_parrots_107 : decode cX10_parrots 107 = .ok (.iload_n 2, 1) := by decide +kernel
theorem dX10_parrots_108 : decode cX10_parrots 108 = .ok (.if_icmp .ge 54, 3) := by decide +kernel
theorem dX10_parrots_111 : decode cX10_parrots 111 = .ok (.aload_n 0, 1) := by decide +kernel
theorem dX10_parrots_112 : decode cX10_parrots 112 = .ok (.bipush 100, 2) := by decide +kernel
theorem dX10_parrots_114 : decode cX10_parrots 114 = .ok (.invokevirtual 486, 3) := by decide +kernel
theorem dX10_parrots_117 : decode cX10_parrots 117 = .ok (.iload_n 3, 1) := by decide +kernel
theorem dX10_parrots_118 : decode cX10_parrots 118 = .ok (.if_icmp .ge 33, 3) := by decide +kernel
theorem dX10_parrots_121 : decode cX10_parrots 121 = .ok (.aload_n 0, 1) := by decide +kernel
theorem dX10_parrots_122 : decode cX10_parrots 122 = .ok (.getfield 9, 3) := by decide +kernel
theorem dX10_parrots_125 : decode cX10_parrots 125 = .ok (.iconst 2, 1) := by decide +kernel
theorem dX10_parrots_126 : decode cX10_parrots 126 = .ok (.iaload, 1) := by decide +kernel
theorem dX10_parrots_127 : decode cX10_parrots 127 = .ok (.ifCond .le 24, 3) := by decide +kernel
theorem dX10_parrots_130 : decode cX10_parrots 130 = .ok (.aload_n 0, 1) := by decide +kernel
theorem dX10_parrots_131 : decode cX10_parrots 131 = .ok (.getfield 22, 3) := by decide +kernel
theorem dX10_parrots_134 : decode cX10_parrots 134 = .ok (.aload_n 0, 1) := by decide +kernel
theorem dX10_parrots_135 : decode cX10_parrots 135 = .ok (.aload_n 0, 1) := by decide +kernel
theorem dX10_parrots_136 : decode cX10_parrots 136 = .ok (.getfield 9, 3) := by decide +kernel
theorem dX10_parrots_139 : decode cX10_parrots 139 = .ok (.iconst 2, 1) := by decide +kernel
theorem dX10_parrots_140 : decode cX10_parrots 140 = .ok (.iaload, 1) := by decide +kernel
theorem dX10_parrots_141 : decode cX10_parrots 141 = .ok (.invokevirtual 486, 3) := by decide +kernel
theorem dX10_parrots_144 : decode cX10_parrots 144 = .ok (.aload_n 0, 1) := by decide +kernel
theorem dX10_parrots_145 : decode cX10_parrots 145 = .ok (.getfield 9, 3) := by decide +kernel
theorem dX10_parrots_148 : decode cX10_parrots 148 = .ok (.iconst 4, 1) := by decide +kernel
theorem dX10_parrots_149 : decode cX10_parrots 149 = .ok (.iaload, 1) := by decide +kernel
theorem dX10_parrots_150 : decode cX10_parrots 150 = .ok (.iastore, 1) := by decide +kernel
theorem dX10_parrots_151 : decode cX10_parrots 151 = .ok (.aload_n 0, 1) := by decide +kernel
theorem dX10_parrots_152 : decode cX10_parrots 152 = .ok (.invokevirtual 390, 3) := by decide +kernel
theorem dX10_parrots_155 : decode cX10_parrots 155 = .ok (.pop, 1) := by decide +kernel
theorem dX10_parrots_156 : decode cX10_parrots 156 = .ok (.iinc 10 1, 3) := by decide +kernel
theorem dX10_parrots_159 : decode cX10_parrots 159 = .ok (.goto (-54), 3) := by decide +kernel
theorem dX10_parrots_162 : decode cX10_parrots 162 = .ok (.iload 8, 2) := by decide +kernel
theorem dX10_parrots_164 : decode cX10_parrots 164 = .ok (.iload 4, 2) := by decide +kernel
theorem dX10_parrots_166 : decode cX10_parrots 166 = .ok (.ifCond .ne 15, 3) := by decide +kernel
theorem dX10_parrots_169 : decode cX10_parrots 169 = .ok (.aload_n 0, 1) := by decide +kernel
theorem dX10_parrots_170 : decode cX10_parrots 170 = .ok (.getfield 9, 3) := by decide +kernel
theorem dX10_parrots_173 : decode cX10_parrots 173 = .ok (.iconst 5, 1) := by decide +kernel
theorem dX10_parrots_174 : decode cX10_parrots 174 = .ok (.iaload, 1) := by decide +kernel
theorem dX10_parrots_175 : decode cX10_parrots 175 = .ok (.iload 7, 2) := by decide +kernel
theorem dX10_parrots_177 : decode cX10_parrots 177 = .ok (.isub, 1) := by decide +kernel
theorem dX10_parrots_178 : decode cX10_parrots 178 = .ok (.goto 7, 3) := by decide +kernel
theorem dX10_parrots_181 : decode cX10_parrots 181 = .ok (.aload_n 0, 1) := by decide +kernel
theorem dX10_parrots_182 : decode cX10_parrots 182 = .ok (.invokevirtual 367, 3) := by decide +kernel
theorem dX10_parrots_185 : decode cX10_parrots 185 = .ok (.iadd, 1) := by decide +kernel
theorem dX10_parrots_186 : decode cX10_parrots 186 = .ok (.istore 8, 2) := by decide +kernel
theorem dX10_parrots_188 : decode cX10_parrots 188 = .ok (.aload_n 0, 1) := by decide +kernel
theorem dX10_parrots_189 : decode cX10_parrots 189 = .ok (.getfield 9, 3) := by decide +kernel
theorem dX10_parrots_192 : decode cX10_parrots 192 = .ok (.bipush 7, 2) := by decide +kernel
theorem dX10_parrots_194 : decode cX10_parrots 194 = .ok (.iaload, 1) := by decide +kernel
theorem dX10_parrots_195 : decode cX10_parrots 195 = .ok (.istore 6, 2) := by decide +kernel
theorem dX10_parrots_197 : decode cX10_parrots 197 = .ok (.aload_n 0, 1) := by decide +kernel
theorem dX10_parrots_198 : decode cX10_parrots 198 = .ok (.invokevirtual 423, 3) := by decide +kernel
theorem dX10_parrots_201 : decode cX10_parrots 201 = .ok (.iinc 9 1, 3) := by decide +kernel
theorem dX10_parrots_204 : decode cX10_parrots 204 = .ok (.goto (-117), 3) := by decide +kernel
theorem dX10_parrots_207 : decode cX10_parrots 207 = .ok (.aload_n 0, 1) := by decide +kernel
theorem dX10_parrots_208 : decode cX10_parrots 208 = .ok (.getfield 9, 3) := by decide +kernel
theorem dX10_parrots_211 : decode cX10_parrots 211 = .ok (.bipush 7, 2) := by decide +kernel
theorem dX10_parrots_213 : decode cX10_parrots 213 = .ok (.iload 5, 2) := by decide +kernel
theorem dX10_parrots_215 : decode cX10_parrots 215 = .ok (.iastore, 1) := by decide +kernel
theorem dX10_parrots_216 : decode cX10_parrots 216 = .ok (.iload 8, 2) := by decide +kernel
theorem dX10_parrots_218 : decode cX10_parrots 218 = .ok (.ireturn, 1) := by decide +kernel
theorem dX10_rememberedOnes_0 : decode cX10_rememberedOnes 0 = .ok (.iconst 0, 1) := by decide +kernel
theorem dX10_rememberedOnes_1 : decode cX10_rememberedOnes 1 = .ok (.istore_n 1, 1) := by decide +kernel
theorem dX10_rememberedOnes_2 : decode cX10_rememberedOnes 2 = .ok (.iconst 0, 1) := by decide +kernel
theorem dX10_rememberedOnes_3 : decode cX10_rememberedOnes 3 = .ok (.istore_n 2, 1) := by decide +kernel
theorem dX10_rememberedOnes_4 : decode cX10_rememberedOnes 4 = .ok (.iload_n 2, 1) := by decide +kernel
theorem dX10_rememberedOnes_5 : decode cX10_rememberedOnes 5 = .ok (.aload_n 0, 1) := by decide +kernel
theorem dX10_rememberedOnes_6 : decode cX10_rememberedOnes 6 = .ok (.getfield 9, 3) := by decide +kernel
theorem dX10_rememberedOnes_9 : decode cX10_rememberedOnes 9 = .ok (.iconst 2, 1) := by decide +kernel
theorem dX10_rememberedOnes_10 : decode cX10_rememberedOnes 10 = .ok (.iaload, 1) := by decide +kernel
theorem dX10_rememberedOnes_11 : decode cX10_rememberedOnes 11 = .ok (.if_icmp .ge 27, 3) := by decide +kernel
theorem dX10_rememberedOnes_14 : decode cX10_rememberedOnes 14 = .ok (.iload_n 1, 1) := by decide +kernel
theorem dX10_rememberedOnes_15 : decode cX10_rememberedOnes 15 = .ok (.aload_n 0, 1) := by decide +kernel
theorem dX10_rememberedOnes_16 : decode cX10_rememberedOnes 16 = .ok (.iload_n 2, 1) := by decide +kernel
theorem dX10_rememberedOnes_17 : decode cX10_rememberedOnes 17 = .ok (.invokevirtual 332, 3) := by decide +kernel
theorem dX10_rememberedOnes_20 : decode cX10_rememberedOnes 20 = .ok (.ifCond .eq 9, 3) := by decide +kernel
theorem dX10_rememberedOnes_23 : decode cX10_rememberedOnes 23 = .ok (.iconst 1, 1) := by decide +kernel
theorem dX10_rememberedOnes_24 : decode cX10_rememberedOnes 24 = .ok (.iload_n 2, 1) := by decide +kernel
theorem dX10_rememberedOnes_25 : decode cX10_rememberedOnes 25 = .ok (.ishl, 1) := by decide +kernel
theorem dX10_rememberedOnes_26 : decode cX10_rememberedOnes 26 = .ok (.goto 4, 3) := by decide +kernel
theorem dX10_rememberedOnes_29 : decode cX10_rememberedOnes 29 = .ok (.iconst 0, 1) := by decide +kernel
theorem dX10_rememberedOnes_30 : decode cX10_rememberedOnes 30 = .ok (.ior, 1) := by decide +kernel
theorem dX10_rememberedOnes_31 : decode cX10_rememberedOnes 31 = .ok (.istore_n 1, 1) := by decide +kernel
theorem dX10_rememberedOnes_32 : decode cX10_rememberedOnes 32 = .ok (.iinc 2 1, 3) := by decide +kernel
theorem dX10_rememberedOnes_35 : decode cX10_rememberedOnes 35 = .ok (.goto (-31), 3) := by decide +kernel
theorem dX10_rememberedOnes_38 : decode cX10_rememberedOnes 38 = .ok (.iload_n 1, 1) := by decide +kernel
theorem dX10_rememberedOnes_39 : decode cX10_rememberedOnes 39 = .ok (.ireturn, 1) := by decide +kernel
theorem dX10_count_0 : decode cX10_count 0 = .ok (.iload_n 1, 1) := by decide +kernel
theorem dX10_count_1 : decode cX10_count 1 = .ok (.tableswitch 162 0 13 #[71, 78, 85, 92, 99, 104, 112, 119, 126, 131, 136, 144, 149, 157], 71) := by decide +kernel
theorem dX10_count_72 : decode cX10_count 72 = .ok (.aload_n 0, 1) := by decide +kernel
theorem dX10_count_73 : decode cX10_count 73 = .ok (.getfield 9, 3) := by decide +kernel
theorem dX10_count_76 : decode cX10_count 76 = .ok (.iconst 0, 1) := by decide +kernel
theorem dX10_count_77 : decode cX10_count 77 = .ok (.iaload, 1) := by decide +kernel
theorem dX10_count_78 : decode cX10_count 78 = .ok (.ireturn, 1) := by decide +kernel
theorem dX10_count_79 : decode cX10_count 79 = .ok (.aload_n 0, 1) := by decide +kernel
theorem dX10_count_80 : decode cX10_count 80 = .ok (.getfield 9, 3) := by decide +kernel
theorem dX10_count_83 : decode cX10_count 83 = .ok (.iconst 1, 1) := by decide +kernel
theorem dX10_count_84 : decode cX10_count 84 = .ok (.iaload, 1) := by decide +kernel
theorem dX10_count_85 : decode cX10_count 85 = .ok (.ireturn, 1) := by decide +kernel
theorem dX10_count_86 : decode cX10_count 86 = .ok (.aload_n 0, 1) := by decide +kernel
theorem dX10_count_87 : decode cX10_count 87 = .ok (.getfield 9, 3) := by decide +kernel
theorem dX10_count_90 : decode cX10_count 90 = .ok (.iconst 2, 1) := by decide +kernel
theorem dX10_count_91 : decode cX10_count 91 = .ok (.iaload, 1) := by decide +kernel
theorem dX10_count_92 : decode cX10_count 92 = .ok (.ireturn, 1) := by decide +kernel
theorem dX10_count_93 : decode cX10_count 93 = .ok (.aload_n 0, 1) := by decide +kernel
theorem dX10_count_94 : decode cX10_count 94 = .ok (.getfield 9, 3) := by decide +kernel
theorem dX10_count_97 : decode cX10_count 97 = .ok (.iconst 3, 1) := by decide +kernel
theorem dX10_count_98 : decode cX10_count 98 = .ok (.iaload, 1) := by decide +kernel
theorem dX10_count_99 : decode cX10_count 99 = .ok (.ireturn, 1) := by decide +kernel
theorem dX10_count_100 : decode cX10_count 100 = .ok (.aload_n 0, 1) := by decide +kernel
theorem dX10_count_101 : decode cX10_count 101 = .ok (.getfield 312, 3) := by decide +kernel
theorem dX10_count_104 : decode cX10_count 104 = .ok (.ireturn, 1) := by decide +kernel
theorem dX10_count_105 : decode cX10_count 105 = .ok (.aload_n 0, 1) := by decide +kernel
theorem dX10_count_106 : decode cX10_count 106 = .ok (.getfield 9, 3) := by decide +kernel
theorem dX10_count_109 : decode cX10_count 109 = .ok (.bipush 8, 2) := by decide +kernel
theorem dX10_count_111 : decode cX10_count 111 = .ok (.iaload, 1) := by decide +kernel
theorem dX10_count_112 : decode cX10_count 112 = .ok (.ireturn, 1) := by decide +kernel
theorem dX10_count_113 : decode cX10_count 113 = .ok (.aload_n 0, 1) := by decide +kernel
theorem dX10_count_114 : decode cX10_count 114 = .ok (.getfield 9, 3) := by decide +kernel
theorem dX10_count_117 : decode cX10_count 117 = .ok (.iconst 4, 1) := by decide +kernel
theorem dX10_count_118 : decode cX10_count 118 = .ok (.iaload, 1) := by decide +kernel
theorem dX10_count_119 : decode cX10_count 119 = .ok (.ireturn, 1) := by decide +kernel
theorem dX10_count_120 : decode cX10_count 120 = .ok (.aload_n 0, 1) := by decide +kernel
theorem dX10_count_121 : decode cX10_count 121 = .ok (.getfield 9, 3) := by decide +kernel
theorem dX10_count_124 : decode cX10_count 124 = .ok (.iconst 5, 1) := by decide +kernel
theorem dX10_count_125 : decode cX10_count 125 = .ok (.iaload, 1) := by decide +kernel
theorem dX10_count_126 : decode cX10_count 126 = .ok (.ireturn, 1) := by decide +kernel
theorem dX10_count_127 : decode cX10_count 127 = .ok (.aload_n 0, 1) := by decide +kernel
theorem dX10_count_128 : decode cX10_count 128 = .ok (.invokevirtual 356, 3) := by decide +kernel
theorem dX10_count_131 : decode cX10_count 131 = .ok (.ireturn, 1) := by decide +kernel
theorem dX10_count_132 : decode cX10_count 132 = .ok (.aload_n 0, 1) := by decide +kernel
theorem dX10_count_133 : decode cX10_count 133 = .ok (.invokevirtual 489, 3) := by decide +kernel
theorem dX10_count_136 : decode cX10_count 136 = .ok (.ireturn, 1) := by decide +kernel
theorem dX10_count_137 : decode cX10_count 137 = .ok (.aload_n 0, 1) := by decide +kernel
theorem dX10_count_138 : decode cX10_count 138 = .ok (.getfield 9, 3) := by decide +kernel
theorem dX10_count_141 : decode cX10_count 141 = .ok (.bipush 6, 2) := by decide +kernel
theorem dX10_count_143 : decode cX10_count 143 = .ok (.iaload, 1) := by decide +kernel
theorem dX10_count_144 : decode cX10_count 144 = .ok (.ireturn, 1) := by decide +kernel
theorem dX10_count_145 : decode cX10_count 145 = .ok (.aload_n 0, 1) := by decide +kernel
theorem dX10_count_146 : decode cX10_count 146 = .ok (.getfield 299, 3) := by decide +kernel
theorem dX10_count_149 : decode cX10_count 149 = .ok (.ireturn, 1) := by decide +kernel
theorem dX10_count_150 : decode cX10_count 150 = .ok (.aload_n 0, 1) := by decide +kernel
theorem dX10_count_151 : decode cX10_count 151 = .ok (.getfield 9, 3) := by decide +kernel
theorem dX10_count_154 : decode cX10_count 154 = .ok (.bipush 7, 2) := by decide +kernel
theorem dX10_count_156 : decode cX10_count 156 = .ok (.iaload, 1) := by decide +kernel
theorem dX10_count_157 : decode cX10_count 157 = .ok (.ireturn, 1) := by decide +kernel
theorem dX10_count_158 : decode cX10_count 158 = .ok (.aload_n 0, 1) := by decide +kernel
theorem dX10_count_159 : decode cX10_count 159 = .ok (.getfield 139, 3) := by decide +kernel
theorem dX10_count_162 : decode cX10_count 162 = .ok (.ireturn, 1) := by decide +kernel
theorem dX10_count_163 : decode cX10_count 163 = .ok (.iconst (-1), 1) := by decide +kernel
theorem dX10_count_164 : decode cX10_count 164 = .ok (.ireturn, 1) := by decide +kernel
theorem dX10_carryRow_0 : decode cX10_carryRow 0 = .ok (.iconst 0, 1) := by decide +kernel
theorem dX10_carryRow_1 : decode cX10_carryRow 1 = .ok (.istore_n 2, 1) := by decide +kernel
theorem dX10_carryRow_2 : decode cX10_carryRow 2 = .ok (.iload_n 2, 1) := by decide +kernel
theorem dX10_carryRow_3 : decode cX10_carryRow 3 = .ok (.aload_n 1, 1) := by decide +kernel
theorem dX10_carryRow_4 : decode cX10_carryRow 4 = .ok (.arraylength, 1) := by decide +kernel
theorem dX10_carryRow_5 : decode cX10_carryRow 5 = .ok (.if_icmp .ge 53, 3) := by decide +kernel
theorem dX10_carryRow_8 : decode cX10_carryRow 8 = .ok (.aload_n 0, 1) := by decide +kernel
theorem dX10_carryRow_9 : decode cX10_carryRow 9 = .ok (.getfield 492, 3) := by decide +kernel
theorem dX10_carryRow_12 : decode cX10_carryRow 12 = .ok (.ifCond .eq 18, 3) := by decide +kernel
theorem dX10_carryRow_15 : decode cX10_carryRow 15 = .ok (.aload_n 1, 1) := by decide +kernel
theorem dX10_carryRow_16 : decode cX10_carryRow 16 = .ok (.iload_n 2, 1) := by decide +kernel
theorem dX10_carryRow_17 : decode cX10_carryRow 17 = .ok (.aload_n 0, 1) := by decide +kernel
theorem dX10_carryRow_18 : decode cX10_carryRow 18 = .ok (.getfield 121, 3) := by decide +kernel
theorem dX10_carryRow_21 : decode cX10_carryRow 21 = .ok (.aload_n 0, 1) := by decide +kernel
theorem dX10_carryRow_22 : decode cX10_carryRow 22 = .ok (.getfield 495, 3) := by decide +kernel
theorem dX10_carryRow_25 : decode cX10_carryRow 25 = .ok (.iaload, 1) := by decide +kernel
theorem dX10_carryRow_26 : decode cX10_carryRow 26 = .ok (.iastore, 1) := by decide +kernel
theorem dX10_carryRow_27 : decode cX10_carryRow 27 = .ok (.goto 15, 3) := by decide +kernel
theorem dX10_carryRow_30 : decode cX10_carryRow 30 = .ok (.aload_n 0, 1) := by decide +kernel
theorem dX10_carryRow_31 : decode cX10_carryRow 31 = .ok (.getfield 121, 3) := by decide +kernel
theorem dX10_carryRow_34 : decode cX10_carryRow 34 = .ok (.aload_n 0, 1) := by decide +kernel
theorem dX10_carryRow_35 : decode cX10_carryRow 35 = .ok (.getfield 495, 3) := by decide +kernel
theorem dX10_carryRow_38 : decode cX10_carryRow 38 = .ok (.aload_n 1, 1) := by decide +kernel
theorem dX10_carryRow_39 : decode cX10_carryRow 39 = .ok (.iload_n 2, 1) := by decide +kernel
theorem dX10_carryRow_40 : decode cX10_carryRow 40 = .ok (.iaload, 1) := by decide +kernel
theorem dX10_carryRow_41 : decode cX10_carryRow 41 = .ok (.iastore, 1) := by decide +kernel
theorem dX10_carryRow_42 : decode cX10_carryRow 42 = .ok (.aload_n 0, 1) := by decide +kernel
theorem dX10_carryRow_43 : decode cX10_carryRow 43 = .ok (.dup, 1) := by decide +kernel
theorem dX10_carryRow_44 : decode cX10_carryRow 44 = .ok (.getfield 495, 3) := by decide +kernel
theorem dX10_carryRow_47 : decode cX10_carryRow 47 = .ok (.iconst 1, 1) := by decide +kernel
theorem dX10_carryRow_48 : decode cX10_carryRow 48 = .ok (.iadd, 1) := by decide +kernel
theorem dX10_carryRow_49 : decode cX10_carryRow 49 = .ok (.putfield 495, 3) := by decide +kernel
theorem dX10_carryRow_52 : decode cX10_carryRow 52 = .ok (.iinc 2 1, 3) := by decide +kernel
theorem dX10_carryRow_55 : decode cX10_carryRow 55 = .ok (.goto (-53), 3) := by decide +kernel
theorem dX10_carryRow_58 : decode cX10_carryRow 58 = .ok (.return_, 1) := by decide +kernel
theorem dX10_carriesAll_0 : decode cX10_carriesAll 0 = .ok (.aload_n 0, 1) := by decide +kernel
theorem dX10_carriesAll_1 : decode cX10_carriesAll 1 = .ok (.sipush 600, 3) := by decide +kernel
theorem dX10_carriesAll_4 : decode cX10_carriesAll 4 = .ok (.iload_n 1, 1) := by decide +kernel
theorem dX10_carriesAll_5 : decode cX10_carriesAll 5 = .ok (.imul, 1) := by decide +kernel
theorem dX10_carriesAll_6 : decode cX10_carriesAll 6 = .ok (.putfield 495, 3) := by decide +kernel
theorem dX10_carriesAll_9 : decode cX10_carriesAll 9 = .ok (.aload_n 0, 1) := by decide +kernel
theorem dX10_carriesAll_10 : decode cX10_carriesAll 10 = .ok (.iload_n 2, 1) := by decide +kernel
theorem dX10_carriesAll_11 : decode cX10_carriesAll 11 = .ok (.putfield 492, 3) := by decide +kernel
theorem dX10_carriesAll_14 : decode cX10_carriesAll 14 = .ok (.aload_n 0, 1) := by decide +kernel
theorem dX10_carriesAll_15 : decode cX10_carriesAll 15 = .ok (.aload_n 0, 1) := by decide +kernel
theorem dX10_carriesAll_16 : decode cX10_carriesAll 16 = .ok (.getfield 9, 3) := by decide +kernel
theorem dX10_carriesAll_19 : decode cX10_carriesAll 19 = .ok (.invokevirtual 498, 3) := by decide +kernel
theorem dX10_carriesAll_22 : decode cX10_carriesAll 22 = .ok (.aload_n 0, 1) := by decide +kernel
theorem dX10_carriesAll_23 : decode cX10_carriesAll 23 = .ok (.aload_n 0, 1) := by decide +kernel
theorem dX10_carriesAll_24 : decode cX10_carriesAll 24 = .ok (.getfield 22, 3) := by decide +kernel
theorem dX10_carriesAll_27 : decode cX10_carriesAll 27 = .ok (.invokevirtual 498, 3) := by decide +kernel
theorem dX10_carriesAll_30 : decode cX10_carriesAll 30 = .ok (.aload_n 0, 1) := by decide +kernel
theorem dX10_carriesAll_31 : decode cX10_carriesAll 31 = .ok (.aload_n 0, 1) := by decide +kernel
theorem dX10_carriesAll_32 : decode cX10_carriesAll 32 = .ok (.getfield 25, 3) := by decide +kernel
theorem dX10_carriesAll_35 : decode cX10_carriesAll 35 = .ok (.invokevirtual 498, 3) := by decide +kernel
theorem dX10_carriesAll_38 : decode cX10_carriesAll 38 = .ok (.aload_n 0, 1) := by decide +kernel
theorem dX10_carriesAll_39 : decode cX10_carriesAll 39 = .ok (.aload_n 0, 1) := by decide +kernel
theorem dX10_carriesAll_40 : decode cX10_carriesAll 40 = .ok (.getfield 28, 3) := by decide +kernel
theorem dX10_carriesAll_43 : decode cX10_carriesAll 43 = .ok (.invokevirtual 498, 3) := by decide +kernel
theorem dX10_carriesAll_46 : decode cX10_carriesAll 46 = .ok (.iload_n 1, 1) := by decide +kernel
theorem dX10_carriesAll_47 : decode cX10_carriesAll 47 = .ok (.iconst 4, 1) := by decide +kernel
theorem dX10_carriesAll_48 : decode cX10_carriesAll 48 = .ok (.if_icmp .ne 4, 3) := by decide +kernel
theorem dX10_carriesAll_51 : decode cX10_carriesAll 51 = .ok (.return_, 1) := by decide +kernel
theorem dX10_carriesAll_52 : decode cX10_carriesAll 52 = .ok (.aload_n 0, 1) := by decide +kernel
theorem dX10_carriesAll_53 : decode cX10_carriesAll 53 = .ok (.getfield 103, 3) := by decide +kernel
theorem dX10_carriesAll_56 : decode cX10_carriesAll 56 = .ok (.iconst 0, 1) := by decide +kernel
theorem dX10_carriesAll_57 : decode cX10_carriesAll 57 = .ok (.aload_n 0, 1) := by decide +kernel
theorem dX10_carriesAll_58 : decode cX10_carriesAll 58 = .ok (.getfield 299, 3) := by decide +kernel
theorem dX10_carriesAll_61 : decode cX10_carriesAll 61 = .ok (.iastore, 1) := by decide +kernel
theorem dX10_carriesAll_62 : decode cX10_carriesAll 62 = .ok (.aload_n 0, 1) := by decide +kernel
theorem dX10_carriesAll_63 : decode cX10_carriesAll 63 = .ok (.aload_n 0, 1) := by decide +kernel
theorem dX10_carriesAll_64 : decode cX10_carriesAll 64 = .ok (.getfield 103, 3) := by decide +kernel
theorem dX10_carriesAll_67 : decode cX10_carriesAll 67 = .ok (.invokevirtual 498, 3) := by decide +kernel
theorem dX10_carriesAll_70 : decode cX10_carriesAll 70 = .ok (.aload_n 0, 1) := by decide +kernel
theorem dX10_carriesAll_71 : decode cX10_carriesAll 71 = .ok (.aload_n 0, 1) := by decide +kernel
theorem dX10_carriesAll_72 : decode cX10_carriesAll 72 = .ok (.getfield 103, 3) := by decide +kernel
theorem dX10_carriesAll_75 : decode cX10_carriesAll 75 = .ok (.iconst 0, 1) := by decide +kernel
theorem dX10_carriesAll_76 : decode cX10_carriesAll 76 = .ok (.iaload, 1) := by decide +kernel
theorem dX10_carriesAll_77 : decode cX10_carriesAll 77 = .ok (.putfield 299, 3) := by decide +kernel
theorem dX10_carriesAll_80 : decode cX10_carriesAll 80 = .ok (.aload_n 0, 1) := by decide +kernel
theorem dX10_carriesAll_81 : decode cX10_carriesAll 81 = .ok (.aload_n 0, 1) := by decide +kernel
theorem dX10_carriesAll_82 : decode cX10_carriesAll 82 = .ok (.getfield 13, 3) := by decide +kernel
theorem dX10_carriesAll_85 : decode cX10_carriesAll 85 = .ok (.invokevirtual 498, 3) := by decide +kernel
theorem dX10_carriesAll_88 : decode cX10_carriesAll 88 = .ok (.aload_n 0, 1) := by decide +kernel
theorem dX10_carriesAll_89 : decode cX10_carriesAll 89 = .ok (.aload_n 0, 1) := by decide +kernel
theorem dX10_carriesAll_90 : decode cX10_carriesAll 90 = .ok (.getfield 16, 3) := by decide +kernel
theorem dX10_carriesAll_93 : decode cX10_carriesAll 93 = .ok (.invokevirtual 498, 3) := by decide +kernel
theorem dX10_carriesAll_96 : decode cX10_carriesAll 96 = .ok (.aload_n 0, 1) := by decide +kernel
theorem dX10_carriesAll_97 : decode cX10_carriesAll 97 = .ok (.aload_n 0, 1) := by decide +kernel
theorem dX10_carriesAll_98 : decode cX10_carriesAll 98 = .ok (.getfield 19, 3) := by decide +kernel
theorem dX10_carriesAll_101 : decode cX10_carriesAll 101 = .ok (.invokevirtual 498, 3) := by decide +kernel
theorem dX10_carriesAll_104 : decode cX10_carriesAll 104 = .ok (.aload_n 0, 1) := by decide +kernel
theorem dX10_carriesAll_105 : decode cX10_carriesAll 105 = .ok (.aload_n 0, 1) := by decide +kernel
theorem dX10_carriesAll_106 : decode cX10_carriesAll 106 = .ok (.getfield 40, 3) := by decide +kernel
theorem dX10_carriesAll_109 : decode cX10_carriesAll 109 = .ok (.invokevirtual 498, 3) := by decide +kernel
theorem dX10_carriesAll_112 : decode cX10_carriesAll 112 = .ok (.aload_n 0, 1) := by decide +kernel
theorem dX10_carriesAll_113 : decode cX10_carriesAll 113 = .ok (.aload_n 0, 1) := by decide +kernel
theorem dX10_carriesAll_114 : decode cX10_carriesAll 114 = .ok (.getfield 31, 3) := by decide +kernel
theorem dX10_carriesAll_117 : decode cX10_carriesAll 117 = .ok (.invokevirtual 498, 3) := by decide +kernel
theorem dX10_carriesAll_120 : decode cX10_carriesAll 120 = .ok (.aload_n 0, 1) := by decide +kernel
theorem dX10_carriesAll_121 : decode cX10_carriesAll 121 = .ok (.aload_n 0, 1) := by decide +kernel
theorem dX10_carriesAll_122 : decode cX10_carriesAll 122 = .ok (.getfield 34, 3) := by decide +kernel
theorem dX10_carriesAll_125 : decode cX10_carriesAll 125 = .ok (.invokevirtual 498, 3) := by decide +kernel
theorem dX10_carriesAll_128 : decode cX10_carriesAll 128 = .ok (.aload_n 0, 1) := by decide +kernel
theorem dX10_carriesAll_129 : decode cX10_carriesAll 129 = .ok (.aload_n 0, 1) := by decide +kernel
theorem dX10_carriesAll_130 : decode cX10_carriesAll 130 = .ok (.getfield 37, 3) := by decide +kernel
theorem dX10_carriesAll_133 : decode cX10_carriesAll 133 = .ok (.invokevirtual 498, 3) := by decide +kernel
theorem dX10_carriesAll_136 : decode cX10_carriesAll 136 = .ok (.aload_n 0, 1) := by decide +kernel
theorem dX10_carriesAll_137 : decode cX10_carriesAll 137 = .ok (.aload_n 0, 1) := by decide +kernel
theorem dX10_carriesAll_138 : decode cX10_carriesAll 138 = .ok (.getfield 100, 3) := by decide +kernel
theorem dX10_carriesAll_141 : decode cX10_carriesAll 141 = .ok (.invokevirtual 498, 3) := by decide +kernel
theorem dX10_carriesAll_144 : decode cX10_carriesAll 144 = .ok (.return_, 1) := by decide +kernel
theorem dX10_image_0 : decode cX10_image 0 = .ok (.iload_n 1, 1) := by decide +kernel
theorem dX10_image_1 : decode cX10_image 1 = .ok (.i2l, 1) := by decide +kernel
theorem dX10_image_2 : decode cX10_image 2 = .ok (.lconst 0, 1) := by decide +kernel
theorem dX10_image_3 : decode cX10_image 3 = .ok (.ldc2_w 456, 3) := by decide +kernel
theorem dX10_image_6 : decode cX10_image 6 = .ok (.invokestatic 131, 3) := by decide +kernel
theorem dX10_image_9 : decode cX10_image 9 = .ok (.ifCond .ne 5, 3) := by decide +kernel
theorem dX10_image_12 : decode cX10_image 12 = .ok (.iconst (-1), 1) := by decide +kernel
theorem dX10_image_13 : decode cX10_image 13 = .ok (.ireturn, 1) := by decide +kernel
theorem dX10_image_14 : decode cX10_image 14 = .ok (.aload_n 0, 1) := by decide +kernel
theorem dX10_image_15 : decode cX10_image 15 = .ok (.getfield 124, 3) := by decide +kernel
theorem dX10_image_18 : decode cX10_image 18 = .ok (.iload_n 1, 1) := by decide +kernel
theorem dX10_image_19 : decode cX10_image 19 = .ok (.iconst 1, 1) := by decide +kernel
theorem dX10_image_20 : decode cX10_image 20 = .ok (.bastore, 1) := by decide +kernel
theorem dX10_image_21 : decode cX10_image 21 = .ok (.aload_n 0, 1) := by decide +kernel
theorem dX10_image_22 : decode cX10_image 22 = .ok (.iload_n 1, 1) := by decide +kernel
theorem dX10_image_23 : decode cX10_image 23 = .ok (.iconst 0, 1) := by decide +kernel
theorem dX10_image_24 : decode cX10_image 24 = .ok (.invokevirtual 417, 3) := by decide +kernel
theorem dX10_image_27 : decode cX10_image 27 = .ok (.aload_n 0, 1) := by decide +kernel
theorem dX10_image_28 : decode cX10_image 28 = .ok (.getfield 9, 3) := by decide +kernel
theorem dX10_image_31 : decode cX10_image 31 = .ok (.iconst 4, 1) := by decide +kernel
theorem dX10_image_32 : decode cX10_image 32 = .ok (.iaload, 1) := by decide +kernel
theorem dX10_image_33 : decode cX10_image 33 = .ok (.ireturn, 1) := by decide +kernel
theorem dX10_back_0 : decode cX10_back 0 = .ok (.iload_n 1, 1) := by decide +kernel
theorem dX10_back_1 : decode cX10_back 1 = .ok (.i2l, 1) := by decide +kernel
theorem dX10_back_2 : decode cX10_back 2 = .ok (.lconst 0, 1) := by decide +kernel
theorem dX10_back_3 : decode cX10_back 3 = .ok (.ldc2_w 456, 3) := by decide +kernel
theorem dX10_back_6 : decode cX10_back 6 = .ok (.invokestatic 131, 3) := by decide +kernel
theorem dX10_back_9 : decode cX10_back 9 = .ok (.ifCond .eq 12, 3) := by decide +kernel
theorem dX10_back_12 : decode cX10_back 12 = .ok (.aload_n 0, 1) := by decide +kernel
theorem dX10_back_13 : decode cX10_back 13 = .ok (.getfield 124, 3) := by decide +kernel
theorem dX10_back_16 : decode cX10_back 16 = .ok (.iload_n 1, 1) := by decide +kernel
theorem dX10_back_17 : decode cX10_back 17 = .ok (.baload, 1) := by decide +kernel
theorem dX10_back_18 : decode cX10_back 18 = .ok (.ifCond .ne 5, 3) := by decide +kernel
theorem dX10_back_21 : decode cX10_back 21 = .ok (.iconst (-1), 1) := by decide +kernel
theorem dX10_back_22 : decode cX10_back 22 = .ok (.ireturn, 1) := by decide +kernel
theorem dX10_back_23 : decode cX10_back 23 = .ok (.aload_n 0, 1) := by decide +kernel
theorem dX10_back_24 : decode cX10_back 24 = .ok (.iload_n 1, 1) := by decide +kernel
theorem dX10_back_25 : decode cX10_back 25 = .ok (.iconst 1, 1) := by decide +kernel
theorem dX10_back_26 : decode cX10_back 26 = .ok (.invokevirtual 417, 3) := by decide +kernel
theorem dX10_back_29 : decode cX10_back 29 = .ok (.aload_n 0, 1) := by decide +kernel
theorem dX10_back_30 : decode cX10_back 30 = .ok (.getfield 9, 3) := by decide +kernel
theorem dX10_back_33 : decode cX10_back 33 = .ok (.iconst 4, 1) := by decide +kernel
theorem dX10_back_34 : decode cX10_back 34 = .ok (.iaload, 1) := by decide +kernel
theorem dX10_back_35 : decode cX10_back 35 = .ok (.ireturn, 1) := by decide +kernel
