theorem dX3_init_0 : decode cX3_init 0 = .ok (.aload_n 0, 1) := by decide +kernel
theorem dX3_init_1 : decode cX3_init 1 = .ok (.invokespecial 3, 3) := by decide +kernel
theorem dX3_init_4 : decode cX3_init 4 = .ok (.aload_n 0, 1) := by decide +kernel
theorem dX3_init_5 : decode cX3_init 5 = .ok (.iconst 5, 1) := by decide +kernel
theorem dX3_init_6 : decode cX3_init 6 = .ok (.newarray .int, 2) := by decide +kernel
theorem dX3_init_8 : decode cX3_init 8 = .ok (.putfield 9, 3) := by decide +kernel
theorem dX3_init_11 : decode cX3_init 11 = .ok (.aload_n 0, 1) := by decide +kernel
theorem dX3_init_12 : decode cX3_init 12 = .ok (.bipush 11, 2) := by decide +kernel
theorem dX3_init_14 : decode cX3_init 14 = .ok (.newarray .int, 2) := by decide +kernel
theorem dX3_init_16 : decode cX3_init 16 = .ok (.putfield 17, 3) := by decide +kernel
theorem dX3_init_19 : decode cX3_init 19 = .ok (.aload_n 0, 1) := by decide +kernel
theorem dX3_init_20 : decode cX3_init 20 = .ok (.aload_n 1, 1) := by decide +kernel
theorem dX3_init_21 : decode cX3_init 21 = .ok (.putfield 20, 3) := by decide +kernel
theorem dX3_init_24 : decode cX3_init 24 = .ok (.aload_n 0, 1) := by decide +kernel
theorem dX3_init_25 : decode cX3_init 25 = .ok (.new 24, 3) := by decide +kernel
theorem dX3_init_28 : decode cX3_init 28 = .ok (.dup, 1) := by decide +kernel
theorem dX3_init_29 : decode cX3_init 29 = .ok (.invokespecial 26, 3) := by decide +kernel
theorem dX3_init_32 : decode cX3_init 32 = .ok (.putfield 27, 3) := by decide +kernel
theorem dX3_init_35 : decode cX3_init 35 = .ok (.return_, 1) := by decide +kernel
theorem dX3_meet_0 : decode cX3_meet 0 = .ok (.aload_n 0, 1) := by decide +kernel
theorem dX3_meet_1 : decode cX3_meet 1 = .ok (.aload_n 1, 1) := by decide +kernel
theorem dX3_meet_2 : decode cX3_meet 2 = .ok (.putfield 27, 3) := by decide +kernel
theorem dX3_meet_5 : decode cX3_meet 5 = .ok (.aload_n 0, 1) := by decide +kernel
theorem dX3_meet_6 : decode cX3_meet 6 = .ok (.aload_n 0, 1) := by decide +kernel
theorem dX3_meet_7 : decode cX3_meet 7 = .ok (.getfield 20, 3) := by decide +kernel
theorem dX3_meet_10 : decode cX3_meet 10 = .ok (.aload_n 1, 1) := by decide +kernel
theorem dX3_meet_11 : decode cX3_meet 11 = .ok (.invokevirtual 31, 3) := by decide +kernel
theorem dX3_meet_14 : decode cX3_meet 14 = .ok (.putfield 37, 3) := by decide +kernel
theorem dX3_meet_17 : decode cX3_meet 17 = .ok (.aload_n 0, 1) := by decide +kernel
theorem dX3_meet_18 : decode cX3_meet 18 = .ok (.aload_n 0, 1) := by decide +kernel
theorem dX3_meet_19 : decode cX3_meet 19 = .ok (.getfield 20, 3) := by decide +kernel
theorem dX3_meet_22 : decode cX3_meet 22 = .ok (.aload_n 1, 1) := by decide +kernel
theorem dX3_meet_23 : decode cX3_meet 23 = .ok (.invokevirtual 41, 3) := by decide +kernel
theorem dX3_meet_26 : decode cX3_meet 26 = .ok (.putfield 44, 3) := by decide +kernel
theorem dX3_meet_29 : decode cX3_meet 29 = .ok (.aload_n 0, 1) := by decide +kernel
theorem dX3_meet_30 : decode cX3_meet 30 = .ok (.iconst 1, 1) := by decide +kernel
theorem dX3_meet_31 : decode cX3_meet 31 = .ok (.putfield 46, 3) := by decide +kernel
theorem dX3_meet_34 : decode cX3_meet 34 = .ok (.return_, 1) := by decide +kernel
theorem dX3_oneTide_0 : decode cX3_oneTide 0 = .ok (.aload_n 0, 1) := by decide +kernel
theorem dX3_oneTide_1 : decode cX3_oneTide 1 = .ok (.aload_n 1, 1) := by decide +kernel
theorem dX3_oneTide_2 : decode cX3_oneTide 2 = .ok (.invokevirtual 50, 3) := by decide +kernel
theorem dX3_oneTide_5 : decode cX3_oneTide 5 = .ok (.aload_n 0, 1) := by decide +kernel
theorem dX3_oneTide_6 : decode cX3_oneTide 6 = .ok (.iconst 0, 1) := by decide +kernel
theorem dX3_oneTide_7 : decode cX3_oneTide 7 = .ok (.aload_n 0, 1) := by decide +kernel
theorem dX3_oneTide_8 : decode cX3_oneTide 8 = .ok (.getfield 20, 3) := by decide +kernel
theorem dX3_oneTide_11 : decode cX3_oneTide 11 = .ok (.getfield 54, 3) := by decide +kernel
theorem dX3_oneTide_14 : decode cX3_oneTide 14 = .ok (.invokevirtual 57, 3) := by decide +kernel
theorem dX3_oneTide_17 : decode cX3_oneTide 17 = .ok (.istore_n 2, 1) := by decide +kernel
theorem dX3_oneTide_18 : decode cX3_oneTide 18 = .ok (.aload_n 1, 1) := by decide +kernel
theorem dX3_oneTide_19 : decode cX3_oneTide 19 = .ok (.dup, 1) := by decide +kernel
theorem dX3_oneTide_20 : decode cX3_oneTide 20 = .ok (.getfield 61, 3) := by decide +kernel
theorem dX3_oneTide_23 : decode cX3_oneTide 23 = .ok (.iconst 1, 1) := by decide +kernel
theorem dX3_oneTide_24 : decode cX3_oneTide 24 = .ok (.iadd, 1) := by decide +kernel
theorem dX3_oneTide_25 : decode cX3_oneTide 25 = .ok (.putfield 61, 3) := by decide +kernel
theorem dX3_oneTide_28 : decode cX3_oneTide 28 = .ok (.iload_n 2, 1) := by decide +kernel
theorem dX3_oneTide_29 : decode cX3_oneTide 29 = .ok (.ireturn, 1) := by decide +kernel
theorem dX3_turns_0 : decode cX3_turns 0 = .ok (.iconst 0, 1) := by decide +kernel
theorem dX3_turns_1 : decode cX3_turns 1 = .ok (.istore_n 3, 1) := by decide +kernel
theorem dX3_turns_2 : decode cX3_turns 2 = .ok (.iload_n 1, 1) := by decide +kernel
theorem dX3_turns_3 : decode cX3_turns 3 = .ok (.istore 4, 2) := by decide +kernel
theorem dX3_turns_5 : decode cX3_turns 5 = .ok (.iload 4, 2) := by decide +kernel
theorem dX3_turns_7 : decode cX3_turns 7 = .ok (.iload_n 2, 1) := by decide +kernel
theorem dX3_turns_8 : decode cX3_turns 8 = .ok (.if_icmp .ge 72, 3) := by decide +kernel
theorem dX3_turns_11 : decode cX3_turns 11 = .ok (.aload_n 0, 1) := by decide +kernel
theorem dX3_turns_12 : decode cX3_turns 12 = .ok (.getfield 9, 3) := by decide +kernel
theorem dX3_turns_15 : decode cX3_turns 15 = .ok (.iload 4, 2) := by decide +kernel
theorem dX3_turns_17 : decode cX3_turns 17 = .ok (.aload_n 0, 1) := by decide +kernel
theorem dX3_turns_18 : decode cX3_turns 18 = .ok (.getfield 44, 3) := by decide +kernel
theorem dX3_turns_21 : decode cX3_turns 21 = .ok (.iload 4, 2) := by decide +kernel
theorem dX3_turns_23 : decode cX3_turns 23 = .ok (.ishr, 1) := by decide +kernel
theorem dX3_turns_24 : decode cX3_turns 24 = .ok (.iconst 1, 1) := by decide +kernel
theorem dX3_turns_25 : decode cX3_turns 25 = .ok (.iand, 1) := by decide +kernel
theorem dX3_turns_26 : decode cX3_turns 26 = .ok (.ifCond .ne 7, 3) := by decide +kernel
theorem dX3_turns_29 : decode cX3_turns 29 = .ok (.iconst (-1), 1) := by decide +kernel
theorem dX3_turns_30 : decode cX3_turns 30 = .ok (.goto 9, 3) := by decide +kernel
theorem dX3_turns_33 : decode cX3_turns 33 = .ok (.aload_n 0, 1) := by decide +kernel
theorem dX3_turns_34 : decode cX3_turns 34 = .ok (.iload 4, 2) := by decide +kernel
theorem dX3_turns_36 : decode cX3_turns 36 = .ok (.invokevirtual 64, 3) := by decide +kernel
theorem dX3_turns_39 : decode cX3_turns 39 = .ok (.iastore, 1) := by decide +kernel
theorem dX3_turns_40 : decode cX3_turns 40 = .ok (.aload_n 0, 1) := by decide +kernel
theorem dX3_turns_41 : decode cX3_turns 41 = .ok (.getfield 9, 3) := by decide +kernel
theorem dX3_turns_44 : decode cX3_turns 44 = .ok (.iload 4, 2) := by decide +kernel
theorem dX3_turns_46 : decode cX3_turns 46 = .ok (.iaload, 1) := by decide +kernel
theorem dX3_turns_47 : decode cX3_turns 47 = .ok (.iconst (-1), 1) := by decide +kernel
theorem dX3_turns_48 : decode cX3_turns 48 = .ok (.if_icmp .eq 26, 3) := by decide +kernel
theorem dX3_turns_51 : decode cX3_turns 51 = .ok (.aload_n 0, 1) := by decide +kernel
theorem dX3_turns_52 : decode cX3_turns 52 = .ok (.iload 4, 2) := by decide +kernel
theorem dX3_turns_54 : decode cX3_turns 54 = .ok (.aload_n 0, 1) := by decide +kernel
theorem dX3_turns_55 : decode cX3_turns 55 = .ok (.getfield 9, 3) := by decide +kernel
theorem dX3_turns_58 : decode cX3_turns 58 = .ok (.iload 4, 2) := by decide +kernel
theorem dX3_turns_60 : decode cX3_turns 60 = .ok (.iaload, 1) := by decide +kernel
theorem dX3_turns_61 : decode cX3_turns 61 = .ok (.invokevirtual 68, 3) := by decide +kernel
theorem dX3_turns_64 : decode cX3_turns 64 = .ok (.ifCond .eq 10, 3) := by decide +kernel
theorem dX3_turns_67 : decode cX3_turns 67 = .ok (.iload_n 3, 1) := by decide +kernel
theorem dX3_turns_68 : decode cX3_turns 68 = .ok (.iconst 1, 1) := by decide +kernel
theorem dX3_turns_69 : decode cX3_turns 69 = .ok (.iload 4, 2) := by decide +kernel
theorem dX3_turns_71 : decode cX3_turns 71 = .ok (.ishl, 1) := by decide +kernel
theorem dX3_turns_72 : decode cX3_turns 72 = .ok (.ior, 1) := by decide +kernel
theorem dX3_turns_73 : decode cX3_turns 73 = .ok (.istore_n 3, 1) := by decide +kernel
theorem dX3_turns_74 : decode cX3_turns 74 = .ok (.iinc 4 1, 3) := by decide +kernel
theorem dX3_turns_77 : decode cX3_turns 77 = .ok (.goto (-72), 3) := by decide +kernel
theorem dX3_turns_80 : decode cX3_turns 80 = .ok (.iload_n 3, 1) := by decide +kernel
theorem dX3_turns_81 : decode cX3_turns 81 = .ok (.ireturn, 1) := by decide +kernel
theorem dX3_hears_0 : decode cX3_hears 0 = .ok (.aload_n 0, 1) := by decide +kernel
theorem dX3_hears_1 : decode cX3_hears 1 = .ok (.getfield 20, 3) := by decide +kernel
theorem dX3_hears_4 : decode cX3_hears 4 = .ok (.iload_n 2, 1) := by decide +kernel
theorem dX3_hears_5 : decode cX3_hears 5 = .ok (.aload_n 0, 1) := by decide +kernel
theorem dX3_hears_6 : decode cX3_hears 6 = .ok (.getfield 37, 3) := by decide +kernel
theorem dX3_hears_9 : decode cX3_hears 9 = .ok (.invokevirtual 72, 3) := by decide +kernel
theorem dX3_hears_12 : decode cX3_hears 12 = .ok (.istore_n 3, 1) := by decide +kernel
theorem dX3_hears_13 : decode cX3_hears 13 = .ok (.iload_n 3, 1) := by decide +kernel
theorem dX3_hears_14 : decode cX3_hears 14 = .ok (.ifCond .eq 33, 3) := by decide +kernel
theorem dX3_hears_17 : decode cX3_hears 17 = .ok (.aload_n 0, 1) := by decide +kernel
theorem dX3_hears_18 : decode cX3_hears 18 = .ok (.getfield 27, 3) := by decide +kernel
theorem dX3_hears_21 : decode cX3_hears 21 = .ok (.getfield 75, 3) := by decide +kernel
theorem dX3_hears_24 : decode cX3_hears 24 = .ok (.iload_n 1, 1) := by decide +kernel
theorem dX3_hears_25 : decode cX3_hears 25 = .ok (.aload_n 0, 1) := by decide +kernel
theorem dX3_hears_26 : decode cX3_hears 26 = .ok (.getfield 27, 3) := by decide +kernel
theorem dX3_hears_29 : decode cX3_hears 29 = .ok (.getfield 61, 3) := by decide +kernel
theorem dX3_hears_32 : decode cX3_hears 32 = .ok (.iastore, 1) := by decide +kernel
theorem dX3_hears_33 : decode cX3_hears 33 = .ok (.aload_n 0, 1) := by decide +kernel
theorem dX3_hears_34 : decode cX3_hears 34 = .ok (.dup, 1) := by decide +kernel
theorem dX3_hears_35 : decode cX3_hears 35 = .ok (.getfield 44, 3) := by decide +kernel
theorem dX3_hears_38 : decode cX3_hears 38 = .ok (.iconst 1, 1) := by decide +kernel
theorem dX3_hears_39 : decode cX3_hears 39 = .ok (.iload_n 1, 1) := by decide +kernel
theorem dX3_hears_40 : decode cX3_hears 40 = .ok (.ishl, 1) := by decide +kernel
theorem dX3_hears_41 : decode cX3_hears 41 = .ok (.iconst (-1), 1) := by decide +kernel
theorem dX3_hears_42 : decode cX3_hears 42 = .ok (.ixor, 1) := by decide +kernel
theorem dX3_hears_43 : decode cX3_hears 43 = .ok (.iand, 1) := by decide +kernel
theorem dX3_hears_44 : decode cX3_hears 44 = .ok (.putfield 44, 3) := by decide +kernel
theorem dX3_hears_47 : decode cX3_hears 47 = .ok (.aload_n 0, 1) := by decide +kernel
theorem dX3_hears_48 : decode cX3_hears 48 = .ok (.getfield 27, 3) := by decide +kernel
theorem dX3_hears_51 : decode cX3_hears 51 = .ok (.getfield 78, 3) := by decide +kernel
theorem dX3_hears_54 : decode cX3_hears 54 = .ok (.iload_n 2, 1) := by decide +kernel
theorem dX3_hears_55 : decode cX3_hears 55 = .ok (.aload_n 0, 1) := by decide +kernel
theorem dX3_hears_56 : decode cX3_hears 56 = .ok (.getfield 27, 3) := by decide +kernel
theorem dX3_hears_59 : decode cX3_hears 59 = .ok (.getfield 61, 3) := by decide +kernel
theorem dX3_hears_62 : decode cX3_hears 62 = .ok (.iastore, 1) := by decide +kernel
theorem dX3_hears_63 : decode cX3_hears 63 = .ok (.aload_n 0, 1) := by decide +kernel
theorem dX3_hears_64 : decode cX3_hears 64 = .ok (.dup, 1) := by decide +kernel
theorem dX3_hears_65 : decode cX3_hears 65 = .ok (.getfield 37, 3) := by decide +kernel
theorem dX3_hears_68 : decode cX3_hears 68 = .ok (.iconst 1, 1) := by decide +kernel
theorem dX3_hears_69 : decode cX3_hears 69 = .ok (.iload_n 2, 1) := by decide +kernel
theorem dX3_hears_70 : decode cX3_hears 70 = .ok (.ishl, 1) := by decide +kernel
theorem dX3_hears_71 : decode cX3_hears 71 = .ok (.ior, 1) := by decide +kernel
theorem dX3_hears_72 : decode cX3_hears 72 = .ok (.putfield 37, 3) := by decide +kernel
theorem dX3_hears_75 : decode cX3_hears 75 = .ok (.aload_n 0, 1) := by decide +kernel
theorem dX3_hears_76 : decode cX3_hears 76 = .ok (.iconst 0, 1) := by decide +kernel
theorem dX3_hears_77 : decode cX3_hears 77 = .ok (.putfield 46, 3) := by decide +kernel
theorem dX3_hears_80 : decode cX3_hears 80 = .ok (.iload_n 3, 1) := by decide +kernel
theorem dX3_hears_81 : decode cX3_hears 81 = .ok (.ireturn, 1) := by decide +kernel
theorem dX3_leastNew_0 : decode cX3_leastNew 0 = .ok (.aload_n 0, 1) := by decide +kernel
theorem dX3_leastNew_1 : decode cX3_leastNew 1 = .ok (.getfield 27, 3) := by decide +kernel
theorem dX3_leastNew_4 : decode cX3_leastNew 4 = .ok (.getfield 81, 3) := by decide +kernel
theorem dX3_leastNew_7 : decode cX3_leastNew 7 = .ok (.iload_n 1, 1) := by decide +kernel
theorem dX3_leastNew_8 : decode cX3_leastNew 8 = .ok (.iaload, 1) := by decide +kernel
theorem dX3_leastNew_9 : decode cX3_leastNew 9 = .ok (.istore_n 2, 1) := by decide +kernel
theorem dX3_leastNew_10 : decode cX3_leastNew 10 = .ok (.iconst 0, 1) := by decide +kernel
theorem dX3_leastNew_11 : decode cX3_leastNew 11 = .ok (.istore_n 3, 1) := by decide +kernel
theorem dX3_leastNew_12 : decode cX3_leastNew 12 = .ok (.iload_n 3, 1) := by decide +kernel
theorem dX3_leastNew_13 : decode cX3_leastNew 13 = .ok (.aload_n 0, 1) := by decide +kernel
theorem dX3_leastNew_14 : decode cX3_leastNew 14 = .ok (.getfield 20, 3) := by decide +kernel
theorem dX3_leastNew_17 : decode cX3_leastNew 17 = .ok (.getfield 84, 3) := by decide +kernel
theorem dX3_leastNew_20 : decode cX3_leastNew 20 = .ok (.if_icmp .ge 34, 3) := by decide +kernel
theorem dX3_leastNew_23 : decode cX3_leastNew 23 = .ok (.iload_n 2, 1) := by decide +kernel
theorem dX3_leastNew_24 : decode cX3_leastNew 24 = .ok (.iload_n 3, 1) := by decide +kernel
theorem dX3_leastNew_25 : decode cX3_leastNew 25 = .ok (.ishr, 1) := by decide +kernel
theorem dX3_leastNew_26 : decode cX3_leastNew 26 = .ok (.iconst 1, 1) := by decide +kernel
theorem dX3_leastNew_27 : decode cX3_leastNew 27 = .ok (.iand, 1) := by decide +kernel
theorem dX3_leastNew_28 : decode cX3_leastNew 28 = .ok (.ifCond .eq 20, 3) := by decide +kernel
theorem dX3_leastNew_31 : decode cX3_leastNew 31 = .ok (.aload_n 0, 1) := by decide +kernel
theorem dX3_leastNew_32 : decode cX3_leastNew 32 = .ok (.getfield 20, 3) := by decide +kernel
theorem dX3_leastNew_35 : decode cX3_leastNew 35 = .ok (.iload_n 3, 1) := by decide +kernel
theorem dX3_leastNew_36 : decode cX3_leastNew 36 = .ok (.aload_n 0, 1) := by decide +kernel
theorem dX3_leastNew_37 : decode cX3_leastNew 37 = .ok (.getfield 37, 3) := by decide +kernel
theorem dX3_leastNew_40 : decode cX3_leastNew 40 = .ok (.invokevirtual 72, 3) := by decide +kernel
theorem dX3_leastNew_43 : decode cX3_leastNew 43 = .ok (.ifCond .eq 5, 3) := by decide +kernel
theorem dX3_leastNew_46 : decode cX3_leastNew 46 = .ok (.iload_n 3, 1) := by decide +kernel
theorem dX3_leastNew_47 : decode cX3_leastNew 47 = .ok (.ireturn, 1) := by decide +kernel
theorem dX3_leastNew_48 : decode cX3_leastNew 48 = .ok (.iinc 3 1, 3) := by decide +kernel
theorem dX3_leastNew_51 : decode cX3_leastNew 51 = .ok (.goto (-39), 3) := by decide +kernel
theorem dX3_leastNew_54 : decode cX3_leastNew 54 = .ok (.iconst (-1), 1) := by decide +kernel
theorem dX3_leastNew_55 : decode cX3_leastNew 55 = .ok (.ireturn, 1) := by decide +kernel
theorem dX3_pick_0 : decode cX3_pick 0 = .ok (.aload_n 0, 1) := by decide +kernel
theorem dX3_pick_1 : decode cX3_pick 1 = .ok (.getfield 87, 3) := by decide +kernel
theorem dX3_pick_4 : decode cX3_pick 4 = .ok (.ifnonnull 9, 3) := by decide +kernel
theorem dX3_pick_7 : decode cX3_pick 7 = .ok (.aload_n 0, 1) := by decide +kernel
theorem dX3_pick_8 : decode cX3_pick 8 = .ok (.iload_n 1, 1) := by decide +kernel
theorem dX3_pick_9 : decode cX3_pick 9 = .ok (.invokevirtual 91, 3) := by decide +kernel
theorem dX3_pick_12 : decode cX3_pick 12 = .ok (.ireturn, 1) := by decide +kernel
theorem dX3_pick_13 : decode cX3_pick 13 = .ok (.aload_n 0, 1) := by decide +kernel
theorem dX3_pick_14 : decode cX3_pick 14 = .ok (.iload_n 1, 1) := by decide +kernel
theorem dX3_pick_15 : decode cX3_pick 15 = .ok (.invokevirtual 94, 3) := by decide +kernel
theorem dX3_pick_18 : decode cX3_pick 18 = .ok (.aload_n 0, 1) := by decide +kernel
theorem dX3_pick_19 : decode cX3_pick 19 = .ok (.getfield 27, 3) := by decide +kernel
theorem dX3_pick_22 : decode cX3_pick 22 = .ok (.getfield 81, 3) := by decide +kernel
theorem dX3_pick_25 : decode cX3_pick 25 = .ok (.iload_n 1, 1) := by decide +kernel
theorem dX3_pick_26 : decode cX3_pick 26 = .ok (.iaload, 1) := by decide +kernel
theorem dX3_pick_27 : decode cX3_pick 27 = .ok (.istore_n 2, 1) := by decide +kernel
theorem dX3_pick_28 : decode cX3_pick 28 = .ok (.iconst (-1), 1) := by decide +kernel
theorem dX3_pick_29 : decode cX3_pick 29 = .ok (.istore_n 3, 1) := by decide +kernel
theorem dX3_pick_30 : decode cX3_pick 30 = .ok (.lconst 0, 1) := by decide +kernel
theorem dX3_pick_31 : decode cX3_pick 31 = .ok (.lstore 4, 2) := by decide +kernel
theorem dX3_pick_33 : decode cX3_pick 33 = .ok (.iconst 0, 1) := by decide +kernel
theorem dX3_pick_34 : decode cX3_pick 34 = .ok (.istore 6, 2) := by decide +kernel
theorem dX3_pick_36 : decode cX3_pick 36 = .ok (.iload 6, 2) := by decide +kernel
theorem dX3_pick_38 : decode cX3_pick 38 = .ok (.aload_n 0, 1) := by decide +kernel
theorem dX3_pick_39 : decode cX3_pick 39 = .ok (.getfield 20, 3) := by decide +kernel
theorem dX3_pick_42 : decode cX3_pick 42 = .ok (.getfield 84, 3) := by decide +kernel
theorem dX3_pick_45 : decode cX3_pick 45 = .ok (.if_icmp .ge 52, 3) := by decide +kernel
theorem dX3_pick_48 : decode cX3_pick 48 = .ok (.iload_n 2, 1) := by decide +kernel
theorem dX3_pick_49 : decode cX3_pick 49 = .ok (.iload 6, 2) := by decide +kernel
theorem dX3_pick_51 : decode cX3_pick 51 = .ok (.ishr, 1) := by decide +kernel
theorem dX3_pick_52 : decode cX3_pick 52 = .ok (.iconst 1, 1) := by decide +kernel
theorem dX3_pick_53 : decode cX3_pick 53 = .ok (.iand, 1) := by decide +kernel
theorem dX3_pick_54 : decode cX3_pick 54 = .ok (.ifCond .eq 37, 3) := by decide +kernel
theorem dX3_pick_57 : decode cX3_pick 57 = .ok (.aload_n 0, 1) := by decide +kernel
theorem dX3_pick_58 : decode cX3_pick 58 = .ok (.iload 6, 2) := by decide +kernel
theorem dX3_pick_60 : decode cX3_pick 60 = .ok (.invokevirtual 98, 3) := by decide +kernel
theorem dX3_pick_63 : decode cX3_pick 63 = .ok (.aload_n 0, 1) := by decide +kernel
theorem dX3_pick_64 : decode cX3_pick 64 = .ok (.getfield 87, 3) := by decide +kernel
theorem dX3_pick_67 : decode cX3_pick 67 = .ok (.aload_n 0, 1) := by decide +kernel
theorem dX3_pick_68 : decode cX3_pick 68 = .ok (.getfield 17, 3) := by decide +kernel
theorem dX3_pick_71 : decode cX3_pick 71 = .ok (.invokevirtual 101, 3) := by decide +kernel
theorem dX3_pick_74 : decode cX3_pick 74 = .ok (.lstore 7, 2) := by decide +kernel
theorem dX3_pick_76 : decode cX3_pick 76 = .ok (.lload 7, 2) := by decide +kernel
theorem dX3_pick_78 : decode cX3_pick 78 = .ok (.lload 4, 2) := by decide +kernel
theorem dX3_pick_80 : decode cX3_pick 80 = .ok (.lcmp, 1) := by decide +kernel
theorem dX3_pick_81 : decode cX3_pick 81 = .ok (.ifCond .le 10, 3) := by decide +kernel
theorem dX3_pick_84 : decode cX3_pick 84 = .ok (.lload 7, 2) := by decide +kernel
theorem dX3_pick_86 : decode cX3_pick 86 = .ok (.lstore 4, 2) := by decide +kernel
theorem dX3_pick_88 : decode cX3_pick 88 = .ok (.iload 6, 2) := by decide +kernel
theorem dX3_pick_90 : decode cX3_pick 90 = .ok (.istore_n 3, 1) := by decide +kernel
theorem dX3_pick_91 : decode cX3_pick 91 = .ok (.iinc 6 1, 3) := by decide +kernel
theorem dX3_pick_94 : decode cX3_pick 94 = .ok (.goto (-58), 3) := by decide +kernel
theorem dX3_pick_97 : decode cX3_pick 97 = .ok (.iload_n 3, 1) := by decide +kernel
theorem dX3_pick_98 : decode cX3_pick 98 = .ok (.ireturn, 1) := by decide +kernel
theorem dX3_lookAtShip_0 : decode cX3_lookAtShip 0 = .ok (.aload_n 0, 1) := by decide +kernel
theorem dX3_lookAtShip_1 : decode cX3_lookAtShip 1 = .ok (.getfield 44, 3) := by decide +kernel
theorem dX3_lookAtShip_4 : decode cX3_lookAtShip 4 = .ok (.invokestatic 105, 3) := by decide +kernel
theorem dX3_lookAtShip_7 : decode cX3_lookAtShip 7 = .ok (.istore_n 2, 1) := by decide +kernel
theorem dX3_lookAtShip_8 : decode cX3_lookAtShip 8 = .ok (.aload_n 0, 1) := by decide +kernel
theorem dX3_lookAtShip_9 : decode cX3_lookAtShip 9 = .ok (.getfield 17, 3) := by decide +kernel
theorem dX3_lookAtShip_12 : decode cX3_lookAtShip 12 = .ok (.iconst 0, 1) := by decide +kernel
theorem dX3_lookAtShip_13 : decode cX3_lookAtShip 13 = .ok (.iload_n 1, 1) := by decide +kernel
theorem dX3_lookAtShip_14 : decode cX3_lookAtShip 14 = .ok (.iastore, 1) := by decide +kernel
theorem dX3_lookAtShip_15 : decode cX3_lookAtShip 15 = .ok (.aload_n 0, 1) := by decide +kernel
theorem dX3_lookAtShip_16 : decode cX3_lookAtShip 16 = .ok (.getfield 17, 3) := by decide +kernel
theorem dX3_lookAtShip_19 : decode cX3_lookAtShip 19 = .ok (.iconst 2, 1) := by decide +kernel
theorem dX3_lookAtShip_20 : decode cX3_lookAtShip 20 = .ok (.aload_n 0, 1) := by decide +kernel
theorem dX3_lookAtShip_21 : decode cX3_lookAtShip 21 = .ok (.getfield 20, 3) := by decide +kernel
theorem dX3_lookAtShip_24 : decode cX3_lookAtShip 24 = .ok (.getfield 110, 3) := by decide +kernel
theorem dX3_lookAtShip_27 : decode cX3_lookAtShip 27 = .ok (.iload_n 1, 1) := by decide +kernel
theorem dX3_lookAtShip_28 : decode cX3_lookAtShip 28 = .ok (.iaload, 1) := by decide +kernel
theorem dX3_lookAtShip_29 : decode cX3_lookAtShip 29 = .ok (.iastore, 1) := by decide +kernel
theorem dX3_lookAtShip_30 : decode cX3_lookAtShip 30 = .ok (.aload_n 0, 1) := by decide +kernel
theorem dX3_lookAtShip_31 : decode cX3_lookAtShip 31 = .ok (.getfield 17, 3) := by decide +kernel
theorem dX3_lookAtShip_34 : decode cX3_lookAtShip 34 = .ok (.iconst 3, 1) := by decide +kernel
theorem dX3_lookAtShip_35 : decode cX3_lookAtShip 35 = .ok (.aload_n 0, 1) := by decide +kernel
theorem dX3_lookAtShip_36 : decode cX3_lookAtShip 36 = .ok (.getfield 20, 3) := by decide +kernel
theorem dX3_lookAtShip_39 : decode cX3_lookAtShip 39 = .ok (.getfield 113, 3) := by decide +kernel
theorem dX3_lookAtShip_42 : decode cX3_lookAtShip 42 = .ok (.iload_n 1, 1) := by decide +kernel
theorem dX3_lookAtShip_43 : decode cX3_lookAtShip 43 = .ok (.iaload, 1) := by decide +kernel
theorem dX3_lookAtShip_44 : decode cX3_lookAtShip 44 = .ok (.aload_n 0, 1) := by decide +kernel
theorem dX3_lookAtShip_45 : decode cX3_lookAtShip 45 = .ok (.getfield 27, 3) := by decide +kernel
theorem dX3_lookAtShip_48 : decode cX3_lookAtShip 48 = .ok (.getfield 61, 3) := by decide +kernel
theorem dX3_lookAtShip_51 : decode cX3_lookAtShip 51 = .ok (.isub, 1) := by decide +kernel
theorem dX3_lookAtShip_52 : decode cX3_lookAtShip 52 = .ok (.iastore, 1) := by decide +kernel
theorem dX3_lookAtShip_53 : decode cX3_lookAtShip 53 = .ok (.aload_n 0, 1) := by decide +kernel
theorem dX3_lookAtShip_54 : decode cX3_lookAtShip 54 = .ok (.getfield 17, 3) := by decide +kernel
theorem dX3_lookAtShip_57 : decode cX3_lookAtShip 57 = .ok (.bipush 7, 2) := by decide +kernel
theorem dX3_lookAtShip_59 : decode cX3_lookAtShip 59 = .ok (.iload_n 2, 1) := by decide +kernel
theorem dX3_lookAtShip_60 : decode cX3_lookAtShip 60 = .ok (.iastore, 1) := by decide +kernel
theorem dX3_lookAtShip_61 : decode cX3_lookAtShip 61 = .ok (.aload_n 0, 1) := by decide +kernel
theorem dX3_lookAtShip_62 : decode cX3_lookAtShip 62 = .ok (.getfield 17, 3) := by decide +kernel
theorem dX3_lookAtShip_65 : decode cX3_lookAtShip 65 = .ok (.bipush 9, 2) := by decide +kernel
theorem dX3_lookAtShip_67 : decode cX3_lookAtShip 67 = .ok (.aload_n 0, 1) := by decide +kernel
theorem dX3_lookAtShip_68 : decode cX3_lookAtShip 68 = .ok (.getfield 20, 3) := by decide +kernel
theorem dX3_lookAtShip_71 : decode cX3_lookAtShip 71 = .ok (.getfield 54, 3) := by decide +kernel
theorem dX3_lookAtShip_74 : decode cX3_lookAtShip 74 = .ok (.iload_n 2, 1) := by decide +kernel
theorem dX3_lookAtShip_75 : decode cX3_lookAtShip 75 = .ok (.isub, 1) := by decide +kernel
theorem dX3_lookAtShip_76 : decode cX3_lookAtShip 76 = .ok (.iastore, 1) := by decide +kernel
theorem dX3_lookAtShip_77 : decode cX3_lookAtShip 77 = .ok (.aload_n 0, 1) := by decide +kernel
theorem dX3_lookAtShip_78 : decode cX3_lookAtShip 78 = .ok (.getfield 17, 3) := by decide +kernel
theorem dX3_lookAtShip_81 : decode cX3_lookAtShip 81 = .ok (.bipush 10, 2) := by decide +kernel
theorem dX3_lookAtShip_83 : decode cX3_lookAtShip 83 = .ok (.aload_n 0, 1) := by decide +kernel
theorem dX3_lookAtShip_84 : decode cX3_lookAtShip 84 = .ok (.getfield 27, 3) := by decide +kernel
theorem dX3_lookAtShip_87 : decode cX3_lookAtShip 87 = .ok (.getfield 61, 3) := by decide +kernel
theorem dX3_lookAtShip_90 : decode cX3_lookAtShip 90 = .ok (.iastore, 1) := by decide +kernel
theorem dX3_lookAtShip_91 : decode cX3_lookAtShip 91 = .ok (.return_, 1) := by decide +kernel
theorem dX3_lookAtJoke_0 : decode cX3_lookAtJoke 0 = .ok (.aload_n 0, 1) := by decide +kernel
theorem dX3_lookAtJoke_1 : decode cX3_lookAtJoke 1 = .ok (.getfield 17, 3) := by decide +kernel
theorem dX3_lookAtJoke_4 : decode cX3_lookAtJoke 4 = .ok (.iconst 1, 1) := by decide +kernel
theorem dX3_lookAtJoke_5 : decode cX3_lookAtJoke 5 = .ok (.iload_n 1, 1) := by decide +kernel
theorem dX3_lookAtJoke_6 : decode cX3_lookAtJoke 6 = .ok (.iastore, 1) := by decide +kernel
theorem dX3_lookAtJoke_7 : decode cX3_lookAtJoke 7 = .ok (.aload_n 0, 1) := by decide +kernel
theorem dX3_lookAtJoke_8 : decode cX3_lookAtJoke 8 = .ok (.getfield 17, 3) := by decide +kernel
theorem dX3_lookAtJoke_11 : decode cX3_lookAtJoke 11 = .ok (.iconst 5, 1) := by decide +kernel
theorem dX3_lookAtJoke_12 : decode cX3_lookAtJoke 12 = .ok (.aload_n 0, 1) := by decide +kernel
theorem dX3_lookAtJoke_13 : decode cX3_lookAtJoke 13 = .ok (.getfield 20, 3) := by decide +kernel
theorem dX3_lookAtJoke_16 : decode cX3_lookAtJoke 16 = .ok (.iload_n 1, 1) := by decide +kernel
theorem dX3_lookAtJoke_17 : decode cX3_lookAtJoke 17 = .ok (.aload_n 0, 1) := by decide +kernel
theorem dX3_lookAtJoke_18 : decode cX3_lookAtJoke 18 = .ok (.getfield 37, 3) := by decide +kernel
theorem dX3_lookAtJoke_21 : decode cX3_lookAtJoke 21 = .ok (.invokevirtual 72, 3) := by decide +kernel
theorem dX3_lookAtJoke_24 : decode cX3_lookAtJoke 24 = .ok (.ifCond .eq 7, 3) := by decide +kernel
theorem dX3_lookAtJoke_27 : decode cX3_lookAtJoke 27 = .ok (.iconst 1, 1) := by decide +kernel
theorem dX3_lookAtJoke_28 : decode cX3_lookAtJoke 28 = .ok (.goto 4, 3) := by decide +kernel
theorem dX3_lookAtJoke_31 : decode cX3_lookAtJoke 31 = .ok (.iconst 0, 1) := by decide +kernel
theorem dX3_lookAtJoke_32 : decode cX3_lookAtJoke 32 = .ok (.iastore, 1) := by decide +kernel
theorem dX3_lookAtJoke_33 : decode cX3_lookAtJoke 33 = .ok (.aload_n 0, 1) := by decide +kernel
theorem dX3_lookAtJoke_34 : decode cX3_lookAtJoke 34 = .ok (.getfield 17, 3) := by decide +kernel
theorem dX3_lookAtJoke_37 : decode cX3_lookAtJoke 37 = .ok (.bipush 8, 2) := by decide +kernel
theorem dX3_lookAtJoke_39 : decode cX3_lookAtJoke 39 = .ok (.aload_n 0, 1) := by decide +kernel
theorem dX3_lookAtJoke_40 : decode cX3_lookAtJoke 40 = .ok (.getfield 27, 3) := by decide +kernel
theorem dX3_lookAtJoke_43 : decode cX3_lookAtJoke 43 = .ok (.iload_n 1, 1) := by decide +kernel
theorem dX3_lookAtJoke_44 : decode cX3_lookAtJoke 44 = .ok (.invokevirtual 116, 3) := by decide +kernel
theorem dX3_lookAtJoke_47 : decode cX3_lookAtJoke 47 = .ok (.iastore, 1) := by decide +kernel
theorem dX3_lookAtJoke_48 : decode cX3_lookAtJoke 48 = .ok (.aload_n 0, 1) := by decide +kernel
theorem dX3_lookAtJoke_49 : decode cX3_lookAtJoke 49 = .ok (.getfield 17, 3) := by decide +kernel
theorem dX3_lookAtJoke_52 : decode cX3_lookAtJoke 52 = .ok (.iconst 4, 1) := by decide +kernel
theorem dX3_lookAtJoke_53 : decode cX3_lookAtJoke 53 = .ok (.aload_n 0, 1) := by decide +kernel
theorem dX3_lookAtJoke_54 : decode cX3_lookAtJoke 54 = .ok (.getfield 87, 3) := by decide +kernel
theorem dX3_lookAtJoke_57 : decode cX3_lookAtJoke 57 = .ok (.getfield 119, 3) := by decide +kernel
theorem dX3_lookAtJoke_60 : decode cX3_lookAtJoke 60 = .ok (.ifCond .eq 18, 3) := by decide +kernel
theorem dX3_lookAtJoke_63 : decode cX3_lookAtJoke 63 = .ok (.aload_n 0, 1) := by decide +kernel
theorem dX3_lookAtJoke_64 : decode cX3_lookAtJoke 64 = .ok (.getfield 20, 3) := by decide +kernel
theorem dX3_lookAtJoke_67 : decode cX3_lookAtJoke 67 = .ok (.iload_n 1, 1) := by decide +kernel
theorem dX3_lookAtJoke_68 : decode cX3_lookAtJoke 68 = .ok (.aload_n 0, 1) := by decide +kernel
theorem dX3_lookAtJoke_69 : decode cX3_lookAtJoke 69 = .ok (.getfield 37, 3) := by decide +kernel
theorem dX3_lookAtJoke_72 : decode cX3_lookAtJoke 72 = .ok (.invokevirtual 122, 3) := by decide +kernel
theorem dX3_lookAtJoke_75 : decode cX3_lookAtJoke 75 = .ok (.goto 4, 3) := by decide +kernel
theorem dX3_lookAtJoke_78 : decode cX3_lookAtJoke 78 = .ok (.iconst 0, 1) := by decide +kernel
theorem dX3_lookAtJoke_79 : decode cX3_lookAtJoke 79 = .ok (.iastore, 1) := by decide +kernel
theorem dX3_lookAtJoke_80 : decode cX3_lookAtJoke 80 = .ok (.aload_n 0, 1) := by decide +kernel
theorem dX3_lookAtJoke_81 : decode cX3_lookAtJoke 81 = .ok (.getfield 17, 3) := by decide +kernel
theorem dX3_lookAtJoke_84 : decode cX3_lookAtJoke 84 = .ok (.bipush 6, 2) := by decide +kernel
theorem dX3_lookAtJoke_86 : decode cX3_lookAtJoke 86 = .ok (.aload_n 0, 1) := by decide +kernel
theorem dX3_lookAtJoke_87 : decode cX3_lookAtJoke 87 = .ok (.getfield 87, 3) := by decide +kernel
theorem dX3_lookAtJoke_90 : decode cX3_lookAtJoke 90 = .ok (.getfield 125, 3) := by decide +kernel
theorem dX3_lookAtJoke_93 : decode cX3_lookAtJoke 93 = .ok (.ifCond .eq 11, 3) := by decide +kernel
theorem dX3_lookAtJoke_96 : decode cX3_lookAtJoke 96 = .ok (.aload_n 0, 1) := by decide +kernel
theorem dX3_lookAtJoke_97 : decode cX3_lookAtJoke 97 = .ok (.iload_n 1, 1) := by decide +kernel
theorem dX3_lookAtJoke_98 : decode cX3_lookAtJoke 98 = .ok (.invokevirtual 128, 3) := by decide +kernel
theorem dX3_lookAtJoke_101 : decode cX3_lookAtJoke 101 = .ok (.goto 4, 3) := by decide +kernel
theorem dX3_lookAtJoke_104 : decode cX3_lookAtJoke 104 = .ok (.iconst 0, 1) := by decide +kernel
theorem dX3_lookAtJoke_105 : decode cX3_lookAtJoke 105 = .ok (.iastore, 1) := by decide +kernel
theorem dX3_lookAtJoke_106 : decode cX3_lookAtJoke 106 = .ok (.return_, 1) := by decide +kernel
theorem dX3_howManyKnow_0 : decode cX3_howManyKnow 0 = .ok (.iconst 0, 1) := by decide +kernel
theorem dX3_howManyKnow_1 : decode cX3_howManyKnow 1 = .ok (.istore_n 2, 1) := by decide +kernel
theorem dX3_howManyKnow_2 : decode cX3_howManyKnow 2 = .ok (.iconst 0, 1) := by decide +kernel
theorem dX3_howManyKnow_3 : decode cX3_howManyKnow 3 = .ok (.istore_n 3, 1) := by decide +kernel
theorem dX3_howManyKnow_4 : decode cX3_howManyKnow 4 = .ok (.iload_n 3, 1) := by decide +kernel
theorem dX3_howManyKnow_5 : decode cX3_howManyKnow 5 = .ok (.aload_n 0, 1) := by decide +kernel
theorem dX3_howManyKnow_6 : decode cX3_howManyKnow 6 = .ok (.getfield 20, 3) := by decide +kernel
theorem dX3_howManyKnow_9 : decode cX3_howManyKnow 9 = .ok (.getfield 54, 3) := by decide +kernel
theorem dX3_howManyKnow_12 : decode cX3_howManyKnow 12 = .ok (.if_icmp .ge 32, 3) := by decide +kernel
theorem dX3_howManyKnow_15 : decode cX3_howManyKnow 15 = .ok (.iload_n 2, 1) := by decide +kernel
theorem dX3_howManyKnow_16 : decode cX3_howManyKnow 16 = .ok (.aload_n 0, 1) := by decide +kernel
theorem dX3_howManyKnow_17 : decode cX3_howManyKnow 17 = .ok (.getfield 44, 3) := by decide +kernel
theorem dX3_howManyKnow_20 : decode cX3_howManyKnow 20 = .ok (.iload_n 3, 1) := by decide +kernel
theorem dX3_howManyKnow_21 : decode cX3_howManyKnow 21 = .ok (.ishr, 1) := by decide +kernel
theorem dX3_howManyKnow_22 : decode cX3_howManyKnow 22 = .ok (.aload_n 0, 1) := by decide +kernel
theorem dX3_howManyKnow_23 : decode cX3_howManyKnow 23 = .ok (.getfield 27, 3) := by decide +kernel
theorem dX3_howManyKnow_26 : decode cX3_howManyKnow 26 = .ok (.getfield 81, 3) := by decide +kernel
theorem dX3_howManyKnow_29 : decode cX3_howManyKnow 29 = .ok (.iload_n 3, 1) := by decide +kernel
theorem dX3_howManyKnow_30 : decode cX3_howManyKnow 30 = .ok (.iaload, 1) := by decide +kernel
theorem dX3_howManyKnow_31 : decode cX3_howManyKnow 31 = .ok (.iload_n 1, 1) := by decide +kernel
theorem dX3_howManyKnow_32 : decode cX3_howManyKnow 32 = .ok (.ishr, 1) := by decide +kernel
theorem dX3_howManyKnow_33 : decode cX3_howManyKnow 33 = .ok (.iand, 1) := by decide +kernel
theorem dX3_howManyKnow_34 : decode cX3_howManyKnow 34 = .ok (.iconst 1, 1) := by decide +kernel
theorem dX3_howManyKnow_35 : decode cX3_howManyKnow 35 = .ok (.iand, 1) := by decide +kernel
theorem dX3_howManyKnow_36 : decode cX3_howManyKnow 36 = .ok (.iadd, 1) := by decide +kernel
theorem dX3_howManyKnow_37 : decode cX3_howManyKnow 37 = .ok (.istore_n 2, 1) := by decide +kernel
theorem dX3_howManyKnow_38 : decode cX3_howManyKnow 38 = .ok (.iinc 3 1, 3) := by decide +kernel
theorem dX3_howManyKnow_41 : decode cX3_howManyKnow 41 = .ok (.goto (-37), 3) := by decide +kernel
theorem dX3_howManyKnow_44 : decode cX3_howManyKnow 44 = .ok (.iload_n 2, 1) := by decide +kernel
theorem dX3_howManyKnow_45 : decode cX3_howManyKnow 45 = .ok (.ireturn, 1) := by decide +kernel
theorem dX3_goOn_0 : decode cX3_goOn 0 = .ok (.aload_n 1, 1) := by decide +kernel
theorem dX3_goOn_1 : decode cX3_goOn 1 = .ok (.getfield 61, 3) := by decide +kernel
theorem dX3_goOn_4 : decode cX3_goOn 4 = .ok (.iload_n 2, 1) := by decide +kernel
theorem dX3_goOn_5 : decode cX3_goOn 5 = .ok (.iadd, 1) := by decide +kernel
theorem dX3_goOn_6 : decode cX3_goOn 6 = .ok (.istore 4, 2) := by decide +kernel
theorem dX3_goOn_8 : decode cX3_goOn 8 = .ok (.iconst 0, 1) := by decide +kernel
theorem dX3_goOn_9 : decode cX3_goOn 9 = .ok (.istore 5, 2) := by decide +kernel
theorem dX3_goOn_11 : decode cX3_goOn 11 = .ok (.iload 5, 2) := by decide +kernel
theorem dX3_goOn_13 : decode cX3_goOn 13 = .ok (.iload_n 2, 1) := by decide +kernel
theorem dX3_goOn_14 : decode cX3_goOn 14 = .ok (.if_icmp .ge 103, 3) := by decide +kernel
theorem dX3_goOn_17 : decode cX3_goOn 17 = .ok (.aload_n 1, 1) := by decide +kernel
theorem dX3_goOn_18 : decode cX3_goOn 18 = .ok (.getfield 61, 3) := by decide +kernel
theorem dX3_goOn_21 : decode cX3_goOn 21 = .ok (.iload 4, 2) := by decide +kernel
theorem dX3_goOn_23 : decode cX3_goOn 23 = .ok (.if_icmp .ge 94, 3) := by decide +kernel
theorem dX3_goOn_26 : decode cX3_goOn 26 = .ok (.aload_n 0, 1) := by decide +kernel
theorem dX3_goOn_27 : decode cX3_goOn 27 = .ok (.aload_n 1, 1) := by decide +kernel
theorem dX3_goOn_28 : decode cX3_goOn 28 = .ok (.invokevirtual 50, 3) := by decide +kernel
theorem dX3_goOn_31 : decode cX3_goOn 31 = .ok (.aload_n 0, 1) := by decide +kernel
theorem dX3_goOn_32 : decode cX3_goOn 32 = .ok (.iconst 0, 1) := by decide +kernel
theorem dX3_goOn_33 : decode cX3_goOn 33 = .ok (.aload_n 0, 1) := by decide +kernel
theorem dX3_goOn_34 : decode cX3_goOn 34 = .ok (.getfield 20, 3) := by decide +kernel
theorem dX3_goOn_37 : decode cX3_goOn 37 = .ok (.getfield 54, 3) := by decide +kernel
theorem dX3_goOn_40 : decode cX3_goOn 40 = .ok (.invokevirtual 57, 3) := by decide +kernel
theorem dX3_goOn_43 : decode cX3_goOn 43 = .ok (.pop, 1) := by decide +kernel
theorem dX3_goOn_44 : decode cX3_goOn 44 = .ok (.aload_n 1, 1) := by decide +kernel
theorem dX3_goOn_45 : decode cX3_goOn 45 = .ok (.dup, 1) := by decide +kernel
theorem dX3_goOn_46 : decode cX3_goOn 46 = .ok (.getfield 61, 3) := by decide +kernel
theorem dX3_goOn_49 : decode cX3_goOn 49 = .ok (.iconst 1, 1) := by decide +kernel
theorem dX3_goOn_50 : decode cX3_goOn 50 = .ok (.iadd, 1) := by decide +kernel
theorem dX3_goOn_51 : decode cX3_goOn 51 = .ok (.putfield 61, 3) := by decide +kernel
theorem dX3_goOn_54 : decode cX3_goOn 54 = .ok (.aload_n 0, 1) := by decide +kernel
theorem dX3_goOn_55 : decode cX3_goOn 55 = .ok (.getfield 44, 3) := by decide +kernel
theorem dX3_goOn_58 : decode cX3_goOn 58 = .ok (.invokestatic 105, 3) := by decide +kernel
theorem dX3_goOn_61 : decode cX3_goOn 61 = .ok (.iload_n 3, 1) := by decide +kernel
theorem dX3_goOn_62 : decode cX3_goOn 62 = .ok (.if_icmp .ge 12, 3) := by decide +kernel
theorem dX3_goOn_65 : decode cX3_goOn 65 = .ok (.aload_n 1, 1) := by decide +kernel
theorem dX3_goOn_66 : decode cX3_goOn 66 = .ok (.iload 4, 2) := by decide +kernel
theorem dX3_goOn_68 : decode cX3_goOn 68 = .ok (.putfield 61, 3) := by decide +kernel
theorem dX3_goOn_71 : decode cX3_goOn 71 = .ok (.goto 40, 3) := by decide +kernel
theorem dX3_goOn_74 : decode cX3_goOn 74 = .ok (.aload_n 0, 1) := by decide +kernel
theorem dX3_goOn_75 : decode cX3_goOn 75 = .ok (.getfield 46, 3) := by decide +kernel
theorem dX3_goOn_78 : decode cX3_goOn 78 = .ok (.ifCond .eq 33, 3) := by decide +kernel
theorem dX3_goOn_81 : decode cX3_goOn 81 = .ok (.aload_n 0, 1) := by decide +kernel
theorem dX3_goOn_82 : decode cX3_goOn 82 = .ok (.getfield 87, 3) := by decide +kernel
theorem dX3_goOn_85 : decode cX3_goOn 85 = .ok (.ifnull 13, 3) := by decide +kernel
theorem dX3_goOn_88 : decode cX3_goOn 88 = .ok (.aload_n 0, 1) := by decide +kernel
theorem dX3_goOn_89 : decode cX3_goOn 89 = .ok (.getfield 87, 3) := by decide +kernel
theorem dX3_goOn_92 : decode cX3_goOn 92 = .ok (.getfield 131, 3) := by decide +kernel
theorem dX3_goOn_95 : decode cX3_goOn 95 = .ok (.ifCond .ne 16, 3) := by decide +kernel
theorem dX3_goOn_98 : decode cX3_goOn 98 = .ok (.aload_n 1, 1) := by decide +kernel
theorem dX3_goOn_99 : decode cX3_goOn 99 = .ok (.iload 4, 2) := by decide +kernel
theorem dX3_goOn_101 : decode cX3_goOn 101 = .ok (.aload_n 0, 1) := by decide +kernel
theorem dX3_goOn_102 : decode cX3_goOn 102 = .ok (.invokevirtual 134, 3) := by decide +kernel
theorem dX3_goOn_105 : decode cX3_goOn 105 = .ok (.invokestatic 138, 3) := by decide +kernel
theorem dX3_goOn_108 : decode cX3_goOn 108 = .ok (.putfield 61, 3) := by decide +kernel
theorem dX3_goOn_111 : decode cX3_goOn 111 = .ok (.iinc 5 1, 3) := by decide +kernel
theorem dX3_goOn_114 : decode cX3_goOn 114 = .ok (.goto (-103), 3) := by decide +kernel
theorem dX3_goOn_117 : decode cX3_goOn 117 = .ok (.return_, 1) := by decide +kernel
theorem dX3_nextFading_0 : decode cX3_nextFading 0 = .ok (.ldc 143, 2) := by decide +kernel
theorem dX3_nextFading_2 : decode cX3_nextFading 2 = .ok (.istore_n 1, 1) := by decide +kernel
theorem dX3_nextFading_3 : decode cX3_nextFading 3 = .ok (.iconst 0, 1) := by decide +kernel
theorem dX3_nextFading_4 : decode cX3_nextFading 4 = .ok (.istore_n 2, 1) := by decide +kernel
theorem dX3_nextFading_5 : decode cX3_nextFading 5 = .ok (.iload_n 2, 1) := by decide +kernel
theorem dX3_nextFading_6 : decode cX3_nextFading 6 = .ok (.aload_n 0, 1) := by decide +kernel
theorem dX3_nextFading_7 : decode cX3_nextFading 7 = .ok (.getfield 20, 3) := by decide +kernel
theorem dX3_nextFading_10 : decode cX3_nextFading 10 = .ok (.getfield 84, 3) := by decide +kernel
theorem dX3_nextFading_13 : decode cX3_nextFading 13 = .ok (.if_icmp .ge 42, 3) := by decide +kernel
theorem dX3_nextFading_16 : decode cX3_nextFading 16 = .ok (.aload_n 0, 1) := by decide +kernel
theorem dX3_nextFading_17 : decode cX3_nextFading 17 = .ok (.getfield 37, 3) := by decide +kernel
theorem dX3_nextFading_20 : decode cX3_nextFading 20 = .ok (.iload_n 2, 1) := by decide +kernel
theorem dX3_nextFading_21 : decode cX3_nextFading 21 = .ok (.ishr, 1) := by decide +kernel
theorem dX3_nextFading_22 : decode cX3_nextFading 22 = .ok (.iconst 1, 1) := by decide +kernel
theorem dX3_nextFading_23 : decode cX3_nextFading 23 = .ok (.iand, 1) := by decide +kernel
theorem dX3_nextFading_24 : decode cX3_nextFading 24 = .ok (.ifCond .eq 25, 3) := by decide +kernel
theorem dX3_nextFading_27 : decode cX3_nextFading 27 = .ok (.iload_n 1, 1) := by decide +kernel
theorem dX3_nextFading_28 : decode cX3_nextFading 28 = .ok (.aload_n 0, 1) := by decide +kernel
theorem dX3_nextFading_29 : decode cX3_nextFading 29 = .ok (.getfield 27, 3) := by decide +kernel
theorem dX3_nextFading_32 : decode cX3_nextFading 32 = .ok (.getfield 78, 3) := by decide +kernel
theorem dX3_nextFading_35 : decode cX3_nextFading 35 = .ok (.iload_n 2, 1) := by decide +kernel
theorem dX3_nextFading_36 : decode cX3_nextFading 36 = .ok (.iaload, 1) := by decide +kernel
theorem dX3_nextFading_37 : decode cX3_nextFading 37 = .ok (.aload_n 0, 1) := by decide +kernel
theorem dX3_nextFading_38 : decode cX3_nextFading 38 = .ok (.getfield 20, 3) := by decide +kernel
theorem dX3_nextFading_41 : decode cX3_nextFading 41 = .ok (.getfield 144, 3) := by decide +kernel
theorem dX3_nextFading_44 : decode cX3_nextFading 44 = .ok (.iadd, 1) := by decide +kernel
theorem dX3_nextFading_45 : decode cX3_nextFading 45 = .ok (.invokestatic 138, 3) := by decide +kernel
theorem dX3_nextFading_48 : decode cX3_nextFading 48 = .ok (.istore_n 1, 1) := by decide +kernel
theorem dX3_nextFading_49 : decode cX3_nextFading 49 = .ok (.iinc 2 1, 3) := by decide +kernel
theorem dX3_nextFading_52 : decode cX3_nextFading 52 = .ok (.goto (-47), 3) := by decide +kernel
theorem dX3_nextFading_55 : decode cX3_nextFading 55 = .ok (.iload_n 1, 1) := by decide +kernel
theorem dX3_nextFading_56 : decode cX3_nextFading 56 = .ok (.ireturn, 1) := by decide +kernel
theorem dX5_init_0 : decode cX5_init 0 = .ok (.aload_n 0, 1) := by decide +kernel
theorem dX5_init_1 : decode cX5_init 1 = .ok (.invokespecial 3, 3) := by decide +kernel
theorem dX5_init_4 : decode cX5_init 4 = .ok (.aload_n 0, 1) := by decide +kernel
theorem dX5_init_5 : decode cX5_init 5 = .ok (.sipush 400, 3) := by decide +kernel
theorem dX5_init_8 : decode cX5_init 8 = .ok (.newarray .int, 2) := by decide +kernel
theorem dX5_init_10 : decode cX5_init 10 = .ok (.putfield 9, 3) := by decide +kernel
theorem dX5_init_13 : decode cX5_init 13 = .ok (.aload_n 0, 1) := by decide +kernel
theorem dX5_init_14 : decode cX5_init 14 = .ok (.sipush 400, 3) := by decide +kernel
theorem dX5_init_17 : decode cX5_init 17 = .ok (.newarray .int, 2) := by decide +kernel
theorem dX5_init_19 : decode cX5_init 19 = .ok (.putfield 15, 3) := by decide +kernel
theorem dX5_init_22 : decode cX5_init 22 = .ok (.aload_n 0, 1) := by decide +kernel
theorem dX5_init_23 : decode cX5_init 23 = .ok (.aload_n 1, 1) := by decide +kernel
theorem dX5_init_24 : decode cX5_init 24 = .ok (.putfield 18, 3) := by decide +kernel
theorem dX5_init_27 : decode cX5_init 27 = .ok (.return_, 1) := by decide +kernel
theorem dX5_read_0 : decode cX5_read 0 = .ok (.aload_n 0, 1) := by decide +kernel
theorem dX5_read_1 : decode cX5_read 1 = .ok (.getfield 18, 3) := by decide +kernel
theorem dX5_read_4 : decode cX5_read 4 = .ok (.invokevirtual 22, 3) := by decide +kernel
theorem dX5_read_7 : decode cX5_read 7 = .ok (.aload_n 0, 1) := by decide +kernel
theorem dX5_read_8 : decode cX5_read 8 = .ok (.iconst 0, 1) := by decide +kernel
theorem dX5_read_9 : decode cX5_read 9 = .ok (.putfield 27, 3) := by decide +kernel
theorem dX5_read_12 : decode cX5_read 12 = .ok (.aload_n 0, 1) := by decide +kernel
theorem dX5_read_13 : decode cX5_read 13 = .ok (.iconst 0, 1) := by decide +kernel
theorem dX5_read_14 : decode cX5_read 14 = .ok (.putfield 31, 3) := by decide +kernel
theorem dX5_read_17 : decode cX5_read 17 = .ok (.aload_n 0, 1) := by decide +kernel
theorem dX5_read_18 : decode cX5_read 18 = .ok (.iconst 0, 1) := by decide +kernel
theorem dX5_read_19 : decode cX5_read 19 = .ok (.putfield 34, 3) := by decide +kernel
theorem dX5_read_22 : decode cX5_read 22 = .ok (.iconst 1, 1) := by decide +kernel
theorem dX5_read_23 : decode cX5_read 23 = .ok (.istore_n 1, 1) := by decide +kernel
theorem dX5_read_24 : decode cX5_read 24 = .ok (.iconst 0, 1) := by decide +kernel
theorem dX5_read_25 : decode cX5_read 25 = .ok (.istore_n 2, 1) := by decide +kernel
theorem dX5_read_26 : decode cX5_read 26 = .ok (.iload_n 1, 1) := by decide +kernel
theorem dX5_read_27 : decode cX5_read 27 = .ok (.ifCond .eq 39, 3) := by decide +kernel
theorem dX5_read_30 : decode cX5_read 30 = .ok (.iload_n 2, 1) := by decide +kernel
theorem dX5_read_31 : decode cX5_read 31 = .ok (.bipush 12, 2) := by decide +kernel
theorem dX5_read_33 : decode cX5_read 33 = .ok (.if_icmp .gt 33, 3) := by decide +kernel
theorem dX5_read_36 : decode cX5_read 36 = .ok (.aload_n 0, 1) := by decide +kernel
theorem dX5_read_37 : decode cX5_read 37 = .ok (.iload_n 2, 1) := by decide +kernel
theorem dX5_read_38 : decode cX5_read 38 = .ok (.invokevirtual 37, 3) := by decide +kernel
theorem dX5_read_41 : decode cX5_read 41 = .ok (.ifCond .eq 17, 3) := by decide +kernel
theorem dX5_read_44 : decode cX5_read 44 = .ok (.aload_n 0, 1) := by decide +kernel
theorem dX5_read_45 : decode cX5_read 45 = .ok (.getfield 18, 3) := by decide +kernel
theorem dX5_read_48 : decode cX5_read 48 = .ok (.invokevirtual 41, 3) := by decide +kernel
theorem dX5_read_51 : decode cX5_read 51 = .ok (.ifCond .eq 7, 3) := by decide +kernel
theorem dX5_read_54 : decode cX5_read 54 = .ok (.iconst 1, 1) := by decide +kernel
theorem dX5_read_55 : decode cX5_read 55 = .ok (.goto 4, 3) := by decide +kernel
theorem dX5_read_58 : decode cX5_read 58 = .ok (.iconst 0, 1) := by decide +kernel
theorem dX5_read_59 : decode cX5_read 59 = .ok (.istore_n 1, 1) := by decide +kernel
theorem dX5_read_60 : decode cX5_read 60 = .ok (.iinc 2 1, 3) := by decide +kernel
theorem dX5_read_63 : decode cX5_read 63 = .ok (.goto (-37), 3) := by decide +kernel
theorem dX5_read_66 : decode cX5_read 66 = .ok (.aload_n 0, 1) := by decide +kernel
theorem dX5_read_67 : decode cX5_read 67 = .ok (.getfield 18, 3) := by decide +kernel
theorem dX5_read_70 : decode cX5_read 70 = .ok (.getfield 45, 3) := by decide +kernel
theorem dX5_read_73 : decode cX5_read 73 = .ok (.ireturn, 1) := by decide +kernel
theorem dX5_made_0 : decode cX5_made 0 = .ok (.new 48, 3) := by decide +kernel
theorem dX5_made_3 : decode cX5_made 3 = .ok (.dup, 1) := by decide +kernel
theorem dX5_made_4 : decode cX5_made 4 = .ok (.aload_n 0, 1) := by decide +kernel
theorem dX5_made_5 : decode cX5_made 5 = .ok (.getfield 9, 3) := by decide +kernel
theorem dX5_made_8 : decode cX5_made 8 = .ok (.aload_n 0, 1) := by decide +kernel
theorem dX5_made_9 : decode cX5_made 9 = .ok (.getfield 27, 3) := by decide +kernel
theorem dX5_made_12 : decode cX5_made 12 = .ok (.invokestatic 50, 3) := by decide +kernel
theorem dX5_made_15 : decode cX5_made 15 = .ok (.aload_n 0, 1) := by decide +kernel
theorem dX5_made_16 : decode cX5_made 16 = .ok (.getfield 34, 3) := by decide +kernel
theorem dX5_made_19 : decode cX5_made 19 = .ok (.invokespecial 56, 3) := by decide +kernel
theorem dX5_made_22 : decode cX5_made 22 = .ok (.areturn, 1) := by decide +kernel
theorem dX5_readClause_0 : decode cX5_readClause 0 = .ok (.aload_n 0, 1) := by decide +kernel
theorem dX5_readClause_1 : decode cX5_readClause 1 = .ok (.getfield 18, 3) := by decide +kernel
theorem dX5_readClause_4 : decode cX5_readClause 4 = .ok (.getfield 59, 3) := by decide +kernel
theorem dX5_readClause_7 : decode cX5_readClause 7 = .ok (.ldc2_w 63, 3) := by decide +kernel
theorem dX5_readClause_10 : decode cX5_readClause 10 = .ok (.lcmp, 1) := by decide +kernel
theorem dX5_readClause_11 : decode cX5_readClause 11 = .ok (.ifCond .eq 19, 3) := by decide +kernel
theorem dX5_readClause_14 : decode cX5_readClause 14 = .ok (.aload_n 0, 1) := by decide +kernel
theorem dX5_readClause_15 : decode cX5_readClause 15 = .ok (.getfield 18, 3) := by decide +kernel
theorem dX5_readClause_18 : decode cX5_readClause 18 = .ok (.aload_n 0, 1) := by decide +kernel
theorem dX5_readClause_19 : decode cX5_readClause 19 = .ok (.getfield 18, 3) := by decide +kernel
theorem dX5_readClause_22 : decode cX5_readClause 22 = .ok (.getfield 65, 3) := by decide +kernel
theorem dX5_readClause_25 : decode cX5_readClause 25 = .ok (.iconst 0, 1) := by decide +kernel
theorem dX5_readClause_26 : decode cX5_readClause 26 = .ok (.invokevirtual 68, 3) := by decide +kernel
theorem dX5_readClause_29 : decode cX5_readClause 29 = .ok (.ireturn, 1) := by decide +kernel
theorem dX5_readClause_30 : decode cX5_readClause 30 = .ok (.iload_n 1, 1) := by decide +kernel
theorem dX5_readClause_31 : decode cX5_readClause 31 = .ok (.bipush 12, 2) := by decide +kernel
theorem dX5_readClause_33 : decode cX5_readClause 33 = .ok (.if_icmp .lt 19, 3) := by decide +kernel
theorem dX5_readClause_36 : decode cX5_readClause 36 = .ok (.aload_n 0, 1) := by decide +kernel
theorem dX5_readClause_37 : decode cX5_readClause 37 = .ok (.getfield 18, 3) := by decide +kernel
theorem dX5_readClause_40 : decode cX5_readClause 40 = .ok (.aload_n 0, 1) := by decide +kernel
theorem dX5_readClause_41 : decode cX5_readClause 41 = .ok (.getfield 18, 3) := by decide +kernel
theorem dX5_readClause_44 : decode cX5_readClause 44 = .ok (.getfield 65, 3) := by decide +kernel
theorem dX5_readClause_47 : decode cX5_readClause 47 = .ok (.iconst 4, 1) := by decide +kernel
theorem dX5_readClause_48 : decode cX5_readClause 48 = .ok (.invokevirtual 68, 3) := by decide +kernel
theorem dX5_readClause_51 : decode cX5_readClause 51 = .ok (.ireturn, 1) := by decide +kernel
theorem dX5_readClause_52 : decode cX5_readClause 52 = .ok (.aload_n 0, 1) := by decide +kernel
theorem dX5_readClause_53 : decode cX5_readClause 53 = .ok (.getfield 18, 3) := by decide +kernel
theorem dX5_readClause_56 : decode cX5_readClause 56 = .ok (.invokevirtual 72, 3) := by decide +kernel
theorem dX5_readClause_59 : decode cX5_readClause 59 = .ok (.aload_n 0, 1) := by decide +kernel
theorem dX5_readClause_60 : decode cX5_readClause 60 = .ok (.getfield 27, 3) := by decide +kernel
theorem dX5_readClause_63 : decode cX5_readClause 63 = .ok (.istore_n 2, 1) := by decide +kernel
theorem dX5_readClause_64 : decode cX5_readClause 64 = .ok (.aload_n 0, 1) := by decide +kernel
theorem dX5_readClause_65 : decode cX5_readClause 65 = .ok (.invokevirtual 75, 3) := by decide +kernel
theorem dX5_readClause_68 : decode cX5_readClause 68 = .ok (.ifCond .ne 5, 3) := by decide +kernel
theorem dX5_readClause_71 : decode cX5_readClause 71 = .ok (.iconst 0, 1) := by decide +kernel
theorem dX5_readClause_72 : decode cX5_readClause 72 = .ok (.ireturn, 1) := by decide +kernel
theorem dX5_readClause_73 : decode cX5_readClause 73 = .ok (.aload_n 0, 1) := by decide +kernel
theorem dX5_readClause_74 : decode cX5_readClause 74 = .ok (.getfield 18, 3) := by decide +kernel
theorem dX5_readClause_77 : decode cX5_readClause 77 = .ok (.getfield 59, 3) := by decide +kernel
theorem dX5_readClause_80 : decode cX5_readClause 80 = .ok (.ldc2_w 78, 3) := by decide +kernel
theorem dX5_readClause_83 : decode cX5_readClause 83 = .ok (.lcmp, 1) := by decide +kernel
theorem dX5_readClause_84 : decode cX5_readClause 84 = .ok (.ifCond .ne 31, 3) := by decide +kernel
theorem dX5_readClause_87 : decode cX5_readClause 87 = .ok (.aload_n 0, 1) := by decide +kernel
theorem dX5_readClause_88 : decode cX5_readClause 88 = .ok (.getfield 27, 3) := by decide +kernel
theorem dX5_readClause_91 : decode cX5_readClause 91 = .ok (.istore_n 3, 1) := by decide +kernel
theorem dX5_readClause_92 : decode cX5_readClause 92 = .ok (.aload_n 0, 1) := by decide +kernel
theorem dX5_readClause_93 : decode cX5_readClause 93 = .ok (.getfield 18, 3) := by decide +kernel
theorem dX5_readClause_96 : decode cX5_readClause 96 = .ok (.invokevirtual 72, 3) := by decide +kernel
theorem dX5_readClause_99 : decode cX5_readClause 99 = .ok (.aload_n 0, 1) := by decide +kernel
theorem dX5_readClause_100 : decode cX5_readClause 100 = .ok (.iconst 0, 1) := by decide +kernel
theorem dX5_readClause_101 : decode cX5_readClause 101 = .ok (.invokevirtual 80, 3) := by decide +kernel
theorem dX5_readClause_104 : decode cX5_readClause 104 = .ok (.ifCond .ne 5, 3) := by decide +kernel
theorem dX5_readClause_107 : decode cX5_readClause 107 = .ok (.iconst 0, 1) := by decide +kernel
theorem dX5_readClause_108 : decode cX5_readClause 108 = .ok (.ireturn, 1) := by decide +kernel
theorem dX5_readClause_109 : decode cX5_readClause 109 = .ok (.aload_n 0, 1) := by decide +kernel
theorem dX5_readClause_110 : decode cX5_readClause 110 = .ok (.iload_n 2, 1) := by decide +kernel
theorem dX5_readClause_111 : decode cX5_readClause 111 = .ok (.iload_n 3, 1) := by decide +kernel
theorem dX5_readClause_112 : decode cX5_readClause 112 = .ok (.invokevirtual 83, 3) := by decide +kernel
theorem dX5_readClause_115 : decode cX5_readClause 115 = .ok (.aload_n 0, 1) := by decide +kernel
theorem dX5_readClause_116 : decode cX5_readClause 116 = .ok (.bipush 6, 2) := by decide +kernel
theorem dX5_readClause_118 : decode cX5_readClause 118 = .ok (.iconst 0, 1) := by decide +kernel
theorem dX5_readClause_119 : decode cX5_readClause 119 = .ok (.invokevirtual 87, 3) := by decide +kernel
theorem dX5_readClause_122 : decode cX5_readClause 122 = .ok (.ireturn, 1) := by decide +kernel
theorem dX5_moveTestAhead_0 : decode cX5_moveTestAhead 0 = .ok (.iload_n 2, 1) := by decide +kernel
theorem dX5_moveTestAhead_1 : decode cX5_moveTestAhead 1 = .ok (.iload_n 1, 1) := by decide +kernel
theorem dX5_moveTestAhead_2 : decode cX5_moveTestAhead 2 = .ok (.isub, 1) := by decide +kernel
theorem dX5_moveTestAhead_3 : decode cX5_moveTestAhead 3 = .ok (.istore_n 3, 1) := by decide +kernel
theorem dX5_moveTestAhead_4 : decode cX5_moveTestAhead 4 = .ok (.iload_n 3, 1) := by decide +kernel
theorem dX5_moveTestAhead_5 : decode cX5_moveTestAhead 5 = .ok (.ifCond .lt 15, 3) := by decide +kernel
theorem dX5_moveTestAhead_8 : decode cX5_moveTestAhead 8 = .ok (.aload_n 0, 1) := by decide +kernel
theorem dX5_moveTestAhead_9 : decode cX5_moveTestAhead 9 = .ok (.getfield 27, 3) := by decide +kernel
theorem dX5_moveTestAhead_12 : decode cX5_moveTestAhead 12 = .ok (.aload_n 0, 1) := by decide +kernel
theorem dX5_moveTestAhead_13 : decode cX5_moveTestAhead 13 = .ok (.getfield 9, 3) := by decide +kernel
theorem dX5_moveTestAhead_16 : decode cX5_moveTestAhead 16 = .ok (.arraylength, 1) := by decide +kernel
theorem dX5_moveTestAhead_17 : decode cX5_moveTestAhead 17 = .ok (.if_icmp .lt 4, 3) := by decide +kernel
theorem dX5_moveTestAhead_20 : decode cX5_moveTestAhead 20 = .ok (.return_, 1) := by decide +kernel
theorem dX5_moveTestAhead_21 : decode cX5_moveTestAhead 21 = .ok (.aload_n 0, 1) := by decide +kernel
theorem dX5_moveTestAhead_22 : decode cX5_moveTestAhead 22 = .ok (.getfield 9, 3) := by decide +kernel
theorem dX5_moveTestAhead_25 : decode cX5_moveTestAhead 25 = .ok (.iload_n 1, 1) := by decide +kernel
theorem dX5_moveTestAhead_26 : decode cX5_moveTestAhead 26 = .ok (.aload_n 0, 1) := by decide +kernel
theorem dX5_moveTestAhead_27 : decode cX5_moveTestAhead 27 = .ok (.getfield 15, 3) := by decide +kernel
theorem dX5_moveTestAhead_30 : decode cX5_moveTestAhead 30 = .ok (.iconst 0, 1) := by decide +kernel
theorem dX5_moveTestAhead_31 : decode cX5_moveTestAhead 31 = .ok (.iload_n 3, 1) := by decide +kernel
theorem dX5_moveTestAhead_32 : decode cX5_moveTestAhead 32 = .ok (.invokestatic 90, 3) := by decide +kernel
theorem dX5_moveTestAhead_35 : decode cX5_moveTestAhead 35 = .ok (.aload_n 0, 1) := by decide +kernel
theorem dX5_moveTestAhead_36 : decode cX5_moveTestAhead 36 = .ok (.getfield 9, 3) := by decide +kernel
theorem dX5_moveTestAhead_39 : decode cX5_moveTestAhead 39 = .ok (.iload_n 2, 1) := by decide +kernel
theorem dX5_moveTestAhead_40 : decode cX5_moveTestAhead 40 = .ok (.aload_n 0, 1) := by decide +kernel
theorem dX5_moveTestAhead_41 : decode cX5_moveTestAhead 41 = .ok (.getfield 9, 3) := by decide +kernel
theorem dX5_moveTestAhead_44 : decode cX5_moveTestAhead 44 = .ok (.iload_n 1, 1) := by decide +kernel
theorem dX5_moveTestAhead_45 : decode cX5_moveTestAhead 45 = .ok (.aload_n 0, 1) := by decide +kernel
theorem dX5_moveTestAhead_46 : decode cX5_moveTestAhead 46 = .ok (.getfield 27, 3) := by decide +kernel
theorem dX5_moveTestAhead_49 : decode cX5_moveTestAhead 49 = .ok (.iload_n 2, 1) := by decide +kernel
theorem dX5_moveTestAhead_50 : decode cX5_moveTestAhead 50 = .ok (.isub, 1) := by decide +kernel
theorem dX5_moveTestAhead_51 : decode cX5_moveTestAhead 51 = .ok (.invokestatic 90, 3) := by decide +kernel
theorem dX5_moveTestAhead_54 : decode cX5_moveTestAhead 54 = .ok (.aload_n 0, 1) := by decide +kernel
theorem dX5_moveTestAhead_55 : decode cX5_moveTestAhead 55 = .ok (.dup, 1) := by decide +kernel
theorem dX5_moveTestAhead_56 : decode cX5_moveTestAhead 56 = .ok (.getfield 27, 3) := by decide +kernel
theorem dX5_moveTestAhead_59 : decode cX5_moveTestAhead 59 = .ok (.iload_n 3, 1) := by decide +kernel
theorem dX5_moveTestAhead_60 : decode cX5_moveTestAhead 60 = .ok (.isub, 1) := by decide +kernel
theorem dX5_moveTestAhead_61 : decode cX5_moveTestAhead 61 = .ok (.putfield 27, 3) := by decide +kernel
theorem dX5_moveTestAhead_64 : decode cX5_moveTestAhead 64 = .ok (.aload_n 0, 1) := by decide +kernel
theorem dX5_moveTestAhead_65 : decode cX5_moveTestAhead 65 = .ok (.iconst 5, 1) := by decide +kernel
theorem dX5_moveTestAhead_66 : decode cX5_moveTestAhead 66 = .ok (.iload_n 3, 1) := by decide +kernel
theorem dX5_moveTestAhead_67 : decode cX5_moveTestAhead 67 = .ok (.iconst 1, 1) := by decide +kernel
theorem dX5_moveTestAhead_68 : decode cX5_moveTestAhead 68 = .ok (.iadd, 1) := by decide +kernel
theorem dX5_moveTestAhead_69 : decode cX5_moveTestAhead 69 = .ok (.invokevirtual 87, 3) := by decide +kernel
theorem dX5_moveTestAhead_72 : decode cX5_moveTestAhead 72 = .ok (.pop, 1) := by decide +kernel
theorem dX5_moveTestAhead_73 : decode cX5_moveTestAhead 73 = .ok (.aload_n 0, 1) := by decide +kernel
theorem dX5_moveTestAhead_74 : decode cX5_moveTestAhead 74 = .ok (.getfield 15, 3) := by decide +kernel
theorem dX5_moveTestAhead_77 : decode cX5_moveTestAhead 77 = .ok (.iconst 0, 1) := by decide +kernel
theorem dX5_moveTestAhead_78 : decode cX5_moveTestAhead 78 = .ok (.aload_n 0, 1) := by decide +kernel
theorem dX5_moveTestAhead_79 : decode cX5_moveTestAhead 79 = .ok (.getfield 9, 3) := by decide +kernel
theorem dX5_moveTestAhead_82 : decode cX5_moveTestAhead 82 = .ok (.aload_n 0, 1) := by decide +kernel
theorem dX5_moveTestAhead_83 : decode cX5_moveTestAhead 83 = .ok (.getfield 27, 3) := by decide +kernel
theorem dX5_moveTestAhead_86 : decode cX5_moveTestAhead 86 = .ok (.iload_n 3, 1) := by decide +kernel
theorem dX5_moveTestAhead_87 : decode cX5_moveTestAhead 87 = .ok (.invokestatic 90, 3) := by decide +kernel
theorem dX5_moveTestAhead_90 : decode cX5_moveTestAhead 90 = .ok (.aload_n 0, 1) := by decide +kernel
theorem dX5_moveTestAhead_91 : decode cX5_moveTestAhead 91 = .ok (.dup, 1) := by decide +kernel
theorem dX5_moveTestAhead_92 : decode cX5_moveTestAhead 92 = .ok (.getfield 27, 3) := by decide +kernel
theorem dX5_moveTestAhead_95 : decode cX5_moveTestAhead 95 = .ok (.iload_n 3, 1) := by decide +kernel
theorem dX5_moveTestAhead_96 : decode cX5_moveTestAhead 96 = .ok (.iadd, 1) := by decide +kernel
theorem dX5_moveTestAhead_97 : decode cX5_moveTestAhead 97 = .ok (.putfield 27, 3) := by decide +kernel
theorem dX5_moveTestAhead_100 : decode cX5_moveTestAhead 100 = .ok (.return_, 1) := by decide +kernel
theorem dX5_readTest_0 : decode cX5_readTest 0 = .ok (.iconst (-1), 1) := by decide +kernel
theorem dX5_readTest_1 : decode cX5_readTest 1 = .ok (.istore_n 2, 1) := by decide +kernel
theorem dX5_readTest_2 : decode cX5_readTest 2 = .ok (.aload_n 0, 1) := by decide +kernel
theorem dX5_readTest_3 : decode cX5_readTest 3 = .ok (.iload_n 1, 1) := by decide +kernel
theorem dX5_readTest_4 : decode cX5_readTest 4 = .ok (.invokevirtual 96, 3) := by decide +kernel
theorem dX5_readTest_7 : decode cX5_readTest 7 = .ok (.istore_n 3, 1) := by decide +kernel
theorem dX5_readTest_8 : decode cX5_readTest 8 = .ok (.iconst 0, 1) := by decide +kernel
theorem dX5_readTest_9 : decode cX5_readTest 9 = .ok (.istore 4, 2) := by decide +kernel
theorem dX5_readTest_11 : decode cX5_readTest 11 = .ok (.iload 4, 2) := by decide +kernel
theorem dX5_readTest_13 : decode cX5_readTest 13 = .ok (.sipush 400, 3) := by decide +kernel
theorem dX5_readTest_16 : decode cX5_readTest 16 = .ok (.if_icmp .ge 123, 3) := by decide +kernel
theorem dX5_readTest_19 : decode cX5_readTest 19 = .ok (.iload_n 3, 1) := by decide +kernel
theorem dX5_readTest_20 : decode cX5_readTest 20 = .ok (.ifCond .eq 119, 3) := by decide +kernel
theorem dX5_readTest_23 : decode cX5_readTest 23 = .ok (.aload_n 0, 1) := by decide +kernel
theorem dX5_readTest_24 : decode cX5_readTest 24 = .ok (.getfield 18, 3) := by decide +kernel
theorem dX5_readTest_27 : decode cX5_readTest 27 = .ok (.getfield 59, 3) := by decide +kernel
theorem dX5_readTest_30 : decode cX5_readTest 30 = .ok (.ldc2_w 99, 3) := by decide +kernel
theorem dX5_readTest_33 : decode cX5_readTest 33 = .ok (.lcmp, 1) := by decide +kernel
theorem dX5_readTest_34 : decode cX5_readTest 34 = .ok (.ifCond .eq 17, 3) := by decide +kernel
theorem dX5_readTest_37 : decode cX5_readTest 37 = .ok (.aload_n 0, 1) := by decide +kernel
theorem dX5_readTest_38 : decode cX5_readTest 38 = .ok (.getfield 18, 3) := by decide +kernel
theorem dX5_readTest_41 : decode cX5_readTest 41 = .ok (.getfield 59, 3) := by decide +kernel
theorem dX5_readTest_44 : decode cX5_readTest 44 = .ok (.ldc2_w 101, 3) := by decide +kernel
theorem dX5_readTest_47 : decode cX5_readTest 47 = .ok (.lcmp, 1) := by decide +kernel
theorem dX5_readTest_48 : decode cX5_readTest 48 = .ok (.ifCond .ne 91, 3) := by decide +kernel
theorem dX5_readTest_51 : decode cX5_readTest 51 = .ok (.aload_n 0, 1) := by decide +kernel
theorem dX5_readTest_52 : decode cX5_readTest 52 = .ok (.getfield 18, 3) := by decide +kernel
theorem dX5_readTest_55 : decode cX5_readTest 55 = .ok (.getfield 59, 3) := by decide +kernel
theorem dX5_readTest_58 : decode cX5_readTest 58 = .ok (.ldc2_w 99, 3) := by decide +kernel
theorem dX5_readTest_61 : decode cX5_readTest 61 = .ok (.lcmp, 1) := by decide +kernel
theorem dX5_readTest_62 : decode cX5_readTest 62 = .ok (.ifCond .ne 7, 3) := by decide +kernel
theorem dX5_readTest_65 : decode cX5_readTest 65 = .ok (.iconst 1, 1) := by decide +kernel
theorem dX5_readTest_66 : decode cX5_readTest 66 = .ok (.goto 4, 3) := by decide +kernel
theorem dX5_readTest_69 : decode cX5_readTest 69 = .ok (.iconst 0, 1) := by decide +kernel
theorem dX5_readTest_70 : decode cX5_readTest 70 = .ok (.istore 5, 2) := by decide +kernel
theorem dX5_readTest_72 : decode cX5_readTest 72 = .ok (.iload 5, 2) := by decide +kernel
theorem dX5_readTest_74 : decode cX5_readTest 74 = .ok (.ifCond .ne 13, 3) := by decide +kernel
theorem dX5_readTest_77 : decode cX5_readTest 77 = .ok (.aload_n 0, 1) := by decide +kernel
theorem dX5_readTest_78 : decode cX5_readTest 78 = .ok (.iload_n 2, 1) := by decide +kernel
theorem dX5_readTest_79 : decode cX5_readTest 79 = .ok (.invokevirtual 103, 3) := by decide +kernel
theorem dX5_readTest_82 : decode cX5_readTest 82 = .ok (.aload_n 0, 1) := by decide +kernel
theorem dX5_readTest_83 : decode cX5_readTest 83 = .ok (.getfield 27, 3) := by decide +kernel
theorem dX5_readTest_86 : decode cX5_readTest 86 = .ok (.istore_n 2, 1) := by decide +kernel
theorem dX5_readTest_87 : decode cX5_readTest 87 = .ok (.aload_n 0, 1) := by decide +kernel
theorem dX5_readTest_88 : decode cX5_readTest 88 = .ok (.getfield 27, 3) := by decide +kernel
theorem dX5_readTest_91 : decode cX5_readTest 91 = .ok (.istore 6, 2) := by decide +kernel
theorem dX5_readTest_93 : decode cX5_readTest 93 = .ok (.aload_n 0, 1) := by decide +kernel
theorem dX5_readTest_94 : decode cX5_readTest 94 = .ok (.iload 5, 2) := by decide +kernel
theorem dX5_readTest_96 : decode cX5_readTest 96 = .ok (.ifCond .eq 7, 3) := by decide +kernel
theorem dX5_readTest_99 : decode cX5_readTest 99 = .ok (.iconst 3, 1) := by decide +kernel
theorem dX5_readTest_100 : decode cX5_readTest 100 = .ok (.goto 4, 3) := by decide +kernel
theorem dX5_readTest_103 : decode cX5_readTest 103 = .ok (.iconst 4, 1) := by decide +kernel
theorem dX5_readTest_104 : decode cX5_readTest 104 = .ok (.iconst 0, 1) := by decide +kernel
theorem dX5_readTest_105 : decode cX5_readTest 105 = .ok (.invokevirtual 87, 3) := by decide +kernel
theorem dX5_readTest_108 : decode cX5_readTest 108 = .ok (.pop, 1) := by decide +kernel
theorem dX5_readTest_109 : decode cX5_readTest 109 = .ok (.aload_n 0, 1) := by decide +kernel
theorem dX5_readTest_110 : decode cX5_readTest 110 = .ok (.getfield 18, 3) := by decide +kernel
theorem dX5_readTest_113 : decode cX5_readTest 113 = .ok (.invokevirtual 72, 3) := by decide +kernel
theorem dX5_readTest_116 : decode cX5_readTest 116 = .ok (.aload_n 0, 1) := by decide +kernel
theorem dX5_readTest_117 : decode cX5_readTest 117 = .ok (.iload_n 1, 1) := by decide +kernel
theorem dX5_readTest_118 : decode cX5_readTest 118 = .ok (.invokevirtual 96, 3) := by decide +kernel
theorem dX5_readTest_121 : decode cX5_readTest 121 = .ok (.istore_n 3, 1) := by decide +kernel
theorem dX5_readTest_122 : decode cX5_readTest 122 = .ok (.iload 5, 2) := by decide +kernel
theorem dX5_readTest_124 : decode cX5_readTest 124 = .ok (.ifCond .eq 9, 3) := by decide +kernel
theorem dX5_readTest_127 : decode cX5_readTest 127 = .ok (.aload_n 0, 1) := by decide +kernel
theorem dX5_readTest_128 : decode cX5_readTest 128 = .ok (.iload 6, 2) := by decide +kernel
theorem dX5_readTest_130 : decode cX5_readTest 130 = .ok (.invokevirtual 103, 3) := by decide +kernel
theorem dX5_readTest_133 : decode cX5_readTest 133 = .ok (.iinc 4 1, 3) := by decide +kernel
theorem dX5_readTest_136 : decode cX5_readTest 136 = .ok (.goto (-125), 3) := by decide +kernel
theorem dX5_readTest_139 : decode cX5_readTest 139 = .ok (.aload_n 0, 1) := by decide +kernel
theorem dX5_readTest_140 : decode cX5_readTest 140 = .ok (.iload_n 2, 1) := by decide +kernel
theorem dX5_readTest_141 : decode cX5_readTest 141 = .ok (.invokevirtual 103, 3) := by decide +kernel
theorem dX5_readTest_144 : decode cX5_readTest 144 = .ok (.iload_n 3, 1) := by decide +kernel
theorem dX5_readTest_145 : decode cX5_readTest 145 = .ok (.ireturn, 1) := by decide +kernel
theorem dX5_readFact_0 : decode cX5_readFact 0 = .ok (.aload_n 0, 1) := by decide +kernel
theorem dX5_readFact_1 : decode cX5_readFact 1 = .ok (.getfield 18, 3) := by decide +kernel
theorem dX5_readFact_4 : decode cX5_readFact 4 = .ok (.getfield 59, 3) := by decide +kernel
theorem dX5_readFact_7 : decode cX5_readFact 7 = .ok (.ldc2_w 107, 3) := by decide +kernel
theorem dX5_readFact_10 : decode cX5_readFact 10 = .ok (.lcmp, 1) := by decide +kernel
theorem dX5_readFact_11 : decode cX5_readFact 11 = .ok (.ifCond .ne 7, 3) := by decide +kernel
theorem dX5_readFact_14 : decode cX5_readFact 14 = .ok (.iconst 1, 1) := by decide +kernel
theorem dX5_readFact_15 : decode cX5_readFact 15 = .ok (.goto 4, 3) := by decide +kernel
theorem dX5_readFact_18 : decode cX5_readFact 18 = .ok (.iconst 0, 1) := by decide +kernel
theorem dX5_readFact_19 : decode cX5_readFact 19 = .ok (.istore_n 2, 1) := by decide +kernel
theorem dX5_readFact_20 : decode cX5_readFact 20 = .ok (.aload_n 0, 1) := by decide +kernel
theorem dX5_readFact_21 : decode cX5_readFact 21 = .ok (.getfield 18, 3) := by decide +kernel
theorem dX5_readFact_24 : decode cX5_readFact 24 = .ok (.getfield 109, 3) := by decide +kernel
theorem dX5_readFact_27 : decode cX5_readFact 27 = .ok (.bipush 91, 2) := by decide +kernel
theorem dX5_readFact_29 : decode cX5_readFact 29 = .ok (.if_icmp .ne 7, 3) := by decide +kernel
theorem dX5_readFact_32 : decode cX5_readFact 32 = .ok (.iconst 1, 1) := by decide +kernel
theorem dX5_readFact_33 : decode cX5_readFact 33 = .ok (.goto 4, 3) := by decide +kernel
theorem dX5_readFact_36 : decode cX5_readFact 36 = .ok (.iconst 0, 1) := by decide +kernel
theorem dX5_readFact_37 : decode cX5_readFact 37 = .ok (.istore_n 3, 1) := by decide +kernel
theorem dX5_readFact_38 : decode cX5_readFact 38 = .ok (.iload_n 2, 1) := by decide +kernel
theorem dX5_readFact_39 : decode cX5_readFact 39 = .ok (.ifCond .ne 7, 3) := by decide +kernel
theorem dX5_readFact_42 : decode cX5_readFact 42 = .ok (.iload_n 3, 1) := by decide +kernel
theorem dX5_readFact_43 : decode cX5_readFact 43 = .ok (.ifCond .eq 25, 3) := by decide +kernel
theorem dX5_readFact_46 : decode cX5_readFact 46 = .ok (.iload_n 1, 1) := by decide +kernel
theorem dX5_readFact_47 : decode cX5_readFact 47 = .ok (.bipush 10, 2) := by decide +kernel
theorem dX5_readFact_49 : decode cX5_readFact 49 = .ok (.if_icmp .lt 19, 3) := by decide +kernel
theorem dX5_readFact_52 : decode cX5_readFact 52 = .ok (.aload_n 0, 1) := by decide +kernel
theorem dX5_readFact_53 : decode cX5_readFact 53 = .ok (.getfield 18, 3) := by decide +kernel
theorem dX5_readFact_56 : decode cX5_readFact 56 = .ok (.aload_n 0, 1) := by decide +kernel
theorem dX5_readFact_57 : decode cX5_readFact 57 = .ok (.getfield 18, 3) := by decide +kernel
theorem dX5_readFact_60 : decode cX5_readFact 60 = .ok (.getfield 65, 3) := by decide +kernel
theorem dX5_readFact_63 : decode cX5_readFact 63 = .ok (.iconst 2, 1) := by decide +kernel
theorem dX5_readFact_64 : decode cX5_readFact 64 = .ok (.invokevirtual 68, 3) := by decide +kernel
theorem dX5_readFact_67 : decode cX5_readFact 67 = .ok (.ireturn, 1) := by decide +kernel
theorem dX5_readFact_68 : decode cX5_readFact 68 = .ok (.iload_n 2, 1) := by decide +kernel
theorem dX5_readFact_69 : decode cX5_readFact 69 = .ok (.ifCond .eq 35, 3) := by decide +kernel
theorem dX5_readFact_72 : decode cX5_readFact 72 = .ok (.aload_n 0, 1) := by decide +kernel
theorem dX5_readFact_73 : decode cX5_readFact 73 = .ok (.getfield 18, 3) := by decide +kernel
theorem dX5_readFact_76 : decode cX5_readFact 76 = .ok (.invokevirtual 72, 3) := by decide +kernel
theorem dX5_readFact_79 : decode cX5_readFact 79 = .ok (.aload_n 0, 1) := by decide +kernel
theorem dX5_readFact_80 : decode cX5_readFact 80 = .ok (.iload_n 1, 1) := by decide +kernel
theorem dX5_readFact_81 : decode cX5_readFact 81 = .ok (.iconst 1, 1) := by decide +kernel
theorem dX5_readFact_82 : decode cX5_readFact 82 = .ok (.iadd, 1) := by decide +kernel
theorem dX5_readFact_83 : decode cX5_readFact 83 = .ok (.invokevirtual 96, 3) := by decide +kernel
theorem dX5_readFact_86 : decode cX5_readFact 86 = .ok (.ifCond .eq 16, 3) := by decide +kernel
theorem dX5_readFact_89 : decode cX5_readFact 89 = .ok (.aload_n 0, 1) := by decide +kernel
theorem dX5_readFact_90 : decode cX5_readFact 90 = .ok (.iconst 2, 1) := by decide +kernel
theorem dX5_readFact_91 : decode cX5_readFact 91 = .ok (.iconst 0, 1) := by decide +kernel
theorem dX5_readFact_92 : decode cX5_readFact 92 = .ok (.invokevirtual 87, 3) := by decide +kernel
theorem dX5_readFact_95 : decode cX5_readFact 95 = .ok (.ifCond .eq 7, 3) := by decide +kernel
theorem dX5_readFact_98 : decode cX5_readFact 98 = .ok (.iconst 1, 1) := by decide +kernel
theorem dX5_readFact_99 : decode cX5_readFact 99 = .ok (.goto 4, 3) := by decide +kernel
theorem dX5_readFact_102 : decode cX5_readFact 102 = .ok (.iconst 0, 1) := by decide +kernel
theorem dX5_readFact_103 : decode cX5_readFact 103 = .ok (.ireturn, 1) := by decide +kernel
theorem dX5_readFact_104 : decode cX5_readFact 104 = .ok (.iload_n 3, 1) := by decide +kernel
theorem dX5_readFact_105 : decode cX5_readFact 105 = .ok (.ifCond .eq 59, 3) := by decide +kernel
theorem dX5_readFact_108 : decode cX5_readFact 108 = .ok (.aload_n 0, 1) := by decide +kernel
theorem dX5_readFact_109 : decode cX5_readFact 109 = .ok (.getfield 18, 3) := by decide +kernel
theorem dX5_readFact_112 : decode cX5_readFact 112 = .ok (.invokevirtual 72, 3) := by decide +kernel
theorem dX5_readFact_115 : decode cX5_readFact 115 = .ok (.aload_n 0, 1) := by decide +kernel
theorem dX5_readFact_116 : decode cX5_readFact 116 = .ok (.iload_n 1, 1) := by decide +kernel
theorem dX5_readFact_117 : decode cX5_readFact 117 = .ok (.iconst 1, 1) := by decide +kernel
theorem dX5_readFact_118 : decode cX5_readFact 118 = .ok (.iadd, 1) := by decide +kernel
theorem dX5_readFact_119 : decode cX5_readFact 119 = .ok (.invokevirtual 80, 3) := by decide +kernel
theorem dX5_readFact_122 : decode cX5_readFact 122 = .ok (.ifCond .ne 5, 3) := by decide +kernel
theorem dX5_readFact_125 : decode cX5_readFact 125 = .ok (.iconst 0, 1) := by decide +kernel
theorem dX5_readFact_126 : decode cX5_readFact 126 = .ok (.ireturn, 1) := by decide +kernel
theorem dX5_readFact_127 : decode cX5_readFact 127 = .ok (.aload_n 0, 1) := by decide +kernel
theorem dX5_readFact_128 : decode cX5_readFact 128 = .ok (.getfield 18, 3) := by decide +kernel
theorem dX5_readFact_131 : decode cX5_readFact 131 = .ok (.getfield 109, 3) := by decide +kernel
theorem dX5_readFact_134 : decode cX5_readFact 134 = .ok (.bipush 93, 2) := by decide +kernel
theorem dX5_readFact_136 : decode cX5_readFact 136 = .ok (.if_icmp .eq 19, 3) := by decide +kernel
theorem dX5_readFact_139 : decode cX5_readFact 139 = .ok (.aload_n 0, 1) := by decide +kernel
theorem dX5_readFact_140 : decode cX5_readFact 140 = .ok (.getfield 18, 3) := by decide +kernel
theorem dX5_readFact_143 : decode cX5_readFact 143 = .ok (.aload_n 0, 1) := by decide +kernel
theorem dX5_readFact_144 : decode cX5_readFact 144 = .ok (.getfield 18, 3) := by decide +kernel
theorem dX5_readFact_147 : decode cX5_readFact 147 = .ok (.getfield 65, 3) := by decide +kernel
theorem dX5_readFact_150 : decode cX5_readFact 150 = .ok (.iconst 0, 1) := by decide +kernel
theorem dX5_readFact_151 : decode cX5_readFact 151 = .ok (.invokevirtual 68, 3) := by decide +kernel
theorem dX5_readFact_154 : decode cX5_readFact 154 = .ok (.ireturn, 1) := by decide +kernel
theorem dX5_readFact_155 : decode cX5_readFact 155 = .ok (.aload_n 0, 1) := by decide +kernel
theorem dX5_readFact_156 : decode cX5_readFact 156 = .ok (.getfield 18, 3) := by decide +kernel
theorem dX5_readFact_159 : decode cX5_readFact 159 = .ok (.invokevirtual 72, 3) := by decide +kernel
theorem dX5_readFact_162 : decode cX5_readFact 162 = .ok (.iconst 1, 1) := by decide +kernel
theorem dX5_readFact_163 : decode cX5_readFact 163 = .ok (.ireturn, 1) := by decide +kernel
theorem dX5_readFact_164 : decode cX5_readFact 164 = .ok (.aload_n 0, 1) := by decide +kernel
theorem dX5_readFact_165 : decode cX5_readFact 165 = .ok (.invokevirtual 75, 3) := by decide +kernel
theorem dX5_readFact_168 : decode cX5_readFact 168 = .ok (.ifCond .ne 5, 3) := by decide +kernel
theorem dX5_readFact_171 : decode cX5_readFact 171 = .ok (.iconst 0, 1) := by decide +kernel
theorem dX5_readFact_172 : decode cX5_readFact 172 = .ok (.ireturn, 1) := by decide +kernel
theorem dX5_readFact_173 : decode cX5_readFact 173 = .ok (.aload_n 0, 1) := by decide +kernel
theorem dX5_readFact_174 : decode cX5_readFact 174 = .ok (.getfield 18, 3) := by decide +kernel
theorem dX5_readFact_177 : decode cX5_readFact 177 = .ok (.getfield 109, 3) := by decide +kernel
theorem dX5_readFact_180 : decode cX5_readFact 180 = .ok (.invokestatic 112, 3) := by decide +kernel
theorem dX5_readFact_183 : decode cX5_readFact 183 = .ok (.istore 4, 2) := by decide +kernel
theorem dX5_readFact_185 : decode cX5_readFact 185 = .ok (.iload 4, 2) := by decide +kernel
theorem dX5_readFact_187 : decode cX5_readFact 187 = .ok (.iconst (-1), 1) := by decide +kernel
theorem dX5_readFact_188 : decode cX5_readFact 188 = .ok (.if_icmp .ne 19, 3) := by decide +kernel
theorem dX5_readFact_191 : decode cX5_readFact 191 = .ok (.aload_n 0, 1) := by decide +kernel
theorem dX5_readFact_192 : decode cX5_readFact 192 = .ok (.getfield 18, 3) := by decide +kernel
theorem dX5_readFact_195 : decode cX5_readFact 195 = .ok (.aload_n 0, 1) := by decide +kernel
theorem dX5_readFact_196 : decode cX5_readFact 196 = .ok (.getfield 18, 3) := by decide +kernel
theorem dX5_readFact_199 : decode cX5_readFact 199 = .ok (.getfield 65, 3) := by decide +kernel
theorem dX5_readFact_202 : decode cX5_readFact 202 = .ok (.iconst 0, 1) := by decide +kernel
theorem dX5_readFact_203 : decode cX5_readFact 203 = .ok (.invokevirtual 68, 3) := by decide +kernel
theorem dX5_readFact_206 : decode cX5_readFact 206 = .ok (.ireturn, 1) := by decide +kernel
theorem dX5_readFact_207 : decode cX5_readFact 207 = .ok (.aload_n 0, 1) := by decide +kernel
theorem dX5_readFact_208 : decode cX5_readFact 208 = .ok (.invokevirtual 116, 3) := by decide +kernel
theorem dX5_readFact_211 : decode cX5_readFact 211 = .ok (.ifCond .ne 19, 3) := by decide +kernel
theorem dX5_readFact_214 : decode cX5_readFact 214 = .ok (.aload_n 0, 1) := by decide +kernel
theorem dX5_readFact_215 : decode cX5_readFact 215 = .ok (.getfield 18, 3) := by decide +kernel
theorem dX5_readFact_218 : decode cX5_readFact 218 = .ok (.aload_n 0, 1) := by decide +kernel
theorem dX5_readFact_219 : decode cX5_readFact 219 = .ok (.getfield 18, 3) := by decide +kernel
theorem dX5_readFact_222 : decode cX5_readFact 222 = .ok (.getfield 65, 3) := by decide +kernel
theorem dX5_readFact_225 : decode cX5_readFact 225 = .ok (.iconst 3, 1) := by decide +kernel
theorem dX5_readFact_226 : decode cX5_readFact 226 = .ok (.invokevirtual 68, 3) := by decide +kernel
theorem dX5_readFact_229 : decode cX5_readFact 229 = .ok (.ireturn, 1) := by decide +kernel
theorem dX5_readFact_230 : decode cX5_readFact 230 = .ok (.aload_n 0, 1) := by decide +kernel
theorem dX5_readFact_231 : decode cX5_readFact 231 = .ok (.getfield 18, 3) := by decide +kernel
theorem dX5_readFact_234 : decode cX5_readFact 234 = .ok (.invokevirtual 72, 3) := by decide +kernel
theorem dX5_readFact_237 : decode cX5_readFact 237 = .ok (.aload_n 0, 1) := by decide +kernel
theorem dX5_readFact_238 : decode cX5_readFact 238 = .ok (.invokevirtual 75, 3) := by decide +kernel
theorem dX5_readFact_241 : decode cX5_readFact 241 = .ok (.ifCond .eq 17, 3) := by decide +kernel
theorem dX5_readFact_244 : decode cX5_readFact 244 = .ok (.aload_n 0, 1) := by decide +kernel
theorem dX5_readFact_245 : decode cX5_readFact 245 = .ok (.iload 4, 2) := by decide +kernel
theorem dX5_readFact_247 : decode cX5_readFact 247 = .ok (.iconst 0, 1) := by decide +kernel
theorem dX5_readFact_248 : decode cX5_readFact 248 = .ok (.invokevirtual 87, 3) := by decide +kernel
theorem dX5_readFact_251 : decode cX5_readFact 251 = .ok (.ifCond .eq 7, 3) := by decide +kernel
theorem dX5_readFact_254 : decode cX5_readFact 254 = .ok (.iconst 1, 1) := by decide +kernel
theorem dX5_readFact_255 : decode cX5_readFact 255 = .ok (.goto 4, 3) := by decide +kernel
theorem dX5_readFact_258 : decode cX5_readFact 258 = .ok (.iconst 0, 1) := by decide +kernel
theorem dX5_readFact_259 : decode cX5_readFact 259 = .ok (.ireturn, 1) := by decide +kernel
theorem dX5_compareStep_0 : decode cX5_compareStep 0 = .ok (.iload_n 0, 1) := by decide +kernel
theorem dX5_compareStep_1 : decode cX5_compareStep 1 = .ok (.lookupswitch 66 #[(60, 51), (61, 57), (62, 63), (316, 54), (318, 60)], 51) := by decide +kernel
theorem dX5_compareStep_52 : decode cX5_compareStep 52 = .ok (.bipush 12, 2) := by decide +kernel
theorem dX5_compareStep_54 : decode cX5_compareStep 54 = .ok (.ireturn, 1) := by decide +kernel
theorem dX5_compareStep_55 : decode cX5_compareStep 55 = .ok (.bipush 13, 2) := by decide +kernel
theorem dX5_compareStep_57 : decode cX5_compareStep 57 = .ok (.ireturn, 1) := by decide +kernel
theorem dX5_compareStep_58 : decode cX5_compareStep 58 = .ok (.bipush 14, 2) := by decide +kernel
theorem dX5_compareStep_60 : decode cX5_compareStep 60 = .ok (.ireturn, 1) := by decide +kernel
theorem dX5_compareStep_61 : decode cX5_compareStep 61 = .ok (.bipush 15, 2) := by decide +kernel
theorem dX5_compareStep_63 : decode cX5_compareStep 63 = .ok (.ireturn, 1) := by decide +kernel
theorem dX5_compareStep_64 : decode cX5_compareStep 64 = .ok (.bipush 16, 2) := by decide +kernel
theorem dX5_compareStep_66 : decode cX5_compareStep 66 = .ok (.ireturn, 1) := by decide +kernel
theorem dX5_compareStep_67 : decode cX5_compareStep 67 = .ok (.iconst (-1), 1) := by decide +kernel
theorem dX5_compareStep_68 : decode cX5_compareStep 68 = .ok (.ireturn, 1) := by decide +kernel
theorem dX5_readSum_0 : decode cX5_readSum 0 = .ok (.iconst (-1), 1) := by decide +kernel
theorem dX5_readSum_1 : decode cX5_readSum 1 = .ok (.istore_n 1, 1) := by decide +kernel
theorem dX5_readSum_2 : decode cX5_readSum 2 = .ok (.aload_n 0, 1) := by decide +kernel
theorem dX5_readSum_3 : decode cX5_readSum 3 = .ok (.invokevirtual 119, 3) := by decide +kernel
theorem dX5_readSum_6 : decode cX5_readSum 6 = .ok (.istore_n 2, 1) := by decide +kernel
theorem dX5_readSum_7 : decode cX5_readSum 7 = .ok (.iconst 0, 1) := by decide +kernel
theorem dX5_readSum_8 : decode cX5_readSum 8 = .ok (.istore_n 3, 1) := by decide +kernel
theorem dX5_readSum_9 : decode cX5_readSum 9 = .ok (.iload_n 3, 1) := by decide +kernel
theorem dX5_readSum_10 : decode cX5_readSum 10 = .ok (.sipush 400, 3) := by decide +kernel
theorem dX5_readSum_13 : decode cX5_readSum 13 = .ok (.if_icmp .ge 106, 3) := by decide +kernel
theorem dX5_readSum_16 : decode cX5_readSum 16 = .ok (.iload_n 2, 1) := by decide +kernel
theorem dX5_readSum_17 : decode cX5_readSum 17 = .ok (.ifCond .eq 102, 3) := by decide +kernel
theorem dX5_readSum_20 : decode cX5_readSum 20 = .ok (.aload_n 0, 1) := by decide +kernel
theorem dX5_readSum_21 : decode cX5_readSum 21 = .ok (.getfield 18, 3) := by decide +kernel
theorem dX5_readSum_24 : decode cX5_readSum 24 = .ok (.getfield 109, 3) := by decide +kernel
theorem dX5_readSum_27 : decode cX5_readSum 27 = .ok (.invokestatic 122, 3) := by decide +kernel
theorem dX5_readSum_30 : decode cX5_readSum 30 = .ok (.iconst (-1), 1) := by decide +kernel
theorem dX5_readSum_31 : decode cX5_readSum 31 = .ok (.if_icmp .eq 88, 3) := by decide +kernel
theorem dX5_readSum_34 : decode cX5_readSum 34 = .ok (.aload_n 0, 1) := by decide +kernel
theorem dX5_readSum_35 : decode cX5_readSum 35 = .ok (.getfield 18, 3) := by decide +kernel
theorem dX5_readSum_38 : decode cX5_readSum 38 = .ok (.getfield 109, 3) := by decide +kernel
theorem dX5_readSum_41 : decode cX5_readSum 41 = .ok (.invokestatic 122, 3) := by decide +kernel
theorem dX5_readSum_44 : decode cX5_readSum 44 = .ok (.istore 4, 2) := by decide +kernel
theorem dX5_readSum_46 : decode cX5_readSum 46 = .ok (.aload_n 0, 1) := by decide +kernel
theorem dX5_readSum_47 : decode cX5_readSum 47 = .ok (.getfield 18, 3) := by decide +kernel
theorem dX5_readSum_50 : decode cX5_readSum 50 = .ok (.invokevirtual 72, 3) := by decide +kernel
theorem dX5_readSum_53 : decode cX5_readSum 53 = .ok (.iload 4, 2) := by decide +kernel
theorem dX5_readSum_55 : decode cX5_readSum 55 = .ok (.bipush 7, 2) := by decide +kernel
theorem dX5_readSum_57 : decode cX5_readSum 57 = .ok (.if_icmp .eq 10, 3) := by decide +kernel
theorem dX5_readSum_60 : decode cX5_readSum 60 = .ok (.iload 4, 2) := by decide +kernel
theorem dX5_readSum_62 : decode cX5_readSum 62 = .ok (.bipush 8, 2) := by decide +kernel
theorem dX5_readSum_64 : decode cX5_readSum 64 = .ok (.if_icmp .ne 26, 3) := by decide +kernel
theorem dX5_readSum_67 : decode cX5_readSum 67 = .ok (.iload_n 1, 1) := by decide +kernel
theorem dX5_readSum_68 : decode cX5_readSum 68 = .ok (.iconst (-1), 1) := by decide +kernel
theorem dX5_readSum_69 : decode cX5_readSum 69 = .ok (.if_icmp .eq 10, 3) := by decide +kernel
theorem dX5_readSum_72 : decode cX5_readSum 72 = .ok (.aload_n 0, 1) := by decide +kernel
theorem dX5_readSum_73 : decode cX5_readSum 73 = .ok (.iload_n 1, 1) := by decide +kernel
theorem dX5_readSum_74 : decode cX5_readSum 74 = .ok (.iconst 0, 1) := by decide +kernel
theorem dX5_readSum_75 : decode cX5_readSum 75 = .ok (.invokevirtual 87, 3) := by decide +kernel
theorem dX5_readSum_78 : decode cX5_readSum 78 = .ok (.pop, 1) := by decide +kernel
theorem dX5_readSum_79 : decode cX5_readSum 79 = .ok (.iload 4, 2) := by decide +kernel
theorem dX5_readSum_81 : decode cX5_readSum 81 = .ok (.istore_n 1, 1) := by decide +kernel
theorem dX5_readSum_82 : decode cX5_readSum 82 = .ok (.aload_n 0, 1) := by decide +kernel
theorem dX5_readSum_83 : decode cX5_readSum 83 = .ok (.invokevirtual 119, 3) := by decide +kernel
theorem dX5_readSum_86 : decode cX5_readSum 86 = .ok (.istore_n 2, 1) := by decide +kernel
theorem dX5_readSum_87 : decode cX5_readSum 87 = .ok (.goto 26, 3) := by decide +kernel
theorem dX5_readSum_90 : decode cX5_readSum 90 = .ok (.aload_n 0, 1) := by decide +kernel
theorem dX5_readSum_91 : decode cX5_readSum 91 = .ok (.invokevirtual 119, 3) := by decide +kernel
theorem dX5_readSum_94 : decode cX5_readSum 94 = .ok (.ifCond .eq 17, 3) := by decide +kernel
theorem dX5_readSum_97 : decode cX5_readSum 97 = .ok (.aload_n 0, 1) := by decide +kernel
theorem dX5_readSum_98 : decode cX5_readSum 98 = .ok (.iload 4, 2) := by decide +kernel
theorem dX5_readSum_100 : decode cX5_readSum 100 = .ok (.iconst 0, 1) := by decide +kernel
theorem dX5_readSum_101 : decode cX5_readSum 101 = .ok (.invokevirtual 87, 3) := by decide +kernel
theorem dX5_readSum_104 : decode cX5_readSum 104 = .ok (.ifCond .eq 7, 3) := by decide +kernel
theorem dX5_readSum_107 : decode cX5_readSum 107 = .ok (.iconst 1, 1) := by decide +kernel
theorem dX5_readSum_108 : decode cX5_readSum 108 = .ok (.goto 4, 3) := by decide +kernel
theorem dX5_readSum_111 : decode cX5_readSum 111 = .ok (.iconst 0, 1) := by decide +kernel
theorem dX5_readSum_112 : decode cX5_readSum 112 = .ok (.istore_n 2, 1) := by decide +kernel
theorem dX5_readSum_113 : decode cX5_readSum 113 = .ok (.iinc 3 1, 3) := by decide +kernel
theorem dX5_readSum_116 : decode cX5_readSum 116 = .ok (.goto (-107), 3) := by decide +kernel
theorem dX5_readSum_119 : decode cX5_readSum 119 = .ok (.iload_n 1, 1) := by decide +kernel
theorem dX5_readSum_120 : decode cX5_readSum 120 = .ok (.iconst (-1), 1) := by decide +kernel
theorem dX5_readSum_121 : decode cX5_readSum 121 = .ok (.if_icmp .eq 10, 3) := by decide +kernel
theorem dX5_readSum_124 : decode cX5_readSum 124 = .ok (.aload_n 0, 1) := by decide +kernel
theorem dX5_readSum_125 : decode cX5_readSum 125 = .ok (.iload_n 1, 1) := by decide +kernel
theorem dX5_readSum_126 : decode cX5_readSum 126 = .ok (.iconst 0, 1) := by decide +kernel
theorem dX5_readSum_127 : decode cX5_readSum 127 = .ok (.invokevirtual 87, 3) := by decide +kernel
theorem dX5_readSum_130 : decode cX5_readSum 130 = .ok (.pop, 1) := by decide +kernel
theorem dX5_readSum_131 : decode cX5_readSum 131 = .ok (.iload_n 2, 1) := by decide +kernel
theorem dX5_readSum_132 : decode cX5_readSum 132 = .ok (.ireturn, 1) := by decide +kernel
theorem dX5_joinStep_0 : decode cX5_joinStep 0 = .ok (.iload_n 0, 1) := by decide +kernel
theorem dX5_joinStep_1 : decode cX5_joinStep 1 = .ok (.tableswitch 74 37 47 #[71, 74, 74, 74, 74, 65, 59, 74, 62, 74, 68], 59) := by decide +kernel
theorem dX5_joinStep_60 : decode cX5_joinStep 60 = .ok (.bipush 7, 2) := by decide +kernel
theorem dX5_joinStep_62 : decode cX5_joinStep 62 = .ok (.ireturn, 1) := by decide +kernel
theorem dX5_joinStep_63 : decode cX5_joinStep 63 = .ok (.bipush 8, 2) := by decide +kernel
theorem dX5_joinStep_65 : decode cX5_joinStep 65 = .ok (.ireturn, 1) := by decide +kernel
theorem dX5_joinStep_66 : decode cX5_joinStep 66 = .ok (.bipush 9, 2) := by decide +kernel
theorem dX5_joinStep_68 : decode cX5_joinStep 68 = .ok (.ireturn, 1) := by decide +kernel
theorem dX5_joinStep_69 : decode cX5_joinStep 69 = .ok (.bipush 10, 2) := by decide +kernel
theorem dX5_joinStep_71 : decode cX5_joinStep 71 = .ok (.ireturn, 1) := by decide +kernel
theorem dX5_joinStep_72 : decode cX5_joinStep 72 = .ok (.bipush 11, 2) := by decide +kernel
theorem dX5_joinStep_74 : decode cX5_joinStep 74 = .ok (.ireturn, 1) := by decide +kernel
theorem dX5_joinStep_75 : decode cX5_joinStep 75 = .ok (.iconst (-1), 1) := by decide +kernel
theorem dX5_joinStep_76 : decode cX5_joinStep 76 = .ok (.ireturn, 1) := by decide +kernel
theorem dX5_readValue_0 : decode cX5_readValue 0 = .ok (.aload_n 0, 1) := by decide +kernel
theorem dX5_readValue_1 : decode cX5_readValue 1 = .ok (.getfield 18, 3) := by decide +kernel
theorem dX5_readValue_4 : decode cX5_readValue 4 = .ok (.getfield 125, 3) := by decide +kernel
theorem dX5_readValue_7 : decode cX5_readValue 7 = .ok (.iconst 1, 1) := by decide +kernel
theorem dX5_readValue_8 : decode cX5_readValue 8 = .ok (.if_icmp .ne 31, 3) := by decide +kernel
theorem dX5_readValue_11 : decode cX5_readValue 11 = .ok (.aload_n 0, 1) := by decide +kernel
theorem dX5_readValue_12 : decode cX5_readValue 12 = .ok (.getfield 18, 3) := by decide +kernel
theorem dX5_readValue_15 : decode cX5_readValue 15 = .ok (.getfield 128, 3) := by decide +kernel
theorem dX5_readValue_18 : decode cX5_readValue 18 = .ok (.ldc 131, 2) := by decide +kernel
theorem dX5_readValue_20 : decode cX5_readValue 20 = .ok (.if_icmp .ne 19, 3) := by decide +kernel
theorem dX5_readValue_23 : decode cX5_readValue 23 = .ok (.aload_n 0, 1) := by decide +kernel
theorem dX5_readValue_24 : decode cX5_readValue 24 = .ok (.getfield 18, 3) := by decide +kernel
theorem dX5_readValue_27 : decode cX5_readValue 27 = .ok (.aload_n 0, 1) := by decide +kernel
theorem dX5_readValue_28 : decode cX5_readValue 28 = .ok (.getfield 18, 3) := by decide +kernel
theorem dX5_readValue_31 : decode cX5_readValue 31 = .ok (.getfield 65, 3) := by decide +kernel
theorem dX5_readValue_34 : decode cX5_readValue 34 = .ok (.iconst 1, 1) := by decide +kernel
theorem dX5_readValue_35 : decode cX5_readValue 35 = .ok (.invokevirtual 68, 3) := by decide +kernel
theorem dX5_readValue_38 : decode cX5_readValue 38 = .ok (.ireturn, 1) := by decide +kernel
theorem dX5_readValue_39 : decode cX5_readValue 39 = .ok (.aload_n 0, 1) := by decide +kernel
theorem dX5_readValue_40 : decode cX5_readValue 40 = .ok (.invokevirtual 132, 3) := by decide +kernel
theorem dX5_readValue_43 : decode cX5_readValue 43 = .ok (.istore_n 1, 1) := by decide +kernel
theorem dX5_readValue_44 : decode cX5_readValue 44 = .ok (.aload_n 0, 1) := by decide +kernel
theorem dX5_readValue_45 : decode cX5_readValue 45 = .ok (.getfield 18, 3) := by decide +kernel
theorem dX5_readValue_48 : decode cX5_readValue 48 = .ok (.getfield 125, 3) := by decide +kernel
theorem dX5_readValue_51 : decode cX5_readValue 51 = .ok (.iconst 1, 1) := by decide +kernel
theorem dX5_readValue_52 : decode cX5_readValue 52 = .ok (.if_icmp .eq 24, 3) := by decide +kernel
theorem dX5_readValue_55 : decode cX5_readValue 55 = .ok (.iload_n 1, 1) := by decide +kernel
theorem dX5_readValue_56 : decode cX5_readValue 56 = .ok (.iconst (-1), 1) := by decide +kernel
theorem dX5_readValue_57 : decode cX5_readValue 57 = .ok (.if_icmp .ne 19, 3) := by decide +kernel
theorem dX5_readValue_60 : decode cX5_readValue 60 = .ok (.aload_n 0, 1) := by decide +kernel
theorem dX5_readValue_61 : decode cX5_readValue 61 = .ok (.getfield 18, 3) := by decide +kernel
theorem dX5_readValue_64 : decode cX5_readValue 64 = .ok (.aload_n 0, 1) := by decide +kernel
theorem dX5_readValue_65 : decode cX5_readValue 65 = .ok (.getfield 18, 3) := by decide +kernel
theorem dX5_readValue_68 : decode cX5_readValue 68 = .ok (.getfield 65, 3) := by decide +kernel
theorem dX5_readValue_71 : decode cX5_readValue 71 = .ok (.iconst 0, 1) := by decide +kernel
theorem dX5_readValue_72 : decode cX5_readValue 72 = .ok (.invokevirtual 68, 3) := by decide +kernel
theorem dX5_readValue_75 : decode cX5_readValue 75 = .ok (.ireturn, 1) := by decide +kernel
theorem dX5_readValue_76 : decode cX5_readValue 76 = .ok (.aload_n 0, 1) := by decide +kernel
theorem dX5_readValue_77 : decode cX5_readValue 77 = .ok (.invokevirtual 116, 3) := by decide +kernel
theorem dX5_readValue_80 : decode cX5_readValue 80 = .ok (.ifCond .ne 19, 3) := by decide +kernel
theorem dX5_readValue_83 : decode cX5_readValue 83 = .ok (.aload_n 0, 1) := by decide +kernel
theorem dX5_readValue_84 : decode cX5_readValue 84 = .ok (.getfield 18, 3) := by decide +kernel
theorem dX5_readValue_87 : decode cX5_readValue 87 = .ok (.aload_n 0, 1) := by decide +kernel
theorem dX5_readValue_88 : decode cX5_readValue 88 = .ok (.getfield 18, 3) := by decide +kernel
theorem dX5_readValue_91 : decode cX5_readValue 91 = .ok (.getfield 65, 3) := by decide +kernel
theorem dX5_readValue_94 : decode cX5_readValue 94 = .ok (.iconst 3, 1) := by decide +kernel
theorem dX5_readValue_95 : decode cX5_readValue 95 = .ok (.invokevirtual 68, 3) := by decide +kernel
theorem dX5_readValue_98 : decode cX5_readValue 98 = .ok (.ireturn, 1) := by decide +kernel
theorem dX5_readValue_99 : decode cX5_readValue 99 = .ok (.iload_n 1, 1) := by decide +kernel
theorem dX5_readValue_100 : decode cX5_readValue 100 = .ok (.iconst (-1), 1) := by decide +kernel
theorem dX5_readValue_101 : decode cX5_readValue 101 = .ok (.if_icmp .ne 19, 3) := by decide +kernel
theorem dX5_readValue_104 : decode cX5_readValue 104 = .ok (.aload_n 0, 1) := by decide +kernel
theorem dX5_readValue_105 : decode cX5_readValue 105 = .ok (.iconst 0, 1) := by decide +kernel
theorem dX5_readValue_106 : decode cX5_readValue 106 = .ok (.aload_n 0, 1) := by decide +kernel
theorem dX5_readValue_107 : decode cX5_readValue 107 = .ok (.getfield 18, 3) := by decide +kernel
theorem dX5_readValue_110 : decode cX5_readValue 110 = .ok (.getfield 128, 3) := by decide +kernel
theorem dX5_readValue_113 : decode cX5_readValue 113 = .ok (.invokevirtual 87, 3) := by decide +kernel
theorem dX5_readValue_116 : decode cX5_readValue 116 = .ok (.pop, 1) := by decide +kernel
theorem dX5_readValue_117 : decode cX5_readValue 117 = .ok (.goto 22, 3) := by decide +kernel
theorem dX5_readValue_120 : decode cX5_readValue 120 = .ok (.aload_n 0, 1) := by decide +kernel
theorem dX5_readValue_121 : decode cX5_readValue 121 = .ok (.iconst 1, 1) := by decide +kernel
theorem dX5_readValue_122 : decode cX5_readValue 122 = .ok (.iload_n 1, 1) := by decide +kernel
theorem dX5_readValue_123 : decode cX5_readValue 123 = .ok (.invokevirtual 87, 3) := by decide +kernel
theorem dX5_readValue_126 : decode cX5_readValue 126 = .ok (.pop, 1) := by decide +kernel
theorem dX5_readValue_127 : decode cX5_readValue 127 = .ok (.aload_n 0, 1) := by decide +kernel
theorem dX5_readValue_128 : decode cX5_readValue 128 = .ok (.dup, 1) := by decide +kernel
theorem dX5_readValue_129 : decode cX5_readValue 129 = .ok (.getfield 34, 3) := by decide +kernel
theorem dX5_readValue_132 : decode cX5_readValue 132 = .ok (.iconst 1, 1) := by decide +kernel
theorem dX5_readValue_133 : decode cX5_readValue 133 = .ok (.iload_n 1, 1) := by decide +kernel
theorem dX5_readValue_134 : decode cX5_readValue 134 = .ok (.ishl, 1) := by decide +kernel
theorem dX5_readValue_135 : decode cX5_readValue 135 = .ok (.ior, 1) := by decide +kernel
theorem dX5_readValue_136 : decode cX5_readValue 136 = .ok (.putfield 34, 3) := by decide +kernel
theorem dX5_readValue_139 : decode cX5_readValue 139 = .ok (.aload_n 0, 1) := by decide +kernel
theorem dX5_readValue_140 : decode cX5_readValue 140 = .ok (.getfield 18, 3) := by decide +kernel
theorem dX5_readValue_143 : decode cX5_readValue 143 = .ok (.invokevirtual 72, 3) := by decide +kernel
theorem dX5_readValue_146 : decode cX5_readValue 146 = .ok (.iconst 1, 1) := by decide +kernel
theorem dX5_readValue_147 : decode cX5_readValue 147 = .ok (.ireturn, 1) := by decide +kernel
theorem dX5_wordFound_0 : decode cX5_wordFound 0 = .ok (.iconst 0, 1) := by decide +kernel
theorem dX5_wordFound_1 : decode cX5_wordFound 1 = .ok (.istore_n 1, 1) := by decide +kernel
theorem dX5_wordFound_2 : decode cX5_wordFound 2 = .ok (.iload_n 1, 1) := by decide +kernel
theorem dX5_wordFound_3 : decode cX5_wordFound 3 = .ok (.getstatic 136, 3) := by decide +kernel
theorem dX5_wordFound_6 : decode cX5_wordFound 6 = .ok (.arraylength, 1) := by decide +kernel
theorem dX5_wordFound_7 : decode cX5_wordFound 7 = .ok (.if_icmp .ge 27, 3) := by decide +kernel
theorem dX5_wordFound_10 : decode cX5_wordFound 10 = .ok (.aload_n 0, 1) := by decide +kernel
theorem dX5_wordFound_11 : decode cX5_wordFound 11 = .ok (.getfield 18, 3) := by decide +kernel
theorem dX5_wordFound_14 : decode cX5_wordFound 14 = .ok (.getfield 59, 3) := by decide +kernel
theorem dX5_wordFound_17 : decode cX5_wordFound 17 = .ok (.getstatic 136, 3) := by decide +kernel
theorem dX5_wordFound_20 : decode cX5_wordFound 20 = .ok (.iload_n 1, 1) := by decide +kernel
theorem dX5_wordFound_21 : decode cX5_wordFound 21 = .ok (.laload, 1) := by decide +kernel
theorem dX5_wordFound_22 : decode cX5_wordFound 22 = .ok (.lcmp, 1) := by decide +kernel
theorem dX5_wordFound_23 : decode cX5_wordFound 23 = .ok (.ifCond .ne 5, 3) := by decide +kernel
theorem dX5_wordFound_26 : decode cX5_wordFound 26 = .ok (.iload_n 1, 1) := by decide +kernel
theorem dX5_wordFound_27 : decode cX5_wordFound 27 = .ok (.ireturn, 1) := by decide +kernel
theorem dX5_wordFound_28 : decode cX5_wordFound 28 = .ok (.iinc 1 1, 3) := by decide +kernel
theorem dX5_wordFound_31 : decode cX5_wordFound 31 = .ok (.goto (-29), 3) := by decide +kernel
theorem dX5_wordFound_34 : decode cX5_wordFound 34 = .ok (.iconst (-1), 1) := by decide +kernel
theorem dX5_wordFound_35 : decode cX5_wordFound 35 = .ok (.ireturn, 1) := by decide +kernel
theorem dX5_counts_0 : decode cX5_counts 0 = .ok (.aload_n 0, 1) := by decide +kernel
theorem dX5_counts_1 : decode cX5_counts 1 = .ok (.dup, 1) := by decide +kernel
theorem dX5_counts_2 : decode cX5_counts 2 = .ok (.getfield 31, 3) := by decide +kernel
theorem dX5_counts_5 : decode cX5_counts 5 = .ok (.iconst 1, 1) := by decide +kernel
theorem dX5_counts_6 : decode cX5_counts 6 = .ok (.iadd, 1) := by decide +kernel
theorem dX5_counts_7 : decode cX5_counts 7 = .ok (.putfield 31, 3) := by decide +kernel
theorem dX5_counts_10 : decode cX5_counts 10 = .ok (.aload_n 0, 1) := by decide +kernel
theorem dX5_counts_11 : decode cX5_counts 11 = .ok (.getfield 31, 3) := by decide +kernel
theorem dX5_counts_14 : decode cX5_counts 14 = .ok (.bipush 60, 2) := by decide +kernel
theorem dX5_counts_16 : decode cX5_counts 16 = .ok (.if_icmp .gt 7, 3) := by decide +kernel
theorem dX5_counts_19 : decode cX5_counts 19 = .ok (.iconst 1, 1) := by decide +kernel
theorem dX5_counts_20 : decode cX5_counts 20 = .ok (.goto 4, 3) := by decide +kernel
theorem dX5_counts_23 : decode cX5_counts 23 = .ok (.iconst 0, 1) := by decide +kernel
theorem dX5_counts_24 : decode cX5_counts 24 = .ok (.ireturn, 1) := by decide +kernel
theorem dX5_put_0 : decode cX5_put 0 = .ok (.aload_n 0, 1) := by decide +kernel
theorem dX5_put_1 : decode cX5_put 1 = .ok (.getfield 27, 3) := by decide +kernel
theorem dX5_put_4 : decode cX5_put 4 = .ok (.aload_n 0, 1) := by decide +kernel
theorem dX5_put_5 : decode cX5_put 5 = .ok (.getfield 9, 3) := by decide +kernel
theorem dX5_put_8 : decode cX5_put 8 = .ok (.arraylength, 1) := by decide +kernel
theorem dX5_put_9 : decode cX5_put 9 = .ok (.if_icmp .ge 28, 3) := by decide +kernel
theorem dX5_put_12 : decode cX5_put 12 = .ok (.aload_n 0, 1) := by decide +kernel
theorem dX5_put_13 : decode cX5_put 13 = .ok (.getfield 9, 3) := by decide +kernel
theorem dX5_put_16 : decode cX5_put 16 = .ok (.aload_n 0, 1) := by decide +kernel
theorem dX5_put_17 : decode cX5_put 17 = .ok (.getfield 27, 3) := by decide +kernel
theorem dX5_put_20 : decode cX5_put 20 = .ok (.iload_n 1, 1) := by decide +kernel
theorem dX5_put_21 : decode cX5_put 21 = .ok (.bipush 20, 2) := by decide +kernel
theorem dX5_put_23 : decode cX5_put 23 = .ok (.ishl, 1) := by decide +kernel
theorem dX5_put_24 : decode cX5_put 24 = .ok (.iload_n 2, 1) := by decide +kernel
theorem dX5_put_25 : decode cX5_put 25 = .ok (.ior, 1) := by decide +kernel
theorem dX5_put_26 : decode cX5_put 26 = .ok (.iastore, 1) := by decide +kernel
theorem dX5_put_27 : decode cX5_put 27 = .ok (.aload_n 0, 1) := by decide +kernel
theorem dX5_put_28 : decode cX5_put 28 = .ok (.dup, 1) := by decide +kernel
theorem dX5_put_29 : decode cX5_put 29 = .ok (.getfield 27, 3) := by decide +kernel
theorem dX5_put_32 : decode cX5_put 32 = .ok (.iconst 1, 1) := by decide +kernel
theorem dX5_put_33 : decode cX5_put 33 = .ok (.iadd, 1) := by decide +kernel
theorem dX5_put_34 : decode cX5_put 34 = .ok (.putfield 27, 3) := by decide +kernel
theorem dX5_put_37 : decode cX5_put 37 = .ok (.iconst 1, 1) := by decide +kernel
theorem dX5_put_38 : decode cX5_put 38 = .ok (.ireturn, 1) := by decide +kernel
theorem dX5_land_0 : decode cX5_land 0 = .ok (.iload_n 1, 1) := by decide +kernel
theorem dX5_land_1 : decode cX5_land 1 = .ok (.iconst (-1), 1) := by decide +kernel
theorem dX5_land_2 : decode cX5_land 2 = .ok (.if_icmp .eq 28, 3) := by decide +kernel
theorem dX5_land_5 : decode cX5_land 5 = .ok (.iload_n 1, 1) := by decide +kernel
theorem dX5_land_6 : decode cX5_land 6 = .ok (.aload_n 0, 1) := by decide +kernel
theorem dX5_land_7 : decode cX5_land 7 = .ok (.getfield 27, 3) := by decide +kernel
theorem dX5_land_10 : decode cX5_land 10 = .ok (.if_icmp .ge 20, 3) := by decide +kernel
theorem dX5_land_13 : decode cX5_land 13 = .ok (.aload_n 0, 1) := by decide +kernel
theorem dX5_land_14 : decode cX5_land 14 = .ok (.getfield 9, 3) := by decide +kernel
theorem dX5_land_17 : decode cX5_land 17 = .ok (.iload_n 1, 1) := by decide +kernel
theorem dX5_land_18 : decode cX5_land 18 = .ok (.dup2, 1) := by decide +kernel
theorem dX5_land_19 : decode cX5_land 19 = .ok (.iaload, 1) := by decide +kernel
theorem dX5_land_20 : decode cX5_land 20 = .ok (.aload_n 0, 1) := by decide +kernel
theorem dX5_land_21 : decode cX5_land 21 = .ok (.getfield 27, 3) := by decide +kernel
theorem dX5_land_24 : decode cX5_land 24 = .ok (.iload_n 1, 1) := by decide +kernel
theorem dX5_land_25 : decode cX5_land 25 = .ok (.isub, 1) := by decide +kernel
theorem dX5_land_26 : decode cX5_land 26 = .ok (.iconst 1, 1) := by decide +kernel
theorem dX5_land_27 : decode cX5_land 27 = .ok (.isub, 1) := by decide +kernel
theorem dX5_land_28 : decode cX5_land 28 = .ok (.ior, 1) := by decide +kernel
theorem dX5_land_29 : decode cX5_land 29 = .ok (.iastore, 1) := by decide +kernel
theorem dX5_land_30 : decode cX5_land 30 = .ok (.return_, 1) := by decide +kernel
theorem dX0_init_0 : decode cX0_init 0 = .ok (.aload_n 0, 1) := by decide +kernel
theorem dX0_init_1 : decode cX0_init 1 = .ok (.invokespecial 3, 3) := by decide +kernel
theorem dX0_init_4 : decode cX0_init 4 = .ok (.aload_n 0, 1) := by decide +kernel
theorem dX0_init_5 : decode cX0_init 5 = .ok (.iconst 4, 1) := by decide +kernel
theorem dX0_init_6 : decode cX0_init 6 = .ok (.newarray .int, 2) := by decide +kernel
theorem dX0_init_8 : decode cX0_init 8 = .ok (.putfield 9, 3) := by decide +kernel
theorem dX0_init_11 : decode cX0_init 11 = .ok (.aload_n 0, 1) := by decide +kernel
theorem dX0_init_12 : decode cX0_init 12 = .ok (.new 15, 3) := by decide +kernel
theorem dX0_init_15 : decode cX0_init 15 = .ok (.dup, 1) := by decide +kernel
theorem dX0_init_16 : decode cX0_init 16 = .ok (.invokespecial 17, 3) := by decide +kernel
theorem dX0_init_19 : decode cX0_init 19 = .ok (.putfield 18, 3) := by decide +kernel
theorem dX0_init_22 : decode cX0_init 22 = .ok (.aload_n 0, 1) := by decide +kernel
theorem dX0_init_23 : decode cX0_init 23 = .ok (.iconst 5, 1) := by decide +kernel
theorem dX0_init_24 : decode cX0_init 24 = .ok (.anewarray 15, 3) := by decide +kernel
theorem dX0_init_27 : decode cX0_init 27 = .ok (.putfield 22, 3) := by decide +kernel
theorem dX0_init_30 : decode cX0_init 30 = .ok (.aload_n 0, 1) := by decide +kernel
theorem dX0_init_31 : decode cX0_init 31 = .ok (.bipush 7, 2) := by decide +kernel
theorem dX0_init_33 : decode cX0_init 33 = .ok (.newarray .boolean, 2) := by decide +kernel
theorem dX0_init_35 : decode cX0_init 35 = .ok (.putfield 26, 3) := by decide +kernel
theorem dX0_init_38 : decode cX0_init 38 = .ok (.aload_n 0, 1) := by decide +kernel
theorem dX0_init_39 : decode cX0_init 39 = .ok (.bipush 35, 2) := by decide +kernel
theorem dX0_init_41 : decode cX0_init 41 = .ok (.newarray .int, 2) := by decide +kernel
theorem dX0_init_43 : decode cX0_init 43 = .ok (.putfield 30, 3) := by decide +kernel
theorem dX0_init_46 : decode cX0_init 46 = .ok (.aload_n 0, 1) := by decide +kernel
theorem dX0_init_47 : decode cX0_init 47 = .ok (.aload_n 1, 1) := by decide +kernel
theorem dX0_init_48 : decode cX0_init 48 = .ok (.putfield 33, 3) := by decide +kernel
theorem dX0_init_51 : decode cX0_init 51 = .ok (.aload_n 0, 1) := by decide +kernel
theorem dX0_init_52 : decode cX0_init 52 = .ok (.aload_n 1, 1) := by decide +kernel
theorem dX0_init_53 : decode cX0_init 53 = .ok (.getfield 37, 3) := by decide +kernel
theorem dX0_init_56 : decode cX0_init 56 = .ok (.putfield 43, 3) := by decide +kernel
theorem dX0_init_59 : decode cX0_init 59 = .ok (.aload_n 0, 1) := by decide +kernel
theorem dX0_init_60 : decode cX0_init 60 = .ok (.aload_n 2, 1) := by decide +kernel
theorem dX0_init_61 : decode cX0_init 61 = .ok (.putfield 44, 3) := by decide +kernel
theorem dX0_init_64 : decode cX0_init 64 = .ok (.iconst 0, 1) := by decide +kernel
theorem dX0_init_65 : decode cX0_init 65 = .ok (.istore_n 3, 1) := by decide +kernel
theorem dX0_init_66 : decode cX0_init 66 = .ok (.iload_n 3, 1) := by decide +kernel
theorem dX0_init_67 : decode cX0_init 67 = .ok (.iconst 5, 1) := by decide +kernel
theorem dX0_init_68 : decode cX0_init 68 = .ok (.if_icmp .ge 22, 3) := by decide +kernel
theorem dX0_init_71 : decode cX0_init 71 = .ok (.aload_n 0, 1) := by decide +kernel
theorem dX0_init_72 : decode cX0_init 72 = .ok (.getfield 22, 3) := by decide +kernel
theorem dX0_init_75 : decode cX0_init 75 = .ok (.iload_n 3, 1) := by decide +kernel
theorem dX0_init_76 : decode cX0_init 76 = .ok (.new 15, 3) := by decide +kernel
theorem dX0_init_79 : decode cX0_init 79 = .ok (.dup, 1) := by decide +kernel
theorem dX0_init_80 : decode cX0_init 80 = .ok (.invokespecial 17, 3) := by decide +kernel
theorem dX0_init_83 : decode cX0_init 83 = .ok (.aastore, 1) := by decide +kernel
theorem dX0_init_84 : decode cX0_init 84 = .ok (.iinc 3 1, 3) := by decide +kernel
theorem dX0_init_87 : decode cX0_init 87 = .ok (.goto (-21), 3) := by decide +kernel
theorem dX0_init_90 : decode cX0_init 90 = .ok (.return_, 1) := by decide +kernel
theorem dX0_later_0 : decode cX0_later 0 = .ok (.aload_n 0, 1) := by decide +kernel
theorem dX0_later_1 : decode cX0_later 1 = .ok (.getfield 18, 3) := by decide +kernel
theorem dX0_later_4 : decode cX0_later 4 = .ok (.aload_n 0, 1) := by decide +kernel
theorem dX0_later_5 : decode cX0_later 5 = .ok (.getfield 33, 3) := by decide +kernel
theorem dX0_later_8 : decode cX0_later 8 = .ok (.getfield 48, 3) := by decide +kernel
theorem dX0_later_11 : decode cX0_later 11 = .ok (.invokevirtual 51, 3) := by decide +kernel
theorem dX0_later_14 : decode cX0_later 14 = .ok (.aload_n 0, 1) := by decide +kernel
theorem dX0_later_15 : decode cX0_later 15 = .ok (.getfield 44, 3) := by decide +kernel
theorem dX0_later_18 : decode cX0_later 18 = .ok (.aload_n 0, 1) := by decide +kernel
theorem dX0_later_19 : decode cX0_later 19 = .ok (.getfield 18, 3) := by decide +kernel
theorem dX0_later_22 : decode cX0_later 22 = .ok (.iload_n 1, 1) := by decide +kernel
theorem dX0_later_23 : decode cX0_later 23 = .ok (.iconst 1, 1) := by decide +kernel
theorem dX0_later_24 : decode cX0_later 24 = .ok (.invokevirtual 55, 3) := by decide +kernel
theorem dX0_later_27 : decode cX0_later 27 = .ok (.aload_n 0, 1) := by decide +kernel
theorem dX0_later_28 : decode cX0_later 28 = .ok (.getfield 18, 3) := by decide +kernel
theorem dX0_later_31 : decode cX0_later 31 = .ok (.areturn, 1) := by decide +kernel
theorem dX0_findPassing_0 : decode cX0_findPassing 0 = .ok (.aload_n 0, 1) := by decide +kernel
theorem dX0_findPassing_1 : decode cX0_findPassing 1 = .ok (.getfield 18, 3) := by decide +kernel
theorem dX0_findPassing_4 : decode cX0_findPassing 4 = .ok (.aload_n 0, 1) := by decide +kernel
theorem dX0_findPassing_5 : decode cX0_findPassing 5 = .ok (.getfield 33, 3) := by decide +kernel
theorem dX0_findPassing_8 : decode cX0_findPassing 8 = .ok (.getfield 48, 3) := by decide +kernel
theorem dX0_findPassing_11 : decode cX0_findPassing 11 = .ok (.invokevirtual 51, 3) := by decide +kernel
theorem dX0_findPassing_14 : decode cX0_findPassing 14 = .ok (.iconst 0, 1) := by decide +kernel
theorem dX0_findPassing_15 : decode cX0_findPassing 15 = .ok (.istore_n 2, 1) := by decide +kernel
theorem dX0_findPassing_16 : decode cX0_findPassing 16 = .ok (.iload_n 2, 1) := by decide +kernel
theorem dX0_findPassing_17 : decode cX0_findPassing 17 = .ok (.bipush 100, 2) := by decide +kernel
theorem dX0_findPassing_19 : decode cX0_findPassing 19 = .ok (.if_icmp .ge 53, 3) := by decide +kernel
theorem dX0_findPassing_22 : decode cX0_findPassing 22 = .ok (.aload_n 0, 1) := by decide +kernel
theorem dX0_findPassing_23 : decode cX0_findPassing 23 = .ok (.aload_n 0, 1) := by decide +kernel
theorem dX0_findPassing_24 : decode cX0_findPassing 24 = .ok (.getfield 18, 3) := by decide +kernel
theorem dX0_findPassing_27 : decode cX0_findPassing 27 = .ok (.getfield 61, 3) := by decide +kernel
theorem dX0_findPassing_30 : decode cX0_findPassing 30 = .ok (.putfield 65, 3) := by decide +kernel
theorem dX0_findPassing_33 : decode cX0_findPassing 33 = .ok (.aload_n 0, 1) := by decide +kernel
theorem dX0_findPassing_34 : decode cX0_findPassing 34 = .ok (.getfield 44, 3) := by decide +kernel
theorem dX0_findPassing_37 : decode cX0_findPassing 37 = .ok (.aload_n 0, 1) := by decide +kernel
theorem dX0_findPassing_38 : decode cX0_findPassing 38 = .ok (.getfield 18, 3) := by decide +kernel
theorem dX0_findPassing_41 : decode cX0_findPassing 41 = .ok (.invokevirtual 68, 3) := by decide +kernel
theorem dX0_findPassing_44 : decode cX0_findPassing 44 = .ok (.iload_n 1, 1) := by decide +kernel
theorem dX0_findPassing_45 : decode cX0_findPassing 45 = .ok (.ishr, 1) := by decide +kernel
theorem dX0_findPassing_46 : decode cX0_findPassing 46 = .ok (.iconst 1, 1) := by decide +kernel
theorem dX0_findPassing_47 : decode cX0_findPassing 47 = .ok (.iand, 1) := by decide +kernel
theorem dX0_findPassing_48 : decode cX0_findPassing 48 = .ok (.ifCond .eq 18, 3) := by decide +kernel
theorem dX0_findPassing_51 : decode cX0_findPassing 51 = .ok (.aload_n 0, 1) := by decide +kernel
theorem dX0_findPassing_52 : decode cX0_findPassing 52 = .ok (.aload_n 0, 1) := by decide +kernel
theorem dX0_findPassing_53 : decode cX0_findPassing 53 = .ok (.getfield 44, 3) := by decide +kernel
theorem dX0_findPassing_56 : decode cX0_findPassing 56 = .ok (.getfield 72, 3) := by decide +kernel
theorem dX0_findPassing_59 : decode cX0_findPassing 59 = .ok (.iload_n 1, 1) := by decide +kernel
theorem dX0_findPassing_60 : decode cX0_findPassing 60 = .ok (.iaload, 1) := by decide +kernel
theorem dX0_findPassing_61 : decode cX0_findPassing 61 = .ok (.putfield 75, 3) := by decide +kernel
theorem dX0_findPassing_64 : decode cX0_findPassing 64 = .ok (.iconst 1, 1) := by decide +kernel
theorem dX0_findPassing_65 : decode cX0_findPassing 65 = .ok (.ireturn, 1) := by decide +kernel
theorem dX0_findPassing_66 : decode cX0_findPassing 66 = .ok (.iinc 2 1, 3) := by decide +kernel
theorem dX0_findPassing_69 : decode cX0_findPassing 69 = .ok (.goto (-53), 3) := by decide +kernel
theorem dX0_findPassing_72 : decode cX0_findPassing 72 = .ok (.iconst 0, 1) := by decide +kernel
theorem dX0_findPassing_73 : decode cX0_findPassing 73 = .ok (.ireturn, 1) := by decide +kernel
theorem dX0_placeOf_0 : decode cX0_placeOf 0 = .ok (.aload_n 0, 1) := by decide +kernel
theorem dX0_placeOf_1 : decode cX0_placeOf 1 = .ok (.bipush 100, 2) := by decide +kernel
theorem dX0_placeOf_3 : decode cX0_placeOf 3 = .ok (.invokevirtual 78, 3) := by decide +kernel
theorem dX0_placeOf_6 : decode cX0_placeOf 6 = .ok (.astore_n 2, 1) := by decide +kernel
theorem dX0_placeOf_7 : decode cX0_placeOf 7 = .ok (.iconst 0, 1) := by decide +kernel
theorem dX0_placeOf_8 : decode cX0_placeOf 8 = .ok (.istore_n 3, 1) := by decide +kernel
theorem dX0_placeOf_9 : decode cX0_placeOf 9 = .ok (.iconst 0, 1) := by decide +kernel
theorem dX0_placeOf_10 : decode cX0_placeOf 10 = .ok (.istore 4, 2) := by decide +kernel
theorem dX0_placeOf_12 : decode cX0_placeOf 12 = .ok (.iload 4, 2) := by decide +kernel
theorem dX0_placeOf_14 : decode cX0_placeOf 14 = .ok (.aload_n 0, 1) := by decide +kernel
theorem dX0_placeOf_15 : decode cX0_placeOf 15 = .ok (.getfield 43, 3) := by decide +kernel
theorem dX0_placeOf_18 : decode cX0_placeOf 18 = .ok (.getfield 82, 3) := by decide +kernel
theorem dX0_placeOf_21 : decode cX0_placeOf 21 = .ok (.if_icmp .ge 47, 3) := by decide +kernel
theorem dX0_placeOf_24 : decode cX0_placeOf 24 = .ok (.aload_n 2, 1) := by decide +kernel
theorem dX0_placeOf_25 : decode cX0_placeOf 25 = .ok (.iload 4, 2) := by decide +kernel
theorem dX0_placeOf_27 : decode cX0_placeOf 27 = .ok (.invokestatic 87, 3) := by decide +kernel
theorem dX0_placeOf_30 : decode cX0_placeOf 30 = .ok (.istore 5, 2) := by decide +kernel
theorem dX0_placeOf_32 : decode cX0_placeOf 32 = .ok (.aload_n 2, 1) := by decide +kernel
theorem dX0_placeOf_33 : decode cX0_placeOf 33 = .ok (.iload_n 1, 1) := by decide +kernel
theorem dX0_placeOf_34 : decode cX0_placeOf 34 = .ok (.invokestatic 87, 3) := by decide +kernel
theorem dX0_placeOf_37 : decode cX0_placeOf 37 = .ok (.istore 6, 2) := by decide +kernel
theorem dX0_placeOf_39 : decode cX0_placeOf 39 = .ok (.iload 5, 2) := by decide +kernel
theorem dX0_placeOf_41 : decode cX0_placeOf 41 = .ok (.iload 6, 2) := by decide +kernel
theorem dX0_placeOf_43 : decode cX0_placeOf 43 = .ok (.if_icmp .lt 16, 3) := by decide +kernel
theorem dX0_placeOf_46 : decode cX0_placeOf 46 = .ok (.iload 5, 2) := by decide +kernel
theorem dX0_placeOf_48 : decode cX0_placeOf 48 = .ok (.iload 6, 2) := by decide +kernel
theorem dX0_placeOf_50 : decode cX0_placeOf 50 = .ok (.if_icmp .ne 12, 3) := by decide +kernel
theorem dX0_placeOf_53 : decode cX0_placeOf 53 = .ok (.iload 4, 2) := by decide +kernel
theorem dX0_placeOf_55 : decode cX0_placeOf 55 = .ok (.iload_n 1, 1) := by decide +kernel
theorem dX0_placeOf_56 : decode cX0_placeOf 56 = .ok (.if_icmp .ge 6, 3) := by decide +kernel
theorem dX0_placeOf_59 : decode cX0_placeOf 59 = .ok (.iinc 3 1, 3) := by decide +kernel
theorem dX0_placeOf_62 : decode cX0_placeOf 62 = .ok (.iinc 4 1, 3) := by decide +kernel
theorem dX0_placeOf_65 : decode cX0_placeOf 65 = .ok (.goto (-53), 3) := by decide +kernel
theorem dX0_placeOf_68 : decode cX0_placeOf 68 = .ok (.iload_n 3, 1) := by decide +kernel
theorem dX0_placeOf_69 : decode cX0_placeOf 69 = .ok (.ireturn, 1) := by decide +kernel
theorem dX0_passingOf_0 : decode cX0_passingOf 0 = .ok (.aload_n 0, 1) := by decide +kernel
theorem dX0_passingOf_1 : decode cX0_passingOf 1 = .ok (.getfield 91, 3) := by decide +kernel
theorem dX0_passingOf_4 : decode cX0_passingOf 4 = .ok (.iload_n 1, 1) := by decide +kernel
theorem dX0_passingOf_5 : decode cX0_passingOf 5 = .ok (.iaload, 1) := by decide +kernel
theorem dX0_passingOf_6 : decode cX0_passingOf 6 = .ok (.iconst (-1), 1) := by decide +kernel
theorem dX0_passingOf_7 : decode cX0_passingOf 7 = .ok (.if_icmp .ne 8, 3) := by decide +kernel
theorem dX0_passingOf_10 : decode cX0_passingOf 10 = .ok (.ldc 94, 2) := by decide +kernel
theorem dX0_passingOf_12 : decode cX0_passingOf 12 = .ok (.goto 9, 3) := by decide +kernel
theorem dX0_passingOf_15 : decode cX0_passingOf 15 = .ok (.aload_n 0, 1) := by decide +kernel
theorem dX0_passingOf_16 : decode cX0_passingOf 16 = .ok (.getfield 91, 3) := by decide +kernel
theorem dX0_passingOf_19 : decode cX0_passingOf 19 = .ok (.iload_n 1, 1) := by decide +kernel
theorem dX0_passingOf_20 : decode cX0_passingOf 20 = .ok (.iaload, 1) := by decide +kernel
theorem dX0_passingOf_21 : decode cX0_passingOf 21 = .ok (.ireturn, 1) := by decide +kernel
theorem dX0_findRow_0 : decode cX0_findRow 0 = .ok (.iconst 0, 1) := by decide +kernel
theorem dX0_findRow_1 : decode cX0_findRow 1 = .ok (.istore_n 3, 1) := by decide +kernel
theorem dX0_findRow_2 : decode cX0_findRow 2 = .ok (.iload_n 3, 1) := by decide +kernel
theorem dX0_findRow_3 : decode cX0_findRow 3 = .ok (.iload_n 2, 1) := by decide +kernel
theorem dX0_findRow_4 : decode cX0_findRow 4 = .ok (.if_icmp .ge 37, 3) := by decide +kernel
theorem dX0_findRow_7 : decode cX0_findRow 7 = .ok (.aload_n 0, 1) := by decide +kernel
theorem dX0_findRow_8 : decode cX0_findRow 8 = .ok (.getfield 22, 3) := by decide +kernel
theorem dX0_findRow_11 : decode cX0_findRow 11 = .ok (.iconst 0, 1) := by decide +kernel
theorem dX0_findRow_12 : decode cX0_findRow 12 = .ok (.aaload, 1) := by decide +kernel
theorem dX0_findRow_13 : decode cX0_findRow 13 = .ok (.aload_n 0, 1) := by decide +kernel
theorem dX0_findRow_14 : decode cX0_findRow 14 = .ok (.getfield 33, 3) := by decide +kernel
theorem dX0_findRow_17 : decode cX0_findRow 17 = .ok (.getfield 48, 3) := by decide +kernel
theorem dX0_findRow_20 : decode cX0_findRow 20 = .ok (.invokevirtual 51, 3) := by decide +kernel
theorem dX0_findRow_23 : decode cX0_findRow 23 = .ok (.aload_n 0, 1) := by decide +kernel
theorem dX0_findRow_24 : decode cX0_findRow 24 = .ok (.iload_n 1, 1) := by decide +kernel
theorem dX0_findRow_25 : decode cX0_findRow 25 = .ok (.iconst 0, 1) := by decide +kernel
theorem dX0_findRow_26 : decode cX0_findRow 26 = .ok (.iload_n 3, 1) := by decide +kernel
theorem dX0_findRow_27 : decode cX0_findRow 27 = .ok (.invokevirtual 95, 3) := by decide +kernel
theorem dX0_findRow_30 : decode cX0_findRow 30 = .ok (.ifCond .eq 5, 3) := by decide +kernel
theorem dX0_findRow_33 : decode cX0_findRow 33 = .ok (.iload_n 3, 1) := by decide +kernel
theorem dX0_findRow_34 : decode cX0_findRow 34 = .ok (.ireturn, 1) := by decide +kernel
theorem dX0_findRow_35 : decode cX0_findRow 35 = .ok (.iinc 3 1, 3) := by decide +kernel
theorem dX0_findRow_38 : decode cX0_findRow 38 = .ok (.goto (-36), 3) := by decide +kernel
theorem dX0_findRow_41 : decode cX0_findRow 41 = .ok (.iconst (-1), 1) := by decide +kernel
theorem dX0_findRow_42 : decode cX0_findRow 42 = .ok (.ireturn, 1) := by decide +kernel
theorem dX0_rowFound_0 : decode cX0_rowFound 0 = .ok (.aload_n 0, 1) := by decide +kernel
theorem dX0_rowFound_1 : decode cX0_rowFound 1 = .ok (.getfield 22, 3) := by decide +kernel
theorem dX0_rowFound_4 : decode cX0_rowFound 4 = .ok (.iload_n 2, 1) := by decide +kernel
theorem dX0_rowFound_5 : decode cX0_rowFound 5 = .ok (.aaload, 1) := by decide +kernel
theorem dX0_rowFound_6 : decode cX0_rowFound 6 = .ok (.astore 4, 2) := by decide +kernel
theorem dX0_rowFound_8 : decode cX0_rowFound 8 = .ok (.aload_n 0, 1) := by decide +kernel
theorem dX0_rowFound_9 : decode cX0_rowFound 9 = .ok (.getfield 44, 3) := by decide +kernel
theorem dX0_rowFound_12 : decode cX0_rowFound 12 = .ok (.aload 4, 2) := by decide +kernel
theorem dX0_rowFound_14 : decode cX0_rowFound 14 = .ok (.invokevirtual 99, 3) := by decide +kernel
theorem dX0_rowFound_17 : decode cX0_rowFound 17 = .ok (.aload_n 0, 1) := by decide +kernel
theorem dX0_rowFound_18 : decode cX0_rowFound 18 = .ok (.getfield 44, 3) := by decide +kernel
theorem dX0_rowFound_21 : decode cX0_rowFound 21 = .ok (.iconst 0, 1) := by decide +kernel
theorem dX0_rowFound_22 : decode cX0_rowFound 22 = .ok (.iload_n 1, 1) := by decide +kernel
theorem dX0_rowFound_23 : decode cX0_rowFound 23 = .ok (.invokevirtual 102, 3) := by decide +kernel
theorem dX0_rowFound_26 : decode cX0_rowFound 26 = .ok (.pop, 1) := by decide +kernel
theorem dX0_rowFound_27 : decode cX0_rowFound 27 = .ok (.iload_n 2, 1) := by decide +kernel
theorem dX0_rowFound_28 : decode cX0_rowFound 28 = .ok (.iload_n 3, 1) := by decide +kernel
theorem dX0_rowFound_29 : decode cX0_rowFound 29 = .ok (.if_icmp .ge 14, 3) := by decide +kernel
theorem dX0_rowFound_32 : decode cX0_rowFound 32 = .ok (.iload_n 2, 1) := by decide +kernel
theorem dX0_rowFound_33 : decode cX0_rowFound 33 = .ok (.aload_n 0, 1) := by decide +kernel
theorem dX0_rowFound_34 : decode cX0_rowFound 34 = .ok (.getfield 9, 3) := by decide +kernel
theorem dX0_rowFound_37 : decode cX0_rowFound 37 = .ok (.arraylength, 1) := by decide +kernel
theorem dX0_rowFound_38 : decode cX0_rowFound 38 = .ok (.iconst 1, 1) := by decide +kernel
theorem dX0_rowFound_39 : decode cX0_rowFound 39 = .ok (.isub, 1) := by decide +kernel
theorem dX0_rowFound_40 : decode cX0_rowFound 40 = .ok (.if_icmp .lt 33, 3) := by decide +kernel
theorem dX0_rowFound_43 : decode cX0_rowFound 43 = .ok (.aload_n 0, 1) := by decide +kernel
theorem dX0_rowFound_44 : decode cX0_rowFound 44 = .ok (.getfield 9, 3) := by decide +kernel
theorem dX0_rowFound_47 : decode cX0_rowFound 47 = .ok (.iload_n 2, 1) := by decide +kernel
theorem dX0_rowFound_48 : decode cX0_rowFound 48 = .ok (.aload_n 0, 1) := by decide +kernel
theorem dX0_rowFound_49 : decode cX0_rowFound 49 = .ok (.getfield 44, 3) := by decide +kernel
theorem dX0_rowFound_52 : decode cX0_rowFound 52 = .ok (.iload_n 1, 1) := by decide +kernel
theorem dX0_rowFound_53 : decode cX0_rowFound 53 = .ok (.invokevirtual 106, 3) := by decide +kernel
theorem dX0_rowFound_56 : decode cX0_rowFound 56 = .ok (.iastore, 1) := by decide +kernel
theorem dX0_rowFound_57 : decode cX0_rowFound 57 = .ok (.aload_n 0, 1) := by decide +kernel
theorem dX0_rowFound_58 : decode cX0_rowFound 58 = .ok (.getfield 9, 3) := by decide +kernel
theorem dX0_rowFound_61 : decode cX0_rowFound 61 = .ok (.iload_n 2, 1) := by decide +kernel
theorem dX0_rowFound_62 : decode cX0_rowFound 62 = .ok (.iaload, 1) := by decide +kernel
theorem dX0_rowFound_63 : decode cX0_rowFound 63 = .ok (.iconst (-1), 1) := by decide +kernel
theorem dX0_rowFound_64 : decode cX0_rowFound 64 = .ok (.if_icmp .eq 7, 3) := by decide +kernel
theorem dX0_rowFound_67 : decode cX0_rowFound 67 = .ok (.iconst 1, 1) := by decide +kernel
theorem dX0_rowFound_68 : decode cX0_rowFound 68 = .ok (.goto 4, 3) := by decide +kernel
theorem dX0_rowFound_71 : decode cX0_rowFound 71 = .ok (.iconst 0, 1) := by decide +kernel
theorem dX0_rowFound_72 : decode cX0_rowFound 72 = .ok (.ireturn, 1) := by decide +kernel
theorem dX0_rowFound_73 : decode cX0_rowFound 73 = .ok (.aload_n 0, 1) := by decide +kernel
theorem dX0_rowFound_74 : decode cX0_rowFound 74 = .ok (.getfield 22, 3) := by decide +kernel
theorem dX0_rowFound_77 : decode cX0_rowFound 77 = .ok (.iload_n 2, 1) := by decide +kernel
theorem dX0_rowFound_78 : decode cX0_rowFound 78 = .ok (.iconst 1, 1) := by decide +kernel
theorem dX0_rowFound_79 : decode cX0_rowFound 79 = .ok (.iadd, 1) := by decide +kernel
theorem dX0_rowFound_80 : decode cX0_rowFound 80 = .ok (.aaload, 1) := by decide +kernel
theorem dX0_rowFound_81 : decode cX0_rowFound 81 = .ok (.astore 5, 2) := by decide +kernel
theorem dX0_rowFound_83 : decode cX0_rowFound 83 = .ok (.iconst (-1), 1) := by decide +kernel
theorem dX0_rowFound_84 : decode cX0_rowFound 84 = .ok (.istore 6, 2) := by decide +kernel
theorem dX0_rowFound_86 : decode cX0_rowFound 86 = .ok (.iload 6, 2) := by decide +kernel
theorem dX0_rowFound_88 : decode cX0_rowFound 88 = .ok (.aload_n 0, 1) := by decide +kernel
theorem dX0_rowFound_89 : decode cX0_rowFound 89 = .ok (.getfield 43, 3) := by decide +kernel
theorem dX0_rowFound_92 : decode cX0_rowFound 92 = .ok (.getfield 110, 3) := by decide +kernel
theorem dX0_rowFound_95 : decode cX0_rowFound 95 = .ok (.if_icmp .ge 113, 3) := by decide +kernel
theorem dX0_rowFound_98 : decode cX0_rowFound 98 = .ok (.iload 6, 2) := by decide +kernel
theorem dX0_rowFound_100 : decode cX0_rowFound 100 = .ok (.iconst (-1), 1) := by decide +kernel
theorem dX0_rowFound_101 : decode cX0_rowFound 101 = .ok (.if_icmp .eq 17, 3) := by decide +kernel
theorem dX0_rowFound_104 : decode cX0_rowFound 104 = .ok (.aload 4, 2) := by decide +kernel
theorem dX0_rowFound_106 : decode cX0_rowFound 106 = .ok (.iload_n 1, 1) := by decide +kernel
theorem dX0_rowFound_107 : decode cX0_rowFound 107 = .ok (.iload 6, 2) := by decide +kernel
theorem dX0_rowFound_109 : decode cX0_rowFound 109 = .ok (.invokevirtual 113, 3) := by decide +kernel
theorem dX0_rowFound_112 : decode cX0_rowFound 112 = .ok (.ifCond .ne 6, 3) := by decide +kernel
theorem dX0_rowFound_115 : decode cX0_rowFound 115 = .ok (.goto 87, 3) := by decide +kernel
theorem dX0_rowFound_118 : decode cX0_rowFound 118 = .ok (.aload 5, 2) := by decide +kernel
theorem dX0_rowFound_120 : decode cX0_rowFound 120 = .ok (.aload 4, 2) := by decide +kernel
theorem dX0_rowFound_122 : decode cX0_rowFound 122 = .ok (.invokevirtual 51, 3) := by decide +kernel
theorem dX0_rowFound_125 : decode cX0_rowFound 125 = .ok (.aload_n 0, 1) := by decide +kernel
theorem dX0_rowFound_126 : decode cX0_rowFound 126 = .ok (.getfield 44, 3) := by decide +kernel
theorem dX0_rowFound_129 : decode cX0_rowFound 129 = .ok (.aload 5, 2) := by decide +kernel
theorem dX0_rowFound_131 : decode cX0_rowFound 131 = .ok (.invokevirtual 99, 3) := by decide +kernel
theorem dX0_rowFound_134 : decode cX0_rowFound 134 = .ok (.iload 6, 2) := by decide +kernel
theorem dX0_rowFound_136 : decode cX0_rowFound 136 = .ok (.iconst (-1), 1) := by decide +kernel
theorem dX0_rowFound_137 : decode cX0_rowFound 137 = .ok (.if_icmp .eq 14, 3) := by decide +kernel
theorem dX0_rowFound_140 : decode cX0_rowFound 140 = .ok (.aload_n 0, 1) := by decide +kernel
theorem dX0_rowFound_141 : decode cX0_rowFound 141 = .ok (.getfield 44, 3) := by decide +kernel
theorem dX0_rowFound_144 : decode cX0_rowFound 144 = .ok (.iload_n 1, 1) := by decide +kernel
theorem dX0_rowFound_145 : decode cX0_rowFound 145 = .ok (.iload 6, 2) := by decide +kernel
theorem dX0_rowFound_147 : decode cX0_rowFound 147 = .ok (.invokevirtual 117, 3) := by decide +kernel
theorem dX0_rowFound_150 : decode cX0_rowFound 150 = .ok (.pop, 1) := by decide +kernel
theorem dX0_rowFound_151 : decode cX0_rowFound 151 = .ok (.aload_n 0, 1) := by decide +kernel
theorem dX0_rowFound_152 : decode cX0_rowFound 152 = .ok (.getfield 44, 3) := by decide +kernel
theorem dX0_rowFound_155 : decode cX0_rowFound 155 = .ok (.iload_n 1, 1) := by decide +kernel
theorem dX0_rowFound_156 : decode cX0_rowFound 156 = .ok (.iconst 1, 1) := by decide +kernel
theorem dX0_rowFound_157 : decode cX0_rowFound 157 = .ok (.iadd, 1) := by decide +kernel
theorem dX0_rowFound_158 : decode cX0_rowFound 158 = .ok (.aload_n 0, 1) := by decide +kernel
theorem dX0_rowFound_159 : decode cX0_rowFound 159 = .ok (.getfield 43, 3) := by decide +kernel
theorem dX0_rowFound_162 : decode cX0_rowFound 162 = .ok (.getfield 82, 3) := by decide +kernel
theorem dX0_rowFound_165 : decode cX0_rowFound 165 = .ok (.invokevirtual 102, 3) := by decide +kernel
theorem dX0_rowFound_168 : decode cX0_rowFound 168 = .ok (.pop, 1) := by decide +kernel
theorem dX0_rowFound_169 : decode cX0_rowFound 169 = .ok (.aload 5, 2) := by decide +kernel
theorem dX0_rowFound_171 : decode cX0_rowFound 171 = .ok (.dup, 1) := by decide +kernel
theorem dX0_rowFound_172 : decode cX0_rowFound 172 = .ok (.getfield 61, 3) := by decide +kernel
theorem dX0_rowFound_175 : decode cX0_rowFound 175 = .ok (.iconst 1, 1) := by decide +kernel
theorem dX0_rowFound_176 : decode cX0_rowFound 176 = .ok (.iadd, 1) := by decide +kernel
theorem dX0_rowFound_177 : decode cX0_rowFound 177 = .ok (.putfield 61, 3) := by decide +kernel
theorem dX0_rowFound_180 : decode cX0_rowFound 180 = .ok (.aload_n 0, 1) := by decide +kernel
theorem dX0_rowFound_181 : decode cX0_rowFound 181 = .ok (.getfield 9, 3) := by decide +kernel
theorem dX0_rowFound_184 : decode cX0_rowFound 184 = .ok (.iload_n 2, 1) := by decide +kernel
theorem dX0_rowFound_185 : decode cX0_rowFound 185 = .ok (.iload 6, 2) := by decide +kernel
theorem dX0_rowFound_187 : decode cX0_rowFound 187 = .ok (.iastore, 1) := by decide +kernel
theorem dX0_rowFound_188 : decode cX0_rowFound 188 = .ok (.aload_n 0, 1) := by decide +kernel
theorem dX0_rowFound_189 : decode cX0_rowFound 189 = .ok (.iload_n 1, 1) := by decide +kernel
theorem dX0_rowFound_190 : decode cX0_rowFound 190 = .ok (.iload_n 2, 1) := by decide +kernel
theorem dX0_rowFound_191 : decode cX0_rowFound 191 = .ok (.iconst 1, 1) := by decide +kernel
theorem dX0_rowFound_192 : decode cX0_rowFound 192 = .ok (.iadd, 1) := by decide +kernel
theorem dX0_rowFound_193 : decode cX0_rowFound 193 = .ok (.iload_n 3, 1) := by decide +kernel
theorem dX0_rowFound_194 : decode cX0_rowFound 194 = .ok (.invokevirtual 95, 3) := by decide +kernel
theorem dX0_rowFound_197 : decode cX0_rowFound 197 = .ok (.ifCond .eq 5, 3) := by decide +kernel
theorem dX0_rowFound_200 : decode cX0_rowFound 200 = .ok (.iconst 1, 1) := by decide +kernel
theorem dX0_rowFound_201 : decode cX0_rowFound 201 = .ok (.ireturn, 1) := by decide +kernel
theorem dX0_rowFound_202 : decode cX0_rowFound 202 = .ok (.iinc 6 1, 3) := by decide +kernel
theorem dX0_rowFound_205 : decode cX0_rowFound 205 = .ok (.goto (-119), 3) := by decide +kernel
theorem dX0_rowFound_208 : decode cX0_rowFound 208 = .ok (.iconst 0, 1) := by decide +kernel
theorem dX0_rowFound_209 : decode cX0_rowFound 209 = .ok (.ireturn, 1) := by decide +kernel
theorem dX0_findForgotten_0 : decode cX0_findForgotten 0 = .ok (.aload_n 0, 1) := by decide +kernel
theorem dX0_findForgotten_1 : decode cX0_findForgotten 1 = .ok (.getfield 43, 3) := by decide +kernel
theorem dX0_findForgotten_4 : decode cX0_findForgotten 4 = .ok (.aload_n 0, 1) := by decide +kernel
theorem dX0_findForgotten_5 : decode cX0_findForgotten 5 = .ok (.getfield 33, 3) := by decide +kernel
theorem dX0_findForgotten_8 : decode cX0_findForgotten 8 = .ok (.getfield 48, 3) := by decide +kernel
theorem dX0_findForgotten_11 : decode cX0_findForgotten 11 = .ok (.invokevirtual 120, 3) := by decide +kernel
theorem dX0_findForgotten_14 : decode cX0_findForgotten 14 = .ok (.istore_n 2, 1) := by decide +kernel
theorem dX0_findForgotten_15 : decode cX0_findForgotten 15 = .ok (.aload_n 0, 1) := by decide +kernel
theorem dX0_findForgotten_16 : decode cX0_findForgotten 16 = .ok (.iconst (-1), 1) := by decide +kernel
theorem dX0_findForgotten_17 : decode cX0_findForgotten 17 = .ok (.putfield 75, 3) := by decide +kernel
theorem dX0_findForgotten_20 : decode cX0_findForgotten 20 = .ok (.aload_n 0, 1) := by decide +kernel
theorem dX0_findForgotten_21 : decode cX0_findForgotten 21 = .ok (.iconst (-1), 1) := by decide +kernel
theorem dX0_findForgotten_22 : decode cX0_findForgotten 22 = .ok (.putfield 65, 3) := by decide +kernel
theorem dX0_findForgotten_25 : decode cX0_findForgotten 25 = .ok (.iconst (-1), 1) := by decide +kernel
theorem dX0_findForgotten_26 : decode cX0_findForgotten 26 = .ok (.istore_n 3, 1) := by decide +kernel
theorem dX0_findForgotten_27 : decode cX0_findForgotten 27 = .ok (.iload_n 3, 1) := by decide +kernel
theorem dX0_findForgotten_28 : decode cX0_findForgotten 28 = .ok (.aload_n 0, 1) := by decide +kernel
theorem dX0_findForgotten_29 : decode cX0_findForgotten 29 = .ok (.getfield 43, 3) := by decide +kernel
theorem dX0_findForgotten_32 : decode cX0_findForgotten 32 = .ok (.getfield 110, 3) := by decide +kernel
theorem dX0_findForgotten_35 : decode cX0_findForgotten 35 = .ok (.if_icmp .ge 101, 3) := by decide +kernel
theorem dX0_findForgotten_38 : decode cX0_findForgotten 38 = .ok (.iload_n 3, 1) := by decide +kernel
theorem dX0_findForgotten_39 : decode cX0_findForgotten 39 = .ok (.iconst (-1), 1) := by decide +kernel
theorem dX0_findForgotten_40 : decode cX0_findForgotten 40 = .ok (.if_icmp .eq 14, 3) := by decide +kernel
theorem dX0_findForgotten_43 : decode cX0_findForgotten 43 = .ok (.iload_n 2, 1) := by decide +kernel
theorem dX0_findForgotten_44 : decode cX0_findForgotten 44 = .ok (.iload_n 3, 1) := by decide +kernel
theorem dX0_findForgotten_45 : decode cX0_findForgotten 45 = .ok (.ishr, 1) := by decide +kernel
theorem dX0_findForgotten_46 : decode cX0_findForgotten 46 = .ok (.iconst 1, 1) := by decide +kernel
theorem dX0_findForgotten_47 : decode cX0_findForgotten 47 = .ok (.iand, 1) := by decide +kernel
theorem dX0_findForgotten_48 : decode cX0_findForgotten 48 = .ok (.ifCond .ne 6, 3) := by decide +kernel
theorem dX0_findForgotten_51 : decode cX0_findForgotten 51 = .ok (.goto 79, 3) := by decide +kernel
theorem dX0_findForgotten_54 : decode cX0_findForgotten 54 = .ok (.aload_n 0, 1) := by decide +kernel
theorem dX0_findForgotten_55 : decode cX0_findForgotten 55 = .ok (.getfield 18, 3) := by decide +kernel
theorem dX0_findForgotten_58 : decode cX0_findForgotten 58 = .ok (.aload_n 0, 1) := by decide +kernel
theorem dX0_findForgotten_59 : decode cX0_findForgotten 59 = .ok (.getfield 33, 3) := by decide +kernel
theorem dX0_findForgotten_62 : decode cX0_findForgotten 62 = .ok (.getfield 48, 3) := by decide +kernel
theorem dX0_findForgotten_65 : decode cX0_findForgotten 65 = .ok (.invokevirtual 51, 3) := by decide +kernel
theorem dX0_findForgotten_68 : decode cX0_findForgotten 68 = .ok (.iload_n 3, 1) := by decide +kernel
theorem dX0_findForgotten_69 : decode cX0_findForgotten 69 = .ok (.iconst (-1), 1) := by decide +kernel
theorem dX0_findForgotten_70 : decode cX0_findForgotten 70 = .ok (.if_icmp .eq 14, 3) := by decide +kernel
theorem dX0_findForgotten_73 : decode cX0_findForgotten 73 = .ok (.aload_n 0, 1) := by decide +kernel
theorem dX0_findForgotten_74 : decode cX0_findForgotten 74 = .ok (.getfield 18, 3) := by decide +kernel
theorem dX0_findForgotten_77 : decode cX0_findForgotten 77 = .ok (.getfield 123, 3) := by decide +kernel
theorem dX0_findForgotten_80 : decode cX0_findForgotten 80 = .ok (.iload_n 3, 1) := by decide +kernel
theorem dX0_findForgotten_81 : decode cX0_findForgotten 81 = .ok (.ldc 126, 2) := by decide +kernel
theorem dX0_findForgotten_83 : decode cX0_findForgotten 83 = .ok (.iastore, 1) := by decide +kernel
theorem dX0_findForgotten_84 : decode cX0_findForgotten 84 = .ok (.aload_n 0, 1) := by decide +kernel
theorem dX0_findForgotten_85 : decode cX0_findForgotten 85 = .ok (.getfield 44, 3) := by decide +kernel
theorem dX0_findForgotten_88 : decode cX0_findForgotten 88 = .ok (.aload_n 0, 1) := by decide +kernel
theorem dX0_findForgotten_89 : decode cX0_findForgotten 89 = .ok (.getfield 18, 3) := by decide +kernel
theorem dX0_findForgotten_92 : decode cX0_findForgotten 92 = .ok (.iload_n 1, 1) := by decide +kernel
theorem dX0_findForgotten_93 : decode cX0_findForgotten 93 = .ok (.iconst 1, 1) := by decide +kernel
theorem dX0_findForgotten_94 : decode cX0_findForgotten 94 = .ok (.invokevirtual 55, 3) := by decide +kernel
theorem dX0_findForgotten_97 : decode cX0_findForgotten 97 = .ok (.aload_n 0, 1) := by decide +kernel
theorem dX0_findForgotten_98 : decode cX0_findForgotten 98 = .ok (.getfield 43, 3) := by decide +kernel
theorem dX0_findForgotten_101 : decode cX0_findForgotten 101 = .ok (.aload_n 0, 1) := by decide +kernel
theorem dX0_findForgotten_102 : decode cX0_findForgotten 102 = .ok (.getfield 18, 3) := by decide +kernel
theorem dX0_findForgotten_105 : decode cX0_findForgotten 105 = .ok (.invokevirtual 127, 3) := by decide +kernel
theorem dX0_findForgotten_108 : decode cX0_findForgotten 108 = .ok (.istore 4, 2) := by decide +kernel
theorem dX0_findForgotten_110 : decode cX0_findForgotten 110 = .ok (.iload 4, 2) := by decide +kernel
theorem dX0_findForgotten_112 : decode cX0_findForgotten 112 = .ok (.aload_n 0, 1) := by decide +kernel
theorem dX0_findForgotten_113 : decode cX0_findForgotten 113 = .ok (.getfield 65, 3) := by decide +kernel
theorem dX0_findForgotten_116 : decode cX0_findForgotten 116 = .ok (.if_icmp .le 14, 3) := by decide +kernel
theorem dX0_findForgotten_119 : decode cX0_findForgotten 119 = .ok (.aload_n 0, 1) := by decide +kernel
theorem dX0_findForgotten_120 : decode cX0_findForgotten 120 = .ok (.iload 4, 2) := by decide +kernel
theorem dX0_findForgotten_122 : decode cX0_findForgotten 122 = .ok (.putfield 65, 3) := by decide +kernel
theorem dX0_findForgotten_125 : decode cX0_findForgotten 125 = .ok (.aload_n 0, 1) := by decide +kernel
theorem dX0_findForgotten_126 : decode cX0_findForgotten 126 = .ok (.iload_n 3, 1) := by decide +kernel
theorem dX0_findForgotten_127 : decode cX0_findForgotten 127 = .ok (.putfield 75, 3) := by decide +kernel
theorem dX0_findForgotten_130 : decode cX0_findForgotten 130 = .ok (.iinc 3 1, 3) := by decide +kernel
theorem dX0_findForgotten_133 : decode cX0_findForgotten 133 = .ok (.goto (-106), 3) := by decide +kernel
theorem dX0_findForgotten_136 : decode cX0_findForgotten 136 = .ok (.return_, 1) := by decide +kernel
theorem dX0_findTraders_0 : decode cX0_findTraders 0 = .ok (.aload_n 0, 1) := by decide +kernel
theorem dX0_findTraders_1 : decode cX0_findTraders 1 = .ok (.getfield 43, 3) := by decide +kernel
theorem dX0_findTraders_4 : decode cX0_findTraders 4 = .ok (.aload_n 0, 1) := by decide +kernel
theorem dX0_findTraders_5 : decode cX0_findTraders 5 = .ok (.getfield 33, 3) := by decide +kernel
theorem dX0_findTraders_8 : decode cX0_findTraders 8 = .ok (.getfield 48, 3) := by decide +kernel
theorem dX0_findTraders_11 : decode cX0_findTraders 11 = .ok (.invokevirtual 130, 3) := by decide +kernel
theorem dX0_findTraders_14 : decode cX0_findTraders 14 = .ok (.istore_n 2, 1) := by decide +kernel
theorem dX0_findTraders_15 : decode cX0_findTraders 15 = .ok (.aload_n 0, 1) := by decide +kernel
theorem dX0_findTraders_16 : decode cX0_findTraders 16 = .ok (.iconst (-1), 1) := by decide +kernel
theorem dX0_findTraders_17 : decode cX0_findTraders 17 = .ok (.putfield 75, 3) := by decide +kernel
theorem dX0_findTraders_20 : decode cX0_findTraders 20 = .ok (.aload_n 0, 1) := by decide +kernel
theorem dX0_findTraders_21 : decode cX0_findTraders 21 = .ok (.iconst (-1), 1) := by decide +kernel
theorem dX0_findTraders_22 : decode cX0_findTraders 22 = .ok (.putfield 133, 3) := by decide +kernel
theorem dX0_findTraders_25 : decode cX0_findTraders 25 = .ok (.aload_n 0, 1) := by decide +kernel
theorem dX0_findTraders_26 : decode cX0_findTraders 26 = .ok (.aload_n 0, 1) := by decide +kernel
theorem dX0_findTraders_27 : decode cX0_findTraders 27 = .ok (.getfield 43, 3) := by decide +kernel
theorem dX0_findTraders_30 : decode cX0_findTraders 30 = .ok (.aload_n 0, 1) := by decide +kernel
theorem dX0_findTraders_31 : decode cX0_findTraders 31 = .ok (.iload_n 1, 1) := by decide +kernel
theorem dX0_findTraders_32 : decode cX0_findTraders 32 = .ok (.invokevirtual 78, 3) := by decide +kernel
theorem dX0_findTraders_35 : decode cX0_findTraders 35 = .ok (.invokevirtual 127, 3) := by decide +kernel
theorem dX0_findTraders_38 : decode cX0_findTraders 38 = .ok (.putfield 65, 3) := by decide +kernel
theorem dX0_findTraders_41 : decode cX0_findTraders 41 = .ok (.iconst 0, 1) := by decide +kernel
theorem dX0_findTraders_42 : decode cX0_findTraders 42 = .ok (.istore_n 3, 1) := by decide +kernel
theorem dX0_findTraders_43 : decode cX0_findTraders 43 = .ok (.iload_n 3, 1) := by decide +kernel
theorem dX0_findTraders_44 : decode cX0_findTraders 44 = .ok (.aload_n 0, 1) := by decide +kernel
theorem dX0_findTraders_45 : decode cX0_findTraders 45 = .ok (.getfield 43, 3) := by decide +kernel
theorem dX0_findTraders_48 : decode cX0_findTraders 48 = .ok (.getfield 82, 3) := by decide +kernel
theorem dX0_findTraders_51 : decode cX0_findTraders 51 = .ok (.if_icmp .ge 125, 3) := by decide +kernel
theorem dX0_findTraders_54 : decode cX0_findTraders 54 = .ok (.iload_n 3, 1) := by decide +kernel
theorem dX0_findTraders_55 : decode cX0_findTraders 55 = .ok (.iconst 1, 1) := by decide +kernel
theorem dX0_findTraders_56 : decode cX0_findTraders 56 = .ok (.iadd, 1) := by decide +kernel
theorem dX0_findTraders_57 : decode cX0_findTraders 57 = .ok (.istore 4, 2) := by decide +kernel
theorem dX0_findTraders_59 : decode cX0_findTraders 59 = .ok (.iload 4, 2) := by decide +kernel
theorem dX0_findTraders_61 : decode cX0_findTraders 61 = .ok (.aload_n 0, 1) := by decide +kernel
theorem dX0_findTraders_62 : decode cX0_findTraders 62 = .ok (.getfield 43, 3) := by decide +kernel
theorem dX0_findTraders_65 : decode cX0_findTraders 65 = .ok (.getfield 82, 3) := by decide +kernel
theorem dX0_findTraders_68 : decode cX0_findTraders 68 = .ok (.if_icmp .ge 102, 3) := by decide +kernel
theorem dX0_findTraders_71 : decode cX0_findTraders 71 = .ok (.iload_n 2, 1) := by decide +kernel
theorem dX0_findTraders_72 : decode cX0_findTraders 72 = .ok (.iload_n 3, 1) := by decide +kernel
theorem dX0_findTraders_73 : decode cX0_findTraders 73 = .ok (.ishr, 1) := by decide +kernel
theorem dX0_findTraders_74 : decode cX0_findTraders 74 = .ok (.iload_n 2, 1) := by decide +kernel
theorem dX0_findTraders_75 : decode cX0_findTraders 75 = .ok (.iload 4, 2) := by decide +kernel
theorem dX0_findTraders_77 : decode cX0_findTraders 77 = .ok (.ishr, 1) := by decide +kernel
theorem dX0_findTraders_78 : decode cX0_findTraders 78 = .ok (.iand, 1) := by decide +kernel
theorem dX0_findTraders_79 : decode cX0_findTraders 79 = .ok (.iconst 1, 1) := by decide +kernel
theorem dX0_findTraders_80 : decode cX0_findTraders 80 = .ok (.iand, 1) := by decide +kernel
theorem dX0_findTraders_81 : decode cX0_findTraders 81 = .ok (.ifCond .ne 6, 3) := by decide +kernel
theorem dX0_findTraders_84 : decode cX0_findTraders 84 = .ok (.goto 80, 3) := by decide +kernel
theorem dX0_findTraders_87 : decode cX0_findTraders 87 = .ok (.aload_n 0, 1) := by decide +kernel
theorem dX0_findTraders_88 : decode cX0_findTraders 88 = .ok (.getfield 18, 3) := by decide +kernel
theorem dX0_findTraders_91 : decode cX0_findTraders 91 = .ok (.aload_n 0, 1) := by decide +kernel
theorem dX0_findTraders_92 : decode cX0_findTraders 92 = .ok (.getfield 33, 3) := by decide +kernel
theorem dX0_findTraders_95 : decode cX0_findTraders 95 = .ok (.getfield 48, 3) := by decide +kernel
theorem dX0_findTraders_98 : decode cX0_findTraders 98 = .ok (.invokevirtual 51, 3) := by decide +kernel
theorem dX0_findTraders_101 : decode cX0_findTraders 101 = .ok (.aload_n 0, 1) := by decide +kernel
theorem dX0_findTraders_102 : decode cX0_findTraders 102 = .ok (.getfield 18, 3) := by decide +kernel
theorem dX0_findTraders_105 : decode cX0_findTraders 105 = .ok (.iload_n 3, 1) := by decide +kernel
theorem dX0_findTraders_106 : decode cX0_findTraders 106 = .ok (.iload 4, 2) := by decide +kernel
theorem dX0_findTraders_108 : decode cX0_findTraders 108 = .ok (.invokevirtual 136, 3) := by decide +kernel
theorem dX0_findTraders_111 : decode cX0_findTraders 111 = .ok (.pop, 1) := by decide +kernel
theorem dX0_findTraders_112 : decode cX0_findTraders 112 = .ok (.aload_n 0, 1) := by decide +kernel
theorem dX0_findTraders_113 : decode cX0_findTraders 113 = .ok (.getfield 44, 3) := by decide +kernel
theorem dX0_findTraders_116 : decode cX0_findTraders 116 = .ok (.aload_n 0, 1) := by decide +kernel
theorem dX0_findTraders_117 : decode cX0_findTraders 117 = .ok (.getfield 18, 3) := by decide +kernel
theorem dX0_findTraders_120 : decode cX0_findTraders 120 = .ok (.iload_n 1, 1) := by decide +kernel
theorem dX0_findTraders_121 : decode cX0_findTraders 121 = .ok (.iconst 1, 1) := by decide +kernel
theorem dX0_findTraders_122 : decode cX0_findTraders 122 = .ok (.invokevirtual 55, 3) := by decide +kernel
theorem dX0_findTraders_125 : decode cX0_findTraders 125 = .ok (.aload_n 0, 1) := by decide +kernel
theorem dX0_findTraders_126 : decode cX0_findTraders 126 = .ok (.getfield 43, 3) := by decide +kernel
theorem dX0_findTraders_129 : decode cX0_findTraders 129 = .ok (.aload_n 0, 1) := by decide +kernel
theorem dX0_findTraders_130 : decode cX0_findTraders 130 = .ok (.getfield 18, 3) := by decide +kernel
theorem dX0_findTraders_133 : decode cX0_findTraders 133 = .ok (.invokevirtual 127, 3) := by decide +kernel
theorem dX0_findTraders_136 : decode cX0_findTraders 136 = .ok (.istore 5, 2) := by decide +kernel
theorem dX0_findTraders_138 : decode cX0_findTraders 138 = .ok (.iload 5, 2) := by decide +kernel
theorem dX0_findTraders_140 : decode cX0_findTraders 140 = .ok (.aload_n 0, 1) := by decide +kernel
theorem dX0_findTraders_141 : decode cX0_findTraders 141 = .ok (.getfield 65, 3) := by decide +kernel
theorem dX0_findTraders_144 : decode cX0_findTraders 144 = .ok (.if_icmp .le 20, 3) := by decide +kernel
theorem dX0_findTraders_147 : decode cX0_findTraders 147 = .ok (.aload_n 0, 1) := by decide +kernel
theorem dX0_findTraders_148 : decode cX0_findTraders 148 = .ok (.iload 5, 2) := by decide +kernel
theorem dX0_findTraders_150 : decode cX0_findTraders 150 = .ok (.putfield 65, 3) := by decide +kernel
theorem dX0_findTraders_153 : decode cX0_findTraders 153 = .ok (.aload_n 0, 1) := by decide +kernel
theorem dX0_findTraders_154 : decode cX0_findTraders 154 = .ok (.iload_n 3, 1) := by decide +kernel
theorem dX0_findTraders_155 : decode cX0_findTraders 155 = .ok (.putfield 75, 3) := by decide +kernel
theorem dX0_findTraders_158 : decode cX0_findTraders 158 = .ok (.aload_n 0, 1) := by decide +kernel
theorem dX0_findTraders_159 : decode cX0_findTraders 159 = .ok (.iload 4, 2) := by decide +kernel
theorem dX0_findTraders_161 : decode cX0_findTraders 161 = .ok (.putfield 133, 3) := by decide +kernel
theorem dX0_findTraders_164 : decode cX0_findTraders 164 = .ok (.iinc 4 1, 3) := by decide +kernel
theorem dX0_findTraders_167 : decode cX0_findTraders 167 = .ok (.goto (-108), 3) := by decide +kernel
theorem dX0_findTraders_170 : decode cX0_findTraders 170 = .ok (.iinc 3 1, 3) := by decide +kernel
theorem dX0_findTraders_173 : decode cX0_findTraders 173 = .ok (.goto (-130), 3) := by decide +kernel
theorem dX0_findTraders_176 : decode cX0_findTraders 176 = .ok (.return_, 1) := by decide +kernel
theorem dX0_findLessons_0 : decode cX0_findLessons 0 = .ok (.aload_n 0, 1) := by decide +kernel
theorem dX0_findLessons_1 : decode cX0_findLessons 1 = .ok (.invokevirtual 139, 3) := by decide +kernel
theorem dX0_findLessons_4 : decode cX0_findLessons 4 = .ok (.istore_n 2, 1) := by decide +kernel
theorem dX0_findLessons_5 : decode cX0_findLessons 5 = .ok (.iconst 0, 1) := by decide +kernel
theorem dX0_findLessons_6 : decode cX0_findLessons 6 = .ok (.istore_n 3, 1) := by decide +kernel
theorem dX0_findLessons_7 : decode cX0_findLessons 7 = .ok (.iload_n 3, 1) := by decide +kernel
theorem dX0_findLessons_8 : decode cX0_findLessons 8 = .ok (.aload_n 0, 1) := by decide +kernel
theorem dX0_findLessons_9 : decode cX0_findLessons 9 = .ok (.getfield 43, 3) := by decide +kernel
theorem dX0_findLessons_12 : decode cX0_findLessons 12 = .ok (.getfield 110, 3) := by decide +kernel
theorem dX0_findLessons_15 : decode cX0_findLessons 15 = .ok (.if_icmp .gt 104, 3) := by decide +kernel
theorem dX0_findLessons_18 : decode cX0_findLessons 18 = .ok (.iconst 0, 1) := by decide +kernel
theorem dX0_findLessons_19 : decode cX0_findLessons 19 = .ok (.istore 4, 2) := by decide +kernel
theorem dX0_findLessons_21 : decode cX0_findLessons 21 = .ok (.iload 4, 2) := by decide +kernel
theorem dX0_findLessons_23 : decode cX0_findLessons 23 = .ok (.iconst 1, 1) := by decide +kernel
theorem dX0_findLessons_24 : decode cX0_findLessons 24 = .ok (.aload_n 0, 1) := by decide +kernel
theorem dX0_findLessons_25 : decode cX0_findLessons 25 = .ok (.getfield 43, 3) := by decide +kernel
theorem dX0_findLessons_28 : decode cX0_findLessons 28 = .ok (.getfield 110, 3) := by decide +kernel
theorem dX0_findLessons_31 : decode cX0_findLessons 31 = .ok (.ishl, 1) := by decide +kernel
theorem dX0_findLessons_32 : decode cX0_findLessons 32 = .ok (.if_icmp .ge 81, 3) := by decide +kernel
theorem dX0_findLessons_35 : decode cX0_findLessons 35 = .ok (.iload 4, 2) := by decide +kernel
theorem dX0_findLessons_37 : decode cX0_findLessons 37 = .ok (.invokestatic 143, 3) := by decide +kernel
theorem dX0_findLessons_40 : decode cX0_findLessons 40 = .ok (.iload_n 3, 1) := by decide +kernel
theorem dX0_findLessons_41 : decode cX0_findLessons 41 = .ok (.if_icmp .ne 66, 3) := by decide +kernel
theorem dX0_findLessons_44 : decode cX0_findLessons 44 = .ok (.iload 4, 2) := by decide +kernel
theorem dX0_findLessons_46 : decode cX0_findLessons 46 = .ok (.iload_n 2, 1) := by decide +kernel
theorem dX0_findLessons_47 : decode cX0_findLessons 47 = .ok (.iand, 1) := by decide +kernel
theorem dX0_findLessons_48 : decode cX0_findLessons 48 = .ok (.ifCond .eq 6, 3) := by decide +kernel
theorem dX0_findLessons_51 : decode cX0_findLessons 51 = .ok (.goto 56, 3) := by decide +kernel
theorem dX0_findLessons_54 : decode cX0_findLessons 54 = .ok (.aload_n 0, 1) := by decide +kernel
theorem dX0_findLessons_55 : decode cX0_findLessons 55 = .ok (.getfield 18, 3) := by decide +kernel
theorem dX0_findLessons_58 : decode cX0_findLessons 58 = .ok (.aload_n 0, 1) := by decide +kernel
theorem dX0_findLessons_59 : decode cX0_findLessons 59 = .ok (.getfield 33, 3) := by decide +kernel
theorem dX0_findLessons_62 : decode cX0_findLessons 62 = .ok (.getfield 48, 3) := by decide +kernel
theorem dX0_findLessons_65 : decode cX0_findLessons 65 = .ok (.invokevirtual 51, 3) := by decide +kernel
theorem dX0_findLessons_68 : decode cX0_findLessons 68 = .ok (.aload_n 0, 1) := by decide +kernel
theorem dX0_findLessons_69 : decode cX0_findLessons 69 = .ok (.getfield 18, 3) := by decide +kernel
theorem dX0_findLessons_72 : decode cX0_findLessons 72 = .ok (.iload 4, 2) := by decide +kernel
theorem dX0_findLessons_74 : decode cX0_findLessons 74 = .ok (.invokevirtual 148, 3) := by decide +kernel
theorem dX0_findLessons_77 : decode cX0_findLessons 77 = .ok (.aload_n 0, 1) := by decide +kernel
theorem dX0_findLessons_78 : decode cX0_findLessons 78 = .ok (.getfield 44, 3) := by decide +kernel
theorem dX0_findLessons_81 : decode cX0_findLessons 81 = .ok (.aload_n 0, 1) := by decide +kernel
theorem dX0_findLessons_82 : decode cX0_findLessons 82 = .ok (.getfield 18, 3) := by decide +kernel
theorem dX0_findLessons_85 : decode cX0_findLessons 85 = .ok (.iload_n 1, 1) := by decide +kernel
theorem dX0_findLessons_86 : decode cX0_findLessons 86 = .ok (.iconst 1, 1) := by decide +kernel
theorem dX0_findLessons_87 : decode cX0_findLessons 87 = .ok (.invokevirtual 55, 3) := by decide +kernel
theorem dX0_findLessons_90 : decode cX0_findLessons 90 = .ok (.aload_n 0, 1) := by decide +kernel
theorem dX0_findLessons_91 : decode cX0_findLessons 91 = .ok (.getfield 43, 3) := by decide +kernel
theorem dX0_findLessons_94 : decode cX0_findLessons 94 = .ok (.aload_n 0, 1) := by decide +kernel
theorem dX0_findLessons_95 : decode cX0_findLessons 95 = .ok (.getfield 18, 3) := by decide +kernel
theorem dX0_findLessons_98 : decode cX0_findLessons 98 = .ok (.invokevirtual 130, 3) := by decide +kernel
theorem dX0_findLessons_101 : decode cX0_findLessons 101 = .ok (.ifCond .ne 6, 3) := by decide +kernel
theorem dX0_findLessons_104 : decode cX0_findLessons 104 = .ok (.iload 4, 2) := by decide +kernel
theorem dX0_findLessons_106 : decode cX0_findLessons 106 = .ok (.ireturn, 1) := by decide +kernel
theorem dX0_findLessons_107 : decode cX0_findLessons 107 = .ok (.iinc 4 1, 3) := by decide +kernel
theorem dX0_findLessons_110 : decode cX0_findLessons 110 = .ok (.goto (-89), 3) := by decide +kernel
theorem dX0_findLessons_113 : decode cX0_findLessons 113 = .ok (.iinc 3 1, 3) := by decide +kernel
theorem dX0_findLessons_116 : decode cX0_findLessons 116 = .ok (.goto (-109), 3) := by decide +kernel
theorem dX0_findLessons_119 : decode cX0_findLessons 119 = .ok (.iconst (-1), 1) := by decide +kernel
theorem dX0_findLessons_120 : decode cX0_findLessons 120 = .ok (.ireturn, 1) := by decide +kernel
theorem dX0_commonJokes_0 : decode cX0_commonJokes 0 = .ok (.iconst (-1), 1) := by decide +kernel
theorem dX0_commonJokes_1 : decode cX0_commonJokes 1 = .ok (.istore_n 1, 1) := by decide +kernel
theorem dX0_commonJokes_2 : decode cX0_commonJokes 2 = .ok (.iconst 0, 1) := by decide +kernel
theorem dX0_commonJokes_3 : decode cX0_commonJokes 3 = .ok (.istore_n 2, 1) := by decide +kernel
theorem dX0_commonJokes_4 : decode cX0_commonJokes 4 = .ok (.iload_n 2, 1) := by decide +kernel
theorem dX0_commonJokes_5 : decode cX0_commonJokes 5 = .ok (.aload_n 0, 1) := by decide +kernel
theorem dX0_commonJokes_6 : decode cX0_commonJokes 6 = .ok (.getfield 43, 3) := by decide +kernel
theorem dX0_commonJokes_9 : decode cX0_commonJokes 9 = .ok (.getfield 82, 3) := by decide +kernel
theorem dX0_commonJokes_12 : decode cX0_commonJokes 12 = .ok (.if_icmp .ge 40, 3) := by decide +kernel
theorem dX0_commonJokes_15 : decode cX0_commonJokes 15 = .ok (.aload_n 0, 1) := by decide +kernel
theorem dX0_commonJokes_16 : decode cX0_commonJokes 16 = .ok (.getfield 33, 3) := by decide +kernel
theorem dX0_commonJokes_19 : decode cX0_commonJokes 19 = .ok (.getfield 48, 3) := by decide +kernel
theorem dX0_commonJokes_22 : decode cX0_commonJokes 22 = .ok (.getfield 91, 3) := by decide +kernel
theorem dX0_commonJokes_25 : decode cX0_commonJokes 25 = .ok (.iload_n 2, 1) := by decide +kernel
theorem dX0_commonJokes_26 : decode cX0_commonJokes 26 = .ok (.iaload, 1) := by decide +kernel
theorem dX0_commonJokes_27 : decode cX0_commonJokes 27 = .ok (.iconst (-1), 1) := by decide +kernel
theorem dX0_commonJokes_28 : decode cX0_commonJokes 28 = .ok (.if_icmp .ne 18, 3) := by decide +kernel
theorem dX0_commonJokes_31 : decode cX0_commonJokes 31 = .ok (.iload_n 1, 1) := by decide +kernel
theorem dX0_commonJokes_32 : decode cX0_commonJokes 32 = .ok (.aload_n 0, 1) := by decide +kernel
theorem dX0_commonJokes_33 : decode cX0_commonJokes 33 = .ok (.getfield 33, 3) := by decide +kernel
theorem dX0_commonJokes_36 : decode cX0_commonJokes 36 = .ok (.getfield 48, 3) := by decide +kernel
theorem dX0_commonJokes_39 : decode cX0_commonJokes 39 = .ok (.getfield 152, 3) := by decide +kernel
theorem dX0_commonJokes_42 : decode cX0_commonJokes 42 = .ok (.iload_n 2, 1) := by decide +kernel
theorem dX0_commonJokes_43 : decode cX0_commonJokes 43 = .ok (.iaload, 1) := by decide +kernel
theorem dX0_commonJokes_44 : decode cX0_commonJokes 44 = .ok (.iand, 1) := by decide +kernel
theorem dX0_commonJokes_45 : decode cX0_commonJokes 45 = .ok (.istore_n 1, 1) := by decide +kernel
theorem dX0_commonJokes_46 : decode cX0_commonJokes 46 = .ok (.iinc 2 1, 3) := by decide +kernel
theorem dX0_commonJokes_49 : decode cX0_commonJokes 49 = .ok (.goto (-45), 3) := by decide +kernel
theorem dX0_commonJokes_52 : decode cX0_commonJokes 52 = .ok (.iload_n 1, 1) := by decide +kernel
theorem dX0_commonJokes_53 : decode cX0_commonJokes 53 = .ok (.ireturn, 1) := by decide +kernel
theorem dX0_findOldSets_0 : decode cX0_findOldSets 0 = .ok (.iconst 1, 1) := by decide +kernel
theorem dX0_findOldSets_1 : decode cX0_findOldSets 1 = .ok (.aload_n 0, 1) := by decide +kernel
theorem dX0_findOldSets_2 : decode cX0_findOldSets 2 = .ok (.getfield 43, 3) := by decide +kernel
theorem dX0_findOldSets_5 : decode cX0_findOldSets 5 = .ok (.getfield 82, 3) := by decide +kernel
theorem dX0_findOldSets_8 : decode cX0_findOldSets 8 = .ok (.iload_n 3, 1) := by decide +kernel
theorem dX0_findOldSets_9 : decode cX0_findOldSets 9 = .ok (.isub, 1) := by decide +kernel
theorem dX0_findOldSets_10 : decode cX0_findOldSets 10 = .ok (.invokestatic 155, 3) := by decide +kernel
theorem dX0_findOldSets_13 : decode cX0_findOldSets 13 = .ok (.istore 4, 2) := by decide +kernel
theorem dX0_findOldSets_15 : decode cX0_findOldSets 15 = .ok (.aload_n 0, 1) := by decide +kernel
theorem dX0_findOldSets_16 : decode cX0_findOldSets 16 = .ok (.getfield 44, 3) := by decide +kernel
theorem dX0_findOldSets_19 : decode cX0_findOldSets 19 = .ok (.aload_n 1, 1) := by decide +kernel
theorem dX0_findOldSets_20 : decode cX0_findOldSets 20 = .ok (.putfield 160, 3) := by decide +kernel
theorem dX0_findOldSets_23 : decode cX0_findOldSets 23 = .ok (.aload_n 0, 1) := by decide +kernel
theorem dX0_findOldSets_24 : decode cX0_findOldSets 24 = .ok (.iconst 0, 1) := by decide +kernel
theorem dX0_findOldSets_25 : decode cX0_findOldSets 25 = .ok (.putfield 65, 3) := by decide +kernel
theorem dX0_findOldSets_28 : decode cX0_findOldSets 28 = .ok (.aload_n 0, 1) := by decide +kernel
theorem dX0_findOldSets_29 : decode cX0_findOldSets 29 = .ok (.iconst (-1), 1) := by decide +kernel
theorem dX0_findOldSets_30 : decode cX0_findOldSets 30 = .ok (.putfield 75, 3) := by decide +kernel
theorem dX0_findOldSets_33 : decode cX0_findOldSets 33 = .ok (.aload_n 0, 1) := by decide +kernel
theorem dX0_findOldSets_34 : decode cX0_findOldSets 34 = .ok (.iconst (-1), 1) := by decide +kernel
theorem dX0_findOldSets_35 : decode cX0_findOldSets 35 = .ok (.putfield 133, 3) := by decide +kernel
theorem dX0_findOldSets_38 : decode cX0_findOldSets 38 = .ok (.iconst 0, 1) := by decide +kernel
theorem dX0_findOldSets_39 : decode cX0_findOldSets 39 = .ok (.istore 5, 2) := by decide +kernel
theorem dX0_findOldSets_41 : decode cX0_findOldSets 41 = .ok (.iload 5, 2) := by decide +kernel
theorem dX0_findOldSets_43 : decode cX0_findOldSets 43 = .ok (.iconst 1, 1) := by decide +kernel
theorem dX0_findOldSets_44 : decode cX0_findOldSets 44 = .ok (.aload_n 0, 1) := by decide +kernel
theorem dX0_findOldSets_45 : decode cX0_findOldSets 45 = .ok (.getfield 43, 3) := by decide +kernel
theorem dX0_findOldSets_48 : decode cX0_findOldSets 48 = .ok (.getfield 110, 3) := by decide +kernel
theorem dX0_findOldSets_51 : decode cX0_findOldSets 51 = .ok (.ishl, 1) := by decide +kernel
theorem dX0_findOldSets_52 : decode cX0_findOldSets 52 = .ok (.if_icmp .ge 137, 3) := by decide +kernel
theorem dX0_findOldSets_55 : decode cX0_findOldSets 55 = .ok (.aload_n 0, 1) := by decide +kernel
theorem dX0_findOldSets_56 : decode cX0_findOldSets 56 = .ok (.getfield 18, 3) := by decide +kernel
theorem dX0_findOldSets_59 : decode cX0_findOldSets 59 = .ok (.aload_n 0, 1) := by decide +kernel
theorem dX0_findOldSets_60 : decode cX0_findOldSets 60 = .ok (.getfield 43, 3) := by decide +kernel
theorem dX0_findOldSets_63 : decode cX0_findOldSets 63 = .ok (.invokevirtual 164, 3) := by decide +kernel
theorem dX0_findOldSets_66 : decode cX0_findOldSets 66 = .ok (.iconst 0, 1) := by decide +kernel
theorem dX0_findOldSets_67 : decode cX0_findOldSets 67 = .ok (.istore 6, 2) := by decide +kernel
theorem dX0_findOldSets_69 : decode cX0_findOldSets 69 = .ok (.iload 6, 2) := by decide +kernel
theorem dX0_findOldSets_71 : decode cX0_findOldSets 71 = .ok (.aload_n 0, 1) := by decide +kernel
theorem dX0_findOldSets_72 : decode cX0_findOldSets 72 = .ok (.getfield 43, 3) := by decide +kernel
theorem dX0_findOldSets_75 : decode cX0_findOldSets 75 = .ok (.getfield 110, 3) := by decide +kernel
theorem dX0_findOldSets_78 : decode cX0_findOldSets 78 = .ok (.if_icmp .ge 35, 3) := by decide +kernel
theorem dX0_findOldSets_81 : decode cX0_findOldSets 81 = .ok (.aload_n 0, 1) := by decide +kernel
theorem dX0_findOldSets_82 : decode cX0_findOldSets 82 = .ok (.getfield 18, 3) := by decide +kernel
theorem dX0_findOldSets_85 : decode cX0_findOldSets 85 = .ok (.getfield 123, 3) := by decide +kernel
theorem dX0_findOldSets_88 : decode cX0_findOldSets 88 = .ok (.iload 6, 2) := by decide +kernel
theorem dX0_findOldSets_90 : decode cX0_findOldSets 90 = .ok (.iload 5, 2) := by decide +kernel
theorem dX0_findOldSets_92 : decode cX0_findOldSets 92 = .ok (.iload 6, 2) := by decide +kernel
theorem dX0_findOldSets_94 : decode cX0_findOldSets 94 = .ok (.ishr, 1) := by decide +kernel
theorem dX0_findOldSets_95 : decode cX0_findOldSets 95 = .ok (.iconst 1, 1) := by decide +kernel
theorem dX0_findOldSets_96 : decode cX0_findOldSets 96 = .ok (.iand, 1) := by decide +kernel
theorem dX0_findOldSets_97 : decode cX0_findOldSets 97 = .ok (.ifCond .eq 7, 3) := by decide +kernel
theorem dX0_findOldSets_100 : decode cX0_findOldSets 100 = .ok (.iconst (-1), 1) := by decide +kernel
theorem dX0_findOldSets_101 : decode cX0_findOldSets 101 = .ok (.goto 5, 3) := by decide +kernel
theorem dX0_findOldSets_104 : decode cX0_findOldSets 104 = .ok (.ldc 126, 2) := by decide +kernel
theorem dX0_findOldSets_106 : decode cX0_findOldSets 106 = .ok (.iastore, 1) := by decide +kernel
theorem dX0_findOldSets_107 : decode cX0_findOldSets 107 = .ok (.iinc 6 1, 3) := by decide +kernel
theorem dX0_findOldSets_110 : decode cX0_findOldSets 110 = .ok (.goto (-41), 3) := by decide +kernel
theorem dX0_findOldSets_113 : decode cX0_findOldSets 113 = .ok (.aload_n 0, 1) := by decide +kernel
theorem dX0_findOldSets_114 : decode cX0_findOldSets 114 = .ok (.getfield 44, 3) := by decide +kernel
theorem dX0_findOldSets_117 : decode cX0_findOldSets 117 = .ok (.aload_n 0, 1) := by decide +kernel
theorem dX0_findOldSets_118 : decode cX0_findOldSets 118 = .ok (.getfield 18, 3) := by decide +kernel
theorem dX0_findOldSets_121 : decode cX0_findOldSets 121 = .ok (.iload_n 2, 1) := by decide +kernel
theorem dX0_findOldSets_122 : decode cX0_findOldSets 122 = .ok (.iload 4, 2) := by decide +kernel
theorem dX0_findOldSets_124 : decode cX0_findOldSets 124 = .ok (.invokevirtual 55, 3) := by decide +kernel
theorem dX0_findOldSets_127 : decode cX0_findOldSets 127 = .ok (.aload_n 0, 1) := by decide +kernel
theorem dX0_findOldSets_128 : decode cX0_findOldSets 128 = .ok (.getfield 43, 3) := by decide +kernel
theorem dX0_findOldSets_131 : decode cX0_findOldSets 131 = .ok (.aload_n 0, 1) := by decide +kernel
theorem dX0_findOldSets_132 : decode cX0_findOldSets 132 = .ok (.getfield 18, 3) := by decide +kernel
theorem dX0_findOldSets_135 : decode cX0_findOldSets 135 = .ok (.invokevirtual 168, 3) := by decide +kernel
theorem dX0_findOldSets_138 : decode cX0_findOldSets 138 = .ok (.iload_n 3, 1) := by decide +kernel
theorem dX0_findOldSets_139 : decode cX0_findOldSets 139 = .ok (.if_icmp .ne 44, 3) := by decide +kernel
theorem dX0_findOldSets_142 : decode cX0_findOldSets 142 = .ok (.aload_n 0, 1) := by decide +kernel
theorem dX0_findOldSets_143 : decode cX0_findOldSets 143 = .ok (.aload_n 0, 1) := by decide +kernel
theorem dX0_findOldSets_144 : decode cX0_findOldSets 144 = .ok (.getfield 65, 3) := by decide +kernel
theorem dX0_findOldSets_147 : decode cX0_findOldSets 147 = .ok (.ifCond .ne 8, 3) := by decide +kernel
theorem dX0_findOldSets_150 : decode cX0_findOldSets 150 = .ok (.iload 5, 2) := by decide +kernel
theorem dX0_findOldSets_152 : decode cX0_findOldSets 152 = .ok (.goto 7, 3) := by decide +kernel
theorem dX0_findOldSets_155 : decode cX0_findOldSets 155 = .ok (.aload_n 0, 1) := by decide +kernel
theorem dX0_findOldSets_156 : decode cX0_findOldSets 156 = .ok (.getfield 75, 3) := by decide +kernel
theorem dX0_findOldSets_159 : decode cX0_findOldSets 159 = .ok (.putfield 75, 3) := by decide +kernel
theorem dX0_findOldSets_162 : decode cX0_findOldSets 162 = .ok (.aload_n 0, 1) := by decide +kernel
theorem dX0_findOldSets_163 : decode cX0_findOldSets 163 = .ok (.dup, 1) := by decide +kernel
theorem dX0_findOldSets_164 : decode cX0_findOldSets 164 = .ok (.getfield 133, 3) := by decide +kernel
theorem dX0_findOldSets_167 : decode cX0_findOldSets 167 = .ok (.iload 5, 2) := by decide +kernel
theorem dX0_findOldSets_169 : decode cX0_findOldSets 169 = .ok (.iand, 1) := by decide +kernel
theorem dX0_findOldSets_170 : decode cX0_findOldSets 170 = .ok (.putfield 133, 3) := by decide +kernel
theorem dX0_findOldSets_173 : decode cX0_findOldSets 173 = .ok (.aload_n 0, 1) := by decide +kernel
theorem dX0_findOldSets_174 : decode cX0_findOldSets 174 = .ok (.dup, 1) := by decide +kernel
theorem dX0_findOldSets_175 : decode cX0_findOldSets 175 = .ok (.getfield 65, 3) := by decide +kernel
theorem dX0_findOldSets_178 : decode cX0_findOldSets 178 = .ok (.iconst 1, 1) := by decide +kernel
theorem dX0_findOldSets_179 : decode cX0_findOldSets 179 = .ok (.iadd, 1) := by decide +kernel
theorem dX0_findOldSets_180 : decode cX0_findOldSets 180 = .ok (.putfield 65, 3) := by decide +kernel
theorem dX0_findOldSets_183 : decode cX0_findOldSets 183 = .ok (.iinc 5 1, 3) := by decide +kernel
theorem dX0_findOldSets_186 : decode cX0_findOldSets 186 = .ok (.goto (-145), 3) := by decide +kernel
theorem dX0_findOldSets_189 : decode cX0_findOldSets 189 = .ok (.return_, 1) := by decide +kernel
theorem dX0_playGame_0 : decode cX0_playGame 0 = .ok (.aload_n 0, 1) := by decide +kernel
theorem dX0_playGame_1 : decode cX0_playGame 1 = .ok (.getfield 22, 3) := by decide +kernel
theorem dX0_playGame_4 : decode cX0_playGame 4 = .ok (.iconst 0, 1) := by decide +kernel
theorem dX0_playGame_5 : decode cX0_playGame 5 = .ok (.aaload, 1) := by decide +kernel
theorem dX0_playGame_6 : decode cX0_playGame 6 = .ok (.aload_n 0, 1) := by decide +kernel
theorem dX0_playGame_7 : decode cX0_playGame 7 = .ok (.getfield 33, 3) := by decide +kernel
theorem dX0_playGame_10 : decode cX0_playGame 10 = .ok (.getfield 48, 3) := by decide +kernel
theorem dX0_playGame_13 : decode cX0_playGame 13 = .ok (.invokevirtual 51, 3) := by decide +kernel
theorem dX0_playGame_16 : decode cX0_playGame 16 = .ok (.aload_n 0, 1) := by decide +kernel
theorem dX0_playGame_17 : decode cX0_playGame 17 = .ok (.aload_n 0, 1) := by decide +kernel
theorem dX0_playGame_18 : decode cX0_playGame 18 = .ok (.iload_n 1, 1) := by decide +kernel
theorem dX0_playGame_19 : decode cX0_playGame 19 = .ok (.iload_n 2, 1) := by decide +kernel
theorem dX0_playGame_20 : decode cX0_playGame 20 = .ok (.iconst 0, 1) := by decide +kernel
theorem dX0_playGame_21 : decode cX0_playGame 21 = .ok (.iload_n 3, 1) := by decide +kernel
theorem dX0_playGame_22 : decode cX0_playGame 22 = .ok (.invokevirtual 170, 3) := by decide +kernel
theorem dX0_playGame_25 : decode cX0_playGame 25 = .ok (.putfield 65, 3) := by decide +kernel
theorem dX0_playGame_28 : decode cX0_playGame 28 = .ok (.aload_n 0, 1) := by decide +kernel
theorem dX0_playGame_29 : decode cX0_playGame 29 = .ok (.aload_n 0, 1) := by decide +kernel
theorem dX0_playGame_30 : decode cX0_playGame 30 = .ok (.getfield 9, 3) := by decide +kernel
theorem dX0_playGame_33 : decode cX0_playGame 33 = .ok (.iconst 0, 1) := by decide +kernel
theorem dX0_playGame_34 : decode cX0_playGame 34 = .ok (.iaload, 1) := by decide +kernel
theorem dX0_playGame_35 : decode cX0_playGame 35 = .ok (.putfield 75, 3) := by decide +kernel
theorem dX0_playGame_38 : decode cX0_playGame 38 = .ok (.return_, 1) := by decide +kernel
theorem dX0_gameWorth_0 : decode cX0_gameWorth 0 = .ok (.iload_n 3, 1) := by decide +kernel
theorem dX0_gameWorth_1 : decode cX0_gameWorth 1 = .ok (.iload 4, 2) := by decide +kernel
theorem dX0_gameWorth_3 : decode cX0_gameWorth 3 = .ok (.if_icmp .ge 8, 3) := by decide +kernel
theorem dX0_gameWorth_6 : decode cX0_gameWorth 6 = .ok (.iload_n 3, 1) := by decide +kernel
theorem dX0_gameWorth_7 : decode cX0_gameWorth 7 = .ok (.iconst 4, 1) := by decide +kernel
theorem dX0_gameWorth_8 : decode cX0_gameWorth 8 = .ok (.if_icmp .lt 5, 3) := by decide +kernel
theorem dX0_gameWorth_11 : decode cX0_gameWorth 11 = .ok (.iconst 0, 1) := by decide +kernel
theorem dX0_gameWorth_12 : decode cX0_gameWorth 12 = .ok (.ireturn, 1) := by decide +kernel
theorem dX0_gameWorth_13 : decode cX0_gameWorth 13 = .ok (.aload_n 0, 1) := by decide +kernel
theorem dX0_gameWorth_14 : decode cX0_gameWorth 14 = .ok (.getfield 22, 3) := by decide +kernel
theorem dX0_gameWorth_17 : decode cX0_gameWorth 17 = .ok (.iload_n 3, 1) := by decide +kernel
theorem dX0_gameWorth_18 : decode cX0_gameWorth 18 = .ok (.aaload, 1) := by decide +kernel
theorem dX0_gameWorth_19 : decode cX0_gameWorth 19 = .ok (.astore 5, 2) := by decide +kernel
theorem dX0_gameWorth_21 : decode cX0_gameWorth 21 = .ok (.aload_n 0, 1) := by decide +kernel
theorem dX0_gameWorth_22 : decode cX0_gameWorth 22 = .ok (.getfield 22, 3) := by decide +kernel
theorem dX0_gameWorth_25 : decode cX0_gameWorth 25 = .ok (.iload_n 3, 1) := by decide +kernel
theorem dX0_gameWorth_26 : decode cX0_gameWorth 26 = .ok (.iconst 1, 1) := by decide +kernel
theorem dX0_gameWorth_27 : decode cX0_gameWorth 27 = .ok (.iadd, 1) := by decide +kernel
theorem dX0_gameWorth_28 : decode cX0_gameWorth 28 = .ok (.aaload, 1) := by decide +kernel
theorem dX0_gameWorth_29 : decode cX0_gameWorth 29 = .ok (.astore 6, 2) := by decide +kernel
theorem dX0_gameWorth_31 : decode cX0_gameWorth 31 = .ok (.ldc 174, 2) := by decide +kernel
theorem dX0_gameWorth_33 : decode cX0_gameWorth 33 = .ok (.istore 7, 2) := by decide +kernel
theorem dX0_gameWorth_35 : decode cX0_gameWorth 35 = .ok (.iconst (-1), 1) := by decide +kernel
theorem dX0_gameWorth_36 : decode cX0_gameWorth 36 = .ok (.istore 8, 2) := by decide +kernel
theorem dX0_gameWorth_38 : decode cX0_gameWorth 38 = .ok (.iload 8, 2) := by decide +kernel
theorem dX0_gameWorth_40 : decode cX0_gameWorth 40 = .ok (.aload_n 0, 1) := by decide +kernel
theorem dX0_gameWorth_41 : decode cX0_gameWorth 41 = .ok (.getfield 43, 3) := by decide +kernel
theorem dX0_gameWorth_44 : decode cX0_gameWorth 44 = .ok (.getfield 110, 3) := by decide +kernel
theorem dX0_gameWorth_47 : decode cX0_gameWorth 47 = .ok (.if_icmp .ge 140, 3) := by decide +kernel
theorem dX0_gameWorth_50 : decode cX0_gameWorth 50 = .ok (.iload 8, 2) := by decide +kernel
theorem dX0_gameWorth_52 : decode cX0_gameWorth 52 = .ok (.iconst (-1), 1) := by decide +kernel
theorem dX0_gameWorth_53 : decode cX0_gameWorth 53 = .ok (.if_icmp .eq 28, 3) := by decide +kernel
theorem dX0_gameWorth_56 : decode cX0_gameWorth 56 = .ok (.aload 5, 2) := by decide +kernel
theorem dX0_gameWorth_58 : decode cX0_gameWorth 58 = .ok (.getfield 91, 3) := by decide +kernel
theorem dX0_gameWorth_61 : decode cX0_gameWorth 61 = .ok (.iload_n 1, 1) := by decide +kernel
theorem dX0_gameWorth_62 : decode cX0_gameWorth 62 = .ok (.iaload, 1) := by decide +kernel
theorem dX0_gameWorth_63 : decode cX0_gameWorth 63 = .ok (.iconst (-1), 1) := by decide +kernel
theorem dX0_gameWorth_64 : decode cX0_gameWorth 64 = .ok (.if_icmp .ne 117, 3) := by decide +kernel
theorem dX0_gameWorth_67 : decode cX0_gameWorth 67 = .ok (.aload 5, 2) := by decide +kernel
theorem dX0_gameWorth_69 : decode cX0_gameWorth 69 = .ok (.iload_n 1, 1) := by decide +kernel
theorem dX0_gameWorth_70 : decode cX0_gameWorth 70 = .ok (.iload 8, 2) := by decide +kernel
theorem dX0_gameWorth_72 : decode cX0_gameWorth 72 = .ok (.invokevirtual 113, 3) := by decide +kernel
theorem dX0_gameWorth_75 : decode cX0_gameWorth 75 = .ok (.ifCond .ne 6, 3) := by decide +kernel
theorem dX0_gameWorth_78 : decode cX0_gameWorth 78 = .ok (.goto 103, 3) := by decide +kernel
theorem dX0_gameWorth_81 : decode cX0_gameWorth 81 = .ok (.aload 6, 2) := by decide +kernel
theorem dX0_gameWorth_83 : decode cX0_gameWorth 83 = .ok (.aload 5, 2) := by decide +kernel
theorem dX0_gameWorth_85 : decode cX0_gameWorth 85 = .ok (.invokevirtual 51, 3) := by decide +kernel
theorem dX0_gameWorth_88 : decode cX0_gameWorth 88 = .ok (.iconst 0, 1) := by decide +kernel
theorem dX0_gameWorth_89 : decode cX0_gameWorth 89 = .ok (.istore 9, 2) := by decide +kernel
theorem dX0_gameWorth_91 : decode cX0_gameWorth 91 = .ok (.iload 8, 2) := by decide +kernel
theorem dX0_gameWorth_93 : decode cX0_gameWorth 93 = .ok (.iconst (-1), 1) := by decide +kernel
theorem dX0_gameWorth_94 : decode cX0_gameWorth 94 = .ok (.if_icmp .eq 41, 3) := by decide +kernel
theorem dX0_gameWorth_97 : decode cX0_gameWorth 97 = .ok (.aload_n 0, 1) := by decide +kernel
theorem dX0_gameWorth_98 : decode cX0_gameWorth 98 = .ok (.getfield 44, 3) := by decide +kernel
theorem dX0_gameWorth_101 : decode cX0_gameWorth 101 = .ok (.aload 6, 2) := by decide +kernel
theorem dX0_gameWorth_103 : decode cX0_gameWorth 103 = .ok (.invokevirtual 99, 3) := by decide +kernel
theorem dX0_gameWorth_106 : decode cX0_gameWorth 106 = .ok (.aload_n 0, 1) := by decide +kernel
theorem dX0_gameWorth_107 : decode cX0_gameWorth 107 = .ok (.getfield 44, 3) := by decide +kernel
theorem dX0_gameWorth_110 : decode cX0_gameWorth 110 = .ok (.iload_n 1, 1) := by decide +kernel
theorem dX0_gameWorth_111 : decode cX0_gameWorth 111 = .ok (.iload 8, 2) := by decide +kernel
theorem dX0_gameWorth_113 : decode cX0_gameWorth 113 = .ok (.invokevirtual 117, 3) := by decide +kernel
theorem dX0_gameWorth_116 : decode cX0_gameWorth 116 = .ok (.ifCond .eq 16, 3) := by decide +kernel
theorem dX0_gameWorth_119 : decode cX0_gameWorth 119 = .ok (.aload_n 0, 1) := by decide +kernel
theorem dX0_gameWorth_120 : decode cX0_gameWorth 120 = .ok (.getfield 43, 3) := by decide +kernel
theorem dX0_gameWorth_123 : decode cX0_gameWorth 123 = .ok (.iload_n 1, 1) := by decide +kernel
theorem dX0_gameWorth_124 : decode cX0_gameWorth 124 = .ok (.aload 6, 2) := by decide +kernel
theorem dX0_gameWorth_126 : decode cX0_gameWorth 126 = .ok (.invokevirtual 175, 3) := by decide +kernel
theorem dX0_gameWorth_129 : decode cX0_gameWorth 129 = .ok (.goto 4, 3) := by decide +kernel
theorem dX0_gameWorth_132 : decode cX0_gameWorth 132 = .ok (.iconst 0, 1) := by decide +kernel
theorem dX0_gameWorth_133 : decode cX0_gameWorth 133 = .ok (.istore 9, 2) := by decide +kernel
theorem dX0_gameWorth_135 : decode cX0_gameWorth 135 = .ok (.aload 6, 2) := by decide +kernel
theorem dX0_gameWorth_137 : decode cX0_gameWorth 137 = .ok (.dup, 1) := by decide +kernel
theorem dX0_gameWorth_138 : decode cX0_gameWorth 138 = .ok (.getfield 61, 3) := by decide +kernel
theorem dX0_gameWorth_141 : decode cX0_gameWorth 141 = .ok (.iconst 1, 1) := by decide +kernel
theorem dX0_gameWorth_142 : decode cX0_gameWorth 142 = .ok (.iadd, 1) := by decide +kernel
theorem dX0_gameWorth_143 : decode cX0_gameWorth 143 = .ok (.putfield 61, 3) := by decide +kernel
theorem dX0_gameWorth_146 : decode cX0_gameWorth 146 = .ok (.iload 9, 2) := by decide +kernel
theorem dX0_gameWorth_148 : decode cX0_gameWorth 148 = .ok (.aload_n 0, 1) := by decide +kernel
theorem dX0_gameWorth_149 : decode cX0_gameWorth 149 = .ok (.iload_n 2, 1) := by decide +kernel
theorem dX0_gameWorth_150 : decode cX0_gameWorth 150 = .ok (.iload_n 1, 1) := by decide +kernel
theorem dX0_gameWorth_151 : decode cX0_gameWorth 151 = .ok (.iload_n 3, 1) := by decide +kernel
theorem dX0_gameWorth_152 : decode cX0_gameWorth 152 = .ok (.iconst 1, 1) := by decide +kernel
theorem dX0_gameWorth_153 : decode cX0_gameWorth 153 = .ok (.iadd, 1) := by decide +kernel
theorem dX0_gameWorth_154 : decode cX0_gameWorth 154 = .ok (.iload 4, 2) := by decide +kernel
theorem dX0_gameWorth_156 : decode cX0_gameWorth 156 = .ok (.invokevirtual 170, 3) := by decide +kernel
theorem dX0_gameWorth_159 : decode cX0_gameWorth 159 = .ok (.isub, 1) := by decide +kernel
theorem dX0_gameWorth_160 : decode cX0_gameWorth 160 = .ok (.istore 9, 2) := by decide +kernel
theorem dX0_gameWorth_162 : decode cX0_gameWorth 162 = .ok (.iload 9, 2) := by decide +kernel
theorem dX0_gameWorth_164 : decode cX0_gameWorth 164 = .ok (.iload 7, 2) := by decide +kernel
theorem dX0_gameWorth_166 : decode cX0_gameWorth 166 = .ok (.if_icmp .le 15, 3) := by decide +kernel
theorem dX0_gameWorth_169 : decode cX0_gameWorth 169 = .ok (.iload 9, 2) := by decide +kernel
theorem dX0_gameWorth_171 : decode cX0_gameWorth 171 = .ok (.istore 7, 2) := by decide +kernel
theorem dX0_gameWorth_173 : decode cX0_gameWorth 173 = .ok (.aload_n 0, 1) := by decide +kernel
theorem dX0_gameWorth_174 : decode cX0_gameWorth 174 = .ok (.getfield 9, 3) := by decide +kernel
theorem dX0_gameWorth_177 : decode cX0_gameWorth 177 = .ok (.iload_n 3, 1) := by decide +kernel
theorem dX0_gameWorth_178 : decode cX0_gameWorth 178 = .ok (.iload 8, 2) := by decide +kernel
theorem dX0_gameWorth_180 : decode cX0_gameWorth 180 = .ok (.iastore, 1) := by decide +kernel
theorem dX0_gameWorth_181 : decode cX0_gameWorth 181 = .ok (.iinc 8 1, 3) := by decide +kernel
theorem dX0_gameWorth_184 : decode cX0_gameWorth 184 = .ok (.goto (-146), 3) := by decide +kernel
theorem dX0_gameWorth_187 : decode cX0_gameWorth 187 = .ok (.iload 7, 2) := by decide +kernel
theorem dX0_gameWorth_189 : decode cX0_gameWorth 189 = .ok (.ireturn, 1) := by decide +kernel
theorem dX0_tryRules_0 : decode cX0_tryRules 0 = .ok (.aload_n 0, 1) := by decide +kernel
theorem dX0_tryRules_1 : decode cX0_tryRules 1 = .ok (.iconst 0, 1) := by decide +kernel
theorem dX0_tryRules_2 : decode cX0_tryRules 2 = .ok (.putfield 65, 3) := by decide +kernel
theorem dX0_tryRules_5 : decode cX0_tryRules 5 = .ok (.aload_n 0, 1) := by decide +kernel
theorem dX0_tryRules_6 : decode cX0_tryRules 6 = .ok (.iconst (-1), 1) := by decide +kernel
theorem dX0_tryRules_7 : decode cX0_tryRules 7 = .ok (.putfield 75, 3) := by decide +kernel
theorem dX0_tryRules_10 : decode cX0_tryRules 10 = .ok (.iconst (-1), 1) := by decide +kernel
theorem dX0_tryRules_11 : decode cX0_tryRules 11 = .ok (.istore 4, 2) := by decide +kernel
theorem dX0_tryRules_13 : decode cX0_tryRules 13 = .ok (.iload 4, 2) := by decide +kernel
theorem dX0_tryRules_15 : decode cX0_tryRules 15 = .ok (.iload_n 2, 1) := by decide +kernel
theorem dX0_tryRules_16 : decode cX0_tryRules 16 = .ok (.if_icmp .ge 89, 3) := by decide +kernel
theorem dX0_tryRules_19 : decode cX0_tryRules 19 = .ok (.aload_n 0, 1) := by decide +kernel
theorem dX0_tryRules_20 : decode cX0_tryRules 20 = .ok (.getfield 44, 3) := by decide +kernel
theorem dX0_tryRules_23 : decode cX0_tryRules 23 = .ok (.iload 4, 2) := by decide +kernel
theorem dX0_tryRules_25 : decode cX0_tryRules 25 = .ok (.iconst (-1), 1) := by decide +kernel
theorem dX0_tryRules_26 : decode cX0_tryRules 26 = .ok (.if_icmp .ne 7, 3) := by decide +kernel
theorem dX0_tryRules_29 : decode cX0_tryRules 29 = .ok (.aconst_null, 1) := by decide +kernel
theorem dX0_tryRules_30 : decode cX0_tryRules 30 = .ok (.goto 7, 3) := by decide +kernel
theorem dX0_tryRules_33 : decode cX0_tryRules 33 = .ok (.aload_n 1, 1) := by decide +kernel
theorem dX0_tryRules_34 : decode cX0_tryRules 34 = .ok (.iload 4, 2) := by decide +kernel
theorem dX0_tryRules_36 : decode cX0_tryRules 36 = .ok (.aaload, 1) := by decide +kernel
theorem dX0_tryRules_37 : decode cX0_tryRules 37 = .ok (.putfield 160, 3) := by decide +kernel
theorem dX0_tryRules_40 : decode cX0_tryRules 40 = .ok (.aload_n 0, 1) := by decide +kernel
theorem dX0_tryRules_41 : decode cX0_tryRules 41 = .ok (.iload_n 3, 1) := by decide +kernel
theorem dX0_tryRules_42 : decode cX0_tryRules 42 = .ok (.iload 4, 2) := by decide +kernel
theorem dX0_tryRules_44 : decode cX0_tryRules 44 = .ok (.iconst 1, 1) := by decide +kernel
theorem dX0_tryRules_45 : decode cX0_tryRules 45 = .ok (.iadd, 1) := by decide +kernel
theorem dX0_tryRules_46 : decode cX0_tryRules 46 = .ok (.iconst 5, 1) := by decide +kernel
theorem dX0_tryRules_47 : decode cX0_tryRules 47 = .ok (.imul, 1) := by decide +kernel
theorem dX0_tryRules_48 : decode cX0_tryRules 48 = .ok (.invokevirtual 179, 3) := by decide +kernel
theorem dX0_tryRules_51 : decode cX0_tryRules 51 = .ok (.istore 5, 2) := by decide +kernel
theorem dX0_tryRules_53 : decode cX0_tryRules 53 = .ok (.aload_n 0, 1) := by decide +kernel
theorem dX0_tryRules_54 : decode cX0_tryRules 54 = .ok (.getfield 26, 3) := by decide +kernel
theorem dX0_tryRules_57 : decode cX0_tryRules 57 = .ok (.iload 4, 2) := by decide +kernel
theorem dX0_tryRules_59 : decode cX0_tryRules 59 = .ok (.iconst 1, 1) := by decide +kernel
theorem dX0_tryRules_60 : decode cX0_tryRules 60 = .ok (.iadd, 1) := by decide +kernel
theorem dX0_tryRules_61 : decode cX0_tryRules 61 = .ok (.iload 5, 2) := by decide +kernel
theorem dX0_tryRules_63 : decode cX0_tryRules 63 = .ok (.bastore, 1) := by decide +kernel
theorem dX0_tryRules_64 : decode cX0_tryRules 64 = .ok (.iload 5, 2) := by decide +kernel
theorem dX0_tryRules_66 : decode cX0_tryRules 66 = .ok (.ifCond .eq 33, 3) := by decide +kernel
theorem dX0_tryRules_69 : decode cX0_tryRules 69 = .ok (.aload_n 0, 1) := by decide +kernel
theorem dX0_tryRules_70 : decode cX0_tryRules 70 = .ok (.aload_n 0, 1) := by decide +kernel
theorem dX0_tryRules_71 : decode cX0_tryRules 71 = .ok (.getfield 65, 3) := by decide +kernel
theorem dX0_tryRules_74 : decode cX0_tryRules 74 = .ok (.ifCond .ne 8, 3) := by decide +kernel
theorem dX0_tryRules_77 : decode cX0_tryRules 77 = .ok (.iload 4, 2) := by decide +kernel
theorem dX0_tryRules_79 : decode cX0_tryRules 79 = .ok (.goto 7, 3) := by decide +kernel
theorem dX0_tryRules_82 : decode cX0_tryRules 82 = .ok (.aload_n 0, 1) := by decide +kernel
theorem dX0_tryRules_83 : decode cX0_tryRules 83 = .ok (.getfield 75, 3) := by decide +kernel
theorem dX0_tryRules_86 : decode cX0_tryRules 86 = .ok (.putfield 75, 3) := by decide +kernel
theorem dX0_tryRules_89 : decode cX0_tryRules 89 = .ok (.aload_n 0, 1) := by decide +kernel
theorem dX0_tryRules_90 : decode cX0_tryRules 90 = .ok (.dup, 1) := by decide +kernel
theorem dX0_tryRules_91 : decode cX0_tryRules 91 = .ok (.getfield 65, 3) := by decide +kernel
theorem dX0_tryRules_94 : decode cX0_tryRules 94 = .ok (.iconst 1, 1) := by decide +kernel
theorem dX0_tryRules_95 : decode cX0_tryRules 95 = .ok (.iadd, 1) := by decide +kernel
theorem dX0_tryRules_96 : decode cX0_tryRules 96 = .ok (.putfield 65, 3) := by decide +kernel
theorem dX0_tryRules_99 : decode cX0_tryRules 99 = .ok (.iinc 4 1, 3) := by decide +kernel
theorem dX0_tryRules_102 : decode cX0_tryRules 102 = .ok (.goto (-89), 3) := by decide +kernel
theorem dX0_tryRules_105 : decode cX0_tryRules 105 = .ok (.return_, 1) := by decide +kernel
theorem dX0_allNotesHold_0 : decode cX0_allNotesHold 0 = .ok (.iload_n 1, 1) := by decide +kernel
theorem dX0_allNotesHold_1 : decode cX0_allNotesHold 1 = .ok (.istore_n 3, 1) := by decide +kernel
theorem dX0_allNotesHold_2 : decode cX0_allNotesHold 2 = .ok (.iconst 0, 1) := by decide +kernel
theorem dX0_allNotesHold_3 : decode cX0_allNotesHold 3 = .ok (.istore 4, 2) := by decide +kernel
theorem dX0_allNotesHold_5 : decode cX0_allNotesHold 5 = .ok (.iload 4, 2) := by decide +kernel
theorem dX0_allNotesHold_7 : decode cX0_allNotesHold 7 = .ok (.aload_n 0, 1) := by decide +kernel
theorem dX0_allNotesHold_8 : decode cX0_allNotesHold 8 = .ok (.getfield 33, 3) := by decide +kernel
theorem dX0_allNotesHold_11 : decode cX0_allNotesHold 11 = .ok (.getfield 182, 3) := by decide +kernel
theorem dX0_allNotesHold_14 : decode cX0_allNotesHold 14 = .ok (.if_icmp .ge 24, 3) := by decide +kernel
theorem dX0_allNotesHold_17 : decode cX0_allNotesHold 17 = .ok (.iload_n 3, 1) := by decide +kernel
theorem dX0_allNotesHold_18 : decode cX0_allNotesHold 18 = .ok (.aload_n 0, 1) := by decide +kernel
theorem dX0_allNotesHold_19 : decode cX0_allNotesHold 19 = .ok (.getfield 33, 3) := by decide +kernel
theorem dX0_allNotesHold_22 : decode cX0_allNotesHold 22 = .ok (.getfield 185, 3) := by decide +kernel
theorem dX0_allNotesHold_25 : decode cX0_allNotesHold 25 = .ok (.iload 4, 2) := by decide +kernel
theorem dX0_allNotesHold_27 : decode cX0_allNotesHold 27 = .ok (.iaload, 1) := by decide +kernel
theorem dX0_allNotesHold_28 : decode cX0_allNotesHold 28 = .ok (.invokestatic 155, 3) := by decide +kernel
theorem dX0_allNotesHold_31 : decode cX0_allNotesHold 31 = .ok (.istore_n 3, 1) := by decide +kernel
theorem dX0_allNotesHold_32 : decode cX0_allNotesHold 32 = .ok (.iinc 4 1, 3) := by decide +kernel
theorem dX0_allNotesHold_35 : decode cX0_allNotesHold 35 = .ok (.goto (-30), 3) := by decide +kernel
theorem dX0_allNotesHold_38 : decode cX0_allNotesHold 38 = .ok (.aload_n 0, 1) := by decide +kernel
theorem dX0_allNotesHold_39 : decode cX0_allNotesHold 39 = .ok (.getfield 18, 3) := by decide +kernel
theorem dX0_allNotesHold_42 : decode cX0_allNotesHold 42 = .ok (.aload_n 0, 1) := by decide +kernel
theorem dX0_allNotesHold_43 : decode cX0_allNotesHold 43 = .ok (.getfield 43, 3) := by decide +kernel
theorem dX0_allNotesHold_46 : decode cX0_allNotesHold 46 = .ok (.invokevirtual 164, 3) := by decide +kernel
theorem dX0_allNotesHold_49 : decode cX0_allNotesHold 49 = .ok (.iconst 0, 1) := by decide +kernel
theorem dX0_allNotesHold_50 : decode cX0_allNotesHold 50 = .ok (.istore 4, 2) := by decide +kernel
theorem dX0_allNotesHold_52 : decode cX0_allNotesHold 52 = .ok (.iload 4, 2) := by decide +kernel
theorem dX0_allNotesHold_54 : decode cX0_allNotesHold 54 = .ok (.iload_n 3, 1) := by decide +kernel
theorem dX0_allNotesHold_55 : decode cX0_allNotesHold 55 = .ok (.if_icmp .gt 55, 3) := by decide +kernel
theorem dX0_allNotesHold_58 : decode cX0_allNotesHold 58 = .ok (.aload_n 0, 1) := by decide +kernel
theorem dX0_allNotesHold_59 : decode cX0_allNotesHold 59 = .ok (.getfield 44, 3) := by decide +kernel
theorem dX0_allNotesHold_62 : decode cX0_allNotesHold 62 = .ok (.aload_n 0, 1) := by decide +kernel
theorem dX0_allNotesHold_63 : decode cX0_allNotesHold 63 = .ok (.getfield 18, 3) := by decide +kernel
theorem dX0_allNotesHold_66 : decode cX0_allNotesHold 66 = .ok (.invokevirtual 68, 3) := by decide +kernel
theorem dX0_allNotesHold_69 : decode cX0_allNotesHold 69 = .ok (.pop, 1) := by decide +kernel
theorem dX0_allNotesHold_70 : decode cX0_allNotesHold 70 = .ok (.aload_n 0, 1) := by decide +kernel
theorem dX0_allNotesHold_71 : decode cX0_allNotesHold 71 = .ok (.iload 4, 2) := by decide +kernel
theorem dX0_allNotesHold_73 : decode cX0_allNotesHold 73 = .ok (.invokevirtual 188, 3) := by decide +kernel
theorem dX0_allNotesHold_76 : decode cX0_allNotesHold 76 = .ok (.ifCond .ne 5, 3) := by decide +kernel
theorem dX0_allNotesHold_79 : decode cX0_allNotesHold 79 = .ok (.iconst 0, 1) := by decide +kernel
theorem dX0_allNotesHold_80 : decode cX0_allNotesHold 80 = .ok (.ireturn, 1) := by decide +kernel
theorem dX0_allNotesHold_81 : decode cX0_allNotesHold 81 = .ok (.iload 4, 2) := by decide +kernel
theorem dX0_allNotesHold_83 : decode cX0_allNotesHold 83 = .ok (.iload_n 1, 1) := by decide +kernel
theorem dX0_allNotesHold_84 : decode cX0_allNotesHold 84 = .ok (.if_icmp .ne 20, 3) := by decide +kernel
theorem dX0_allNotesHold_87 : decode cX0_allNotesHold 87 = .ok (.aload_n 0, 1) := by decide +kernel
theorem dX0_allNotesHold_88 : decode cX0_allNotesHold 88 = .ok (.getfield 44, 3) := by decide +kernel
theorem dX0_allNotesHold_91 : decode cX0_allNotesHold 91 = .ok (.getfield 72, 3) := by decide +kernel
theorem dX0_allNotesHold_94 : decode cX0_allNotesHold 94 = .ok (.iconst 0, 1) := by decide +kernel
theorem dX0_allNotesHold_95 : decode cX0_allNotesHold 95 = .ok (.aload_n 0, 1) := by decide +kernel
theorem dX0_allNotesHold_96 : decode cX0_allNotesHold 96 = .ok (.getfield 30, 3) := by decide +kernel
theorem dX0_allNotesHold_99 : decode cX0_allNotesHold 99 = .ok (.iload_n 2, 1) := by decide +kernel
theorem dX0_allNotesHold_100 : decode cX0_allNotesHold 100 = .ok (.iconst 5, 1) := by decide +kernel
theorem dX0_allNotesHold_101 : decode cX0_allNotesHold 101 = .ok (.invokestatic 192, 3) := by decide +kernel
theorem dX0_allNotesHold_104 : decode cX0_allNotesHold 104 = .ok (.iinc 4 1, 3) := by decide +kernel
theorem dX0_allNotesHold_107 : decode cX0_allNotesHold 107 = .ok (.goto (-55), 3) := by decide +kernel
theorem dX0_allNotesHold_110 : decode cX0_allNotesHold 110 = .ok (.iconst 1, 1) := by decide +kernel
theorem dX0_allNotesHold_111 : decode cX0_allNotesHold 111 = .ok (.ireturn, 1) := by decide +kernel
theorem dX0_notesHold_0 : decode cX0_notesHold 0 = .ok (.iconst 0, 1) := by decide +kernel
theorem dX0_notesHold_1 : decode cX0_notesHold 1 = .ok (.istore_n 2, 1) := by decide +kernel
theorem dX0_notesHold_2 : decode cX0_notesHold 2 = .ok (.iload_n 2, 1) := by decide +kernel
theorem dX0_notesHold_3 : decode cX0_notesHold 3 = .ok (.aload_n 0, 1) := by decide +kernel
theorem dX0_notesHold_4 : decode cX0_notesHold 4 = .ok (.getfield 33, 3) := by decide +kernel
theorem dX0_notesHold_7 : decode cX0_notesHold 7 = .ok (.getfield 182, 3) := by decide +kernel
theorem dX0_notesHold_10 : decode cX0_notesHold 10 = .ok (.if_icmp .ge 53, 3) := by decide +kernel
theorem dX0_notesHold_13 : decode cX0_notesHold 13 = .ok (.aload_n 0, 1) := by decide +kernel
theorem dX0_notesHold_14 : decode cX0_notesHold 14 = .ok (.getfield 33, 3) := by decide +kernel
theorem dX0_notesHold_17 : decode cX0_notesHold 17 = .ok (.getfield 185, 3) := by decide +kernel
theorem dX0_notesHold_20 : decode cX0_notesHold 20 = .ok (.iload_n 2, 1) := by decide +kernel
theorem dX0_notesHold_21 : decode cX0_notesHold 21 = .ok (.iaload, 1) := by decide +kernel
theorem dX0_notesHold_22 : decode cX0_notesHold 22 = .ok (.iload_n 1, 1) := by decide +kernel
theorem dX0_notesHold_23 : decode cX0_notesHold 23 = .ok (.if_icmp .ne 34, 3) := by decide +kernel
theorem dX0_notesHold_26 : decode cX0_notesHold 26 = .ok (.aload_n 0, 1) := by decide +kernel
theorem dX0_notesHold_27 : decode cX0_notesHold 27 = .ok (.getfield 33, 3) := by decide +kernel
theorem dX0_notesHold_30 : decode cX0_notesHold 30 = .ok (.getfield 198, 3) := by decide +kernel
theorem dX0_notesHold_33 : decode cX0_notesHold 33 = .ok (.iload_n 2, 1) := by decide +kernel
theorem dX0_notesHold_34 : decode cX0_notesHold 34 = .ok (.iaload, 1) := by decide +kernel
theorem dX0_notesHold_35 : decode cX0_notesHold 35 = .ok (.aload_n 0, 1) := by decide +kernel
theorem dX0_notesHold_36 : decode cX0_notesHold 36 = .ok (.getfield 44, 3) := by decide +kernel
theorem dX0_notesHold_39 : decode cX0_notesHold 39 = .ok (.getfield 72, 3) := by decide +kernel
theorem dX0_notesHold_42 : decode cX0_notesHold 42 = .ok (.aload_n 0, 1) := by decide +kernel
theorem dX0_notesHold_43 : decode cX0_notesHold 43 = .ok (.getfield 33, 3) := by decide +kernel
theorem dX0_notesHold_46 : decode cX0_notesHold 46 = .ok (.getfield 201, 3) := by decide +kernel
theorem dX0_notesHold_49 : decode cX0_notesHold 49 = .ok (.iload_n 2, 1) := by decide +kernel
theorem dX0_notesHold_50 : decode cX0_notesHold 50 = .ok (.iaload, 1) := by decide +kernel
theorem dX0_notesHold_51 : decode cX0_notesHold 51 = .ok (.iaload, 1) := by decide +kernel
theorem dX0_notesHold_52 : decode cX0_notesHold 52 = .ok (.if_icmp .eq 5, 3) := by decide +kernel
theorem dX0_notesHold_55 : decode cX0_notesHold 55 = .ok (.iconst 0, 1) := by decide +kernel
theorem dX0_notesHold_56 : decode cX0_notesHold 56 = .ok (.ireturn, 1) := by decide +kernel
theorem dX0_notesHold_57 : decode cX0_notesHold 57 = .ok (.iinc 2 1, 3) := by decide +kernel
theorem dX0_notesHold_60 : decode cX0_notesHold 60 = .ok (.goto (-58), 3) := by decide +kernel
theorem dX0_notesHold_63 : decode cX0_notesHold 63 = .ok (.iconst 1, 1) := by decide +kernel
theorem dX0_notesHold_64 : decode cX0_notesHold 64 = .ok (.ireturn, 1) := by decide +kernel
theorem dX0_findParting_0 : decode cX0_findParting 0 = .ok (.aload_n 0, 1) := by decide +kernel
theorem dX0_findParting_1 : decode cX0_findParting 1 = .ok (.iconst (-1), 1) := by decide +kernel
theorem dX0_findParting_2 : decode cX0_findParting 2 = .ok (.putfield 75, 3) := by decide +kernel
theorem dX0_findParting_5 : decode cX0_findParting 5 = .ok (.aload_n 0, 1) := by decide +kernel
theorem dX0_findParting_6 : decode cX0_findParting 6 = .ok (.ldc 94, 2) := by decide +kernel
theorem dX0_findParting_8 : decode cX0_findParting 8 = .ok (.putfield 65, 3) := by decide +kernel
theorem dX0_findParting_11 : decode cX0_findParting 11 = .ok (.iconst 0, 1) := by decide +kernel
theorem dX0_findParting_12 : decode cX0_findParting 12 = .ok (.istore_n 2, 1) := by decide +kernel
theorem dX0_findParting_13 : decode cX0_findParting 13 = .ok (.iload_n 2, 1) := by decide +kernel
theorem dX0_findParting_14 : decode cX0_findParting 14 = .ok (.aload_n 0, 1) := by decide +kernel
theorem dX0_findParting_15 : decode cX0_findParting 15 = .ok (.getfield 43, 3) := by decide +kernel
theorem dX0_findParting_18 : decode cX0_findParting 18 = .ok (.getfield 82, 3) := by decide +kernel
theorem dX0_findParting_21 : decode cX0_findParting 21 = .ok (.if_icmp .ge 57, 3) := by decide +kernel
theorem dX0_findParting_24 : decode cX0_findParting 24 = .ok (.iconst 0, 1) := by decide +kernel
theorem dX0_findParting_25 : decode cX0_findParting 25 = .ok (.istore_n 3, 1) := by decide +kernel
theorem dX0_findParting_26 : decode cX0_findParting 26 = .ok (.iconst 0, 1) := by decide +kernel
theorem dX0_findParting_27 : decode cX0_findParting 27 = .ok (.istore 4, 2) := by decide +kernel
theorem dX0_findParting_29 : decode cX0_findParting 29 = .ok (.iload 4, 2) := by decide +kernel
theorem dX0_findParting_31 : decode cX0_findParting 31 = .ok (.iload_n 1, 1) := by decide +kernel
theorem dX0_findParting_32 : decode cX0_findParting 32 = .ok (.if_icmp .gt 22, 3) := by decide +kernel
theorem dX0_findParting_35 : decode cX0_findParting 35 = .ok (.iload_n 3, 1) := by decide +kernel
theorem dX0_findParting_36 : decode cX0_findParting 36 = .ok (.aload_n 0, 1) := by decide +kernel
theorem dX0_findParting_37 : decode cX0_findParting 37 = .ok (.iload 4, 2) := by decide +kernel
theorem dX0_findParting_39 : decode cX0_findParting 39 = .ok (.iload_n 1, 1) := by decide +kernel
theorem dX0_findParting_40 : decode cX0_findParting 40 = .ok (.iload_n 2, 1) := by decide +kernel
theorem dX0_findParting_41 : decode cX0_findParting 41 = .ok (.invokevirtual 204, 3) := by decide +kernel
theorem dX0_findParting_44 : decode cX0_findParting 44 = .ok (.invokestatic 155, 3) := by decide +kernel
theorem dX0_findParting_47 : decode cX0_findParting 47 = .ok (.istore_n 3, 1) := by decide +kernel
theorem dX0_findParting_48 : decode cX0_findParting 48 = .ok (.iinc 4 1, 3) := by decide +kernel
theorem dX0_findParting_51 : decode cX0_findParting 51 = .ok (.goto (-22), 3) := by decide +kernel
theorem dX0_findParting_54 : decode cX0_findParting 54 = .ok (.iload_n 3, 1) := by decide +kernel
theorem dX0_findParting_55 : decode cX0_findParting 55 = .ok (.aload_n 0, 1) := by decide +kernel
theorem dX0_findParting_56 : decode cX0_findParting 56 = .ok (.getfield 65, 3) := by decide +kernel
theorem dX0_findParting_59 : decode cX0_findParting 59 = .ok (.if_icmp .ge 13, 3) := by decide +kernel
theorem dX0_findParting_62 : decode cX0_findParting 62 = .ok (.aload_n 0, 1) := by decide +kernel
theorem dX0_findParting_63 : decode cX0_findParting 63 = .ok (.iload_n 3, 1) := by decide +kernel
theorem dX0_findParting_64 : decode cX0_findParting 64 = .ok (.putfield 65, 3) := by decide +kernel
theorem dX0_findParting_67 : decode cX0_findParting 67 = .ok (.aload_n 0, 1) := by decide +kernel
theorem dX0_findParting_68 : decode cX0_findParting 68 = .ok (.iload_n 2, 1) := by decide +kernel
theorem dX0_findParting_69 : decode cX0_findParting 69 = .ok (.putfield 75, 3) := by decide +kernel
theorem dX0_findParting_72 : decode cX0_findParting 72 = .ok (.iinc 2 1, 3) := by decide +kernel
theorem dX0_findParting_75 : decode cX0_findParting 75 = .ok (.goto (-62), 3) := by decide +kernel
theorem dX0_findParting_78 : decode cX0_findParting 78 = .ok (.return_, 1) := by decide +kernel
theorem dX0_howManyTellAs_0 : decode cX0_howManyTellAs 0 = .ok (.iconst 0, 1) := by decide +kernel
theorem dX0_howManyTellAs_1 : decode cX0_howManyTellAs 1 = .ok (.istore 4, 2) := by decide +kernel
theorem dX0_howManyTellAs_3 : decode cX0_howManyTellAs 3 = .ok (.iconst 0, 1) := by decide +kernel
theorem dX0_howManyTellAs_4 : decode cX0_howManyTellAs 4 = .ok (.istore 5, 2) := by decide +kernel
theorem dX0_howManyTellAs_6 : decode cX0_howManyTellAs 6 = .ok (.aload_n 0, 1) := by decide +kernel
theorem dX0_howManyTellAs_7 : decode cX0_howManyTellAs 7 = .ok (.getfield 26, 3) := by decide +kernel
theorem dX0_howManyTellAs_10 : decode cX0_howManyTellAs 10 = .ok (.iload_n 1, 1) := by decide +kernel
theorem dX0_howManyTellAs_11 : decode cX0_howManyTellAs 11 = .ok (.baload, 1) := by decide +kernel
theorem dX0_howManyTellAs_12 : decode cX0_howManyTellAs 12 = .ok (.ifCond .eq 52, 3) := by decide +kernel
theorem dX0_howManyTellAs_15 : decode cX0_howManyTellAs 15 = .ok (.iload 5, 2) := by decide +kernel
theorem dX0_howManyTellAs_17 : decode cX0_howManyTellAs 17 = .ok (.iload_n 2, 1) := by decide +kernel
theorem dX0_howManyTellAs_18 : decode cX0_howManyTellAs 18 = .ok (.if_icmp .gt 46, 3) := by decide +kernel
theorem dX0_howManyTellAs_21 : decode cX0_howManyTellAs 21 = .ok (.aload_n 0, 1) := by decide +kernel
theorem dX0_howManyTellAs_22 : decode cX0_howManyTellAs 22 = .ok (.getfield 26, 3) := by decide +kernel
theorem dX0_howManyTellAs_25 : decode cX0_howManyTellAs 25 = .ok (.iload 5, 2) := by decide +kernel
theorem dX0_howManyTellAs_27 : decode cX0_howManyTellAs 27 = .ok (.baload, 1) := by decide +kernel
theorem dX0_howManyTellAs_28 : decode cX0_howManyTellAs 28 = .ok (.ifCond .eq 30, 3) := by decide +kernel
theorem dX0_howManyTellAs_31 : decode cX0_howManyTellAs 31 = .ok (.aload_n 0, 1) := by decide +kernel
theorem dX0_howManyTellAs_32 : decode cX0_howManyTellAs 32 = .ok (.getfield 30, 3) := by decide +kernel
theorem dX0_howManyTellAs_35 : decode cX0_howManyTellAs 35 = .ok (.iload 5, 2) := by decide +kernel
theorem dX0_howManyTellAs_37 : decode cX0_howManyTellAs 37 = .ok (.iconst 5, 1) := by decide +kernel
theorem dX0_howManyTellAs_38 : decode cX0_howManyTellAs 38 = .ok (.imul, 1) := by decide +kernel
theorem dX0_howManyTellAs_39 : decode cX0_howManyTellAs 39 = .ok (.iload_n 3, 1) := by decide +kernel
theorem dX0_howManyTellAs_40 : decode cX0_howManyTellAs 40 = .ok (.iadd, 1) := by decide +kernel
theorem dX0_howManyTellAs_41 : decode cX0_howManyTellAs 41 = .ok (.iaload, 1) := by decide +kernel
theorem dX0_howManyTellAs_42 : decode cX0_howManyTellAs 42 = .ok (.aload_n 0, 1) := by decide +kernel
theorem dX0_howManyTellAs_43 : decode cX0_howManyTellAs 43 = .ok (.getfield 30, 3) := by decide +kernel
theorem dX0_howManyTellAs_46 : decode cX0_howManyTellAs 46 = .ok (.iload_n 1, 1) := by decide +kernel
theorem dX0_howManyTellAs_47 : decode cX0_howManyTellAs 47 = .ok (.iconst 5, 1) := by decide +kernel
theorem dX0_howManyTellAs_48 : decode cX0_howManyTellAs 48 = .ok (.imul, 1) := by decide +kernel
theorem dX0_howManyTellAs_49 : decode cX0_howManyTellAs 49 = .ok (.iload_n 3, 1) := by decide +kernel
theorem dX0_howManyTellAs_50 : decode cX0_howManyTellAs 50 = .ok (.iadd, 1) := by decide +kernel
theorem dX0_howManyTellAs_51 : decode cX0_howManyTellAs 51 = .ok (.iaload, 1) := by decide +kernel
theorem dX0_howManyTellAs_52 : decode cX0_howManyTellAs 52 = .ok (.if_icmp .ne 6, 3) := by decide +kernel
theorem dX0_howManyTellAs_55 : decode cX0_howManyTellAs 55 = .ok (.iinc 4 1, 3) := by decide +kernel
theorem dX0_howManyTellAs_58 : decode cX0_howManyTellAs 58 = .ok (.iinc 5 1, 3) := by decide +kernel
theorem dX0_howManyTellAs_61 : decode cX0_howManyTellAs 61 = .ok (.goto (-55), 3) := by decide +kernel
theorem dX0_howManyTellAs_64 : decode cX0_howManyTellAs 64 = .ok (.iload 4, 2) := by decide +kernel
theorem dX0_howManyTellAs_66 : decode cX0_howManyTellAs 66 = .ok (.ireturn, 1) := by decide +kernel
theorem dX0_drawYears_0 : decode cX0_drawYears 0 = .ok (.aload_n 0, 1) := by decide +kernel
theorem dX0_drawYears_1 : decode cX0_drawYears 1 = .ok (.aload_n 0, 1) := by decide +kernel
theorem dX0_drawYears_2 : decode cX0_drawYears 2 = .ok (.getfield 33, 3) := by decide +kernel
theorem dX0_drawYears_5 : decode cX0_drawYears 5 = .ok (.getfield 208, 3) := by decide +kernel
theorem dX0_drawYears_8 : decode cX0_drawYears 8 = .ok (.putfield 211, 3) := by decide +kernel
theorem dX0_drawYears_11 : decode cX0_drawYears 11 = .ok (.aload_n 0, 1) := by decide +kernel
theorem dX0_drawYears_12 : decode cX0_drawYears 12 = .ok (.iconst 0, 1) := by decide +kernel
theorem dX0_drawYears_13 : decode cX0_drawYears 13 = .ok (.putfield 65, 3) := by decide +kernel
theorem dX0_drawYears_16 : decode cX0_drawYears 16 = .ok (.aload_n 0, 1) := by decide +kernel
theorem dX0_drawYears_17 : decode cX0_drawYears 17 = .ok (.iconst 0, 1) := by decide +kernel
theorem dX0_drawYears_18 : decode cX0_drawYears 18 = .ok (.putfield 75, 3) := by decide +kernel
theorem dX0_drawYears_21 : decode cX0_drawYears 21 = .ok (.iconst 0, 1) := by decide +kernel
theorem dX0_drawYears_22 : decode cX0_drawYears 22 = .ok (.istore 4, 2) := by decide +kernel
theorem dX0_drawYears_24 : decode cX0_drawYears 24 = .ok (.iload 4, 2) := by decide +kernel
theorem dX0_drawYears_26 : decode cX0_drawYears 26 = .ok (.iload_n 1, 1) := by decide +kernel
theorem dX0_drawYears_27 : decode cX0_drawYears 27 = .ok (.if_icmp .ge 110, 3) := by decide +kernel
theorem dX0_drawYears_30 : decode cX0_drawYears 30 = .ok (.aload_n 0, 1) := by decide +kernel
theorem dX0_drawYears_31 : decode cX0_drawYears 31 = .ok (.getfield 18, 3) := by decide +kernel
theorem dX0_drawYears_34 : decode cX0_drawYears 34 = .ok (.aload_n 0, 1) := by decide +kernel
theorem dX0_drawYears_35 : decode cX0_drawYears 35 = .ok (.getfield 33, 3) := by decide +kernel
theorem dX0_drawYears_38 : decode cX0_drawYears 38 = .ok (.getfield 48, 3) := by decide +kernel
theorem dX0_drawYears_41 : decode cX0_drawYears 41 = .ok (.invokevirtual 51, 3) := by decide +kernel
theorem dX0_drawYears_44 : decode cX0_drawYears 44 = .ok (.iconst 0, 1) := by decide +kernel
theorem dX0_drawYears_45 : decode cX0_drawYears 45 = .ok (.istore 5, 2) := by decide +kernel
theorem dX0_drawYears_47 : decode cX0_drawYears 47 = .ok (.iload 5, 2) := by decide +kernel
theorem dX0_drawYears_49 : decode cX0_drawYears 49 = .ok (.iload_n 2, 1) := by decide +kernel
theorem dX0_drawYears_50 : decode cX0_drawYears 50 = .ok (.if_icmp .ge 26, 3) := by decide +kernel
theorem dX0_drawYears_53 : decode cX0_drawYears 53 = .ok (.aload_n 0, 1) := by decide +kernel
theorem dX0_drawYears_54 : decode cX0_drawYears 54 = .ok (.iload_n 3, 1) := by decide +kernel
theorem dX0_drawYears_55 : decode cX0_drawYears 55 = .ok (.invokevirtual 212, 3) := by decide +kernel
theorem dX0_drawYears_58 : decode cX0_drawYears 58 = .ok (.aload_n 0, 1) := by decide +kernel
theorem dX0_drawYears_59 : decode cX0_drawYears 59 = .ok (.getfield 44, 3) := by decide +kernel
theorem dX0_drawYears_62 : decode cX0_drawYears 62 = .ok (.aload_n 0, 1) := by decide +kernel
theorem dX0_drawYears_63 : decode cX0_drawYears 63 = .ok (.getfield 18, 3) := by decide +kernel
theorem dX0_drawYears_66 : decode cX0_drawYears 66 = .ok (.invokevirtual 68, 3) := by decide +kernel
theorem dX0_drawYears_69 : decode cX0_drawYears 69 = .ok (.pop, 1) := by decide +kernel
theorem dX0_drawYears_70 : decode cX0_drawYears 70 = .ok (.iinc 5 1, 3) := by decide +kernel
theorem dX0_drawYears_73 : decode cX0_drawYears 73 = .ok (.goto (-26), 3) := by decide +kernel
theorem dX0_drawYears_76 : decode cX0_drawYears 76 = .ok (.aload_n 0, 1) := by decide +kernel
theorem dX0_drawYears_77 : decode cX0_drawYears 77 = .ok (.dup, 1) := by decide +kernel
theorem dX0_drawYears_78 : decode cX0_drawYears 78 = .ok (.getfield 65, 3) := by decide +kernel
theorem dX0_drawYears_81 : decode cX0_drawYears 81 = .ok (.aload_n 0, 1) := by decide +kernel
theorem dX0_drawYears_82 : decode cX0_drawYears 82 = .ok (.getfield 43, 3) := by decide +kernel
theorem dX0_drawYears_85 : decode cX0_drawYears 85 = .ok (.aload_n 0, 1) := by decide +kernel
theorem dX0_drawYears_86 : decode cX0_drawYears 86 = .ok (.getfield 18, 3) := by decide +kernel
theorem dX0_drawYears_89 : decode cX0_drawYears 89 = .ok (.invokevirtual 127, 3) := by decide +kernel
theorem dX0_drawYears_92 : decode cX0_drawYears 92 = .ok (.aload_n 0, 1) := by decide +kernel
theorem dX0_drawYears_93 : decode cX0_drawYears 93 = .ok (.getfield 43, 3) := by decide +kernel
theorem dX0_drawYears_96 : decode cX0_drawYears 96 = .ok (.aload_n 0, 1) := by decide +kernel
theorem dX0_drawYears_97 : decode cX0_drawYears 97 = .ok (.getfield 33, 3) := by decide +kernel
theorem dX0_drawYears_100 : decode cX0_drawYears 100 = .ok (.getfield 48, 3) := by decide +kernel
theorem dX0_drawYears_103 : decode cX0_drawYears 103 = .ok (.invokevirtual 127, 3) := by decide +kernel
theorem dX0_drawYears_106 : decode cX0_drawYears 106 = .ok (.isub, 1) := by decide +kernel
theorem dX0_drawYears_107 : decode cX0_drawYears 107 = .ok (.iadd, 1) := by decide +kernel
theorem dX0_drawYears_108 : decode cX0_drawYears 108 = .ok (.putfield 65, 3) := by decide +kernel
theorem dX0_drawYears_111 : decode cX0_drawYears 111 = .ok (.aload_n 0, 1) := by decide +kernel
theorem dX0_drawYears_112 : decode cX0_drawYears 112 = .ok (.dup, 1) := by decide +kernel
theorem dX0_drawYears_113 : decode cX0_drawYears 113 = .ok (.getfield 75, 3) := by decide +kernel
theorem dX0_drawYears_116 : decode cX0_drawYears 116 = .ok (.aload_n 0, 1) := by decide +kernel
theorem dX0_drawYears_117 : decode cX0_drawYears 117 = .ok (.getfield 43, 3) := by decide +kernel
theorem dX0_drawYears_120 : decode cX0_drawYears 120 = .ok (.aload_n 0, 1) := by decide +kernel
theorem dX0_drawYears_121 : decode cX0_drawYears 121 = .ok (.getfield 18, 3) := by decide +kernel
theorem dX0_drawYears_124 : decode cX0_drawYears 124 = .ok (.invokevirtual 168, 3) := by decide +kernel
theorem dX0_drawYears_127 : decode cX0_drawYears 127 = .ok (.iadd, 1) := by decide +kernel
theorem dX0_drawYears_128 : decode cX0_drawYears 128 = .ok (.putfield 75, 3) := by decide +kernel
theorem dX0_drawYears_131 : decode cX0_drawYears 131 = .ok (.iinc 4 1, 3) := by decide +kernel
theorem dX0_drawYears_134 : decode cX0_drawYears 134 = .ok (.goto (-110), 3) := by decide +kernel
theorem dX0_drawYears_137 : decode cX0_drawYears 137 = .ok (.return_, 1) := by decide +kernel
theorem dX0_hearParrot_0 : decode cX0_hearParrot 0 = .ok (.aload_n 0, 1) := by decide +kernel
theorem dX0_hearParrot_1 : decode cX0_hearParrot 1 = .ok (.invokevirtual 215, 3) := by decide +kernel
theorem dX0_hearParrot_4 : decode cX0_hearParrot 4 = .ok (.bipush 100, 2) := by decide +kernel
theorem dX0_hearParrot_6 : decode cX0_hearParrot 6 = .ok (.irem, 1) := by decide +kernel
theorem dX0_hearParrot_7 : decode cX0_hearParrot 7 = .ok (.iload_n 1, 1) := by decide +kernel
theorem dX0_hearParrot_8 : decode cX0_hearParrot 8 = .ok (.if_icmp .ge 40, 3) := by decide +kernel
theorem dX0_hearParrot_11 : decode cX0_hearParrot 11 = .ok (.aload_n 0, 1) := by decide +kernel
theorem dX0_hearParrot_12 : decode cX0_hearParrot 12 = .ok (.getfield 43, 3) := by decide +kernel
theorem dX0_hearParrot_15 : decode cX0_hearParrot 15 = .ok (.getfield 110, 3) := by decide +kernel
theorem dX0_hearParrot_18 : decode cX0_hearParrot 18 = .ok (.ifCond .le 30, 3) := by decide +kernel
theorem dX0_hearParrot_21 : decode cX0_hearParrot 21 = .ok (.aload_n 0, 1) := by decide +kernel
theorem dX0_hearParrot_22 : decode cX0_hearParrot 22 = .ok (.getfield 18, 3) := by decide +kernel
theorem dX0_hearParrot_25 : decode cX0_hearParrot 25 = .ok (.getfield 123, 3) := by decide +kernel
theorem dX0_hearParrot_28 : decode cX0_hearParrot 28 = .ok (.aload_n 0, 1) := by decide +kernel
theorem dX0_hearParrot_29 : decode cX0_hearParrot 29 = .ok (.invokevirtual 215, 3) := by decide +kernel
theorem dX0_hearParrot_32 : decode cX0_hearParrot 32 = .ok (.aload_n 0, 1) := by decide +kernel
theorem dX0_hearParrot_33 : decode cX0_hearParrot 33 = .ok (.getfield 43, 3) := by decide +kernel
theorem dX0_hearParrot_36 : decode cX0_hearParrot 36 = .ok (.getfield 110, 3) := by decide +kernel
theorem dX0_hearParrot_39 : decode cX0_hearParrot 39 = .ok (.irem, 1) := by decide +kernel
theorem dX0_hearParrot_40 : decode cX0_hearParrot 40 = .ok (.aload_n 0, 1) := by decide +kernel
theorem dX0_hearParrot_41 : decode cX0_hearParrot 41 = .ok (.getfield 18, 3) := by decide +kernel
theorem dX0_hearParrot_44 : decode cX0_hearParrot 44 = .ok (.getfield 61, 3) := by decide +kernel
theorem dX0_hearParrot_47 : decode cX0_hearParrot 47 = .ok (.iastore, 1) := by decide +kernel
theorem dX0_hearParrot_48 : decode cX0_hearParrot 48 = .ok (.return_, 1) := by decide +kernel
theorem dX0_draw_0 : decode cX0_draw 0 = .ok (.aload_n 0, 1) := by decide +kernel
theorem dX0_draw_1 : decode cX0_draw 1 = .ok (.aload_n 0, 1) := by decide +kernel
theorem dX0_draw_2 : decode cX0_draw 2 = .ok (.getfield 211, 3) := by decide +kernel
theorem dX0_draw_5 : decode cX0_draw 5 = .ok (.ldc 218, 2) := by decide +kernel
theorem dX0_draw_7 : decode cX0_draw 7 = .ok (.imul, 1) := by decide +kernel
theorem dX0_draw_8 : decode cX0_draw 8 = .ok (.sipush 12345, 3) := by decide +kernel
theorem dX0_draw_11 : decode cX0_draw 11 = .ok (.iadd, 1) := by decide +kernel
theorem dX0_draw_12 : decode cX0_draw 12 = .ok (.ldc 94, 2) := by decide +kernel
theorem dX0_draw_14 : decode cX0_draw 14 = .ok (.iand, 1) := by decide +kernel
theorem dX0_draw_15 : decode cX0_draw 15 = .ok (.putfield 211, 3) := by decide +kernel
theorem dX0_draw_18 : decode cX0_draw 18 = .ok (.aload_n 0, 1) := by decide +kernel
theorem dX0_draw_19 : decode cX0_draw 19 = .ok (.getfield 211, 3) := by decide +kernel
theorem dX0_draw_22 : decode cX0_draw 22 = .ok (.ldc 219, 2) := by decide +kernel
theorem dX0_draw_24 : decode cX0_draw 24 = .ok (.idiv, 1) := by decide +kernel
theorem dX0_draw_25 : decode cX0_draw 25 = .ok (.ireturn, 1) := by decide +kernel
