theorem dX9_init_0 : decode cX9_init 0 = .ok (.aload_n 0, 1) := by decide +kernel
theorem dX9_init_1 : decode cX9_init 1 = .ok (.invokespecial 1, 3) := by decide +kernel
theorem dX9_init_4 : decode cX9_init 4 = .ok (.aload_n 0, 1) := by decide +kernel
theorem dX9_init_5 : decode cX9_init 5 = .ok (.new 7, 3) := by decide +kernel
theorem dX9_init_8 : decode cX9_init 8 = .ok (.dup, 1) := by decide +kernel
theorem dX9_init_9 : decode cX9_init 9 = .ok (.invokespecial 9, 3) := by decide +kernel
theorem dX9_init_12 : decode cX9_init 12 = .ok (.putfield 10, 3) := by decide +kernel
theorem dX9_init_15 : decode cX9_init 15 = .ok (.aload_n 0, 1) := by decide +kernel
theorem dX9_init_16 : decode cX9_init 16 = .ok (.new 16, 3) := by decide +kernel
theorem dX9_init_19 : decode cX9_init 19 = .ok (.dup, 1) := by decide +kernel
theorem dX9_init_20 : decode cX9_init 20 = .ok (.aload_n 0, 1) := by decide +kernel
theorem dX9_init_21 : decode cX9_init 21 = .ok (.getfield 10, 3) := by decide +kernel
theorem dX9_init_24 : decode cX9_init 24 = .ok (.invokespecial 18, 3) := by decide +kernel
theorem dX9_init_27 : decode cX9_init 27 = .ok (.putfield 21, 3) := by decide +kernel
theorem dX9_init_30 : decode cX9_init 30 = .ok (.aload_n 0, 1) := by decide +kernel
theorem dX9_init_31 : decode cX9_init 31 = .ok (.new 25, 3) := by decide +kernel
theorem dX9_init_34 : decode cX9_init 34 = .ok (.dup, 1) := by decide +kernel
theorem dX9_init_35 : decode cX9_init 35 = .ok (.aload_n 0, 1) := by decide +kernel
theorem dX9_init_36 : decode cX9_init 36 = .ok (.getfield 10, 3) := by decide +kernel
theorem dX9_init_39 : decode cX9_init 39 = .ok (.invokespecial 27, 3) := by decide +kernel
theorem dX9_init_42 : decode cX9_init 42 = .ok (.putfield 28, 3) := by decide +kernel
theorem dX9_init_45 : decode cX9_init 45 = .ok (.aload_n 0, 1) := by decide +kernel
theorem dX9_init_46 : decode cX9_init 46 = .ok (.bipush 6, 2) := by decide +kernel
theorem dX9_init_48 : decode cX9_init 48 = .ok (.anewarray 32, 3) := by decide +kernel
theorem dX9_init_51 : decode cX9_init 51 = .ok (.putfield 34, 3) := by decide +kernel
theorem dX9_init_54 : decode cX9_init 54 = .ok (.aload_n 0, 1) := by decide +kernel
theorem dX9_init_55 : decode cX9_init 55 = .ok (.new 38, 3) := by decide +kernel
theorem dX9_init_58 : decode cX9_init 58 = .ok (.dup, 1) := by decide +kernel
theorem dX9_init_59 : decode cX9_init 59 = .ok (.invokespecial 40, 3) := by decide +kernel
theorem dX9_init_62 : decode cX9_init 62 = .ok (.putfield 41, 3) := by decide +kernel
theorem dX9_init_65 : decode cX9_init 65 = .ok (.aload_n 0, 1) := by decide +kernel
theorem dX9_init_66 : decode cX9_init 66 = .ok (.iconst 4, 1) := by decide +kernel
theorem dX9_init_67 : decode cX9_init 67 = .ok (.anewarray 38, 3) := by decide +kernel
theorem dX9_init_70 : decode cX9_init 70 = .ok (.putfield 45, 3) := by decide +kernel
theorem dX9_init_73 : decode cX9_init 73 = .ok (.aload_n 0, 1) := by decide +kernel
theorem dX9_init_74 : decode cX9_init 74 = .ok (.new 49, 3) := by decide +kernel
theorem dX9_init_77 : decode cX9_init 77 = .ok (.dup, 1) := by decide +kernel
theorem dX9_init_78 : decode cX9_init 78 = .ok (.aload_n 0, 1) := by decide +kernel
theorem dX9_init_79 : decode cX9_init 79 = .ok (.getfield 41, 3) := by decide +kernel
theorem dX9_init_82 : decode cX9_init 82 = .ok (.getfield 51, 3) := by decide +kernel
theorem dX9_init_85 : decode cX9_init 85 = .ok (.invokespecial 55, 3) := by decide +kernel
theorem dX9_init_88 : decode cX9_init 88 = .ok (.putfield 58, 3) := by decide +kernel
theorem dX9_init_91 : decode cX9_init 91 = .ok (.aload_n 0, 1) := by decide +kernel
theorem dX9_init_92 : decode cX9_init 92 = .ok (.new 62, 3) := by decide +kernel
theorem dX9_init_95 : decode cX9_init 95 = .ok (.dup, 1) := by decide +kernel
theorem dX9_init_96 : decode cX9_init 96 = .ok (.aload_n 0, 1) := by decide +kernel
theorem dX9_init_97 : decode cX9_init 97 = .ok (.getfield 41, 3) := by decide +kernel
theorem dX9_init_100 : decode cX9_init 100 = .ok (.aload_n 0, 1) := by decide +kernel
theorem dX9_init_101 : decode cX9_init 101 = .ok (.getfield 58, 3) := by decide +kernel
theorem dX9_init_104 : decode cX9_init 104 = .ok (.invokespecial 64, 3) := by decide +kernel
theorem dX9_init_107 : decode cX9_init 107 = .ok (.putfield 67, 3) := by decide +kernel
theorem dX9_init_110 : decode cX9_init 110 = .ok (.aload_n 0, 1) := by decide +kernel
theorem dX9_init_111 : decode cX9_init 111 = .ok (.iconst 0, 1) := by decide +kernel
theorem dX9_init_112 : decode cX9_init 112 = .ok (.putfield 71, 3) := by decide +kernel
theorem dX9_init_115 : decode cX9_init 115 = .ok (.return_, 1) := by decide +kernel
theorem dX9_feed_0 : decode cX9_feed 0 = .ok (.aload_n 0, 1) := by decide +kernel
theorem dX9_feed_1 : decode cX9_feed 1 = .ok (.getfield 10, 3) := by decide +kernel
theorem dX9_feed_4 : decode cX9_feed 4 = .ok (.getfield 75, 3) := by decide +kernel
theorem dX9_feed_7 : decode cX9_feed 7 = .ok (.bipush 20, 2) := by decide +kernel
theorem dX9_feed_9 : decode cX9_feed 9 = .ok (.iadd, 1) := by decide +kernel
theorem dX9_feed_10 : decode cX9_feed 10 = .ok (.sipush 400, 3) := by decide +kernel
theorem dX9_feed_13 : decode cX9_feed 13 = .ok (.if_icmp .le 5, 3) := by decide +kernel
theorem dX9_feed_16 : decode cX9_feed 16 = .ok (.iconst (-1), 1) := by decide +kernel
theorem dX9_feed_17 : decode cX9_feed 17 = .ok (.ireturn, 1) := by decide +kernel
theorem dX9_feed_18 : decode cX9_feed 18 = .ok (.aload_n 0, 1) := by decide +kernel
theorem dX9_feed_19 : decode cX9_feed 19 = .ok (.getfield 10, 3) := by decide +kernel
theorem dX9_feed_22 : decode cX9_feed 22 = .ok (.iload_n 1, 1) := by decide +kernel
theorem dX9_feed_23 : decode cX9_feed 23 = .ok (.invokevirtual 78, 3) := by decide +kernel
theorem dX9_feed_26 : decode cX9_feed 26 = .ok (.aload_n 0, 1) := by decide +kernel
theorem dX9_feed_27 : decode cX9_feed 27 = .ok (.getfield 10, 3) := by decide +kernel
theorem dX9_feed_30 : decode cX9_feed 30 = .ok (.iload_n 2, 1) := by decide +kernel
theorem dX9_feed_31 : decode cX9_feed 31 = .ok (.invokevirtual 78, 3) := by decide +kernel
theorem dX9_feed_34 : decode cX9_feed 34 = .ok (.aload_n 0, 1) := by decide +kernel
theorem dX9_feed_35 : decode cX9_feed 35 = .ok (.getfield 10, 3) := by decide +kernel
theorem dX9_feed_38 : decode cX9_feed 38 = .ok (.iload_n 3, 1) := by decide +kernel
theorem dX9_feed_39 : decode cX9_feed 39 = .ok (.invokevirtual 78, 3) := by decide +kernel
theorem dX9_feed_42 : decode cX9_feed 42 = .ok (.aload_n 0, 1) := by decide +kernel
theorem dX9_feed_43 : decode cX9_feed 43 = .ok (.getfield 10, 3) := by decide +kernel
theorem dX9_feed_46 : decode cX9_feed 46 = .ok (.iload 4, 2) := by decide +kernel
theorem dX9_feed_48 : decode cX9_feed 48 = .ok (.invokevirtual 78, 3) := by decide +kernel
theorem dX9_feed_51 : decode cX9_feed 51 = .ok (.aload_n 0, 1) := by decide +kernel
theorem dX9_feed_52 : decode cX9_feed 52 = .ok (.getfield 10, 3) := by decide +kernel
theorem dX9_feed_55 : decode cX9_feed 55 = .ok (.iload 5, 2) := by decide +kernel
theorem dX9_feed_57 : decode cX9_feed 57 = .ok (.invokevirtual 78, 3) := by decide +kernel
theorem dX9_feed_60 : decode cX9_feed 60 = .ok (.aload_n 0, 1) := by decide +kernel
theorem dX9_feed_61 : decode cX9_feed 61 = .ok (.getfield 10, 3) := by decide +kernel
theorem dX9_feed_64 : decode cX9_feed 64 = .ok (.getfield 75, 3) := by decide +kernel
theorem dX9_feed_67 : decode cX9_feed 67 = .ok (.ireturn, 1) := by decide +kernel
theorem dX9_end_0 : decode cX9_end 0 = .ok (.iload_n 1, 1) := by decide +kernel
theorem dX9_end_1 : decode cX9_end 1 = .ok (.ifCond .lt 14, 3) := by decide +kernel
theorem dX9_end_4 : decode cX9_end 4 = .ok (.iload_n 1, 1) := by decide +kernel
theorem dX9_end_5 : decode cX9_end 5 = .ok (.aload_n 0, 1) := by decide +kernel
theorem dX9_end_6 : decode cX9_end 6 = .ok (.getfield 10, 3) := by decide +kernel
theorem dX9_end_9 : decode cX9_end 9 = .ok (.getfield 75, 3) := by decide +kernel
theorem dX9_end_12 : decode cX9_end 12 = .ok (.if_icmp .le 5, 3) := by decide +kernel
theorem dX9_end_15 : decode cX9_end 15 = .ok (.iconst (-1), 1) := by decide +kernel
theorem dX9_end_16 : decode cX9_end 16 = .ok (.ireturn, 1) := by decide +kernel
theorem dX9_end_17 : decode cX9_end 17 = .ok (.aload_n 0, 1) := by decide +kernel
theorem dX9_end_18 : decode cX9_end 18 = .ok (.getfield 10, 3) := by decide +kernel
theorem dX9_end_21 : decode cX9_end 21 = .ok (.iload_n 1, 1) := by decide +kernel
theorem dX9_end_22 : decode cX9_end 22 = .ok (.putfield 75, 3) := by decide +kernel
theorem dX9_end_25 : decode cX9_end 25 = .ok (.iload_n 1, 1) := by decide +kernel
theorem dX9_end_26 : decode cX9_end 26 = .ok (.ireturn, 1) := by decide +kernel
theorem dX9_bar_0 : decode cX9_bar 0 = .ok (.aload_n 0, 1) := by decide +kernel
theorem dX9_bar_1 : decode cX9_bar 1 = .ok (.getfield 21, 3) := by decide +kernel
theorem dX9_bar_4 : decode cX9_bar 4 = .ok (.invokevirtual 82, 3) := by decide +kernel
theorem dX9_bar_7 : decode cX9_bar 7 = .ok (.istore_n 1, 1) := by decide +kernel
theorem dX9_bar_8 : decode cX9_bar 8 = .ok (.aload_n 0, 1) := by decide +kernel
theorem dX9_bar_9 : decode cX9_bar 9 = .ok (.getfield 10, 3) := by decide +kernel
theorem dX9_bar_12 : decode cX9_bar 12 = .ok (.iconst 0, 1) := by decide +kernel
theorem dX9_bar_13 : decode cX9_bar 13 = .ok (.putfield 75, 3) := by decide +kernel
theorem dX9_bar_16 : decode cX9_bar 16 = .ok (.iload_n 1, 1) := by decide +kernel
theorem dX9_bar_17 : decode cX9_bar 17 = .ok (.ifCond .eq 8, 3) := by decide +kernel
theorem dX9_bar_20 : decode cX9_bar 20 = .ok (.bipush (-2), 2) := by decide +kernel
theorem dX9_bar_22 : decode cX9_bar 22 = .ok (.iload_n 1, 1) := by decide +kernel
theorem dX9_bar_23 : decode cX9_bar 23 = .ok (.isub, 1) := by decide +kernel
theorem dX9_bar_24 : decode cX9_bar 24 = .ok (.ireturn, 1) := by decide +kernel
theorem dX9_bar_25 : decode cX9_bar 25 = .ok (.aload_n 0, 1) := by decide +kernel
theorem dX9_bar_26 : decode cX9_bar 26 = .ok (.getfield 41, 3) := by decide +kernel
theorem dX9_bar_29 : decode cX9_bar 29 = .ok (.aload_n 0, 1) := by decide +kernel
theorem dX9_bar_30 : decode cX9_bar 30 = .ok (.getfield 21, 3) := by decide +kernel
theorem dX9_bar_33 : decode cX9_bar 33 = .ok (.getfield 86, 3) := by decide +kernel
theorem dX9_bar_36 : decode cX9_bar 36 = .ok (.invokevirtual 87, 3) := by decide +kernel
theorem dX9_bar_39 : decode cX9_bar 39 = .ok (.aload_n 0, 1) := by decide +kernel
theorem dX9_bar_40 : decode cX9_bar 40 = .ok (.getfield 41, 3) := by decide +kernel
theorem dX9_bar_43 : decode cX9_bar 43 = .ok (.getfield 51, 3) := by decide +kernel
theorem dX9_bar_46 : decode cX9_bar 46 = .ok (.getfield 90, 3) := by decide +kernel
theorem dX9_bar_49 : decode cX9_bar 49 = .ok (.ireturn, 1) := by decide +kernel
theorem dX9_rule_0 : decode cX9_rule 0 = .ok (.aload_n 0, 1) := by decide +kernel
theorem dX9_rule_1 : decode cX9_rule 1 = .ok (.getfield 71, 3) := by decide +kernel
theorem dX9_rule_4 : decode cX9_rule 4 = .ok (.bipush 6, 2) := by decide +kernel
theorem dX9_rule_6 : decode cX9_rule 6 = .ok (.if_icmp .lt 5, 3) := by decide +kernel
theorem dX9_rule_9 : decode cX9_rule 9 = .ok (.iconst (-1), 1) := by decide +kernel
theorem dX9_rule_10 : decode cX9_rule 10 = .ok (.ireturn, 1) := by decide +kernel
theorem dX9_rule_11 : decode cX9_rule 11 = .ok (.aload_n 0, 1) := by decide +kernel
theorem dX9_rule_12 : decode cX9_rule 12 = .ok (.getfield 28, 3) := by decide +kernel
theorem dX9_rule_15 : decode cX9_rule 15 = .ok (.invokevirtual 95, 3) := by decide +kernel
theorem dX9_rule_18 : decode cX9_rule 18 = .ok (.istore_n 1, 1) := by decide +kernel
theorem dX9_rule_19 : decode cX9_rule 19 = .ok (.aload_n 0, 1) := by decide +kernel
theorem dX9_rule_20 : decode cX9_rule 20 = .ok (.getfield 10, 3) := by decide +kernel
theorem dX9_rule_23 : decode cX9_rule 23 = .ok (.iconst 0, 1) := by decide +kernel
theorem dX9_rule_24 : decode cX9_rule 24 = .ok (.putfield 75, 3) := by decide +kernel
theorem dX9_rule_27 : decode cX9_rule 27 = .ok (.iload_n 1, 1) := by decide +kernel
theorem dX9_rule_28 : decode cX9_rule 28 = .ok (.ifCond .eq 8, 3) := by decide +kernel
theorem dX9_rule_31 : decode cX9_rule 31 = .ok (.bipush (-2), 2) := by decide +kernel
theorem dX9_rule_33 : decode cX9_rule 33 = .ok (.iload_n 1, 1) := by decide +kernel
theorem dX9_rule_34 : decode cX9_rule 34 = .ok (.isub, 1) := by decide +kernel
theorem dX9_rule_35 : decode cX9_rule 35 = .ok (.ireturn, 1) := by decide +kernel
theorem dX9_rule_36 : decode cX9_rule 36 = .ok (.aload_n 0, 1) := by decide +kernel
theorem dX9_rule_37 : decode cX9_rule 37 = .ok (.getfield 34, 3) := by decide +kernel
theorem dX9_rule_40 : decode cX9_rule 40 = .ok (.aload_n 0, 1) := by decide +kernel
theorem dX9_rule_41 : decode cX9_rule 41 = .ok (.getfield 71, 3) := by decide +kernel
theorem dX9_rule_44 : decode cX9_rule 44 = .ok (.aload_n 0, 1) := by decide +kernel
theorem dX9_rule_45 : decode cX9_rule 45 = .ok (.getfield 28, 3) := by decide +kernel
theorem dX9_rule_48 : decode cX9_rule 48 = .ok (.invokevirtual 96, 3) := by decide +kernel
theorem dX9_rule_51 : decode cX9_rule 51 = .ok (.aastore, 1) := by decide +kernel
theorem dX9_rule_52 : decode cX9_rule 52 = .ok (.aload_n 0, 1) := by decide +kernel
theorem dX9_rule_53 : decode cX9_rule 53 = .ok (.dup, 1) := by decide +kernel
theorem dX9_rule_54 : decode cX9_rule 54 = .ok (.getfield 71, 3) := by decide +kernel
theorem dX9_rule_57 : decode cX9_rule 57 = .ok (.iconst 1, 1) := by decide +kernel
theorem dX9_rule_58 : decode cX9_rule 58 = .ok (.iadd, 1) := by decide +kernel
theorem dX9_rule_59 : decode cX9_rule 59 = .ok (.putfield 71, 3) := by decide +kernel
theorem dX9_rule_62 : decode cX9_rule 62 = .ok (.aload_n 0, 1) := by decide +kernel
theorem dX9_rule_63 : decode cX9_rule 63 = .ok (.getfield 71, 3) := by decide +kernel
theorem dX9_rule_66 : decode cX9_rule 66 = .ok (.iconst 1, 1) := by decide +kernel
theorem dX9_rule_67 : decode cX9_rule 67 = .ok (.isub, 1) := by decide +kernel
theorem dX9_rule_68 : decode cX9_rule 68 = .ok (.ireturn, 1) := by decide +kernel
theorem dX9_force_0 : decode cX9_force 0 = .ok (.aload_n 0, 1) := by decide +kernel
theorem dX9_force_1 : decode cX9_force 1 = .ok (.iload_n 1, 1) := by decide +kernel
theorem dX9_force_2 : decode cX9_force 2 = .ok (.invokevirtual 100, 3) := by decide +kernel
theorem dX9_force_5 : decode cX9_force 5 = .ok (.ifCond .ne 6, 3) := by decide +kernel
theorem dX9_force_8 : decode cX9_force 8 = .ok (.bipush (-2), 2) := by decide +kernel
theorem dX9_force_10 : decode cX9_force 10 = .ok (.ireturn, 1) := by decide +kernel
theorem dX9_force_11 : decode cX9_force 11 = .ok (.aload_n 0, 1) := by decide +kernel
theorem dX9_force_12 : decode cX9_force 12 = .ok (.getfield 41, 3) := by decide +kernel
theorem dX9_force_15 : decode cX9_force 15 = .ok (.getfield 104, 3) := by decide +kernel
theorem dX9_force_18 : decode cX9_force 18 = .ok (.istore_n 2, 1) := by decide +kernel
theorem dX9_force_19 : decode cX9_force 19 = .ok (.aload_n 0, 1) := by decide +kernel
theorem dX9_force_20 : decode cX9_force 20 = .ok (.getfield 41, 3) := by decide +kernel
theorem dX9_force_23 : decode cX9_force 23 = .ok (.iload_n 1, 1) := by decide +kernel
theorem dX9_force_24 : decode cX9_force 24 = .ok (.putfield 104, 3) := by decide +kernel
theorem dX9_force_27 : decode cX9_force 27 = .ok (.iload_n 2, 1) := by decide +kernel
theorem dX9_force_28 : decode cX9_force 28 = .ok (.ireturn, 1) := by decide +kernel
theorem dX9_joke_0 : decode cX9_joke 0 = .ok (.aload_n 0, 1) := by decide +kernel
theorem dX9_joke_1 : decode cX9_joke 1 = .ok (.iload_n 1, 1) := by decide +kernel
theorem dX9_joke_2 : decode cX9_joke 2 = .ok (.invokevirtual 107, 3) := by decide +kernel
theorem dX9_joke_5 : decode cX9_joke 5 = .ok (.ifCond .ne 5, 3) := by decide +kernel
theorem dX9_joke_8 : decode cX9_joke 8 = .ok (.iconst (-1), 1) := by decide +kernel
theorem dX9_joke_9 : decode cX9_joke 9 = .ok (.ireturn, 1) := by decide +kernel
theorem dX9_joke_10 : decode cX9_joke 10 = .ok (.aload_n 0, 1) := by decide +kernel
theorem dX9_joke_11 : decode cX9_joke 11 = .ok (.getfield 41, 3) := by decide +kernel
theorem dX9_joke_14 : decode cX9_joke 14 = .ok (.getfield 51, 3) := by decide +kernel
theorem dX9_joke_17 : decode cX9_joke 17 = .ok (.aload_n 0, 1) := by decide +kernel
theorem dX9_joke_18 : decode cX9_joke 18 = .ok (.getfield 41, 3) := by decide +kernel
theorem dX9_joke_21 : decode cX9_joke 21 = .ok (.getfield 110, 3) := by decide +kernel
theorem dX9_joke_24 : decode cX9_joke 24 = .ok (.invokevirtual 114, 3) := by decide +kernel
theorem dX9_joke_27 : decode cX9_joke 27 = .ok (.istore_n 3, 1) := by decide +kernel
theorem dX9_joke_28 : decode cX9_joke 28 = .ok (.iload_n 2, 1) := by decide +kernel
theorem dX9_joke_29 : decode cX9_joke 29 = .ok (.tableswitch 95 0 5 #[39, 39, 39, 56, 62, 83], 39) := by decide +kernel
theorem dX9_joke_68 : decode cX9_joke 68 = .ok (.aload_n 0, 1) := by decide +kernel
theorem dX9_joke_69 : decode cX9_joke 69 = .ok (.getfield 41, 3) := by decide +kernel
theorem dX9_joke_72 : decode cX9_joke 72 = .ok (.getfield 51, 3) := by decide +kernel
theorem dX9_joke_75 : decode cX9_joke 75 = .ok (.getfield 118, 3) := by decide +kernel
theorem dX9_joke_78 : decode cX9_joke 78 = .ok (.iconst 3, 1) := by decide +kernel
theorem dX9_joke_79 : decode cX9_joke 79 = .ok (.iload_n 1, 1) := by decide +kernel
theorem dX9_joke_80 : decode cX9_joke 80 = .ok (.imul, 1) := by decide +kernel
theorem dX9_joke_81 : decode cX9_joke 81 = .ok (.iload_n 2, 1) := by decide +kernel
theorem dX9_joke_82 : decode cX9_joke 82 = .ok (.iadd, 1) := by decide +kernel
theorem dX9_joke_83 : decode cX9_joke 83 = .ok (.iaload, 1) := by decide +kernel
theorem dX9_joke_84 : decode cX9_joke 84 = .ok (.ireturn, 1) := by decide +kernel
theorem dX9_joke_85 : decode cX9_joke 85 = .ok (.iload_n 3, 1) := by decide +kernel
theorem dX9_joke_86 : decode cX9_joke 86 = .ok (.iload_n 1, 1) := by decide +kernel
theorem dX9_joke_87 : decode cX9_joke 87 = .ok (.ishr, 1) := by decide +kernel
theorem dX9_joke_88 : decode cX9_joke 88 = .ok (.iconst 1, 1) := by decide +kernel
theorem dX9_joke_89 : decode cX9_joke 89 = .ok (.iand, 1) := by decide +kernel
theorem dX9_joke_90 : decode cX9_joke 90 = .ok (.ireturn, 1) := by decide +kernel
theorem dX9_joke_91 : decode cX9_joke 91 = .ok (.aload_n 0, 1) := by decide +kernel
theorem dX9_joke_92 : decode cX9_joke 92 = .ok (.getfield 41, 3) := by decide +kernel
theorem dX9_joke_95 : decode cX9_joke 95 = .ok (.getfield 51, 3) := by decide +kernel
theorem dX9_joke_98 : decode cX9_joke 98 = .ok (.iload_n 1, 1) := by decide +kernel
theorem dX9_joke_99 : decode cX9_joke 99 = .ok (.iload_n 3, 1) := by decide +kernel
theorem dX9_joke_100 : decode cX9_joke 100 = .ok (.invokevirtual 122, 3) := by decide +kernel
theorem dX9_joke_103 : decode cX9_joke 103 = .ok (.ifCond .eq 7, 3) := by decide +kernel
theorem dX9_joke_106 : decode cX9_joke 106 = .ok (.iconst 1, 1) := by decide +kernel
theorem dX9_joke_107 : decode cX9_joke 107 = .ok (.goto 4, 3) := by decide +kernel
theorem dX9_joke_110 : decode cX9_joke 110 = .ok (.iconst 0, 1) := by decide +kernel
theorem dX9_joke_111 : decode cX9_joke 111 = .ok (.ireturn, 1) := by decide +kernel
theorem dX9_joke_112 : decode cX9_joke 112 = .ok (.aload_n 0, 1) := by decide +kernel
theorem dX9_joke_113 : decode cX9_joke 113 = .ok (.getfield 41, 3) := by decide +kernel
theorem dX9_joke_116 : decode cX9_joke 116 = .ok (.getfield 110, 3) := by decide +kernel
theorem dX9_joke_119 : decode cX9_joke 119 = .ok (.iload_n 1, 1) := by decide +kernel
theorem dX9_joke_120 : decode cX9_joke 120 = .ok (.invokevirtual 126, 3) := by decide +kernel
theorem dX9_joke_123 : decode cX9_joke 123 = .ok (.ireturn, 1) := by decide +kernel
theorem dX9_joke_124 : decode cX9_joke 124 = .ok (.iconst (-1), 1) := by decide +kernel
theorem dX9_joke_125 : decode cX9_joke 125 = .ok (.ireturn, 1) := by decide +kernel
theorem dX9_ship_0 : decode cX9_ship 0 = .ok (.aload_n 0, 1) := by decide +kernel
theorem dX9_ship_1 : decode cX9_ship 1 = .ok (.iload_n 1, 1) := by decide +kernel
theorem dX9_ship_2 : decode cX9_ship 2 = .ok (.invokevirtual 132, 3) := by decide +kernel
theorem dX9_ship_5 : decode cX9_ship 5 = .ok (.ifCond .ne 6, 3) := by decide +kernel
theorem dX9_ship_8 : decode cX9_ship 8 = .ok (.bipush (-2), 2) := by decide +kernel
theorem dX9_ship_10 : decode cX9_ship 10 = .ok (.ireturn, 1) := by decide +kernel
theorem dX9_ship_11 : decode cX9_ship 11 = .ok (.iload_n 2, 1) := by decide +kernel
theorem dX9_ship_12 : decode cX9_ship 12 = .ok (.tableswitch 84 0 3 #[32, 45, 58, 71], 32) := by decide +kernel
theorem dX9_ship_44 : decode cX9_ship 44 = .ok (.aload_n 0, 1) := by decide +kernel
theorem dX9_ship_45 : decode cX9_ship 45 = .ok (.getfield 41, 3) := by decide +kernel
theorem dX9_ship_48 : decode cX9_ship 48 = .ok (.getfield 51, 3) := by decide +kernel
theorem dX9_ship_51 : decode cX9_ship 51 = .ok (.getfield 135, 3) := by decide +kernel
theorem dX9_ship_54 : decode cX9_ship 54 = .ok (.iload_n 1, 1) := by decide +kernel
theorem dX9_ship_55 : decode cX9_ship 55 = .ok (.iaload, 1) := by decide +kernel
theorem dX9_ship_56 : decode cX9_ship 56 = .ok (.ireturn, 1) := by decide +kernel
theorem dX9_ship_57 : decode cX9_ship 57 = .ok (.aload_n 0, 1) := by decide +kernel
theorem dX9_ship_58 : decode cX9_ship 58 = .ok (.getfield 41, 3) := by decide +kernel
theorem dX9_ship_61 : decode cX9_ship 61 = .ok (.getfield 51, 3) := by decide +kernel
theorem dX9_ship_64 : decode cX9_ship 64 = .ok (.getfield 138, 3) := by decide +kernel
theorem dX9_ship_67 : decode cX9_ship 67 = .ok (.iload_n 1, 1) := by decide +kernel
theorem dX9_ship_68 : decode cX9_ship 68 = .ok (.iaload, 1) := by decide +kernel
theorem dX9_ship_69 : decode cX9_ship 69 = .ok (.ireturn, 1) := by decide +kernel
theorem dX9_ship_70 : decode cX9_ship 70 = .ok (.aload_n 0, 1) := by decide +kernel
theorem dX9_ship_71 : decode cX9_ship 71 = .ok (.getfield 41, 3) := by decide +kernel
theorem dX9_ship_74 : decode cX9_ship 74 = .ok (.getfield 110, 3) := by decide +kernel
theorem dX9_ship_77 : decode cX9_ship 77 = .ok (.getfield 141, 3) := by decide +kernel
theorem dX9_ship_80 : decode cX9_ship 80 = .ok (.iload_n 1, 1) := by decide +kernel
theorem dX9_ship_81 : decode cX9_ship 81 = .ok (.iaload, 1) := by decide +kernel
theorem dX9_ship_82 : decode cX9_ship 82 = .ok (.ireturn, 1) := by decide +kernel
theorem dX9_ship_83 : decode cX9_ship 83 = .ok (.aload_n 0, 1) := by decide +kernel
theorem dX9_ship_84 : decode cX9_ship 84 = .ok (.getfield 41, 3) := by decide +kernel
theorem dX9_ship_87 : decode cX9_ship 87 = .ok (.getfield 110, 3) := by decide +kernel
theorem dX9_ship_90 : decode cX9_ship 90 = .ok (.getfield 144, 3) := by decide +kernel
theorem dX9_ship_93 : decode cX9_ship 93 = .ok (.iload_n 1, 1) := by decide +kernel
theorem dX9_ship_94 : decode cX9_ship 94 = .ok (.iaload, 1) := by decide +kernel
theorem dX9_ship_95 : decode cX9_ship 95 = .ok (.ireturn, 1) := by decide +kernel
theorem dX9_ship_96 : decode cX9_ship 96 = .ok (.bipush (-2), 2) := by decide +kernel
theorem dX9_ship_98 : decode cX9_ship 98 = .ok (.ireturn, 1) := by decide +kernel
theorem dX9_count_0 : decode cX9_count 0 = .ok (.iload_n 1, 1) := by decide +kernel
theorem dX9_count_1 : decode cX9_count 1 = .ok (.tableswitch 225 0 13 #[71, 82, 93, 104, 115, 120, 128, 139, 157, 175, 193, 201, 209, 217], 71) := by decide +kernel
theorem dX9_count_72 : decode cX9_count 72 = .ok (.aload_n 0, 1) := by decide +kernel
theorem dX9_count_73 : decode cX9_count 73 = .ok (.getfield 41, 3) := by decide +kernel
theorem dX9_count_76 : decode cX9_count 76 = .ok (.getfield 51, 3) := by decide +kernel
theorem dX9_count_79 : decode cX9_count 79 = .ok (.getfield 147, 3) := by decide +kernel
theorem dX9_count_82 : decode cX9_count 82 = .ok (.ireturn, 1) := by decide +kernel
theorem dX9_count_83 : decode cX9_count 83 = .ok (.aload_n 0, 1) := by decide +kernel
theorem dX9_count_84 : decode cX9_count 84 = .ok (.getfield 41, 3) := by decide +kernel
theorem dX9_count_87 : decode cX9_count 87 = .ok (.getfield 51, 3) := by decide +kernel
theorem dX9_count_90 : decode cX9_count 90 = .ok (.getfield 150, 3) := by decide +kernel
theorem dX9_count_93 : decode cX9_count 93 = .ok (.ireturn, 1) := by decide +kernel
theorem dX9_count_94 : decode cX9_count 94 = .ok (.aload_n 0, 1) := by decide +kernel
theorem dX9_count_95 : decode cX9_count 95 = .ok (.getfield 41, 3) := by decide +kernel
theorem dX9_count_98 : decode cX9_count 98 = .ok (.getfield 51, 3) := by decide +kernel
theorem dX9_count_101 : decode cX9_count 101 = .ok (.getfield 153, 3) := by decide +kernel
theorem dX9_count_104 : decode cX9_count 104 = .ok (.ireturn, 1) := by decide +kernel
theorem dX9_count_105 : decode cX9_count 105 = .ok (.aload_n 0, 1) := by decide +kernel
theorem dX9_count_106 : decode cX9_count 106 = .ok (.getfield 41, 3) := by decide +kernel
theorem dX9_count_109 : decode cX9_count 109 = .ok (.getfield 51, 3) := by decide +kernel
theorem dX9_count_112 : decode cX9_count 112 = .ok (.getfield 90, 3) := by decide +kernel
theorem dX9_count_115 : decode cX9_count 115 = .ok (.ireturn, 1) := by decide +kernel
theorem dX9_count_116 : decode cX9_count 116 = .ok (.aload_n 0, 1) := by decide +kernel
theorem dX9_count_117 : decode cX9_count 117 = .ok (.getfield 71, 3) := by decide +kernel
theorem dX9_count_120 : decode cX9_count 120 = .ok (.ireturn, 1) := by decide +kernel
theorem dX9_count_121 : decode cX9_count 121 = .ok (.aload_n 0, 1) := by decide +kernel
theorem dX9_count_122 : decode cX9_count 122 = .ok (.getfield 41, 3) := by decide +kernel
theorem dX9_count_125 : decode cX9_count 125 = .ok (.getfield 104, 3) := by decide +kernel
theorem dX9_count_128 : decode cX9_count 128 = .ok (.ireturn, 1) := by decide +kernel
theorem dX9_count_129 : decode cX9_count 129 = .ok (.aload_n 0, 1) := by decide +kernel
theorem dX9_count_130 : decode cX9_count 130 = .ok (.getfield 41, 3) := by decide +kernel
theorem dX9_count_133 : decode cX9_count 133 = .ok (.getfield 110, 3) := by decide +kernel
theorem dX9_count_136 : decode cX9_count 136 = .ok (.getfield 156, 3) := by decide +kernel
theorem dX9_count_139 : decode cX9_count 139 = .ok (.ireturn, 1) := by decide +kernel
theorem dX9_count_140 : decode cX9_count 140 = .ok (.aload_n 0, 1) := by decide +kernel
theorem dX9_count_141 : decode cX9_count 141 = .ok (.getfield 41, 3) := by decide +kernel
theorem dX9_count_144 : decode cX9_count 144 = .ok (.getfield 51, 3) := by decide +kernel
theorem dX9_count_147 : decode cX9_count 147 = .ok (.aload_n 0, 1) := by decide +kernel
theorem dX9_count_148 : decode cX9_count 148 = .ok (.getfield 41, 3) := by decide +kernel
theorem dX9_count_151 : decode cX9_count 151 = .ok (.getfield 110, 3) := by decide +kernel
theorem dX9_count_154 : decode cX9_count 154 = .ok (.invokevirtual 159, 3) := by decide +kernel
theorem dX9_count_157 : decode cX9_count 157 = .ok (.ireturn, 1) := by decide +kernel
theorem dX9_count_158 : decode cX9_count 158 = .ok (.aload_n 0, 1) := by decide +kernel
theorem dX9_count_159 : decode cX9_count 159 = .ok (.getfield 41, 3) := by decide +kernel
theorem dX9_count_162 : decode cX9_count 162 = .ok (.getfield 51, 3) := by decide +kernel
theorem dX9_count_165 : decode cX9_count 165 = .ok (.aload_n 0, 1) := by decide +kernel
theorem dX9_count_166 : decode cX9_count 166 = .ok (.getfield 41, 3) := by decide +kernel
theorem dX9_count_169 : decode cX9_count 169 = .ok (.getfield 110, 3) := by decide +kernel
theorem dX9_count_172 : decode cX9_count 172 = .ok (.invokevirtual 162, 3) := by decide +kernel
theorem dX9_count_175 : decode cX9_count 175 = .ok (.ireturn, 1) := by decide +kernel
theorem dX9_count_176 : decode cX9_count 176 = .ok (.aload_n 0, 1) := by decide +kernel
theorem dX9_count_177 : decode cX9_count 177 = .ok (.getfield 41, 3) := by decide +kernel
theorem dX9_count_180 : decode cX9_count 180 = .ok (.getfield 51, 3) := by decide +kernel
theorem dX9_count_183 : decode cX9_count 183 = .ok (.aload_n 0, 1) := by decide +kernel
theorem dX9_count_184 : decode cX9_count 184 = .ok (.getfield 41, 3) := by decide +kernel
theorem dX9_count_187 : decode cX9_count 187 = .ok (.getfield 110, 3) := by decide +kernel
theorem dX9_count_190 : decode cX9_count 190 = .ok (.invokevirtual 114, 3) := by decide +kernel
theorem dX9_count_193 : decode cX9_count 193 = .ok (.ireturn, 1) := by decide +kernel
theorem dX9_count_194 : decode cX9_count 194 = .ok (.aload_n 0, 1) := by decide +kernel
theorem dX9_count_195 : decode cX9_count 195 = .ok (.getfield 41, 3) := by decide +kernel
theorem dX9_count_198 : decode cX9_count 198 = .ok (.getfield 165, 3) := by decide +kernel
theorem dX9_count_201 : decode cX9_count 201 = .ok (.ireturn, 1) := by decide +kernel
theorem dX9_count_202 : decode cX9_count 202 = .ok (.aload_n 0, 1) := by decide +kernel
theorem dX9_count_203 : decode cX9_count 203 = .ok (.getfield 41, 3) := by decide +kernel
theorem dX9_count_206 : decode cX9_count 206 = .ok (.getfield 168, 3) := by decide +kernel
theorem dX9_count_209 : decode cX9_count 209 = .ok (.ireturn, 1) := by decide +kernel
theorem dX9_count_210 : decode cX9_count 210 = .ok (.aload_n 0, 1) := by decide +kernel
theorem dX9_count_211 : decode cX9_count 211 = .ok (.getfield 41, 3) := by decide +kernel
theorem dX9_count_214 : decode cX9_count 214 = .ok (.getfield 171, 3) := by decide +kernel
theorem dX9_count_217 : decode cX9_count 217 = .ok (.ireturn, 1) := by decide +kernel
theorem dX9_count_218 : decode cX9_count 218 = .ok (.aload_n 0, 1) := by decide +kernel
theorem dX9_count_219 : decode cX9_count 219 = .ok (.getfield 10, 3) := by decide +kernel
theorem dX9_count_222 : decode cX9_count 222 = .ok (.getfield 75, 3) := by decide +kernel
theorem dX9_count_225 : decode cX9_count 225 = .ok (.ireturn, 1) := by decide +kernel
theorem dX9_count_226 : decode cX9_count 226 = .ok (.iconst (-1), 1) := by decide +kernel
theorem dX9_count_227 : decode cX9_count 227 = .ok (.ireturn, 1) := by decide +kernel
theorem dX9_tide_0 : decode cX9_tide 0 = .ok (.aload_n 0, 1) := by decide +kernel
theorem dX9_tide_1 : decode cX9_tide 1 = .ok (.getfield 41, 3) := by decide +kernel
theorem dX9_tide_4 : decode cX9_tide 4 = .ok (.getfield 51, 3) := by decide +kernel
theorem dX9_tide_7 : decode cX9_tide 7 = .ok (.getfield 174, 3) := by decide +kernel
theorem dX9_tide_10 : decode cX9_tide 10 = .ok (.ifCond .eq 19, 3) := by decide +kernel
theorem dX9_tide_13 : decode cX9_tide 13 = .ok (.aload_n 0, 1) := by decide +kernel
theorem dX9_tide_14 : decode cX9_tide 14 = .ok (.getfield 41, 3) := by decide +kernel
theorem dX9_tide_17 : decode cX9_tide 17 = .ok (.getfield 110, 3) := by decide +kernel
theorem dX9_tide_20 : decode cX9_tide 20 = .ok (.getfield 156, 3) := by decide +kernel
theorem dX9_tide_23 : decode cX9_tide 23 = .ok (.sipush 999, 3) := by decide +kernel
theorem dX9_tide_26 : decode cX9_tide 26 = .ok (.if_icmp .lt 5, 3) := by decide +kernel
theorem dX9_tide_29 : decode cX9_tide 29 = .ok (.iconst (-1), 1) := by decide +kernel
theorem dX9_tide_30 : decode cX9_tide 30 = .ok (.ireturn, 1) := by decide +kernel
theorem dX9_tide_31 : decode cX9_tide 31 = .ok (.aload_n 0, 1) := by decide +kernel
theorem dX9_tide_32 : decode cX9_tide 32 = .ok (.getfield 41, 3) := by decide +kernel
theorem dX9_tide_35 : decode cX9_tide 35 = .ok (.invokevirtual 178, 3) := by decide +kernel
theorem dX9_tide_38 : decode cX9_tide 38 = .ok (.aload_n 0, 1) := by decide +kernel
theorem dX9_tide_39 : decode cX9_tide 39 = .ok (.getfield 58, 3) := by decide +kernel
theorem dX9_tide_42 : decode cX9_tide 42 = .ok (.aload_n 0, 1) := by decide +kernel
theorem dX9_tide_43 : decode cX9_tide 43 = .ok (.aload_n 0, 1) := by decide +kernel
theorem dX9_tide_44 : decode cX9_tide 44 = .ok (.getfield 41, 3) := by decide +kernel
theorem dX9_tide_47 : decode cX9_tide 47 = .ok (.getfield 104, 3) := by decide +kernel
theorem dX9_tide_50 : decode cX9_tide 50 = .ok (.invokevirtual 181, 3) := by decide +kernel
theorem dX9_tide_53 : decode cX9_tide 53 = .ok (.putfield 185, 3) := by decide +kernel
theorem dX9_tide_56 : decode cX9_tide 56 = .ok (.aload_n 0, 1) := by decide +kernel
theorem dX9_tide_57 : decode cX9_tide 57 = .ok (.getfield 58, 3) := by decide +kernel
theorem dX9_tide_60 : decode cX9_tide 60 = .ok (.aload_n 0, 1) := by decide +kernel
theorem dX9_tide_61 : decode cX9_tide 61 = .ok (.getfield 41, 3) := by decide +kernel
theorem dX9_tide_64 : decode cX9_tide 64 = .ok (.getfield 110, 3) := by decide +kernel
theorem dX9_tide_67 : decode cX9_tide 67 = .ok (.invokevirtual 189, 3) := by decide +kernel
theorem dX9_tide_70 : decode cX9_tide 70 = .ok (.ireturn, 1) := by decide +kernel
theorem dX9_say_0 : decode cX9_say 0 = .ok (.aload_n 0, 1) := by decide +kernel
theorem dX9_say_1 : decode cX9_say 1 = .ok (.iload_n 1, 1) := by decide +kernel
theorem dX9_say_2 : decode cX9_say 2 = .ok (.invokevirtual 192, 3) := by decide +kernel
theorem dX9_say_5 : decode cX9_say 5 = .ok (.ifCond .eq 26, 3) := by decide +kernel
theorem dX9_say_8 : decode cX9_say 8 = .ok (.aload_n 0, 1) := by decide +kernel
theorem dX9_say_9 : decode cX9_say 9 = .ok (.iload_n 2, 1) := by decide +kernel
theorem dX9_say_10 : decode cX9_say 10 = .ok (.invokevirtual 107, 3) := by decide +kernel
theorem dX9_say_13 : decode cX9_say 13 = .ok (.ifCond .eq 18, 3) := by decide +kernel
theorem dX9_say_16 : decode cX9_say 16 = .ok (.aload_n 0, 1) := by decide +kernel
theorem dX9_say_17 : decode cX9_say 17 = .ok (.getfield 41, 3) := by decide +kernel
theorem dX9_say_20 : decode cX9_say 20 = .ok (.getfield 110, 3) := by decide +kernel
theorem dX9_say_23 : decode cX9_say 23 = .ok (.iload_n 1, 1) := by decide +kernel
theorem dX9_say_24 : decode cX9_say 24 = .ok (.iload_n 2, 1) := by decide +kernel
theorem dX9_say_25 : decode cX9_say 25 = .ok (.invokevirtual 195, 3) := by decide +kernel
theorem dX9_say_28 : decode cX9_say 28 = .ok (.ifCond .ne 5, 3) := by decide +kernel
theorem dX9_say_31 : decode cX9_say 31 = .ok (.iconst (-1), 1) := by decide +kernel
theorem dX9_say_32 : decode cX9_say 32 = .ok (.ireturn, 1) := by decide +kernel
theorem dX9_say_33 : decode cX9_say 33 = .ok (.aload_n 0, 1) := by decide +kernel
theorem dX9_say_34 : decode cX9_say 34 = .ok (.getfield 41, 3) := by decide +kernel
theorem dX9_say_37 : decode cX9_say 37 = .ok (.invokevirtual 178, 3) := by decide +kernel
theorem dX9_say_40 : decode cX9_say 40 = .ok (.aload_n 0, 1) := by decide +kernel
theorem dX9_say_41 : decode cX9_say 41 = .ok (.getfield 58, 3) := by decide +kernel
theorem dX9_say_44 : decode cX9_say 44 = .ok (.aload_n 0, 1) := by decide +kernel
theorem dX9_say_45 : decode cX9_say 45 = .ok (.getfield 41, 3) := by decide +kernel
theorem dX9_say_48 : decode cX9_say 48 = .ok (.getfield 110, 3) := by decide +kernel
theorem dX9_say_51 : decode cX9_say 51 = .ok (.invokevirtual 198, 3) := by decide +kernel
theorem dX9_say_54 : decode cX9_say 54 = .ok (.aload_n 0, 1) := by decide +kernel
theorem dX9_say_55 : decode cX9_say 55 = .ok (.getfield 58, 3) := by decide +kernel
theorem dX9_say_58 : decode cX9_say 58 = .ok (.iload_n 1, 1) := by decide +kernel
theorem dX9_say_59 : decode cX9_say 59 = .ok (.iload_n 2, 1) := by decide +kernel
theorem dX9_say_60 : decode cX9_say 60 = .ok (.invokevirtual 202, 3) := by decide +kernel
theorem dX9_say_63 : decode cX9_say 63 = .ok (.ifCond .eq 7, 3) := by decide +kernel
theorem dX9_say_66 : decode cX9_say 66 = .ok (.iconst 1, 1) := by decide +kernel
theorem dX9_say_67 : decode cX9_say 67 = .ok (.goto 4, 3) := by decide +kernel
theorem dX9_say_70 : decode cX9_say 70 = .ok (.iconst 0, 1) := by decide +kernel
theorem dX9_say_71 : decode cX9_say 71 = .ok (.ireturn, 1) := by decide +kernel
theorem dX9_trade_0 : decode cX9_trade 0 = .ok (.aload_n 0, 1) := by decide +kernel
theorem dX9_trade_1 : decode cX9_trade 1 = .ok (.iload_n 1, 1) := by decide +kernel
theorem dX9_trade_2 : decode cX9_trade 2 = .ok (.invokevirtual 192, 3) := by decide +kernel
theorem dX9_trade_5 : decode cX9_trade 5 = .ok (.ifCond .eq 38, 3) := by decide +kernel
theorem dX9_trade_8 : decode cX9_trade 8 = .ok (.aload_n 0, 1) := by decide +kernel
theorem dX9_trade_9 : decode cX9_trade 9 = .ok (.iload_n 2, 1) := by decide +kernel
theorem dX9_trade_10 : decode cX9_trade 10 = .ok (.invokevirtual 192, 3) := by decide +kernel
theorem dX9_trade_13 : decode cX9_trade 13 = .ok (.ifCond .eq 30, 3) := by decide +kernel
theorem dX9_trade_16 : decode cX9_trade 16 = .ok (.aload_n 0, 1) := by decide +kernel
theorem dX9_trade_17 : decode cX9_trade 17 = .ok (.getfield 41, 3) := by decide +kernel
theorem dX9_trade_20 : decode cX9_trade 20 = .ok (.getfield 110, 3) := by decide +kernel
theorem dX9_trade_23 : decode cX9_trade 23 = .ok (.getfield 141, 3) := by decide +kernel
theorem dX9_trade_26 : decode cX9_trade 26 = .ok (.iload_n 1, 1) := by decide +kernel
theorem dX9_trade_27 : decode cX9_trade 27 = .ok (.iaload, 1) := by decide +kernel
theorem dX9_trade_28 : decode cX9_trade 28 = .ok (.aload_n 0, 1) := by decide +kernel
theorem dX9_trade_29 : decode cX9_trade 29 = .ok (.getfield 41, 3) := by decide +kernel
theorem dX9_trade_32 : decode cX9_trade 32 = .ok (.getfield 110, 3) := by decide +kernel
theorem dX9_trade_35 : decode cX9_trade 35 = .ok (.getfield 141, 3) := by decide +kernel
theorem dX9_trade_38 : decode cX9_trade 38 = .ok (.iload_n 2, 1) := by decide +kernel
theorem dX9_trade_39 : decode cX9_trade 39 = .ok (.iaload, 1) := by decide +kernel
theorem dX9_trade_40 : decode cX9_trade 40 = .ok (.if_icmp .ne 5, 3) := by decide +kernel
theorem dX9_trade_43 : decode cX9_trade 43 = .ok (.iconst (-1), 1) := by decide +kernel
theorem dX9_trade_44 : decode cX9_trade 44 = .ok (.ireturn, 1) := by decide +kernel
theorem dX9_trade_45 : decode cX9_trade 45 = .ok (.aload_n 0, 1) := by decide +kernel
theorem dX9_trade_46 : decode cX9_trade 46 = .ok (.getfield 41, 3) := by decide +kernel
theorem dX9_trade_49 : decode cX9_trade 49 = .ok (.invokevirtual 178, 3) := by decide +kernel
theorem dX9_trade_52 : decode cX9_trade 52 = .ok (.aload_n 0, 1) := by decide +kernel
theorem dX9_trade_53 : decode cX9_trade 53 = .ok (.getfield 41, 3) := by decide +kernel
theorem dX9_trade_56 : decode cX9_trade 56 = .ok (.getfield 110, 3) := by decide +kernel
theorem dX9_trade_59 : decode cX9_trade 59 = .ok (.iload_n 1, 1) := by decide +kernel
theorem dX9_trade_60 : decode cX9_trade 60 = .ok (.iload_n 2, 1) := by decide +kernel
theorem dX9_trade_61 : decode cX9_trade 61 = .ok (.invokevirtual 205, 3) := by decide +kernel
theorem dX9_trade_64 : decode cX9_trade 64 = .ok (.ireturn, 1) := by decide +kernel
theorem dX9_coin_0 : decode cX9_coin 0 = .ok (.aload_n 0, 1) := by decide +kernel
theorem dX9_coin_1 : decode cX9_coin 1 = .ok (.iload_n 1, 1) := by decide +kernel
theorem dX9_coin_2 : decode cX9_coin 2 = .ok (.invokevirtual 192, 3) := by decide +kernel
theorem dX9_coin_5 : decode cX9_coin 5 = .ok (.ifCond .eq 26, 3) := by decide +kernel
theorem dX9_coin_8 : decode cX9_coin 8 = .ok (.aload_n 0, 1) := by decide +kernel
theorem dX9_coin_9 : decode cX9_coin 9 = .ok (.iload_n 2, 1) := by decide +kernel
theorem dX9_coin_10 : decode cX9_coin 10 = .ok (.invokevirtual 107, 3) := by decide +kernel
theorem dX9_coin_13 : decode cX9_coin 13 = .ok (.ifCond .eq 18, 3) := by decide +kernel
theorem dX9_coin_16 : decode cX9_coin 16 = .ok (.aload_n 0, 1) := by decide +kernel
theorem dX9_coin_17 : decode cX9_coin 17 = .ok (.getfield 41, 3) := by decide +kernel
theorem dX9_coin_20 : decode cX9_coin 20 = .ok (.getfield 110, 3) := by decide +kernel
theorem dX9_coin_23 : decode cX9_coin 23 = .ok (.iload_n 1, 1) := by decide +kernel
theorem dX9_coin_24 : decode cX9_coin 24 = .ok (.iload_n 2, 1) := by decide +kernel
theorem dX9_coin_25 : decode cX9_coin 25 = .ok (.invokevirtual 195, 3) := by decide +kernel
theorem dX9_coin_28 : decode cX9_coin 28 = .ok (.ifCond .eq 5, 3) := by decide +kernel
theorem dX9_coin_31 : decode cX9_coin 31 = .ok (.iconst (-1), 1) := by decide +kernel
theorem dX9_coin_32 : decode cX9_coin 32 = .ok (.ireturn, 1) := by decide +kernel
theorem dX9_coin_33 : decode cX9_coin 33 = .ok (.aload_n 0, 1) := by decide +kernel
theorem dX9_coin_34 : decode cX9_coin 34 = .ok (.getfield 41, 3) := by decide +kernel
theorem dX9_coin_37 : decode cX9_coin 37 = .ok (.invokevirtual 178, 3) := by decide +kernel
theorem dX9_coin_40 : decode cX9_coin 40 = .ok (.aload_n 0, 1) := by decide +kernel
theorem dX9_coin_41 : decode cX9_coin 41 = .ok (.getfield 41, 3) := by decide +kernel
theorem dX9_coin_44 : decode cX9_coin 44 = .ok (.getfield 110, 3) := by decide +kernel
theorem dX9_coin_47 : decode cX9_coin 47 = .ok (.getfield 141, 3) := by decide +kernel
theorem dX9_coin_50 : decode cX9_coin 50 = .ok (.iload_n 1, 1) := by decide +kernel
theorem dX9_coin_51 : decode cX9_coin 51 = .ok (.dup2, 1) := by decide +kernel
theorem dX9_coin_52 : decode cX9_coin 52 = .ok (.iaload, 1) := by decide +kernel
theorem dX9_coin_53 : decode cX9_coin 53 = .ok (.iconst 1, 1) := by decide +kernel
theorem dX9_coin_54 : decode cX9_coin 54 = .ok (.iload_n 2, 1) := by decide +kernel
theorem dX9_coin_55 : decode cX9_coin 55 = .ok (.ishl, 1) := by decide +kernel
theorem dX9_coin_56 : decode cX9_coin 56 = .ok (.ior, 1) := by decide +kernel
theorem dX9_coin_57 : decode cX9_coin 57 = .ok (.iastore, 1) := by decide +kernel
theorem dX9_coin_58 : decode cX9_coin 58 = .ok (.aload_n 0, 1) := by decide +kernel
theorem dX9_coin_59 : decode cX9_coin 59 = .ok (.getfield 41, 3) := by decide +kernel
theorem dX9_coin_62 : decode cX9_coin 62 = .ok (.getfield 110, 3) := by decide +kernel
theorem dX9_coin_65 : decode cX9_coin 65 = .ok (.getfield 141, 3) := by decide +kernel
theorem dX9_coin_68 : decode cX9_coin 68 = .ok (.iload_n 1, 1) := by decide +kernel
theorem dX9_coin_69 : decode cX9_coin 69 = .ok (.iaload, 1) := by decide +kernel
theorem dX9_coin_70 : decode cX9_coin 70 = .ok (.ireturn, 1) := by decide +kernel
theorem dX9_dull_0 : decode cX9_dull 0 = .ok (.aload_n 0, 1) := by decide +kernel
theorem dX9_dull_1 : decode cX9_dull 1 = .ok (.iload_n 1, 1) := by decide +kernel
theorem dX9_dull_2 : decode cX9_dull 2 = .ok (.invokevirtual 107, 3) := by decide +kernel
theorem dX9_dull_5 : decode cX9_dull 5 = .ok (.ifCond .eq 27, 3) := by decide +kernel
theorem dX9_dull_8 : decode cX9_dull 8 = .ok (.aload_n 0, 1) := by decide +kernel
theorem dX9_dull_9 : decode cX9_dull 9 = .ok (.getfield 41, 3) := by decide +kernel
theorem dX9_dull_12 : decode cX9_dull 12 = .ok (.getfield 51, 3) := by decide +kernel
theorem dX9_dull_15 : decode cX9_dull 15 = .ok (.aload_n 0, 1) := by decide +kernel
theorem dX9_dull_16 : decode cX9_dull 16 = .ok (.getfield 41, 3) := by decide +kernel
theorem dX9_dull_19 : decode cX9_dull 19 = .ok (.getfield 110, 3) := by decide +kernel
theorem dX9_dull_22 : decode cX9_dull 22 = .ok (.invokevirtual 114, 3) := by decide +kernel
theorem dX9_dull_25 : decode cX9_dull 25 = .ok (.iload_n 1, 1) := by decide +kernel
theorem dX9_dull_26 : decode cX9_dull 26 = .ok (.ishr, 1) := by decide +kernel
theorem dX9_dull_27 : decode cX9_dull 27 = .ok (.iconst 1, 1) := by decide +kernel
theorem dX9_dull_28 : decode cX9_dull 28 = .ok (.iand, 1) := by decide +kernel
theorem dX9_dull_29 : decode cX9_dull 29 = .ok (.ifCond .ne 5, 3) := by decide +kernel
theorem dX9_dull_32 : decode cX9_dull 32 = .ok (.iconst (-1), 1) := by decide +kernel
theorem dX9_dull_33 : decode cX9_dull 33 = .ok (.ireturn, 1) := by decide +kernel
theorem dX9_dull_34 : decode cX9_dull 34 = .ok (.aload_n 0, 1) := by decide +kernel
theorem dX9_dull_35 : decode cX9_dull 35 = .ok (.getfield 41, 3) := by decide +kernel
theorem dX9_dull_38 : decode cX9_dull 38 = .ok (.invokevirtual 178, 3) := by decide +kernel
theorem dX9_dull_41 : decode cX9_dull 41 = .ok (.aload_n 0, 1) := by decide +kernel
theorem dX9_dull_42 : decode cX9_dull 42 = .ok (.getfield 41, 3) := by decide +kernel
theorem dX9_dull_45 : decode cX9_dull 45 = .ok (.getfield 110, 3) := by decide +kernel
theorem dX9_dull_48 : decode cX9_dull 48 = .ok (.iload_n 1, 1) := by decide +kernel
theorem dX9_dull_49 : decode cX9_dull 49 = .ok (.invokevirtual 126, 3) := by decide +kernel
theorem dX9_dull_52 : decode cX9_dull 52 = .ok (.istore_n 2, 1) := by decide +kernel
theorem dX9_dull_53 : decode cX9_dull 53 = .ok (.aload_n 0, 1) := by decide +kernel
theorem dX9_dull_54 : decode cX9_dull 54 = .ok (.getfield 41, 3) := by decide +kernel
theorem dX9_dull_57 : decode cX9_dull 57 = .ok (.getfield 110, 3) := by decide +kernel
theorem dX9_dull_60 : decode cX9_dull 60 = .ok (.getfield 209, 3) := by decide +kernel
theorem dX9_dull_63 : decode cX9_dull 63 = .ok (.iload_n 1, 1) := by decide +kernel
theorem dX9_dull_64 : decode cX9_dull 64 = .ok (.ldc 212, 2) := by decide +kernel
theorem dX9_dull_66 : decode cX9_dull 66 = .ok (.iastore, 1) := by decide +kernel
theorem dX9_dull_67 : decode cX9_dull 67 = .ok (.iload_n 2, 1) := by decide +kernel
theorem dX9_dull_68 : decode cX9_dull 68 = .ok (.ireturn, 1) := by decide +kernel
theorem dX9_undo_0 : decode cX9_undo 0 = .ok (.aload_n 0, 1) := by decide +kernel
theorem dX9_undo_1 : decode cX9_undo 1 = .ok (.getfield 41, 3) := by decide +kernel
theorem dX9_undo_4 : decode cX9_undo 4 = .ok (.invokevirtual 213, 3) := by decide +kernel
theorem dX9_undo_7 : decode cX9_undo 7 = .ok (.ifCond .eq 13, 3) := by decide +kernel
theorem dX9_undo_10 : decode cX9_undo 10 = .ok (.aload_n 0, 1) := by decide +kernel
theorem dX9_undo_11 : decode cX9_undo 11 = .ok (.getfield 41, 3) := by decide +kernel
theorem dX9_undo_14 : decode cX9_undo 14 = .ok (.getfield 168, 3) := by decide +kernel
theorem dX9_undo_17 : decode cX9_undo 17 = .ok (.goto 5, 3) := by decide +kernel
theorem dX9_undo_20 : decode cX9_undo 20 = .ok (.bipush (-2), 2) := by decide +kernel
theorem dX9_undo_22 : decode cX9_undo 22 = .ok (.ireturn, 1) := by decide +kernel
theorem dX9_ahead_0 : decode cX9_ahead 0 = .ok (.iload_n 3, 1) := by decide +kernel
theorem dX9_ahead_1 : decode cX9_ahead 1 = .ok (.ifCond .ne 15, 3) := by decide +kernel
theorem dX9_ahead_4 : decode cX9_ahead 4 = .ok (.aload_n 0, 1) := by decide +kernel
theorem dX9_ahead_5 : decode cX9_ahead 5 = .ok (.iload_n 1, 1) := by decide +kernel
theorem dX9_ahead_6 : decode cX9_ahead 6 = .ok (.invokevirtual 132, 3) := by decide +kernel
theorem dX9_ahead_9 : decode cX9_ahead 9 = .ok (.ifCond .eq 7, 3) := by decide +kernel
theorem dX9_ahead_12 : decode cX9_ahead 12 = .ok (.iconst 1, 1) := by decide +kernel
theorem dX9_ahead_13 : decode cX9_ahead 13 = .ok (.goto 4, 3) := by decide +kernel
theorem dX9_ahead_16 : decode cX9_ahead 16 = .ok (.iconst 0, 1) := by decide +kernel
theorem dX9_ahead_17 : decode cX9_ahead 17 = .ok (.istore 4, 2) := by decide +kernel
theorem dX9_ahead_19 : decode cX9_ahead 19 = .ok (.aload_n 0, 1) := by decide +kernel
theorem dX9_ahead_20 : decode cX9_ahead 20 = .ok (.getfield 41, 3) := by decide +kernel
theorem dX9_ahead_23 : decode cX9_ahead 23 = .ok (.getfield 51, 3) := by decide +kernel
theorem dX9_ahead_26 : decode cX9_ahead 26 = .ok (.getfield 174, 3) := by decide +kernel
theorem dX9_ahead_29 : decode cX9_ahead 29 = .ok (.ifCond .eq 28, 3) := by decide +kernel
theorem dX9_ahead_32 : decode cX9_ahead 32 = .ok (.iload_n 2, 1) := by decide +kernel
theorem dX9_ahead_33 : decode cX9_ahead 33 = .ok (.iconst 0, 1) := by decide +kernel
theorem dX9_ahead_34 : decode cX9_ahead 34 = .ok (.bipush 100, 2) := by decide +kernel
theorem dX9_ahead_36 : decode cX9_ahead 36 = .ok (.invokestatic 217, 3) := by decide +kernel
theorem dX9_ahead_39 : decode cX9_ahead 39 = .ok (.ifCond .eq 18, 3) := by decide +kernel
theorem dX9_ahead_42 : decode cX9_ahead 42 = .ok (.iload 4, 2) := by decide +kernel
theorem dX9_ahead_44 : decode cX9_ahead 44 = .ok (.ifCond .ne 16, 3) := by decide +kernel
theorem dX9_ahead_47 : decode cX9_ahead 47 = .ok (.iload_n 3, 1) := by decide +kernel
theorem dX9_ahead_48 : decode cX9_ahead 48 = .ok (.iconst 1, 1) := by decide +kernel
theorem dX9_ahead_49 : decode cX9_ahead 49 = .ok (.if_icmp .eq 11, 3) := by decide +kernel
theorem dX9_ahead_52 : decode cX9_ahead 52 = .ok (.iload_n 3, 1) := by decide +kernel
theorem dX9_ahead_53 : decode cX9_ahead 53 = .ok (.iconst 2, 1) := by decide +kernel
theorem dX9_ahead_54 : decode cX9_ahead 54 = .ok (.if_icmp .eq 6, 3) := by decide +kernel
theorem dX9_ahead_57 : decode cX9_ahead 57 = .ok (.bipush (-2), 2) := by decide +kernel
theorem dX9_ahead_59 : decode cX9_ahead 59 = .ok (.ireturn, 1) := by decide +kernel
theorem dX9_ahead_60 : decode cX9_ahead 60 = .ok (.aload_n 0, 1) := by decide +kernel
theorem dX9_ahead_61 : decode cX9_ahead 61 = .ok (.invokevirtual 221, 3) := by decide +kernel
theorem dX9_ahead_64 : decode cX9_ahead 64 = .ok (.iload_n 2, 1) := by decide +kernel
theorem dX9_ahead_65 : decode cX9_ahead 65 = .ok (.invokevirtual 225, 3) := by decide +kernel
theorem dX9_ahead_68 : decode cX9_ahead 68 = .ok (.astore 5, 2) := by decide +kernel
theorem dX9_ahead_70 : decode cX9_ahead 70 = .ok (.iload 4, 2) := by decide +kernel
theorem dX9_ahead_72 : decode cX9_ahead 72 = .ok (.ifCond .eq 11, 3) := by decide +kernel
theorem dX9_ahead_75 : decode cX9_ahead 75 = .ok (.aload 5, 2) := by decide +kernel
theorem dX9_ahead_77 : decode cX9_ahead 77 = .ok (.getfield 144, 3) := by decide +kernel
theorem dX9_ahead_80 : decode cX9_ahead 80 = .ok (.iload_n 1, 1) := by decide +kernel
theorem dX9_ahead_81 : decode cX9_ahead 81 = .ok (.iaload, 1) := by decide +kernel
theorem dX9_ahead_82 : decode cX9_ahead 82 = .ok (.ireturn, 1) := by decide +kernel
theorem dX9_ahead_83 : decode cX9_ahead 83 = .ok (.iload_n 3, 1) := by decide +kernel
theorem dX9_ahead_84 : decode cX9_ahead 84 = .ok (.iconst 1, 1) := by decide +kernel
theorem dX9_ahead_85 : decode cX9_ahead 85 = .ok (.if_icmp .ne 18, 3) := by decide +kernel
theorem dX9_ahead_88 : decode cX9_ahead 88 = .ok (.aload_n 0, 1) := by decide +kernel
theorem dX9_ahead_89 : decode cX9_ahead 89 = .ok (.getfield 41, 3) := by decide +kernel
theorem dX9_ahead_92 : decode cX9_ahead 92 = .ok (.getfield 51, 3) := by decide +kernel
theorem dX9_ahead_95 : decode cX9_ahead 95 = .ok (.aload 5, 2) := by decide +kernel
theorem dX9_ahead_97 : decode cX9_ahead 97 = .ok (.invokevirtual 159, 3) := by decide +kernel
theorem dX9_ahead_100 : decode cX9_ahead 100 = .ok (.goto 15, 3) := by decide +kernel
theorem dX9_ahead_103 : decode cX9_ahead 103 = .ok (.aload_n 0, 1) := by decide +kernel
theorem dX9_ahead_104 : decode cX9_ahead 104 = .ok (.getfield 41, 3) := by decide +kernel
theorem dX9_ahead_107 : decode cX9_ahead 107 = .ok (.getfield 51, 3) := by decide +kernel
theorem dX9_ahead_110 : decode cX9_ahead 110 = .ok (.aload 5, 2) := by decide +kernel
theorem dX9_ahead_112 : decode cX9_ahead 112 = .ok (.invokevirtual 229, 3) := by decide +kernel
theorem dX9_ahead_115 : decode cX9_ahead 115 = .ok (.ireturn, 1) := by decide +kernel
theorem dX9_over_0 : decode cX9_over 0 = .ok (.aload_n 0, 1) := by decide +kernel
theorem dX9_over_1 : decode cX9_over 1 = .ok (.iload_n 1, 1) := by decide +kernel
theorem dX9_over_2 : decode cX9_over 2 = .ok (.invokevirtual 192, 3) := by decide +kernel
theorem dX9_over_5 : decode cX9_over 5 = .ok (.ifCond .eq 12, 3) := by decide +kernel
theorem dX9_over_8 : decode cX9_over 8 = .ok (.iload_n 2, 1) := by decide +kernel
theorem dX9_over_9 : decode cX9_over 9 = .ok (.iconst 0, 1) := by decide +kernel
theorem dX9_over_10 : decode cX9_over 10 = .ok (.iconst 1, 1) := by decide +kernel
theorem dX9_over_11 : decode cX9_over 11 = .ok (.invokestatic 217, 3) := by decide +kernel
theorem dX9_over_14 : decode cX9_over 14 = .ok (.ifCond .ne 5, 3) := by decide +kernel
theorem dX9_over_17 : decode cX9_over 17 = .ok (.iconst (-1), 1) := by decide +kernel
theorem dX9_over_18 : decode cX9_over 18 = .ok (.ireturn, 1) := by decide +kernel
theorem dX9_over_19 : decode cX9_over 19 = .ok (.aload_n 0, 1) := by decide +kernel
theorem dX9_over_20 : decode cX9_over 20 = .ok (.invokevirtual 221, 3) := by decide +kernel
theorem dX9_over_23 : decode cX9_over 23 = .ok (.iload_n 1, 1) := by decide +kernel
theorem dX9_over_24 : decode cX9_over 24 = .ok (.invokevirtual 231, 3) := by decide +kernel
theorem dX9_over_27 : decode cX9_over 27 = .ok (.ifCond .ne 6, 3) := by decide +kernel
theorem dX9_over_30 : decode cX9_over 30 = .ok (.bipush (-2), 2) := by decide +kernel
theorem dX9_over_32 : decode cX9_over 32 = .ok (.ireturn, 1) := by decide +kernel
theorem dX9_over_33 : decode cX9_over 33 = .ok (.iload_n 2, 1) := by decide +kernel
theorem dX9_over_34 : decode cX9_over 34 = .ok (.ifCond .ne 13, 3) := by decide +kernel
theorem dX9_over_37 : decode cX9_over 37 = .ok (.aload_n 0, 1) := by decide +kernel
theorem dX9_over_38 : decode cX9_over 38 = .ok (.getfield 67, 3) := by decide +kernel
theorem dX9_over_41 : decode cX9_over 41 = .ok (.getfield 234, 3) := by decide +kernel
theorem dX9_over_44 : decode cX9_over 44 = .ok (.goto 10, 3) := by decide +kernel
theorem dX9_over_47 : decode cX9_over 47 = .ok (.aload_n 0, 1) := by decide +kernel
theorem dX9_over_48 : decode cX9_over 48 = .ok (.getfield 67, 3) := by decide +kernel
theorem dX9_over_51 : decode cX9_over 51 = .ok (.getfield 237, 3) := by decide +kernel
theorem dX9_over_54 : decode cX9_over 54 = .ok (.ireturn, 1) := by decide +kernel
theorem dX9_alike_0 : decode cX9_alike 0 = .ok (.aload_n 0, 1) := by decide +kernel
theorem dX9_alike_1 : decode cX9_alike 1 = .ok (.iload_n 1, 1) := by decide +kernel
theorem dX9_alike_2 : decode cX9_alike 2 = .ok (.invokevirtual 107, 3) := by decide +kernel
theorem dX9_alike_5 : decode cX9_alike 5 = .ok (.ifCond .eq 11, 3) := by decide +kernel
theorem dX9_alike_8 : decode cX9_alike 8 = .ok (.aload_n 0, 1) := by decide +kernel
theorem dX9_alike_9 : decode cX9_alike 9 = .ok (.iload_n 2, 1) := by decide +kernel
theorem dX9_alike_10 : decode cX9_alike 10 = .ok (.invokevirtual 107, 3) := by decide +kernel
theorem dX9_alike_13 : decode cX9_alike 13 = .ok (.ifCond .ne 5, 3) := by decide +kernel
theorem dX9_alike_16 : decode cX9_alike 16 = .ok (.iconst (-1), 1) := by decide +kernel
theorem dX9_alike_17 : decode cX9_alike 17 = .ok (.ireturn, 1) := by decide +kernel
theorem dX9_alike_18 : decode cX9_alike 18 = .ok (.aload_n 0, 1) := by decide +kernel
theorem dX9_alike_19 : decode cX9_alike 19 = .ok (.getfield 41, 3) := by decide +kernel
theorem dX9_alike_22 : decode cX9_alike 22 = .ok (.getfield 51, 3) := by decide +kernel
theorem dX9_alike_25 : decode cX9_alike 25 = .ok (.iload_n 1, 1) := by decide +kernel
theorem dX9_alike_26 : decode cX9_alike 26 = .ok (.iload_n 2, 1) := by decide +kernel
theorem dX9_alike_27 : decode cX9_alike 27 = .ok (.invokevirtual 240, 3) := by decide +kernel
theorem dX9_alike_30 : decode cX9_alike 30 = .ok (.ireturn, 1) := by decide +kernel
theorem dX9_fresh_0 : decode cX9_fresh 0 = .ok (.aload_n 0, 1) := by decide +kernel
theorem dX9_fresh_1 : decode cX9_fresh 1 = .ok (.getfield 41, 3) := by decide +kernel
theorem dX9_fresh_4 : decode cX9_fresh 4 = .ok (.getfield 51, 3) := by decide +kernel
theorem dX9_fresh_7 : decode cX9_fresh 7 = .ok (.getfield 174, 3) := by decide +kernel
theorem dX9_fresh_10 : decode cX9_fresh 10 = .ok (.ifCond .ne 5, 3) := by decide +kernel
theorem dX9_fresh_13 : decode cX9_fresh 13 = .ok (.iconst (-1), 1) := by decide +kernel
theorem dX9_fresh_14 : decode cX9_fresh 14 = .ok (.ireturn, 1) := by decide +kernel
theorem dX9_fresh_15 : decode cX9_fresh 15 = .ok (.aload_n 0, 1) := by decide +kernel
theorem dX9_fresh_16 : decode cX9_fresh 16 = .ok (.getfield 41, 3) := by decide +kernel
theorem dX9_fresh_19 : decode cX9_fresh 19 = .ok (.getfield 51, 3) := by decide +kernel
theorem dX9_fresh_22 : decode cX9_fresh 22 = .ok (.aload_n 0, 1) := by decide +kernel
theorem dX9_fresh_23 : decode cX9_fresh 23 = .ok (.getfield 41, 3) := by decide +kernel
theorem dX9_fresh_26 : decode cX9_fresh 26 = .ok (.getfield 51, 3) := by decide +kernel
theorem dX9_fresh_29 : decode cX9_fresh 29 = .ok (.aload_n 0, 1) := by decide +kernel
theorem dX9_fresh_30 : decode cX9_fresh 30 = .ok (.getfield 41, 3) := by decide +kernel
theorem dX9_fresh_33 : decode cX9_fresh 33 = .ok (.getfield 110, 3) := by decide +kernel
theorem dX9_fresh_36 : decode cX9_fresh 36 = .ok (.invokevirtual 114, 3) := by decide +kernel
theorem dX9_fresh_39 : decode cX9_fresh 39 = .ok (.invokevirtual 243, 3) := by decide +kernel
theorem dX9_fresh_42 : decode cX9_fresh 42 = .ok (.ireturn, 1) := by decide +kernel
theorem dX9_least_0 : decode cX9_least 0 = .ok (.aload_n 0, 1) := by decide +kernel
theorem dX9_least_1 : decode cX9_least 1 = .ok (.getfield 41, 3) := by decide +kernel
theorem dX9_least_4 : decode cX9_least 4 = .ok (.getfield 51, 3) := by decide +kernel
theorem dX9_least_7 : decode cX9_least 7 = .ok (.getfield 174, 3) := by decide +kernel
theorem dX9_least_10 : decode cX9_least 10 = .ok (.ifCond .ne 5, 3) := by decide +kernel
theorem dX9_least_13 : decode cX9_least 13 = .ok (.iconst (-1), 1) := by decide +kernel
theorem dX9_least_14 : decode cX9_least 14 = .ok (.ireturn, 1) := by decide +kernel
theorem dX9_least_15 : decode cX9_least 15 = .ok (.aload_n 0, 1) := by decide +kernel
theorem dX9_least_16 : decode cX9_least 16 = .ok (.getfield 41, 3) := by decide +kernel
theorem dX9_least_19 : decode cX9_least 19 = .ok (.getfield 51, 3) := by decide +kernel
theorem dX9_least_22 : decode cX9_least 22 = .ok (.invokevirtual 246, 3) := by decide +kernel
theorem dX9_least_25 : decode cX9_least 25 = .ok (.ireturn, 1) := by decide +kernel
theorem dX9_row_0 : decode cX9_row 0 = .ok (.aload_n 0, 1) := by decide +kernel
theorem dX9_row_1 : decode cX9_row 1 = .ok (.iload_n 1, 1) := by decide +kernel
theorem dX9_row_2 : decode cX9_row 2 = .ok (.invokevirtual 192, 3) := by decide +kernel
theorem dX9_row_5 : decode cX9_row 5 = .ok (.ifCond .eq 21, 3) := by decide +kernel
theorem dX9_row_8 : decode cX9_row 8 = .ok (.iload_n 2, 1) := by decide +kernel
theorem dX9_row_9 : decode cX9_row 9 = .ok (.iconst 1, 1) := by decide +kernel
theorem dX9_row_10 : decode cX9_row 10 = .ok (.iconst 4, 1) := by decide +kernel
theorem dX9_row_11 : decode cX9_row 11 = .ok (.invokestatic 217, 3) := by decide +kernel
theorem dX9_row_14 : decode cX9_row 14 = .ok (.ifCond .eq 12, 3) := by decide +kernel
theorem dX9_row_17 : decode cX9_row 17 = .ok (.iload_n 3, 1) := by decide +kernel
theorem dX9_row_18 : decode cX9_row 18 = .ok (.iconst 0, 1) := by decide +kernel
theorem dX9_row_19 : decode cX9_row 19 = .ok (.iconst 4, 1) := by decide +kernel
theorem dX9_row_20 : decode cX9_row 20 = .ok (.invokestatic 217, 3) := by decide +kernel
theorem dX9_row_23 : decode cX9_row 23 = .ok (.ifCond .ne 6, 3) := by decide +kernel
theorem dX9_row_26 : decode cX9_row 26 = .ok (.bipush (-3), 2) := by decide +kernel
theorem dX9_row_28 : decode cX9_row 28 = .ok (.ireturn, 1) := by decide +kernel
theorem dX9_row_29 : decode cX9_row 29 = .ok (.iload_n 3, 1) := by decide +kernel
theorem dX9_row_30 : decode cX9_row 30 = .ok (.iload_n 2, 1) := by decide +kernel
theorem dX9_row_31 : decode cX9_row 31 = .ok (.if_icmp .le 7, 3) := by decide +kernel
theorem dX9_row_34 : decode cX9_row 34 = .ok (.iconst (-1), 1) := by decide +kernel
theorem dX9_row_35 : decode cX9_row 35 = .ok (.goto 12, 3) := by decide +kernel
theorem dX9_row_38 : decode cX9_row 38 = .ok (.aload_n 0, 1) := by decide +kernel
theorem dX9_row_39 : decode cX9_row 39 = .ok (.invokevirtual 221, 3) := by decide +kernel
theorem dX9_row_42 : decode cX9_row 42 = .ok (.iload_n 1, 1) := by decide +kernel
theorem dX9_row_43 : decode cX9_row 43 = .ok (.iload_n 2, 1) := by decide +kernel
theorem dX9_row_44 : decode cX9_row 44 = .ok (.invokevirtual 249, 3) := by decide +kernel
theorem dX9_row_47 : decode cX9_row 47 = .ok (.istore 4, 2) := by decide +kernel
theorem dX9_row_49 : decode cX9_row 49 = .ok (.iload 4, 2) := by decide +kernel
theorem dX9_row_51 : decode cX9_row 51 = .ok (.iconst (-1), 1) := by decide +kernel
theorem dX9_row_52 : decode cX9_row 52 = .ok (.if_icmp .ne 6, 3) := by decide +kernel
theorem dX9_row_55 : decode cX9_row 55 = .ok (.bipush (-2), 2) := by decide +kernel
theorem dX9_row_57 : decode cX9_row 57 = .ok (.ireturn, 1) := by decide +kernel
theorem dX9_row_58 : decode cX9_row 58 = .ok (.iload_n 3, 1) := by decide +kernel
theorem dX9_row_59 : decode cX9_row 59 = .ok (.ifCond .ne 17, 3) := by decide +kernel
theorem dX9_row_62 : decode cX9_row 62 = .ok (.aload_n 0, 1) := by decide +kernel
theorem dX9_row_63 : decode cX9_row 63 = .ok (.getfield 41, 3) := by decide +kernel
theorem dX9_row_66 : decode cX9_row 66 = .ok (.getfield 110, 3) := by decide +kernel
theorem dX9_row_69 : decode cX9_row 69 = .ok (.getfield 156, 3) := by decide +kernel
theorem dX9_row_72 : decode cX9_row 72 = .ok (.iload 4, 2) := by decide +kernel
theorem dX9_row_74 : decode cX9_row 74 = .ok (.iadd, 1) := by decide +kernel
theorem dX9_row_75 : decode cX9_row 75 = .ok (.ireturn, 1) := by decide +kernel
theorem dX9_row_76 : decode cX9_row 76 = .ok (.iload_n 3, 1) := by decide +kernel
theorem dX9_row_77 : decode cX9_row 77 = .ok (.iconst 1, 1) := by decide +kernel
theorem dX9_row_78 : decode cX9_row 78 = .ok (.isub, 1) := by decide +kernel
theorem dX9_row_79 : decode cX9_row 79 = .ok (.iload 4, 2) := by decide +kernel
theorem dX9_row_81 : decode cX9_row 81 = .ok (.if_icmp .gt 17, 3) := by decide +kernel
theorem dX9_row_84 : decode cX9_row 84 = .ok (.aload_n 0, 1) := by decide +kernel
theorem dX9_row_85 : decode cX9_row 85 = .ok (.getfield 67, 3) := by decide +kernel
theorem dX9_row_88 : decode cX9_row 88 = .ok (.getfield 252, 3) := by decide +kernel
theorem dX9_row_91 : decode cX9_row 91 = .ok (.iload_n 3, 1) := by decide +kernel
theorem dX9_row_92 : decode cX9_row 92 = .ok (.iconst 1, 1) := by decide +kernel
theorem dX9_row_93 : decode cX9_row 93 = .ok (.isub, 1) := by decide +kernel
theorem dX9_row_94 : decode cX9_row 94 = .ok (.iaload, 1) := by decide +kernel
theorem dX9_row_95 : decode cX9_row 95 = .ok (.goto 4, 3) := by decide +kernel
theorem dX9_row_98 : decode cX9_row 98 = .ok (.iconst (-1), 1) := by decide +kernel
theorem dX9_row_99 : decode cX9_row 99 = .ok (.ireturn, 1) := by decide +kernel
theorem dX9_forget_0 : decode cX9_forget 0 = .ok (.aload_n 0, 1) := by decide +kernel
theorem dX9_forget_1 : decode cX9_forget 1 = .ok (.getfield 41, 3) := by decide +kernel
theorem dX9_forget_4 : decode cX9_forget 4 = .ok (.getfield 51, 3) := by decide +kernel
theorem dX9_forget_7 : decode cX9_forget 7 = .ok (.getfield 174, 3) := by decide +kernel
theorem dX9_forget_10 : decode cX9_forget 10 = .ok (.ifCond .eq 22, 3) := by decide +kernel
theorem dX9_forget_13 : decode cX9_forget 13 = .ok (.iload_n 1, 1) := by decide +kernel
theorem dX9_forget_14 : decode cX9_forget 14 = .ok (.iconst 1, 1) := by decide +kernel
theorem dX9_forget_15 : decode cX9_forget 15 = .ok (.bipush 60, 2) := by decide +kernel
theorem dX9_forget_17 : decode cX9_forget 17 = .ok (.invokestatic 217, 3) := by decide +kernel
theorem dX9_forget_20 : decode cX9_forget 20 = .ok (.ifCond .eq 12, 3) := by decide +kernel
theorem dX9_forget_23 : decode cX9_forget 23 = .ok (.iload_n 2, 1) := by decide +kernel
theorem dX9_forget_24 : decode cX9_forget 24 = .ok (.iconst 0, 1) := by decide +kernel
theorem dX9_forget_25 : decode cX9_forget 25 = .ok (.iconst 1, 1) := by decide +kernel
theorem dX9_forget_26 : decode cX9_forget 26 = .ok (.invokestatic 217, 3) := by decide +kernel
theorem dX9_forget_29 : decode cX9_forget 29 = .ok (.ifCond .ne 6, 3) := by decide +kernel
theorem dX9_forget_32 : decode cX9_forget 32 = .ok (.bipush (-2), 2) := by decide +kernel
theorem dX9_forget_34 : decode cX9_forget 34 = .ok (.ireturn, 1) := by decide +kernel
theorem dX9_forget_35 : decode cX9_forget 35 = .ok (.aload_n 0, 1) := by decide +kernel
theorem dX9_forget_36 : decode cX9_forget 36 = .ok (.invokevirtual 221, 3) := by decide +kernel
theorem dX9_forget_39 : decode cX9_forget 39 = .ok (.iload_n 1, 1) := by decide +kernel
theorem dX9_forget_40 : decode cX9_forget 40 = .ok (.invokevirtual 255, 3) := by decide +kernel
theorem dX9_forget_43 : decode cX9_forget 43 = .ok (.iload_n 2, 1) := by decide +kernel
theorem dX9_forget_44 : decode cX9_forget 44 = .ok (.ifCond .ne 13, 3) := by decide +kernel
theorem dX9_forget_47 : decode cX9_forget 47 = .ok (.aload_n 0, 1) := by decide +kernel
theorem dX9_forget_48 : decode cX9_forget 48 = .ok (.getfield 67, 3) := by decide +kernel
theorem dX9_forget_51 : decode cX9_forget 51 = .ok (.getfield 237, 3) := by decide +kernel
theorem dX9_forget_54 : decode cX9_forget 54 = .ok (.goto 10, 3) := by decide +kernel
theorem dX9_forget_57 : decode cX9_forget 57 = .ok (.aload_n 0, 1) := by decide +kernel
theorem dX9_forget_58 : decode cX9_forget 58 = .ok (.getfield 67, 3) := by decide +kernel
theorem dX9_forget_61 : decode cX9_forget 61 = .ok (.getfield 234, 3) := by decide +kernel
theorem dX9_forget_64 : decode cX9_forget 64 = .ok (.ireturn, 1) := by decide +kernel
theorem dX9_barter_0 : decode cX9_barter 0 = .ok (.aload_n 0, 1) := by decide +kernel
theorem dX9_barter_1 : decode cX9_barter 1 = .ok (.getfield 41, 3) := by decide +kernel
theorem dX9_barter_4 : decode cX9_barter 4 = .ok (.getfield 51, 3) := by decide +kernel
theorem dX9_barter_7 : decode cX9_barter 7 = .ok (.getfield 174, 3) := by decide +kernel
theorem dX9_barter_10 : decode cX9_barter 10 = .ok (.ifCond .eq 22, 3) := by decide +kernel
theorem dX9_barter_13 : decode cX9_barter 13 = .ok (.iload_n 1, 1) := by decide +kernel
theorem dX9_barter_14 : decode cX9_barter 14 = .ok (.iconst 1, 1) := by decide +kernel
theorem dX9_barter_15 : decode cX9_barter 15 = .ok (.bipush 60, 2) := by decide +kernel
theorem dX9_barter_17 : decode cX9_barter 17 = .ok (.invokestatic 217, 3) := by decide +kernel
theorem dX9_barter_20 : decode cX9_barter 20 = .ok (.ifCond .eq 12, 3) := by decide +kernel
theorem dX9_barter_23 : decode cX9_barter 23 = .ok (.iload_n 2, 1) := by decide +kernel
theorem dX9_barter_24 : decode cX9_barter 24 = .ok (.iconst 0, 1) := by decide +kernel
theorem dX9_barter_25 : decode cX9_barter 25 = .ok (.iconst 2, 1) := by decide +kernel
theorem dX9_barter_26 : decode cX9_barter 26 = .ok (.invokestatic 217, 3) := by decide +kernel
theorem dX9_barter_29 : decode cX9_barter 29 = .ok (.ifCond .ne 6, 3) := by decide +kernel
theorem dX9_barter_32 : decode cX9_barter 32 = .ok (.bipush (-2), 2) := by decide +kernel
theorem dX9_barter_34 : decode cX9_barter 34 = .ok (.ireturn, 1) := by decide +kernel
theorem dX9_barter_35 : decode cX9_barter 35 = .ok (.aload_n 0, 1) := by decide +kernel
theorem dX9_barter_36 : decode cX9_barter 36 = .ok (.invokevirtual 221, 3) := by decide +kernel
theorem dX9_barter_39 : decode cX9_barter 39 = .ok (.iload_n 1, 1) := by decide +kernel
theorem dX9_barter_40 : decode cX9_barter 40 = .ok (.invokevirtual 258, 3) := by decide +kernel
theorem dX9_barter_43 : decode cX9_barter 43 = .ok (.iload_n 2, 1) := by decide +kernel
theorem dX9_barter_44 : decode cX9_barter 44 = .ok (.iconst 2, 1) := by decide +kernel
theorem dX9_barter_45 : decode cX9_barter 45 = .ok (.if_icmp .ne 11, 3) := by decide +kernel
theorem dX9_barter_48 : decode cX9_barter 48 = .ok (.aload_n 0, 1) := by decide +kernel
theorem dX9_barter_49 : decode cX9_barter 49 = .ok (.getfield 67, 3) := by decide +kernel
theorem dX9_barter_52 : decode cX9_barter 52 = .ok (.getfield 234, 3) := by decide +kernel
theorem dX9_barter_55 : decode cX9_barter 55 = .ok (.ireturn, 1) := by decide +kernel
theorem dX9_barter_56 : decode cX9_barter 56 = .ok (.iload_n 2, 1) := by decide +kernel
theorem dX9_barter_57 : decode cX9_barter 57 = .ok (.ifCond .ne 13, 3) := by decide +kernel
theorem dX9_barter_60 : decode cX9_barter 60 = .ok (.aload_n 0, 1) := by decide +kernel
theorem dX9_barter_61 : decode cX9_barter 61 = .ok (.getfield 67, 3) := by decide +kernel
theorem dX9_barter_64 : decode cX9_barter 64 = .ok (.getfield 237, 3) := by decide +kernel
theorem dX9_barter_67 : decode cX9_barter 67 = .ok (.goto 10, 3) := by decide +kernel
theorem dX9_barter_70 : decode cX9_barter 70 = .ok (.aload_n 0, 1) := by decide +kernel
theorem dX9_barter_71 : decode cX9_barter 71 = .ok (.getfield 67, 3) := by decide +kernel
theorem dX9_barter_74 : decode cX9_barter 74 = .ok (.getfield 261, 3) := by decide +kernel
theorem dX9_barter_77 : decode cX9_barter 77 = .ok (.ireturn, 1) := by decide +kernel
theorem dX9_school_0 : decode cX9_school 0 = .ok (.aload_n 0, 1) := by decide +kernel
theorem dX9_school_1 : decode cX9_school 1 = .ok (.getfield 41, 3) := by decide +kernel
theorem dX9_school_4 : decode cX9_school 4 = .ok (.getfield 51, 3) := by decide +kernel
theorem dX9_school_7 : decode cX9_school 7 = .ok (.getfield 174, 3) := by decide +kernel
theorem dX9_school_10 : decode cX9_school 10 = .ok (.ifCond .eq 22, 3) := by decide +kernel
theorem dX9_school_13 : decode cX9_school 13 = .ok (.iload_n 1, 1) := by decide +kernel
theorem dX9_school_14 : decode cX9_school 14 = .ok (.iconst 1, 1) := by decide +kernel
theorem dX9_school_15 : decode cX9_school 15 = .ok (.bipush 60, 2) := by decide +kernel
theorem dX9_school_17 : decode cX9_school 17 = .ok (.invokestatic 217, 3) := by decide +kernel
theorem dX9_school_20 : decode cX9_school 20 = .ok (.ifCond .eq 12, 3) := by decide +kernel
theorem dX9_school_23 : decode cX9_school 23 = .ok (.iload_n 2, 1) := by decide +kernel
theorem dX9_school_24 : decode cX9_school 24 = .ok (.iconst 0, 1) := by decide +kernel
theorem dX9_school_25 : decode cX9_school 25 = .ok (.iconst 1, 1) := by decide +kernel
theorem dX9_school_26 : decode cX9_school 26 = .ok (.invokestatic 217, 3) := by decide +kernel
theorem dX9_school_29 : decode cX9_school 29 = .ok (.ifCond .ne 5, 3) := by decide +kernel
theorem dX9_school_32 : decode cX9_school 32 = .ok (.iconst (-1), 1) := by decide +kernel
theorem dX9_school_33 : decode cX9_school 33 = .ok (.ireturn, 1) := by decide +kernel
theorem dX9_school_34 : decode cX9_school 34 = .ok (.aload_n 0, 1) := by decide +kernel
theorem dX9_school_35 : decode cX9_school 35 = .ok (.invokevirtual 221, 3) := by decide +kernel
theorem dX9_school_38 : decode cX9_school 38 = .ok (.iload_n 1, 1) := by decide +kernel
theorem dX9_school_39 : decode cX9_school 39 = .ok (.invokevirtual 264, 3) := by decide +kernel
theorem dX9_school_42 : decode cX9_school 42 = .ok (.istore_n 3, 1) := by decide +kernel
theorem dX9_school_43 : decode cX9_school 43 = .ok (.iload_n 3, 1) := by decide +kernel
theorem dX9_school_44 : decode cX9_school 44 = .ok (.iconst (-1), 1) := by decide +kernel
theorem dX9_school_45 : decode cX9_school 45 = .ok (.if_icmp .ne 6, 3) := by decide +kernel
theorem dX9_school_48 : decode cX9_school 48 = .ok (.bipush (-2), 2) := by decide +kernel
theorem dX9_school_50 : decode cX9_school 50 = .ok (.ireturn, 1) := by decide +kernel
theorem dX9_school_51 : decode cX9_school 51 = .ok (.iload_n 2, 1) := by decide +kernel
theorem dX9_school_52 : decode cX9_school 52 = .ok (.ifCond .ne 10, 3) := by decide +kernel
theorem dX9_school_55 : decode cX9_school 55 = .ok (.iload_n 3, 1) := by decide +kernel
theorem dX9_school_56 : decode cX9_school 56 = .ok (.invokestatic 267, 3) := by decide +kernel
theorem dX9_school_59 : decode cX9_school 59 = .ok (.goto 4, 3) := by decide +kernel
theorem dX9_school_62 : decode cX9_school 62 = .ok (.iload_n 3, 1) := by decide +kernel
theorem dX9_school_63 : decode cX9_school 63 = .ok (.ireturn, 1) := by decide +kernel
theorem dX9_old_0 : decode cX9_old 0 = .ok (.aload_n 0, 1) := by decide +kernel
theorem dX9_old_1 : decode cX9_old 1 = .ok (.getfield 41, 3) := by decide +kernel
theorem dX9_old_4 : decode cX9_old 4 = .ok (.getfield 51, 3) := by decide +kernel
theorem dX9_old_7 : decode cX9_old 7 = .ok (.getfield 174, 3) := by decide +kernel
theorem dX9_old_10 : decode cX9_old 10 = .ok (.ifCond .eq 40, 3) := by decide +kernel
theorem dX9_old_13 : decode cX9_old 13 = .ok (.aload_n 0, 1) := by decide +kernel
theorem dX9_old_14 : decode cX9_old 14 = .ok (.iload_n 1, 1) := by decide +kernel
theorem dX9_old_15 : decode cX9_old 15 = .ok (.invokevirtual 100, 3) := by decide +kernel
theorem dX9_old_18 : decode cX9_old 18 = .ok (.ifCond .eq 32, 3) := by decide +kernel
theorem dX9_old_21 : decode cX9_old 21 = .ok (.iload_n 2, 1) := by decide +kernel
theorem dX9_old_22 : decode cX9_old 22 = .ok (.iconst 1, 1) := by decide +kernel
theorem dX9_old_23 : decode cX9_old 23 = .ok (.bipush 60, 2) := by decide +kernel
theorem dX9_old_25 : decode cX9_old 25 = .ok (.invokestatic 217, 3) := by decide +kernel
theorem dX9_old_28 : decode cX9_old 28 = .ok (.ifCond .eq 22, 3) := by decide +kernel
theorem dX9_old_31 : decode cX9_old 31 = .ok (.iload_n 3, 1) := by decide +kernel
theorem dX9_old_32 : decode cX9_old 32 = .ok (.iconst 0, 1) := by decide +kernel
theorem dX9_old_33 : decode cX9_old 33 = .ok (.iconst 5, 1) := by decide +kernel
theorem dX9_old_34 : decode cX9_old 34 = .ok (.invokestatic 217, 3) := by decide +kernel
theorem dX9_old_37 : decode cX9_old 37 = .ok (.ifCond .eq 13, 3) := by decide +kernel
theorem dX9_old_40 : decode cX9_old 40 = .ok (.iload 4, 2) := by decide +kernel
theorem dX9_old_42 : decode cX9_old 42 = .ok (.iconst 0, 1) := by decide +kernel
theorem dX9_old_43 : decode cX9_old 43 = .ok (.iconst 2, 1) := by decide +kernel
theorem dX9_old_44 : decode cX9_old 44 = .ok (.invokestatic 217, 3) := by decide +kernel
theorem dX9_old_47 : decode cX9_old 47 = .ok (.ifCond .ne 6, 3) := by decide +kernel
theorem dX9_old_50 : decode cX9_old 50 = .ok (.bipush (-3), 2) := by decide +kernel
theorem dX9_old_52 : decode cX9_old 52 = .ok (.ireturn, 1) := by decide +kernel
theorem dX9_old_53 : decode cX9_old 53 = .ok (.aload_n 0, 1) := by decide +kernel
theorem dX9_old_54 : decode cX9_old 54 = .ok (.getfield 67, 3) := by decide +kernel
theorem dX9_old_57 : decode cX9_old 57 = .ok (.aload_n 0, 1) := by decide +kernel
theorem dX9_old_58 : decode cX9_old 58 = .ok (.iload_n 1, 1) := by decide +kernel
theorem dX9_old_59 : decode cX9_old 59 = .ok (.invokevirtual 181, 3) := by decide +kernel
theorem dX9_old_62 : decode cX9_old 62 = .ok (.iload_n 2, 1) := by decide +kernel
theorem dX9_old_63 : decode cX9_old 63 = .ok (.iload_n 3, 1) := by decide +kernel
theorem dX9_old_64 : decode cX9_old 64 = .ok (.invokevirtual 272, 3) := by decide +kernel
theorem dX9_old_67 : decode cX9_old 67 = .ok (.iload 4, 2) := by decide +kernel
theorem dX9_old_69 : decode cX9_old 69 = .ok (.ifCond .ne 11, 3) := by decide +kernel
theorem dX9_old_72 : decode cX9_old 72 = .ok (.aload_n 0, 1) := by decide +kernel
theorem dX9_old_73 : decode cX9_old 73 = .ok (.getfield 67, 3) := by decide +kernel
theorem dX9_old_76 : decode cX9_old 76 = .ok (.getfield 234, 3) := by decide +kernel
theorem dX9_old_79 : decode cX9_old 79 = .ok (.ireturn, 1) := by decide +kernel
theorem dX9_old_80 : decode cX9_old 80 = .ok (.iload 4, 2) := by decide +kernel
theorem dX9_old_82 : decode cX9_old 82 = .ok (.iconst 1, 1) := by decide +kernel
theorem dX9_old_83 : decode cX9_old 83 = .ok (.if_icmp .ne 26, 3) := by decide +kernel
theorem dX9_old_86 : decode cX9_old 86 = .ok (.aload_n 0, 1) := by decide +kernel
theorem dX9_old_87 : decode cX9_old 87 = .ok (.getfield 67, 3) := by decide +kernel
theorem dX9_old_90 : decode cX9_old 90 = .ok (.getfield 234, 3) := by decide +kernel
theorem dX9_old_93 : decode cX9_old 93 = .ok (.ifCond .ne 8, 3) := by decide +kernel
theorem dX9_old_96 : decode cX9_old 96 = .ok (.bipush (-2), 2) := by decide +kernel
theorem dX9_old_98 : decode cX9_old 98 = .ok (.goto 10, 3) := by decide +kernel
theorem dX9_old_101 : decode cX9_old 101 = .ok (.aload_n 0, 1) := by decide +kernel
theorem dX9_old_102 : decode cX9_old 102 = .ok (.getfield 67, 3) := by decide +kernel
theorem dX9_old_105 : decode cX9_old 105 = .ok (.getfield 237, 3) := by decide +kernel
theorem dX9_old_108 : decode cX9_old 108 = .ok (.ireturn, 1) := by decide +kernel
theorem dX9_old_109 : decode cX9_old 109 = .ok (.aload_n 0, 1) := by decide +kernel
theorem dX9_old_110 : decode cX9_old 110 = .ok (.getfield 67, 3) := by decide +kernel
theorem dX9_old_113 : decode cX9_old 113 = .ok (.getfield 234, 3) := by decide +kernel
theorem dX9_old_116 : decode cX9_old 116 = .ok (.ifCond .ne 7, 3) := by decide +kernel
theorem dX9_old_119 : decode cX9_old 119 = .ok (.iconst 0, 1) := by decide +kernel
theorem dX9_old_120 : decode cX9_old 120 = .ok (.goto 10, 3) := by decide +kernel
theorem dX9_old_123 : decode cX9_old 123 = .ok (.aload_n 0, 1) := by decide +kernel
theorem dX9_old_124 : decode cX9_old 124 = .ok (.getfield 67, 3) := by decide +kernel
theorem dX9_old_127 : decode cX9_old 127 = .ok (.getfield 261, 3) := by decide +kernel
theorem dX9_old_130 : decode cX9_old 130 = .ok (.ireturn, 1) := by decide +kernel
theorem dX9_game_0 : decode cX9_game 0 = .ok (.iload_n 1, 1) := by decide +kernel
theorem dX9_game_1 : decode cX9_game 1 = .ok (.iload_n 2, 1) := by decide +kernel
theorem dX9_game_2 : decode cX9_game 2 = .ok (.if_icmp .eq 38, 3) := by decide +kernel
theorem dX9_game_5 : decode cX9_game 5 = .ok (.aload_n 0, 1) := by decide +kernel
theorem dX9_game_6 : decode cX9_game 6 = .ok (.iload_n 1, 1) := by decide +kernel
theorem dX9_game_7 : decode cX9_game 7 = .ok (.invokevirtual 192, 3) := by decide +kernel
theorem dX9_game_10 : decode cX9_game 10 = .ok (.ifCond .eq 30, 3) := by decide +kernel
theorem dX9_game_13 : decode cX9_game 13 = .ok (.aload_n 0, 1) := by decide +kernel
theorem dX9_game_14 : decode cX9_game 14 = .ok (.iload_n 2, 1) := by decide +kernel
theorem dX9_game_15 : decode cX9_game 15 = .ok (.invokevirtual 192, 3) := by decide +kernel
theorem dX9_game_18 : decode cX9_game 18 = .ok (.ifCond .eq 22, 3) := by decide +kernel
theorem dX9_game_21 : decode cX9_game 21 = .ok (.iload_n 3, 1) := by decide +kernel
theorem dX9_game_22 : decode cX9_game 22 = .ok (.iconst 1, 1) := by decide +kernel
theorem dX9_game_23 : decode cX9_game 23 = .ok (.iconst 3, 1) := by decide +kernel
theorem dX9_game_24 : decode cX9_game 24 = .ok (.invokestatic 217, 3) := by decide +kernel
theorem dX9_game_27 : decode cX9_game 27 = .ok (.ifCond .eq 13, 3) := by decide +kernel
theorem dX9_game_30 : decode cX9_game 30 = .ok (.iload 4, 2) := by decide +kernel
theorem dX9_game_32 : decode cX9_game 32 = .ok (.iconst 0, 1) := by decide +kernel
theorem dX9_game_33 : decode cX9_game 33 = .ok (.iconst 1, 1) := by decide +kernel
theorem dX9_game_34 : decode cX9_game 34 = .ok (.invokestatic 217, 3) := by decide +kernel
theorem dX9_game_37 : decode cX9_game 37 = .ok (.ifCond .ne 7, 3) := by decide +kernel
theorem dX9_game_40 : decode cX9_game 40 = .ok (.sipush (-1000), 3) := by decide +kernel
theorem dX9_game_43 : decode cX9_game 43 = .ok (.ireturn, 1) := by decide +kernel
theorem dX9_game_44 : decode cX9_game 44 = .ok (.aload_n 0, 1) := by decide +kernel
theorem dX9_game_45 : decode cX9_game 45 = .ok (.getfield 67, 3) := by decide +kernel
theorem dX9_game_48 : decode cX9_game 48 = .ok (.iload_n 1, 1) := by decide +kernel
theorem dX9_game_49 : decode cX9_game 49 = .ok (.iload_n 2, 1) := by decide +kernel
theorem dX9_game_50 : decode cX9_game 50 = .ok (.iload_n 3, 1) := by decide +kernel
theorem dX9_game_51 : decode cX9_game 51 = .ok (.invokevirtual 276, 3) := by decide +kernel
theorem dX9_game_54 : decode cX9_game 54 = .ok (.iload 4, 2) := by decide +kernel
theorem dX9_game_56 : decode cX9_game 56 = .ok (.ifCond .ne 13, 3) := by decide +kernel
theorem dX9_game_59 : decode cX9_game 59 = .ok (.aload_n 0, 1) := by decide +kernel
theorem dX9_game_60 : decode cX9_game 60 = .ok (.getfield 67, 3) := by decide +kernel
theorem dX9_game_63 : decode cX9_game 63 = .ok (.getfield 234, 3) := by decide +kernel
theorem dX9_game_66 : decode cX9_game 66 = .ok (.goto 10, 3) := by decide +kernel
theorem dX9_game_69 : decode cX9_game 69 = .ok (.aload_n 0, 1) := by decide +kernel
theorem dX9_game_70 : decode cX9_game 70 = .ok (.getfield 67, 3) := by decide +kernel
theorem dX9_game_73 : decode cX9_game 73 = .ok (.getfield 237, 3) := by decide +kernel
theorem dX9_game_76 : decode cX9_game 76 = .ok (.ireturn, 1) := by decide +kernel
theorem dX9_parts_0 : decode cX9_parts 0 = .ok (.aload_n 0, 1) := by decide +kernel
theorem dX9_parts_1 : decode cX9_parts 1 = .ok (.iload_n 2, 1) := by decide +kernel
theorem dX9_parts_2 : decode cX9_parts 2 = .ok (.invokevirtual 132, 3) := by decide +kernel
theorem dX9_parts_5 : decode cX9_parts 5 = .ok (.ifCond .eq 14, 3) := by decide +kernel
theorem dX9_parts_8 : decode cX9_parts 8 = .ok (.iload_n 1, 1) := by decide +kernel
theorem dX9_parts_9 : decode cX9_parts 9 = .ok (.iconst 0, 1) := by decide +kernel
theorem dX9_parts_10 : decode cX9_parts 10 = .ok (.sipush 9999, 3) := by decide +kernel
theorem dX9_parts_13 : decode cX9_parts 13 = .ok (.invokestatic 217, 3) := by decide +kernel
theorem dX9_parts_16 : decode cX9_parts 16 = .ok (.ifCond .ne 5, 3) := by decide +kernel
theorem dX9_parts_19 : decode cX9_parts 19 = .ok (.iconst (-1), 1) := by decide +kernel
theorem dX9_parts_20 : decode cX9_parts 20 = .ok (.ireturn, 1) := by decide +kernel
theorem dX9_parts_21 : decode cX9_parts 21 = .ok (.aload_n 0, 1) := by decide +kernel
theorem dX9_parts_22 : decode cX9_parts 22 = .ok (.getfield 41, 3) := by decide +kernel
theorem dX9_parts_25 : decode cX9_parts 25 = .ok (.getfield 51, 3) := by decide +kernel
theorem dX9_parts_28 : decode cX9_parts 28 = .ok (.iload_n 1, 1) := by decide +kernel
theorem dX9_parts_29 : decode cX9_parts 29 = .ok (.iload_n 2, 1) := by decide +kernel
theorem dX9_parts_30 : decode cX9_parts 30 = .ok (.aload_n 0, 1) := by decide +kernel
theorem dX9_parts_31 : decode cX9_parts 31 = .ok (.getfield 41, 3) := by decide +kernel
theorem dX9_parts_34 : decode cX9_parts 34 = .ok (.getfield 110, 3) := by decide +kernel
theorem dX9_parts_37 : decode cX9_parts 37 = .ok (.invokevirtual 280, 3) := by decide +kernel
theorem dX9_parts_40 : decode cX9_parts 40 = .ok (.ireturn, 1) := by decide +kernel
theorem dX9_order_0 : decode cX9_order 0 = .ok (.aload_n 0, 1) := by decide +kernel
theorem dX9_order_1 : decode cX9_order 1 = .ok (.iload_n 1, 1) := by decide +kernel
theorem dX9_order_2 : decode cX9_order 2 = .ok (.invokevirtual 132, 3) := by decide +kernel
theorem dX9_order_5 : decode cX9_order 5 = .ok (.ifCond .ne 5, 3) := by decide +kernel
theorem dX9_order_8 : decode cX9_order 8 = .ok (.iconst (-1), 1) := by decide +kernel
theorem dX9_order_9 : decode cX9_order 9 = .ok (.ireturn, 1) := by decide +kernel
theorem dX9_order_10 : decode cX9_order 10 = .ok (.aload_n 0, 1) := by decide +kernel
theorem dX9_order_11 : decode cX9_order 11 = .ok (.invokevirtual 221, 3) := by decide +kernel
theorem dX9_order_14 : decode cX9_order 14 = .ok (.iload_n 1, 1) := by decide +kernel
theorem dX9_order_15 : decode cX9_order 15 = .ok (.invokevirtual 284, 3) := by decide +kernel
theorem dX9_order_18 : decode cX9_order 18 = .ok (.ireturn, 1) := by decide +kernel
theorem dX9_note_0 : decode cX9_note 0 = .ok (.iload_n 1, 1) := by decide +kernel
theorem dX9_note_1 : decode cX9_note 1 = .ok (.iconst (-1), 1) := by decide +kernel
theorem dX9_note_2 : decode cX9_note 2 = .ok (.if_icmp .ne 13, 3) := by decide +kernel
theorem dX9_note_5 : decode cX9_note 5 = .ok (.aload_n 0, 1) := by decide +kernel
theorem dX9_note_6 : decode cX9_note 6 = .ok (.getfield 41, 3) := by decide +kernel
theorem dX9_note_9 : decode cX9_note 9 = .ok (.iconst 0, 1) := by decide +kernel
theorem dX9_note_10 : decode cX9_note 10 = .ok (.putfield 165, 3) := by decide +kernel
theorem dX9_note_13 : decode cX9_note 13 = .ok (.iconst 0, 1) := by decide +kernel
theorem dX9_note_14 : decode cX9_note 14 = .ok (.ireturn, 1) := by decide +kernel
theorem dX9_note_15 : decode cX9_note 15 = .ok (.iload_n 1, 1) := by decide +kernel
theorem dX9_note_16 : decode cX9_note 16 = .ok (.iconst 0, 1) := by decide +kernel
theorem dX9_note_17 : decode cX9_note 17 = .ok (.bipush 60, 2) := by decide +kernel
theorem dX9_note_19 : decode cX9_note 19 = .ok (.invokestatic 217, 3) := by decide +kernel
theorem dX9_note_22 : decode cX9_note 22 = .ok (.ifCond .eq 28, 3) := by decide +kernel
theorem dX9_note_25 : decode cX9_note 25 = .ok (.aload_n 0, 1) := by decide +kernel
theorem dX9_note_26 : decode cX9_note 26 = .ok (.iload_n 2, 1) := by decide +kernel
theorem dX9_note_27 : decode cX9_note 27 = .ok (.invokevirtual 132, 3) := by decide +kernel
theorem dX9_note_30 : decode cX9_note 30 = .ok (.ifCond .eq 20, 3) := by decide +kernel
theorem dX9_note_33 : decode cX9_note 33 = .ok (.iload_n 3, 1) := by decide +kernel
theorem dX9_note_34 : decode cX9_note 34 = .ok (.iconst (-1), 1) := by decide +kernel
theorem dX9_note_35 : decode cX9_note 35 = .ok (.if_icmp .eq 11, 3) := by decide +kernel
theorem dX9_note_38 : decode cX9_note 38 = .ok (.aload_n 0, 1) := by decide +kernel
theorem dX9_note_39 : decode cX9_note 39 = .ok (.iload_n 3, 1) := by decide +kernel
theorem dX9_note_40 : decode cX9_note 40 = .ok (.invokevirtual 107, 3) := by decide +kernel
theorem dX9_note_43 : decode cX9_note 43 = .ok (.ifCond .eq 7, 3) := by decide +kernel
theorem dX9_note_46 : decode cX9_note 46 = .ok (.iconst 1, 1) := by decide +kernel
theorem dX9_note_47 : decode cX9_note 47 = .ok (.goto 4, 3) := by decide +kernel
theorem dX9_note_50 : decode cX9_note 50 = .ok (.iconst 0, 1) := by decide +kernel
theorem dX9_note_51 : decode cX9_note 51 = .ok (.istore 4, 2) := by decide +kernel
theorem dX9_note_53 : decode cX9_note 53 = .ok (.iload 4, 2) := by decide +kernel
theorem dX9_note_55 : decode cX9_note 55 = .ok (.ifCond .eq 15, 3) := by decide +kernel
theorem dX9_note_58 : decode cX9_note 58 = .ok (.aload_n 0, 1) := by decide +kernel
theorem dX9_note_59 : decode cX9_note 59 = .ok (.getfield 41, 3) := by decide +kernel
theorem dX9_note_62 : decode cX9_note 62 = .ok (.getfield 165, 3) := by decide +kernel
theorem dX9_note_65 : decode cX9_note 65 = .ok (.bipush 10, 2) := by decide +kernel
theorem dX9_note_67 : decode cX9_note 67 = .ok (.if_icmp .lt 6, 3) := by decide +kernel
theorem dX9_note_70 : decode cX9_note 70 = .ok (.bipush (-2), 2) := by decide +kernel
theorem dX9_note_72 : decode cX9_note 72 = .ok (.ireturn, 1) := by decide +kernel
theorem dX9_note_73 : decode cX9_note 73 = .ok (.aload_n 0, 1) := by decide +kernel
theorem dX9_note_74 : decode cX9_note 74 = .ok (.getfield 41, 3) := by decide +kernel
theorem dX9_note_77 : decode cX9_note 77 = .ok (.iload_n 1, 1) := by decide +kernel
theorem dX9_note_78 : decode cX9_note 78 = .ok (.iload_n 2, 1) := by decide +kernel
theorem dX9_note_79 : decode cX9_note 79 = .ok (.iload_n 3, 1) := by decide +kernel
theorem dX9_note_80 : decode cX9_note 80 = .ok (.invokevirtual 287, 3) := by decide +kernel
theorem dX9_note_83 : decode cX9_note 83 = .ok (.aload_n 0, 1) := by decide +kernel
theorem dX9_note_84 : decode cX9_note 84 = .ok (.getfield 41, 3) := by decide +kernel
theorem dX9_note_87 : decode cX9_note 87 = .ok (.getfield 165, 3) := by decide +kernel
theorem dX9_note_90 : decode cX9_note 90 = .ok (.ireturn, 1) := by decide +kernel
theorem dX9_ruled_0 : decode cX9_ruled 0 = .ok (.aload_n 0, 1) := by decide +kernel
theorem dX9_ruled_1 : decode cX9_ruled 1 = .ok (.getfield 41, 3) := by decide +kernel
theorem dX9_ruled_4 : decode cX9_ruled 4 = .ok (.getfield 51, 3) := by decide +kernel
theorem dX9_ruled_7 : decode cX9_ruled 7 = .ok (.getfield 174, 3) := by decide +kernel
theorem dX9_ruled_10 : decode cX9_ruled 10 = .ok (.ifCond .eq 12, 3) := by decide +kernel
theorem dX9_ruled_13 : decode cX9_ruled 13 = .ok (.iload_n 1, 1) := by decide +kernel
theorem dX9_ruled_14 : decode cX9_ruled 14 = .ok (.iconst 0, 1) := by decide +kernel
theorem dX9_ruled_15 : decode cX9_ruled 15 = .ok (.iconst 1, 1) := by decide +kernel
theorem dX9_ruled_16 : decode cX9_ruled 16 = .ok (.invokestatic 217, 3) := by decide +kernel
theorem dX9_ruled_19 : decode cX9_ruled 19 = .ok (.ifCond .ne 6, 3) := by decide +kernel
theorem dX9_ruled_22 : decode cX9_ruled 22 = .ok (.bipush (-3), 2) := by decide +kernel
theorem dX9_ruled_24 : decode cX9_ruled 24 = .ok (.ireturn, 1) := by decide +kernel
theorem dX9_ruled_25 : decode cX9_ruled 25 = .ok (.aload_n 0, 1) := by decide +kernel
theorem dX9_ruled_26 : decode cX9_ruled 26 = .ok (.getfield 67, 3) := by decide +kernel
theorem dX9_ruled_29 : decode cX9_ruled 29 = .ok (.aload_n 0, 1) := by decide +kernel
theorem dX9_ruled_30 : decode cX9_ruled 30 = .ok (.getfield 34, 3) := by decide +kernel
theorem dX9_ruled_33 : decode cX9_ruled 33 = .ok (.aload_n 0, 1) := by decide +kernel
theorem dX9_ruled_34 : decode cX9_ruled 34 = .ok (.getfield 71, 3) := by decide +kernel
theorem dX9_ruled_37 : decode cX9_ruled 37 = .ok (.iconst (-1), 1) := by decide +kernel
theorem dX9_ruled_38 : decode cX9_ruled 38 = .ok (.invokevirtual 290, 3) := by decide +kernel
theorem dX9_ruled_41 : decode cX9_ruled 41 = .ok (.iload_n 1, 1) := by decide +kernel
theorem dX9_ruled_42 : decode cX9_ruled 42 = .ok (.ifCond .ne 11, 3) := by decide +kernel
theorem dX9_ruled_45 : decode cX9_ruled 45 = .ok (.aload_n 0, 1) := by decide +kernel
theorem dX9_ruled_46 : decode cX9_ruled 46 = .ok (.getfield 67, 3) := by decide +kernel
theorem dX9_ruled_49 : decode cX9_ruled 49 = .ok (.getfield 234, 3) := by decide +kernel
theorem dX9_ruled_52 : decode cX9_ruled 52 = .ok (.ireturn, 1) := by decide +kernel
theorem dX9_ruled_53 : decode cX9_ruled 53 = .ok (.aload_n 0, 1) := by decide +kernel
theorem dX9_ruled_54 : decode cX9_ruled 54 = .ok (.getfield 67, 3) := by decide +kernel
theorem dX9_ruled_57 : decode cX9_ruled 57 = .ok (.getfield 234, 3) := by decide +kernel
theorem dX9_ruled_60 : decode cX9_ruled 60 = .ok (.ifCond .ne 8, 3) := by decide +kernel
theorem dX9_ruled_63 : decode cX9_ruled 63 = .ok (.bipush (-2), 2) := by decide +kernel
theorem dX9_ruled_65 : decode cX9_ruled 65 = .ok (.goto 10, 3) := by decide +kernel
theorem dX9_ruled_68 : decode cX9_ruled 68 = .ok (.aload_n 0, 1) := by decide +kernel
theorem dX9_ruled_69 : decode cX9_ruled 69 = .ok (.getfield 67, 3) := by decide +kernel
theorem dX9_ruled_72 : decode cX9_ruled 72 = .ok (.getfield 237, 3) := by decide +kernel
theorem dX9_ruled_75 : decode cX9_ruled 75 = .ok (.ireturn, 1) := by decide +kernel
theorem dX9_look_0 : decode cX9_look 0 = .ok (.aload_n 0, 1) := by decide +kernel
theorem dX9_look_1 : decode cX9_look 1 = .ok (.getfield 41, 3) := by decide +kernel
theorem dX9_look_4 : decode cX9_look 4 = .ok (.getfield 51, 3) := by decide +kernel
theorem dX9_look_7 : decode cX9_look 7 = .ok (.getfield 174, 3) := by decide +kernel
theorem dX9_look_10 : decode cX9_look 10 = .ok (.ifCond .eq 22, 3) := by decide +kernel
theorem dX9_look_13 : decode cX9_look 13 = .ok (.iload_n 1, 1) := by decide +kernel
theorem dX9_look_14 : decode cX9_look 14 = .ok (.iconst 0, 1) := by decide +kernel
theorem dX9_look_15 : decode cX9_look 15 = .ok (.bipush 60, 2) := by decide +kernel
theorem dX9_look_17 : decode cX9_look 17 = .ok (.invokestatic 217, 3) := by decide +kernel
theorem dX9_look_20 : decode cX9_look 20 = .ok (.ifCond .eq 12, 3) := by decide +kernel
theorem dX9_look_23 : decode cX9_look 23 = .ok (.iload_n 2, 1) := by decide +kernel
theorem dX9_look_24 : decode cX9_look 24 = .ok (.iconst 0, 1) := by decide +kernel
theorem dX9_look_25 : decode cX9_look 25 = .ok (.iconst 1, 1) := by decide +kernel
theorem dX9_look_26 : decode cX9_look 26 = .ok (.invokestatic 217, 3) := by decide +kernel
theorem dX9_look_29 : decode cX9_look 29 = .ok (.ifCond .ne 5, 3) := by decide +kernel
theorem dX9_look_32 : decode cX9_look 32 = .ok (.iconst (-1), 1) := by decide +kernel
theorem dX9_look_33 : decode cX9_look 33 = .ok (.ireturn, 1) := by decide +kernel
theorem dX9_look_34 : decode cX9_look 34 = .ok (.aload_n 0, 1) := by decide +kernel
theorem dX9_look_35 : decode cX9_look 35 = .ok (.getfield 67, 3) := by decide +kernel
theorem dX9_look_38 : decode cX9_look 38 = .ok (.aload_n 0, 1) := by decide +kernel
theorem dX9_look_39 : decode cX9_look 39 = .ok (.getfield 34, 3) := by decide +kernel
theorem dX9_look_42 : decode cX9_look 42 = .ok (.aload_n 0, 1) := by decide +kernel
theorem dX9_look_43 : decode cX9_look 43 = .ok (.getfield 71, 3) := by decide +kernel
theorem dX9_look_46 : decode cX9_look 46 = .ok (.iload_n 1, 1) := by decide +kernel
theorem dX9_look_47 : decode cX9_look 47 = .ok (.invokevirtual 290, 3) := by decide +kernel
theorem dX9_look_50 : decode cX9_look 50 = .ok (.aload_n 0, 1) := by decide +kernel
theorem dX9_look_51 : decode cX9_look 51 = .ok (.getfield 67, 3) := by decide +kernel
theorem dX9_look_54 : decode cX9_look 54 = .ok (.getfield 234, 3) := by decide +kernel
theorem dX9_look_57 : decode cX9_look 57 = .ok (.ifCond .eq 16, 3) := by decide +kernel
theorem dX9_look_60 : decode cX9_look 60 = .ok (.aload_n 0, 1) := by decide +kernel
theorem dX9_look_61 : decode cX9_look 61 = .ok (.getfield 41, 3) := by decide +kernel
theorem dX9_look_64 : decode cX9_look 64 = .ok (.getfield 51, 3) := by decide +kernel
theorem dX9_look_67 : decode cX9_look 67 = .ok (.getfield 90, 3) := by decide +kernel
theorem dX9_look_70 : decode cX9_look 70 = .ok (.ifCond .ne 6, 3) := by decide +kernel
theorem dX9_look_73 : decode cX9_look 73 = .ok (.bipush (-2), 2) := by decide +kernel
theorem dX9_look_75 : decode cX9_look 75 = .ok (.ireturn, 1) := by decide +kernel
theorem dX9_look_76 : decode cX9_look 76 = .ok (.aload_n 0, 1) := by decide +kernel
theorem dX9_look_77 : decode cX9_look 77 = .ok (.getfield 67, 3) := by decide +kernel
theorem dX9_look_80 : decode cX9_look 80 = .ok (.aload_n 0, 1) := by decide +kernel
theorem dX9_look_81 : decode cX9_look 81 = .ok (.getfield 71, 3) := by decide +kernel
theorem dX9_look_84 : decode cX9_look 84 = .ok (.invokevirtual 294, 3) := by decide +kernel
theorem dX9_look_87 : decode cX9_look 87 = .ok (.iload_n 2, 1) := by decide +kernel
theorem dX9_look_88 : decode cX9_look 88 = .ok (.ifCond .ne 13, 3) := by decide +kernel
theorem dX9_look_91 : decode cX9_look 91 = .ok (.aload_n 0, 1) := by decide +kernel
theorem dX9_look_92 : decode cX9_look 92 = .ok (.getfield 67, 3) := by decide +kernel
theorem dX9_look_95 : decode cX9_look 95 = .ok (.getfield 237, 3) := by decide +kernel
theorem dX9_look_98 : decode cX9_look 98 = .ok (.goto 10, 3) := by decide +kernel
theorem dX9_look_101 : decode cX9_look 101 = .ok (.aload_n 0, 1) := by decide +kernel
theorem dX9_look_102 : decode cX9_look 102 = .ok (.getfield 67, 3) := by decide +kernel
theorem dX9_look_105 : decode cX9_look 105 = .ok (.getfield 234, 3) := by decide +kernel
theorem dX9_look_108 : decode cX9_look 108 = .ok (.ireturn, 1) := by decide +kernel
theorem dX9_seed_0 : decode cX9_seed 0 = .ok (.iload_n 1, 1) := by decide +kernel
theorem dX9_seed_1 : decode cX9_seed 1 = .ok (.ifCond .ge 5, 3) := by decide +kernel
theorem dX9_seed_4 : decode cX9_seed 4 = .ok (.iconst (-1), 1) := by decide +kernel
theorem dX9_seed_5 : decode cX9_seed 5 = .ok (.ireturn, 1) := by decide +kernel
theorem dX9_seed_6 : decode cX9_seed 6 = .ok (.aload_n 0, 1) := by decide +kernel
theorem dX9_seed_7 : decode cX9_seed 7 = .ok (.getfield 41, 3) := by decide +kernel
theorem dX9_seed_10 : decode cX9_seed 10 = .ok (.getfield 171, 3) := by decide +kernel
theorem dX9_seed_13 : decode cX9_seed 13 = .ok (.istore_n 2, 1) := by decide +kernel
theorem dX9_seed_14 : decode cX9_seed 14 = .ok (.aload_n 0, 1) := by decide +kernel
theorem dX9_seed_15 : decode cX9_seed 15 = .ok (.getfield 41, 3) := by decide +kernel
theorem dX9_seed_18 : decode cX9_seed 18 = .ok (.iload_n 1, 1) := by decide +kernel
theorem dX9_seed_19 : decode cX9_seed 19 = .ok (.putfield 171, 3) := by decide +kernel
theorem dX9_seed_22 : decode cX9_seed 22 = .ok (.iload_n 2, 1) := by decide +kernel
theorem dX9_seed_23 : decode cX9_seed 23 = .ok (.ireturn, 1) := by decide +kernel
theorem dX9_parrots_0 : decode cX9_parrots 0 = .ok (.aload_n 0, 1) := by decide +kernel
theorem dX9_parrots_1 : decode cX9_parrots 1 = .ok (.getfield 41, 3) := by decide +kernel
theorem dX9_parrots_4 : decode cX9_parrots 4 = .ok (.getfield 51, 3) := by decide +kernel
theorem dX9_parrots_7 : decode cX9_parrots 7 = .ok (.getfield 174, 3) := by decide +kernel
theorem dX9_parrots_10 : decode cX9_parrots 10 = .ok (.ifCond .eq 43, 3) := by decide +kernel
theorem dX9_parrots_13 : decode cX9_parrots 13 = .ok (.iload_n 1, 1) := by decide +kernel
theorem dX9_parrots_14 : decode cX9_parrots 14 = .ok (.iconst 1, 1) := by decide +kernel
theorem dX9_parrots_15 : decode cX9_parrots 15 = .ok (.bipush 10, 2) := by decide +kernel
theorem dX9_parrots_17 : decode cX9_parrots 17 = .ok (.invokestatic 217, 3) := by decide +kernel
theorem dX9_parrots_20 : decode cX9_parrots 20 = .ok (.ifCond .eq 33, 3) := by decide +kernel
theorem dX9_parrots_23 : decode cX9_parrots 23 = .ok (.iload_n 2, 1) := by decide +kernel
theorem dX9_parrots_24 : decode cX9_parrots 24 = .ok (.iconst 1, 1) := by decide +kernel
theorem dX9_parrots_25 : decode cX9_parrots 25 = .ok (.bipush 60, 2) := by decide +kernel
theorem dX9_parrots_27 : decode cX9_parrots 27 = .ok (.invokestatic 217, 3) := by decide +kernel
theorem dX9_parrots_30 : decode cX9_parrots 30 = .ok (.ifCond .eq 23, 3) := by decide +kernel
theorem dX9_parrots_33 : decode cX9_parrots 33 = .ok (.iload_n 3, 1) := by decide +kernel
theorem dX9_parrots_34 : decode cX9_parrots 34 = .ok (.iconst 0, 1) := by decide +kernel
theorem dX9_parrots_35 : decode cX9_parrots 35 = .ok (.bipush 100, 2) := by decide +kernel
theorem dX9_parrots_37 : decode cX9_parrots 37 = .ok (.invokestatic 217, 3) := by decide +kernel
theorem dX9_parrots_40 : decode cX9_parrots 40 = .ok (.ifCond .eq 13, 3) := by decide +kernel
theorem dX9_parrots_43 : decode cX9_parrots 43 = .ok (.iload 4, 2) := by decide +kernel
theorem dX9_parrots_45 : decode cX9_parrots 45 = .ok (.iconst 0, 1) := by decide +kernel
theorem dX9_parrots_46 : decode cX9_parrots 46 = .ok (.iconst 1, 1) := by decide +kernel
theorem dX9_parrots_47 : decode cX9_parrots 47 = .ok (.invokestatic 217, 3) := by decide +kernel
theorem dX9_parrots_50 : decode cX9_parrots 50 = .ok (.ifCond .ne 5, 3) := by decide +kernel
theorem dX9_parrots_53 : decode cX9_parrots 53 = .ok (.iconst (-1), 1) := by decide +kernel
theorem dX9_parrots_54 : decode cX9_parrots 54 = .ok (.ireturn, 1) := by decide +kernel
theorem dX9_parrots_55 : decode cX9_parrots 55 = .ok (.aload_n 0, 1) := by decide +kernel
theorem dX9_parrots_56 : decode cX9_parrots 56 = .ok (.invokevirtual 221, 3) := by decide +kernel
theorem dX9_parrots_59 : decode cX9_parrots 59 = .ok (.iload_n 1, 1) := by decide +kernel
theorem dX9_parrots_60 : decode cX9_parrots 60 = .ok (.iload_n 2, 1) := by decide +kernel
theorem dX9_parrots_61 : decode cX9_parrots 61 = .ok (.iload_n 3, 1) := by decide +kernel
theorem dX9_parrots_62 : decode cX9_parrots 62 = .ok (.invokevirtual 297, 3) := by decide +kernel
theorem dX9_parrots_65 : decode cX9_parrots 65 = .ok (.iload 4, 2) := by decide +kernel
theorem dX9_parrots_67 : decode cX9_parrots 67 = .ok (.ifCond .ne 13, 3) := by decide +kernel
theorem dX9_parrots_70 : decode cX9_parrots 70 = .ok (.aload_n 0, 1) := by decide +kernel
theorem dX9_parrots_71 : decode cX9_parrots 71 = .ok (.getfield 67, 3) := by decide +kernel
theorem dX9_parrots_74 : decode cX9_parrots 74 = .ok (.getfield 234, 3) := by decide +kernel
theorem dX9_parrots_77 : decode cX9_parrots 77 = .ok (.goto 10, 3) := by decide +kernel
theorem dX9_parrots_80 : decode cX9_parrots 80 = .ok (.aload_n 0, 1) := by decide +kernel
theorem dX9_parrots_81 : decode cX9_parrots 81 = .ok (.getfield 67, 3) := by decide +kernel
theorem dX9_parrots_84 : decode cX9_parrots 84 = .ok (.getfield 237, 3) := by decide +kernel
theorem dX9_parrots_87 : decode cX9_parrots 87 = .ok (.ireturn, 1) := by decide +kernel
theorem dX9_image_0 : decode cX9_image 0 = .ok (.iload_n 1, 1) := by decide +kernel
theorem dX9_image_1 : decode cX9_image 1 = .ok (.iconst 0, 1) := by decide +kernel
theorem dX9_image_2 : decode cX9_image 2 = .ok (.iconst 3, 1) := by decide +kernel
theorem dX9_image_3 : decode cX9_image 3 = .ok (.invokestatic 217, 3) := by decide +kernel
theorem dX9_image_6 : decode cX9_image 6 = .ok (.ifCond .ne 5, 3) := by decide +kernel
theorem dX9_image_9 : decode cX9_image 9 = .ok (.iconst (-1), 1) := by decide +kernel
theorem dX9_image_10 : decode cX9_image 10 = .ok (.ireturn, 1) := by decide +kernel
theorem dX9_image_11 : decode cX9_image 11 = .ok (.aload_n 0, 1) := by decide +kernel
theorem dX9_image_12 : decode cX9_image 12 = .ok (.getfield 45, 3) := by decide +kernel
theorem dX9_image_15 : decode cX9_image 15 = .ok (.iload_n 1, 1) := by decide +kernel
theorem dX9_image_16 : decode cX9_image 16 = .ok (.aaload, 1) := by decide +kernel
theorem dX9_image_17 : decode cX9_image 17 = .ok (.ifnonnull 16, 3) := by decide +kernel
theorem dX9_image_20 : decode cX9_image 20 = .ok (.aload_n 0, 1) := by decide +kernel
theorem dX9_image_21 : decode cX9_image 21 = .ok (.getfield 45, 3) := by decide +kernel
theorem dX9_image_24 : decode cX9_image 24 = .ok (.iload_n 1, 1) := by decide +kernel
theorem dX9_image_25 : decode cX9_image 25 = .ok (.new 38, 3) := by decide +kernel
theorem dX9_image_28 : decode cX9_image 28 = .ok (.dup, 1) := by decide +kernel
theorem dX9_image_29 : decode cX9_image 29 = .ok (.invokespecial 40, 3) := by decide +kernel
theorem dX9_image_32 : decode cX9_image 32 = .ok (.aastore, 1) := by decide +kernel
theorem dX9_image_33 : decode cX9_image 33 = .ok (.aload_n 0, 1) := by decide +kernel
theorem dX9_image_34 : decode cX9_image 34 = .ok (.getfield 45, 3) := by decide +kernel
theorem dX9_image_37 : decode cX9_image 37 = .ok (.iload_n 1, 1) := by decide +kernel
theorem dX9_image_38 : decode cX9_image 38 = .ok (.aaload, 1) := by decide +kernel
theorem dX9_image_39 : decode cX9_image 39 = .ok (.aload_n 0, 1) := by decide +kernel
theorem dX9_image_40 : decode cX9_image 40 = .ok (.getfield 41, 3) := by decide +kernel
theorem dX9_image_43 : decode cX9_image 43 = .ok (.invokevirtual 300, 3) := by decide +kernel
theorem dX9_image_46 : decode cX9_image 46 = .ok (.aload_n 0, 1) := by decide +kernel
theorem dX9_image_47 : decode cX9_image 47 = .ok (.getfield 41, 3) := by decide +kernel
theorem dX9_image_50 : decode cX9_image 50 = .ok (.getfield 110, 3) := by decide +kernel
theorem dX9_image_53 : decode cX9_image 53 = .ok (.getfield 156, 3) := by decide +kernel
theorem dX9_image_56 : decode cX9_image 56 = .ok (.ireturn, 1) := by decide +kernel
theorem dX9_back_0 : decode cX9_back 0 = .ok (.iload_n 1, 1) := by decide +kernel
theorem dX9_back_1 : decode cX9_back 1 = .ok (.iconst 0, 1) := by decide +kernel
theorem dX9_back_2 : decode cX9_back 2 = .ok (.iconst 3, 1) := by decide +kernel
theorem dX9_back_3 : decode cX9_back 3 = .ok (.invokestatic 217, 3) := by decide +kernel
theorem dX9_back_6 : decode cX9_back 6 = .ok (.ifCond .eq 12, 3) := by decide +kernel
theorem dX9_back_9 : decode cX9_back 9 = .ok (.aload_n 0, 1) := by decide +kernel
theorem dX9_back_10 : decode cX9_back 10 = .ok (.getfield 45, 3) := by decide +kernel
theorem dX9_back_13 : decode cX9_back 13 = .ok (.iload_n 1, 1) := by decide +kernel
theorem dX9_back_14 : decode cX9_back 14 = .ok (.aaload, 1) := by decide +kernel
theorem dX9_back_15 : decode cX9_back 15 = .ok (.ifnonnull 5, 3) := by decide +kernel
theorem dX9_back_18 : decode cX9_back 18 = .ok (.iconst (-1), 1) := by decide +kernel
theorem dX9_back_19 : decode cX9_back 19 = .ok (.ireturn, 1) := by decide +kernel
theorem dX9_back_20 : decode cX9_back 20 = .ok (.aload_n 0, 1) := by decide +kernel
theorem dX9_back_21 : decode cX9_back 21 = .ok (.getfield 41, 3) := by decide +kernel
theorem dX9_back_24 : decode cX9_back 24 = .ok (.aload_n 0, 1) := by decide +kernel
theorem dX9_back_25 : decode cX9_back 25 = .ok (.getfield 45, 3) := by decide +kernel
theorem dX9_back_28 : decode cX9_back 28 = .ok (.iload_n 1, 1) := by decide +kernel
theorem dX9_back_29 : decode cX9_back 29 = .ok (.aaload, 1) := by decide +kernel
theorem dX9_back_30 : decode cX9_back 30 = .ok (.invokevirtual 300, 3) := by decide +kernel
theorem dX9_back_33 : decode cX9_back 33 = .ok (.aload_n 0, 1) := by decide +kernel
theorem dX9_back_34 : decode cX9_back 34 = .ok (.getfield 41, 3) := by decide +kernel
theorem dX9_back_37 : decode cX9_back 37 = .ok (.getfield 110, 3) := by decide +kernel
theorem dX9_back_40 : decode cX9_back 40 = .ok (.getfield 156, 3) := by decide +kernel
theorem dX9_back_43 : decode cX9_back 43 = .ok (.ireturn, 1) := by decide +kernel
theorem dX9_isWithin_0 : decode cX9_isWithin 0 = .ok (.iload_n 0, 1) := by decide +kernel
theorem dX9_isWithin_1 : decode cX9_isWithin 1 = .ok (.iload_n 1, 1) := by decide +kernel
theorem dX9_isWithin_2 : decode cX9_isWithin 2 = .ok (.if_icmp .lt 12, 3) := by decide +kernel
theorem dX9_isWithin_5 : decode cX9_isWithin 5 = .ok (.iload_n 0, 1) := by decide +kernel
theorem dX9_isWithin_6 : decode cX9_isWithin 6 = .ok (.iload_n 2, 1) := by decide +kernel
theorem dX9_isWithin_7 : decode cX9_isWithin 7 = .ok (.if_icmp .gt 7, 3) := by decide +kernel
theorem dX9_isWithin_10 : decode cX9_isWithin 10 = .ok (.iconst 1, 1) := by decide +kernel
theorem dX9_isWithin_11 : decode cX9_isWithin 11 = .ok (.goto 4, 3) := by decide +kernel
theorem dX9_isWithin_14 : decode cX9_isWithin 14 = .ok (.iconst 0, 1) := by decide +kernel
theorem dX9_isWithin_15 : decode cX9_isWithin 15 = .ok (.ireturn, 1) := by decide +kernel
theorem dX9_isJoke_0 : decode cX9_isJoke 0 = .ok (.iload_n 1, 1) := by decide +kernel
theorem dX9_isJoke_1 : decode cX9_isJoke 1 = .ok (.ifCond .lt 21, 3) := by decide +kernel
theorem dX9_isJoke_4 : decode cX9_isJoke 4 = .ok (.iload_n 1, 1) := by decide +kernel
theorem dX9_isJoke_5 : decode cX9_isJoke 5 = .ok (.aload_n 0, 1) := by decide +kernel
theorem dX9_isJoke_6 : decode cX9_isJoke 6 = .ok (.getfield 41, 3) := by decide +kernel
theorem dX9_isJoke_9 : decode cX9_isJoke 9 = .ok (.getfield 51, 3) := by decide +kernel
theorem dX9_isJoke_12 : decode cX9_isJoke 12 = .ok (.getfield 153, 3) := by decide +kernel
theorem dX9_isJoke_15 : decode cX9_isJoke 15 = .ok (.if_icmp .ge 7, 3) := by decide +kernel
theorem dX9_isJoke_18 : decode cX9_isJoke 18 = .ok (.iconst 1, 1) := by decide +kernel
theorem dX9_isJoke_19 : decode cX9_isJoke 19 = .ok (.goto 4, 3) := by decide +kernel
theorem dX9_isJoke_22 : decode cX9_isJoke 22 = .ok (.iconst 0, 1) := by decide +kernel
theorem dX9_isJoke_23 : decode cX9_isJoke 23 = .ok (.ireturn, 1) := by decide +kernel
theorem dX9_isShip_0 : decode cX9_isShip 0 = .ok (.iload_n 1, 1) := by decide +kernel
theorem dX9_isShip_1 : decode cX9_isShip 1 = .ok (.ifCond .lt 21, 3) := by decide +kernel
theorem dX9_isShip_4 : decode cX9_isShip 4 = .ok (.iload_n 1, 1) := by decide +kernel
theorem dX9_isShip_5 : decode cX9_isShip 5 = .ok (.aload_n 0, 1) := by decide +kernel
theorem dX9_isShip_6 : decode cX9_isShip 6 = .ok (.getfield 41, 3) := by decide +kernel
theorem dX9_isShip_9 : decode cX9_isShip 9 = .ok (.getfield 51, 3) := by decide +kernel
theorem dX9_isShip_12 : decode cX9_isShip 12 = .ok (.getfield 90, 3) := by decide +kernel
theorem dX9_isShip_15 : decode cX9_isShip 15 = .ok (.if_icmp .ge 7, 3) := by decide +kernel
theorem dX9_isShip_18 : decode cX9_isShip 18 = .ok (.iconst 1, 1) := by decide +kernel
theorem dX9_isShip_19 : decode cX9_isShip 19 = .ok (.goto 4, 3) := by decide +kernel
theorem dX9_isShip_22 : decode cX9_isShip 22 = .ok (.iconst 0, 1) := by decide +kernel
theorem dX9_isShip_23 : decode cX9_isShip 23 = .ok (.ireturn, 1) := by decide +kernel
theorem dX9_isWaiting_0 : decode cX9_isWaiting 0 = .ok (.aload_n 0, 1) := by decide +kernel
theorem dX9_isWaiting_1 : decode cX9_isWaiting 1 = .ok (.iload_n 1, 1) := by decide +kernel
theorem dX9_isWaiting_2 : decode cX9_isWaiting 2 = .ok (.invokevirtual 132, 3) := by decide +kernel
theorem dX9_isWaiting_5 : decode cX9_isWaiting 5 = .ok (.ifCond .eq 23, 3) := by decide +kernel
theorem dX9_isWaiting_8 : decode cX9_isWaiting 8 = .ok (.aload_n 0, 1) := by decide +kernel
theorem dX9_isWaiting_9 : decode cX9_isWaiting 9 = .ok (.getfield 41, 3) := by decide +kernel
theorem dX9_isWaiting_12 : decode cX9_isWaiting 12 = .ok (.getfield 110, 3) := by decide +kernel
theorem dX9_isWaiting_15 : decode cX9_isWaiting 15 = .ok (.getfield 144, 3) := by decide +kernel
theorem dX9_isWaiting_18 : decode cX9_isWaiting 18 = .ok (.iload_n 1, 1) := by decide +kernel
theorem dX9_isWaiting_19 : decode cX9_isWaiting 19 = .ok (.iaload, 1) := by decide +kernel
theorem dX9_isWaiting_20 : decode cX9_isWaiting 20 = .ok (.iconst (-1), 1) := by decide +kernel
theorem dX9_isWaiting_21 : decode cX9_isWaiting 21 = .ok (.if_icmp .ne 7, 3) := by decide +kernel
theorem dX9_isWaiting_24 : decode cX9_isWaiting 24 = .ok (.iconst 1, 1) := by decide +kernel
theorem dX9_isWaiting_25 : decode cX9_isWaiting 25 = .ok (.goto 4, 3) := by decide +kernel
theorem dX9_isWaiting_28 : decode cX9_isWaiting 28 = .ok (.iconst 0, 1) := by decide +kernel
theorem dX9_isWaiting_29 : decode cX9_isWaiting 29 = .ok (.ireturn, 1) := by decide +kernel
theorem dX9_isRuleOrNone_0 : decode cX9_isRuleOrNone 0 = .ok (.iload_n 1, 1) := by decide +kernel
theorem dX9_isRuleOrNone_1 : decode cX9_isRuleOrNone 1 = .ok (.iconst (-1), 1) := by decide +kernel
theorem dX9_isRuleOrNone_2 : decode cX9_isRuleOrNone 2 = .ok (.if_icmp .eq 15, 3) := by decide +kernel
theorem dX9_isRuleOrNone_5 : decode cX9_isRuleOrNone 5 = .ok (.iload_n 1, 1) := by decide +kernel
theorem dX9_isRuleOrNone_6 : decode cX9_isRuleOrNone 6 = .ok (.ifCond .lt 15, 3) := by decide +kernel
theorem dX9_isRuleOrNone_9 : decode cX9_isRuleOrNone 9 = .ok (.iload_n 1, 1) := by decide +kernel
theorem dX9_isRuleOrNone_10 : decode cX9_isRuleOrNone 10 = .ok (.aload_n 0, 1) := by decide +kernel
theorem dX9_isRuleOrNone_11 : decode cX9_isRuleOrNone 11 = .ok (.getfield 71, 3) := by decide +kernel
theorem dX9_isRuleOrNone_14 : decode cX9_isRuleOrNone 14 = .ok (.if_icmp .ge 7, 3) := by decide +kernel
theorem dX9_isRuleOrNone_17 : decode cX9_isRuleOrNone 17 = .ok (.iconst 1, 1) := by decide +kernel
theorem dX9_isRuleOrNone_18 : decode cX9_isRuleOrNone 18 = .ok (.goto 4, 3) := by decide +kernel
theorem dX9_isRuleOrNone_21 : decode cX9_isRuleOrNone 21 = .ok (.iconst 0, 1) := by decide +kernel
theorem dX9_isRuleOrNone_22 : decode cX9_isRuleOrNone 22 = .ok (.ireturn, 1) := by decide +kernel
theorem dX9_ruleAt_0 : decode cX9_ruleAt 0 = .ok (.iload_n 1, 1) := by decide +kernel
theorem dX9_ruleAt_1 : decode cX9_ruleAt 1 = .ok (.ifCond .lt 20, 3) := by decide +kernel
theorem dX9_ruleAt_4 : decode cX9_ruleAt 4 = .ok (.iload_n 1, 1) := by decide +kernel
theorem dX9_ruleAt_5 : decode cX9_ruleAt 5 = .ok (.aload_n 0, 1) := by decide +kernel
theorem dX9_ruleAt_6 : decode cX9_ruleAt 6 = .ok (.getfield 71, 3) := by decide +kernel
theorem dX9_ruleAt_9 : decode cX9_ruleAt 9 = .ok (.if_icmp .ge 12, 3) := by decide +kernel
theorem dX9_ruleAt_12 : decode cX9_ruleAt 12 = .ok (.aload_n 0, 1) := by decide +kernel
theorem dX9_ruleAt_13 : decode cX9_ruleAt 13 = .ok (.getfield 34, 3) := by decide +kernel
theorem dX9_ruleAt_16 : decode cX9_ruleAt 16 = .ok (.iload_n 1, 1) := by decide +kernel
theorem dX9_ruleAt_17 : decode cX9_ruleAt 17 = .ok (.aaload, 1) := by decide +kernel
theorem dX9_ruleAt_18 : decode cX9_ruleAt 18 = .ok (.goto 4, 3) := by decide +kernel
theorem dX9_ruleAt_21 : decode cX9_ruleAt 21 = .ok (.aconst_null, 1) := by decide +kernel
theorem dX9_ruleAt_22 : decode cX9_ruleAt 22 = .ok (.areturn, 1) := by decide +kernel
theorem dX9_asking_0 : decode cX9_asking 0 = .ok (.aload_n 0, 1) := by decide +kernel
theorem dX9_asking_1 : decode cX9_asking 1 = .ok (.getfield 58, 3) := by decide +kernel
theorem dX9_asking_4 : decode cX9_asking 4 = .ok (.aload_n 0, 1) := by decide +kernel
theorem dX9_asking_5 : decode cX9_asking 5 = .ok (.aload_n 0, 1) := by decide +kernel
theorem dX9_asking_6 : decode cX9_asking 6 = .ok (.getfield 41, 3) := by decide +kernel
theorem dX9_asking_9 : decode cX9_asking 9 = .ok (.getfield 104, 3) := by decide +kernel
theorem dX9_asking_12 : decode cX9_asking 12 = .ok (.invokevirtual 181, 3) := by decide +kernel
theorem dX9_asking_15 : decode cX9_asking 15 = .ok (.putfield 185, 3) := by decide +kernel
theorem dX9_asking_18 : decode cX9_asking 18 = .ok (.aload_n 0, 1) := by decide +kernel
theorem dX9_asking_19 : decode cX9_asking 19 = .ok (.getfield 67, 3) := by decide +kernel
theorem dX9_asking_22 : decode cX9_asking 22 = .ok (.areturn, 1) := by decide +kernel
theorem dL_law_0 : decode cL_law 0 = .ok (.new 7, 3) := by decide +kernel
theorem dL_law_3 : decode cL_law 3 = .ok (.dup, 1) := by decide +kernel
theorem dL_law_4 : decode cL_law 4 = .ok (.invokespecial 9, 3) := by decide +kernel
theorem dL_law_7 : decode cL_law 7 = .ok (.astore_n 1, 1) := by decide +kernel
theorem dL_law_8 : decode cL_law 8 = .ok (.new 10, 3) := by decide +kernel
theorem dL_law_11 : decode cL_law 11 = .ok (.dup, 1) := by decide +kernel
theorem dL_law_12 : decode cL_law 12 = .ok (.invokespecial 12, 3) := by decide +kernel
theorem dL_law_15 : decode cL_law 15 = .ok (.astore_n 2, 1) := by decide +kernel
theorem dL_law_16 : decode cL_law 16 = .ok (.iconst 0, 1) := by decide +kernel
theorem dL_law_17 : decode cL_law 17 = .ok (.istore_n 3, 1) := by decide +kernel
theorem dL_law_18 : decode cL_law 18 = .ok (.iload_n 3, 1) := by decide +kernel
theorem dL_law_19 : decode cL_law 19 = .ok (.aload_n 0, 1) := by decide +kernel
theorem dL_law_20 : decode cL_law 20 = .ok (.arraylength, 1) := by decide +kernel
theorem dL_law_21 : decode cL_law 21 = .ok (.bipush 6, 2) := by decide +kernel
theorem dL_law_23 : decode cL_law 23 = .ok (.isub, 1) := by decide +kernel
theorem dL_law_24 : decode cL_law 24 = .ok (.if_icmp .gt 1198, 3) := by decide +kernel
theorem dL_law_27 : decode cL_law 27 = .ok (.aload_n 0, 1) := by decide +kernel
theorem dL_law_28 : decode cL_law 28 = .ok (.iload_n 3, 1) := by decide +kernel
theorem dL_law_29 : decode cL_law 29 = .ok (.iaload, 1) := by decide +kernel
theorem dL_law_30 : decode cL_law 30 = .ok (.bipush 63, 2) := by decide +kernel
theorem dL_law_32 : decode cL_law 32 = .ok (.iand, 1) := by decide +kernel
theorem dL_law_33 : decode cL_law 33 = .ok (.tableswitch 1183 0 33 #[151, 214, 237, 250, 263, 286, 319, 352, 365, 398, 431, 464, 487, 500, 543, 576, 609, 622, 635, 678, 711, 744, 777, 830, 883, 916, 939, 982, 1005, 1038, 1061, 1114, 1137, 1160], 151) := by decide +kernel
theorem dL_law_184 : decode cL_law 184 = .ok (.aload_n 1, 1) := by decide +kernel
theorem dL_law_185 : decode cL_law 185 = .ok (.aload_n 0, 1) := by decide +kernel
theorem dL_law_186 : decode cL_law 186 = .ok (.iload_n 3, 1) := by decide +kernel
theorem dL_law_187 : decode cL_law 187 = .ok (.iconst 1, 1) := by decide +kernel
theorem dL_law_188 : decode cL_law 188 = .ok (.iadd, 1) := by decide +kernel
theorem dL_law_189 : decode cL_law 189 = .ok (.iaload, 1) := by decide +kernel
theorem dL_law_190 : decode cL_law 190 = .ok (.aload_n 0, 1) := by decide +kernel
theorem dL_law_191 : decode cL_law 191 = .ok (.iload_n 3, 1) := by decide +kernel
theorem dL_law_192 : decode cL_law 192 = .ok (.iconst 2, 1) := by decide +kernel
theorem dL_law_193 : decode cL_law 193 = .ok (.iadd, 1) := by decide +kernel
theorem dL_law_194 : decode cL_law 194 = .ok (.iaload, 1) := by decide +kernel
theorem dL_law_195 : decode cL_law 195 = .ok (.aload_n 0, 1) := by decide +kernel
theorem dL_law_196 : decode cL_law 196 = .ok (.iload_n 3, 1) := by decide +kernel
theorem dL_law_197 : decode cL_law 197 = .ok (.iconst 3, 1) := by decide +kernel
theorem dL_law_198 : decode cL_law 198 = .ok (.iadd, 1) := by decide +kernel
theorem dL_law_199 : decode cL_law 199 = .ok (.iaload, 1) := by decide +kernel
theorem dL_law_200 : decode cL_law 200 = .ok (.aload_n 0, 1) := by decide +kernel
theorem dL_law_201 : decode cL_law 201 = .ok (.iload_n 3, 1) := by decide +kernel
theorem dL_law_202 : decode cL_law 202 = .ok (.iconst 4, 1) := by decide +kernel
theorem dL_law_203 : decode cL_law 203 = .ok (.iadd, 1) := by decide +kernel
theorem dL_law_204 : decode cL_law 204 = .ok (.iaload, 1) := by decide +kernel
theorem dL_law_205 : decode cL_law 205 = .ok (.aload_n 0, 1) := by decide +kernel
theorem dL_law_206 : decode cL_law 206 = .ok (.iload_n 3, 1) := by decide +kernel
theorem dL_law_207 : decode cL_law 207 = .ok (.iconst 5, 1) := by decide +kernel
theorem dL_law_208 : decode cL_law 208 = .ok (.iadd, 1) := by decide +kernel
theorem dL_law_209 : decode cL_law 209 = .ok (.iaload, 1) := by decide +kernel
theorem dL_law_210 : decode cL_law 210 = .ok (.invokevirtual 13, 3) := by decide +kernel
theorem dL_law_213 : decode cL_law 213 = .ok (.aload_n 2, 1) := by decide +kernel
theorem dL_law_214 : decode cL_law 214 = .ok (.aload_n 0, 1) := by decide +kernel
theorem dL_law_215 : decode cL_law 215 = .ok (.iload_n 3, 1) := by decide +kernel
theorem dL_law_216 : decode cL_law 216 = .ok (.iconst 1, 1) := by decide +kernel
theorem dL_law_217 : decode cL_law 217 = .ok (.iadd, 1) := by decide +kernel
theorem dL_law_218 : decode cL_law 218 = .ok (.iaload, 1) := by decide +kernel
theorem dL_law_219 : decode cL_law 219 = .ok (.aload_n 0, 1) := by decide +kernel
theorem dL_law_220 : decode cL_law 220 = .ok (.iload_n 3, 1) := by decide +kernel
theorem dL_law_221 : decode cL_law 221 = .ok (.iconst 2, 1) := by decide +kernel
theorem dL_law_222 : decode cL_law 222 = .ok (.iadd, 1) := by decide +kernel
theorem dL_law_223 : decode cL_law 223 = .ok (.iaload, 1) := by decide +kernel
theorem dL_law_224 : decode cL_law 224 = .ok (.aload_n 0, 1) := by decide +kernel
theorem dL_law_225 : decode cL_law 225 = .ok (.iload_n 3, 1) := by decide +kernel
theorem dL_law_226 : decode cL_law 226 = .ok (.iconst 3, 1) := by decide +kernel
theorem dL_law_227 : decode cL_law 227 = .ok (.iadd, 1) := by decide +kernel
theorem dL_law_228 : decode cL_law 228 = .ok (.iaload, 1) := by decide +kernel
theorem dL_law_229 : decode cL_law 229 = .ok (.aload_n 0, 1) := by decide +kernel
theorem dL_law_230 : decode cL_law 230 = .ok (.iload_n 3, 1) := by decide +kernel
theorem dL_law_231 : decode cL_law 231 = .ok (.iconst 4, 1) := by decide +kernel
theorem dL_law_232 : decode cL_law 232 = .ok (.iadd, 1) := by decide +kernel
theorem dL_law_233 : decode cL_law 233 = .ok (.iaload, 1) := by decide +kernel
theorem dL_law_234 : decode cL_law 234 = .ok (.aload_n 0, 1) := by decide +kernel
theorem dL_law_235 : decode cL_law 235 = .ok (.iload_n 3, 1) := by decide +kernel
theorem dL_law_236 : decode cL_law 236 = .ok (.iconst 5, 1) := by decide +kernel
theorem dL_law_237 : decode cL_law 237 = .ok (.iadd, 1) := by decide +kernel
theorem dL_law_238 : decode cL_law 238 = .ok (.iaload, 1) := by decide +kernel
theorem dL_law_239 : decode cL_law 239 = .ok (.invokevirtual 17, 3) := by decide +kernel
theorem dL_law_242 : decode cL_law 242 = .ok (.if_icmp .eq 974, 3) := by decide +kernel
theorem dL_law_245 : decode cL_law 245 = .ok (.iconst 0, 1) := by decide +kernel
theorem dL_law_246 : decode cL_law 246 = .ok (.ireturn, 1) := by decide +kernel
theorem dL_law_247 : decode cL_law 247 = .ok (.aload_n 1, 1) := by decide +kernel
theorem dL_law_248 : decode cL_law 248 = .ok (.aload_n 0, 1) := by decide +kernel
theorem dL_law_249 : decode cL_law 249 = .ok (.iload_n 3, 1) := by decide +kernel
theorem dL_law_250 : decode cL_law 250 = .ok (.iconst 1, 1) := by decide +kernel
theorem dL_law_251 : decode cL_law 251 = .ok (.iadd, 1) := by decide +kernel
theorem dL_law_252 : decode cL_law 252 = .ok (.iaload, 1) := by decide +kernel
theorem dL_law_253 : decode cL_law 253 = .ok (.invokevirtual 18, 3) := by decide +kernel
theorem dL_law_256 : decode cL_law 256 = .ok (.aload_n 2, 1) := by decide +kernel
theorem dL_law_257 : decode cL_law 257 = .ok (.aload_n 0, 1) := by decide +kernel
theorem dL_law_258 : decode cL_law 258 = .ok (.iload_n 3, 1) := by decide +kernel
theorem dL_law_259 : decode cL_law 259 = .ok (.iconst 1, 1) := by decide +kernel
theorem dL_law_260 : decode cL_law 260 = .ok (.iadd, 1) := by decide +kernel
theorem dL_law_261 : decode cL_law 261 = .ok (.iaload, 1) := by decide +kernel
theorem dL_law_262 : decode cL_law 262 = .ok (.invokevirtual 22, 3) := by decide +kernel
theorem dL_law_265 : decode cL_law 265 = .ok (.if_icmp .eq 951, 3) := by decide +kernel
theorem dL_law_268 : decode cL_law 268 = .ok (.iconst 0, 1) := by decide +kernel
theorem dL_law_269 : decode cL_law 269 = .ok (.ireturn, 1) := by decide +kernel
theorem dL_law_270 : decode cL_law 270 = .ok (.aload_n 1, 1) := by decide +kernel
theorem dL_law_271 : decode cL_law 271 = .ok (.invokevirtual 23, 3) := by decide +kernel
theorem dL_law_274 : decode cL_law 274 = .ok (.aload_n 2, 1) := by decide +kernel
theorem dL_law_275 : decode cL_law 275 = .ok (.invokevirtual 27, 3) := by decide +kernel
theorem dL_law_278 : decode cL_law 278 = .ok (.if_icmp .eq 938, 3) := by decide +kernel
theorem dL_law_281 : decode cL_law 281 = .ok (.iconst 0, 1) := by decide +kernel
theorem dL_law_282 : decode cL_law 282 = .ok (.ireturn, 1) := by decide +kernel
theorem dL_law_283 : decode cL_law 283 = .ok (.aload_n 1, 1) := by decide +kernel
theorem dL_law_284 : decode cL_law 284 = .ok (.invokevirtual 28, 3) := by decide +kernel
theorem dL_law_287 : decode cL_law 287 = .ok (.aload_n 2, 1) := by decide +kernel
theorem dL_law_288 : decode cL_law 288 = .ok (.invokevirtual 31, 3) := by decide +kernel
theorem dL_law_291 : decode cL_law 291 = .ok (.if_icmp .eq 925, 3) := by decide +kernel
theorem dL_law_294 : decode cL_law 294 = .ok (.iconst 0, 1) := by decide +kernel
theorem dL_law_295 : decode cL_law 295 = .ok (.ireturn, 1) := by decide +kernel
theorem dL_law_296 : decode cL_law 296 = .ok (.aload_n 1, 1) := by decide +kernel
theorem dL_law_297 : decode cL_law 297 = .ok (.aload_n 0, 1) := by decide +kernel
theorem dL_law_298 : decode cL_law 298 = .ok (.iload_n 3, 1) := by decide +kernel
theorem dL_law_299 : decode cL_law 299 = .ok (.iconst 1, 1) := by decide +kernel
theorem dL_law_300 : decode cL_law 300 = .ok (.iadd, 1) := by decide +kernel
theorem dL_law_301 : decode cL_law 301 = .ok (.iaload, 1) := by decide +kernel
theorem dL_law_302 : decode cL_law 302 = .ok (.invokevirtual 32, 3) := by decide +kernel
theorem dL_law_305 : decode cL_law 305 = .ok (.aload_n 2, 1) := by decide +kernel
theorem dL_law_306 : decode cL_law 306 = .ok (.aload_n 0, 1) := by decide +kernel
theorem dL_law_307 : decode cL_law 307 = .ok (.iload_n 3, 1) := by decide +kernel
theorem dL_law_308 : decode cL_law 308 = .ok (.iconst 1, 1) := by decide +kernel
theorem dL_law_309 : decode cL_law 309 = .ok (.iadd, 1) := by decide +kernel
theorem dL_law_310 : decode cL_law 310 = .ok (.iaload, 1) := by decide +kernel
theorem dL_law_311 : decode cL_law 311 = .ok (.invokevirtual 35, 3) := by decide +kernel
theorem dL_law_314 : decode cL_law 314 = .ok (.if_icmp .eq 902, 3) := by decide +kernel
theorem dL_law_317 : decode cL_law 317 = .ok (.iconst 0, 1) := by decide +kernel
theorem dL_law_318 : decode cL_law 318 = .ok (.ireturn, 1) := by decide +kernel
theorem dL_law_319 : decode cL_law 319 = .ok (.aload_n 1, 1) := by decide +kernel
theorem dL_law_320 : decode cL_law 320 = .ok (.aload_n 0, 1) := by decide +kernel
theorem dL_law_321 : decode cL_law 321 = .ok (.iload_n 3, 1) := by decide +kernel
theorem dL_law_322 : decode cL_law 322 = .ok (.iconst 1, 1) := by decide +kernel
theorem dL_law_323 : decode cL_law 323 = .ok (.iadd, 1) := by decide +kernel
theorem dL_law_324 : decode cL_law 324 = .ok (.iaload, 1) := by decide +kernel
theorem dL_law_325 : decode cL_law 325 = .ok (.aload_n 0, 1) := by decide +kernel
theorem dL_law_326 : decode cL_law 326 = .ok (.iload_n 3, 1) := by decide +kernel
theorem dL_law_327 : decode cL_law 327 = .ok (.iconst 2, 1) := by decide +kernel
theorem dL_law_328 : decode cL_law 328 = .ok (.iadd, 1) := by decide +kernel
theorem dL_law_329 : decode cL_law 329 = .ok (.iaload, 1) := by decide +kernel
theorem dL_law_330 : decode cL_law 330 = .ok (.invokevirtual 36, 3) := by decide +kernel
theorem dL_law_333 : decode cL_law 333 = .ok (.aload_n 2, 1) := by decide +kernel
theorem dL_law_334 : decode cL_law 334 = .ok (.aload_n 0, 1) := by decide +kernel
theorem dL_law_335 : decode cL_law 335 = .ok (.iload_n 3, 1) := by decide +kernel
theorem dL_law_336 : decode cL_law 336 = .ok (.iconst 1, 1) := by decide +kernel
theorem dL_law_337 : decode cL_law 337 = .ok (.iadd, 1) := by decide +kernel
theorem dL_law_338 : decode cL_law 338 = .ok (.iaload, 1) := by decide +kernel
theorem dL_law_339 : decode cL_law 339 = .ok (.aload_n 0, 1) := by decide +kernel
theorem dL_law_340 : decode cL_law 340 = .ok (.iload_n 3, 1) := by decide +kernel
theorem dL_law_341 : decode cL_law 341 = .ok (.iconst 2, 1) := by decide +kernel
theorem dL_law_342 : decode cL_law 342 = .ok (.iadd, 1) := by decide +kernel
theorem dL_law_343 : decode cL_law 343 = .ok (.iaload, 1) := by decide +kernel
theorem dL_law_344 : decode cL_law 344 = .ok (.invokevirtual 40, 3) := by decide +kernel
theorem dL_law_347 : decode cL_law 347 = .ok (.if_icmp .eq 869, 3) := by decide +kernel
theorem dL_law_350 : decode cL_law 350 = .ok (.iconst 0, 1) := by decide +kernel
theorem dL_law_351 : decode cL_law 351 = .ok (.ireturn, 1) := by decide +kernel
theorem dL_law_352 : decode cL_law 352 = .ok (.aload_n 1, 1) := by decide +kernel
theorem dL_law_353 : decode cL_law 353 = .ok (.aload_n 0, 1) := by decide +kernel
theorem dL_law_354 : decode cL_law 354 = .ok (.iload_n 3, 1) := by decide +kernel
theorem dL_law_355 : decode cL_law 355 = .ok (.iconst 1, 1) := by decide +kernel
theorem dL_law_356 : decode cL_law 356 = .ok (.iadd, 1) := by decide +kernel
theorem dL_law_357 : decode cL_law 357 = .ok (.iaload, 1) := by decide +kernel
theorem dL_law_358 : decode cL_law 358 = .ok (.aload_n 0, 1) := by decide +kernel
theorem dL_law_359 : decode cL_law 359 = .ok (.iload_n 3, 1) := by decide +kernel
theorem dL_law_360 : decode cL_law 360 = .ok (.iconst 2, 1) := by decide +kernel
theorem dL_law_361 : decode cL_law 361 = .ok (.iadd, 1) := by decide +kernel
theorem dL_law_362 : decode cL_law 362 = .ok (.iaload, 1) := by decide +kernel
theorem dL_law_363 : decode cL_law 363 = .ok (.invokevirtual 41, 3) := by decide +kernel
theorem dL_law_366 : decode cL_law 366 = .ok (.aload_n 2, 1) := by decide +kernel
theorem dL_law_367 : decode cL_law 367 = .ok (.aload_n 0, 1) := by decide +kernel
theorem dL_law_368 : decode cL_law 368 = .ok (.iload_n 3, 1) := by decide +kernel
theorem dL_law_369 : decode cL_law 369 = .ok (.iconst 1, 1) := by decide +kernel
theorem dL_law_370 : decode cL_law 370 = .ok (.iadd, 1) := by decide +kernel
theorem dL_law_371 : decode cL_law 371 = .ok (.iaload, 1) := by decide +kernel
theorem dL_law_372 : decode cL_law 372 = .ok (.aload_n 0, 1) := by decide +kernel
theorem dL_law_373 : decode cL_law 373 = .ok (.iload_n 3, 1) := by decide +kernel
theorem dL_law_374 : decode cL_law 374 = .ok (.iconst 2, 1) := by decide +kernel
theorem dL_law_375 : decode cL_law 375 = .ok (.iadd, 1) := by decide +kernel
theorem dL_law_376 : decode cL_law 376 = .ok (.iaload, 1) := by decide +kernel
theorem dL_law_377 : decode cL_law 377 = .ok (.invokevirtual 44, 3) := by decide +kernel
theorem dL_law_380 : decode cL_law 380 = .ok (.if_icmp .eq 836, 3) := by decide +kernel
theorem dL_law_383 : decode cL_law 383 = .ok (.iconst 0, 1) := by decide +kernel
theorem dL_law_384 : decode cL_law 384 = .ok (.ireturn, 1) := by decide +kernel
theorem dL_law_385 : decode cL_law 385 = .ok (.aload_n 1, 1) := by decide +kernel
theorem dL_law_386 : decode cL_law 386 = .ok (.invokevirtual 45, 3) := by decide +kernel
theorem dL_law_389 : decode cL_law 389 = .ok (.aload_n 2, 1) := by decide +kernel
theorem dL_law_390 : decode cL_law 390 = .ok (.invokevirtual 48, 3) := by decide +kernel
theorem dL_law_393 : decode cL_law 393 = .ok (.if_icmp .eq 823, 3) := by decide +kernel
theorem dL_law_396 : decode cL_law 396 = .ok (.iconst 0, 1) := by decide +kernel
theorem dL_law_397 : decode cL_law 397 = .ok (.ireturn, 1) := by decide +kernel
theorem dL_law_398 : decode cL_law 398 = .ok (.aload_n 1, 1) := by decide +kernel
theorem dL_law_399 : decode cL_law 399 = .ok (.aload_n 0, 1) := by decide +kernel
theorem dL_law_400 : decode cL_law 400 = .ok (.iload_n 3, 1) := by decide +kernel
theorem dL_law_401 : decode cL_law 401 = .ok (.iconst 1, 1) := by decide +kernel
theorem dL_law_402 : decode cL_law 402 = .ok (.iadd, 1) := by decide +kernel
theorem dL_law_403 : decode cL_law 403 = .ok (.iaload, 1) := by decide +kernel
theorem dL_law_404 : decode cL_law 404 = .ok (.aload_n 0, 1) := by decide +kernel
theorem dL_law_405 : decode cL_law 405 = .ok (.iload_n 3, 1) := by decide +kernel
theorem dL_law_406 : decode cL_law 406 = .ok (.iconst 2, 1) := by decide +kernel
theorem dL_law_407 : decode cL_law 407 = .ok (.iadd, 1) := by decide +kernel
theorem dL_law_408 : decode cL_law 408 = .ok (.iaload, 1) := by decide +kernel
theorem dL_law_409 : decode cL_law 409 = .ok (.invokevirtual 49, 3) := by decide +kernel
theorem dL_law_412 : decode cL_law 412 = .ok (.aload_n 2, 1) := by decide +kernel
theorem dL_law_413 : decode cL_law 413 = .ok (.aload_n 0, 1) := by decide +kernel
theorem dL_law_414 : decode cL_law 414 = .ok (.iload_n 3, 1) := by decide +kernel
theorem dL_law_415 : decode cL_law 415 = .ok (.iconst 1, 1) := by decide +kernel
theorem dL_law_416 : decode cL_law 416 = .ok (.iadd, 1) := by decide +kernel
theorem dL_law_417 : decode cL_law 417 = .ok (.iaload, 1) := by decide +kernel
theorem dL_law_418 : decode cL_law 418 = .ok (.aload_n 0, 1) := by decide +kernel
theorem dL_law_419 : decode cL_law 419 = .ok (.iload_n 3, 1) := by decide +kernel
theorem dL_law_420 : decode cL_law 420 = .ok (.iconst 2, 1) := by decide +kernel
theorem dL_law_421 : decode cL_law 421 = .ok (.iadd, 1) := by decide +kernel
theorem dL_law_422 : decode cL_law 422 = .ok (.iaload, 1) := by decide +kernel
theorem dL_law_423 : decode cL_law 423 = .ok (.invokevirtual 52, 3) := by decide +kernel
theorem dL_law_426 : decode cL_law 426 = .ok (.if_icmp .eq 790, 3) := by decide +kernel
theorem dL_law_429 : decode cL_law 429 = .ok (.iconst 0, 1) := by decide +kernel
theorem dL_law_430 : decode cL_law 430 = .ok (.ireturn, 1) := by decide +kernel
theorem dL_law_431 : decode cL_law 431 = .ok (.aload_n 1, 1) := by decide +kernel
theorem dL_law_432 : decode cL_law 432 = .ok (.aload_n 0, 1) := by decide +kernel
theorem dL_law_433 : decode cL_law 433 = .ok (.iload_n 3, 1) := by decide +kernel
theorem dL_law_434 : decode cL_law 434 = .ok (.iconst 1, 1) := by decide +kernel
theorem dL_law_435 : decode cL_law 435 = .ok (.iadd, 1) := by decide +kernel
theorem dL_law_436 : decode cL_law 436 = .ok (.iaload, 1) := by decide +kernel
theorem dL_law_437 : decode cL_law 437 = .ok (.aload_n 0, 1) := by decide +kernel
theorem dL_law_438 : decode cL_law 438 = .ok (.iload_n 3, 1) := by decide +kernel
theorem dL_law_439 : decode cL_law 439 = .ok (.iconst 2, 1) := by decide +kernel
theorem dL_law_440 : decode cL_law 440 = .ok (.iadd, 1) := by decide +kernel
theorem dL_law_441 : decode cL_law 441 = .ok (.iaload, 1) := by decide +kernel
theorem dL_law_442 : decode cL_law 442 = .ok (.invokevirtual 53, 3) := by decide +kernel
theorem dL_law_445 : decode cL_law 445 = .ok (.aload_n 2, 1) := by decide +kernel
theorem dL_law_446 : decode cL_law 446 = .ok (.aload_n 0, 1) := by decide +kernel
theorem dL_law_447 : decode cL_law 447 = .ok (.iload_n 3, 1) := by decide +kernel
theorem dL_law_448 : decode cL_law 448 = .ok (.iconst 1, 1) := by decide +kernel
theorem dL_law_449 : decode cL_law 449 = .ok (.iadd, 1) := by decide +kernel
theorem dL_law_450 : decode cL_law 450 = .ok (.iaload, 1) := by decide +kernel
theorem dL_law_451 : decode cL_law 451 = .ok (.aload_n 0, 1) := by decide +kernel
theorem dL_law_452 : decode cL_law 452 = .ok (.iload_n 3, 1) := by decide +kernel
theorem dL_law_453 : decode cL_law 453 = .ok (.iconst 2, 1) := by decide +kernel
theorem dL_law_454 : decode cL_law 454 = .ok (.iadd, 1) := by decide +kernel
theorem dL_law_455 : decode cL_law 455 = .ok (.iaload, 1) := by decide +kernel
theorem dL_law_456 : decode cL_law 456 = .ok (.invokevirtual 56, 3) := by decide +kernel
theorem dL_law_459 : decode cL_law 459 = .ok (.if_icmp .eq 757, 3) := by decide +kernel
theorem dL_law_462 : decode cL_law 462 = .ok (.iconst 0, 1) := by decide +kernel
theorem dL_law_463 : decode cL_law 463 = .ok (.ireturn, 1) := by decide +kernel
theorem dL_law_464 : decode cL_law 464 = .ok (.aload_n 1, 1) := by decide +kernel
theorem dL_law_465 : decode cL_law 465 = .ok (.aload_n 0, 1) := by decide +kernel
theorem dL_law_466 : decode cL_law 466 = .ok (.iload_n 3, 1) := by decide +kernel
theorem dL_law_467 : decode cL_law 467 = .ok (.iconst 1, 1) := by decide +kernel
theorem dL_law_468 : decode cL_law 468 = .ok (.iadd, 1) := by decide +kernel
theorem dL_law_469 : decode cL_law 469 = .ok (.iaload, 1) := by decide +kernel
theorem dL_law_470 : decode cL_law 470 = .ok (.aload_n 0, 1) := by decide +kernel
theorem dL_law_471 : decode cL_law 471 = .ok (.iload_n 3, 1) := by decide +kernel
theorem dL_law_472 : decode cL_law 472 = .ok (.iconst 2, 1) := by decide +kernel
theorem dL_law_473 : decode cL_law 473 = .ok (.iadd, 1) := by decide +kernel
theorem dL_law_474 : decode cL_law 474 = .ok (.iaload, 1) := by decide +kernel
theorem dL_law_475 : decode cL_law 475 = .ok (.invokevirtual 57, 3) := by decide +kernel
theorem dL_law_478 : decode cL_law 478 = .ok (.aload_n 2, 1) := by decide +kernel
theorem dL_law_479 : decode cL_law 479 = .ok (.aload_n 0, 1) := by decide +kernel
theorem dL_law_480 : decode cL_law 480 = .ok (.iload_n 3, 1) := by decide +kernel
theorem dL_law_481 : decode cL_law 481 = .ok (.iconst 1, 1) := by decide +kernel
theorem dL_law_482 : decode cL_law 482 = .ok (.iadd, 1) := by decide +kernel
theorem dL_law_483 : decode cL_law 483 = .ok (.iaload, 1) := by decide +kernel
theorem dL_law_484 : decode cL_law 484 = .ok (.aload_n 0, 1) := by decide +kernel
theorem dL_law_485 : decode cL_law 485 = .ok (.iload_n 3, 1) := by decide +kernel
theorem dL_law_486 : decode cL_law 486 = .ok (.iconst 2, 1) := by decide +kernel
theorem dL_law_487 : decode cL_law 487 = .ok (.iadd, 1) := by decide +kernel
theorem dL_law_488 : decode cL_law 488 = .ok (.iaload, 1) := by decide +kernel
theorem dL_law_489 : decode cL_law 489 = .ok (.invokevirtual 60, 3) := by decide +kernel
theorem dL_law_492 : decode cL_law 492 = .ok (.if_icmp .eq 724, 3) := by decide +kernel
theorem dL_law_495 : decode cL_law 495 = .ok (.iconst 0, 1) := by decide +kernel
theorem dL_law_496 : decode cL_law 496 = .ok (.ireturn, 1) := by decide +kernel
theorem dL_law_497 : decode cL_law 497 = .ok (.aload_n 1, 1) := by decide +kernel
theorem dL_law_498 : decode cL_law 498 = .ok (.aload_n 0, 1) := by decide +kernel
theorem dL_law_499 : decode cL_law 499 = .ok (.iload_n 3, 1) := by decide +kernel
theorem dL_law_500 : decode cL_law 500 = .ok (.iconst 1, 1) := by decide +kernel
theorem dL_law_501 : decode cL_law 501 = .ok (.iadd, 1) := by decide +kernel
theorem dL_law_502 : decode cL_law 502 = .ok (.iaload, 1) := by decide +kernel
theorem dL_law_503 : decode cL_law 503 = .ok (.invokevirtual 61, 3) := by decide +kernel
theorem dL_law_506 : decode cL_law 506 = .ok (.aload_n 2, 1) := by decide +kernel
theorem dL_law_507 : decode cL_law 507 = .ok (.aload_n 0, 1) := by decide +kernel
theorem dL_law_508 : decode cL_law 508 = .ok (.iload_n 3, 1) := by decide +kernel
theorem dL_law_509 : decode cL_law 509 = .ok (.iconst 1, 1) := by decide +kernel
theorem dL_law_510 : decode cL_law 510 = .ok (.iadd, 1) := by decide +kernel
theorem dL_law_511 : decode cL_law 511 = .ok (.iaload, 1) := by decide +kernel
theorem dL_law_512 : decode cL_law 512 = .ok (.invokevirtual 64, 3) := by decide +kernel
theorem dL_law_515 : decode cL_law 515 = .ok (.if_icmp .eq 701, 3) := by decide +kernel
theorem dL_law_518 : decode cL_law 518 = .ok (.iconst 0, 1) := by decide +kernel
theorem dL_law_519 : decode cL_law 519 = .ok (.ireturn, 1) := by decide +kernel
theorem dL_law_520 : decode cL_law 520 = .ok (.aload_n 1, 1) := by decide +kernel
theorem dL_law_521 : decode cL_law 521 = .ok (.invokevirtual 65, 3) := by decide +kernel
theorem dL_law_524 : decode cL_law 524 = .ok (.aload_n 2, 1) := by decide +kernel
theorem dL_law_525 : decode cL_law 525 = .ok (.invokevirtual 68, 3) := by decide +kernel
theorem dL_law_528 : decode cL_law 528 = .ok (.if_icmp .eq 688, 3) := by decide +kernel
theorem dL_law_531 : decode cL_law 531 = .ok (.iconst 0, 1) := by decide +kernel
theorem dL_law_532 : decode cL_law 532 = .ok (.ireturn, 1) := by decide +kernel
theorem dL_law_533 : decode cL_law 533 = .ok (.aload_n 1, 1) := by decide +kernel
theorem dL_law_534 : decode cL_law 534 = .ok (.aload_n 0, 1) := by decide +kernel
theorem dL_law_535 : decode cL_law 535 = .ok (.iload_n 3, 1) := by decide +kernel
theorem dL_law_536 : decode cL_law 536 = .ok (.iconst 1, 1) := by decide +kernel
theorem dL_law_537 : decode cL_law 537 = .ok (.iadd, 1) := by decide +kernel
theorem dL_law_538 : decode cL_law 538 = .ok (.iaload, 1) := by decide +kernel
theorem dL_law_539 : decode cL_law 539 = .ok (.aload_n 0, 1) := by decide +kernel
theorem dL_law_540 : decode cL_law 540 = .ok (.iload_n 3, 1) := by decide +kernel
theorem dL_law_541 : decode cL_law 541 = .ok (.iconst 2, 1) := by decide +kernel
theorem dL_law_542 : decode cL_law 542 = .ok (.iadd, 1) := by decide +kernel
theorem dL_law_543 : decode cL_law 543 = .ok (.iaload, 1) := by decide +kernel
theorem dL_law_544 : decode cL_law 544 = .ok (.aload_n 0, 1) := by decide +kernel
theorem dL_law_545 : decode cL_law 545 = .ok (.iload_n 3, 1) := by decide +kernel
theorem dL_law_546 : decode cL_law 546 = .ok (.iconst 3, 1) := by decide +kernel
theorem dL_law_547 : decode cL_law 547 = .ok (.iadd, 1) := by decide +kernel
theorem dL_law_548 : decode cL_law 548 = .ok (.iaload, 1) := by decide +kernel
theorem dL_law_549 : decode cL_law 549 = .ok (.invokevirtual 69, 3) := by decide +kernel
theorem dL_law_552 : decode cL_law 552 = .ok (.aload_n 2, 1) := by decide +kernel
theorem dL_law_553 : decode cL_law 553 = .ok (.aload_n 0, 1) := by decide +kernel
theorem dL_law_554 : decode cL_law 554 = .ok (.iload_n 3, 1) := by decide +kernel
theorem dL_law_555 : decode cL_law 555 = .ok (.iconst 1, 1) := by decide +kernel
theorem dL_law_556 : decode cL_law 556 = .ok (.iadd, 1) := by decide +kernel
theorem dL_law_557 : decode cL_law 557 = .ok (.iaload, 1) := by decide +kernel
theorem dL_law_558 : decode cL_law 558 = .ok (.aload_n 0, 1) := by decide +kernel
theorem dL_law_559 : decode cL_law 559 = .ok (.iload_n 3, 1) := by decide +kernel
theorem dL_law_560 : decode cL_law 560 = .ok (.iconst 2, 1) := by decide +kernel
theorem dL_law_561 : decode cL_law 561 = .ok (.iadd, 1) := by decide +kernel
theorem dL_law_562 : decode cL_law 562 = .ok (.iaload, 1) := by decide +kernel
theorem dL_law_563 : decode cL_law 563 = .ok (.aload_n 0, 1) := by decide +kernel
theorem dL_law_564 : decode cL_law 564 = .ok (.iload_n 3, 1) := by decide +kernel
theorem dL_law_565 : decode cL_law 565 = .ok (.iconst 3, 1) := by decide +kernel
theorem dL_law_566 : decode cL_law 566 = .ok (.iadd, 1) := by decide +kernel
theorem dL_law_567 : decode cL_law 567 = .ok (.iaload, 1) := by decide +kernel
theorem dL_law_568 : decode cL_law 568 = .ok (.invokevirtual 73, 3) := by decide +kernel
theorem dL_law_571 : decode cL_law 571 = .ok (.if_icmp .eq 645, 3) := by decide +kernel
theorem dL_law_574 : decode cL_law 574 = .ok (.iconst 0, 1) := by decide +kernel
theorem dL_law_575 : decode cL_law 575 = .ok (.ireturn, 1) := by decide +kernel
theorem dL_law_576 : decode cL_law 576 = .ok (.aload_n 1, 1) := by decide +kernel
theorem dL_law_577 : decode cL_law 577 = .ok (.aload_n 0, 1) := by decide +kernel
theorem dL_law_578 : decode cL_law 578 = .ok (.iload_n 3, 1) := by decide +kernel
theorem dL_law_579 : decode cL_law 579 = .ok (.iconst 1, 1) := by decide +kernel
theorem dL_law_580 : decode cL_law 580 = .ok (.iadd, 1) := by decide +kernel
theorem dL_law_581 : decode cL_law 581 = .ok (.iaload, 1) := by decide +kernel
theorem dL_law_582 : decode cL_law 582 = .ok (.aload_n 0, 1) := by decide +kernel
theorem dL_law_583 : decode cL_law 583 = .ok (.iload_n 3, 1) := by decide +kernel
theorem dL_law_584 : decode cL_law 584 = .ok (.iconst 2, 1) := by decide +kernel
theorem dL_law_585 : decode cL_law 585 = .ok (.iadd, 1) := by decide +kernel
theorem dL_law_586 : decode cL_law 586 = .ok (.iaload, 1) := by decide +kernel
theorem dL_law_587 : decode cL_law 587 = .ok (.invokevirtual 74, 3) := by decide +kernel
theorem dL_law_590 : decode cL_law 590 = .ok (.aload_n 2, 1) := by decide +kernel
theorem dL_law_591 : decode cL_law 591 = .ok (.aload_n 0, 1) := by decide +kernel
theorem dL_law_592 : decode cL_law 592 = .ok (.iload_n 3, 1) := by decide +kernel
theorem dL_law_593 : decode cL_law 593 = .ok (.iconst 1, 1) := by decide +kernel
theorem dL_law_594 : decode cL_law 594 = .ok (.iadd, 1) := by decide +kernel
theorem dL_law_595 : decode cL_law 595 = .ok (.iaload, 1) := by decide +kernel
theorem dL_law_596 : decode cL_law 596 = .ok (.aload_n 0, 1) := by decide +kernel
theorem dL_law_597 : decode cL_law 597 = .ok (.iload_n 3, 1) := by decide +kernel
theorem dL_law_598 : decode cL_law 598 = .ok (.iconst 2, 1) := by decide +kernel
theorem dL_law_599 : decode cL_law 599 = .ok (.iadd, 1) := by decide +kernel
theorem dL_law_600 : decode cL_law 600 = .ok (.iaload, 1) := by decide +kernel
theorem dL_law_601 : decode cL_law 601 = .ok (.invokevirtual 77, 3) := by decide +kernel
theorem dL_law_604 : decode cL_law 604 = .ok (.if_icmp .eq 612, 3) := by decide +kernel
theorem dL_law_607 : decode cL_law 607 = .ok (.iconst 0, 1) := by decide +kernel
theorem dL_law_608 : decode cL_law 608 = .ok (.ireturn, 1) := by decide +kernel
theorem dL_law_609 : decode cL_law 609 = .ok (.aload_n 1, 1) := by decide +kernel
theorem dL_law_610 : decode cL_law 610 = .ok (.aload_n 0, 1) := by decide +kernel
theorem dL_law_611 : decode cL_law 611 = .ok (.iload_n 3, 1) := by decide +kernel
theorem dL_law_612 : decode cL_law 612 = .ok (.iconst 1, 1) := by decide +kernel
theorem dL_law_613 : decode cL_law 613 = .ok (.iadd, 1) := by decide +kernel
theorem dL_law_614 : decode cL_law 614 = .ok (.iaload, 1) := by decide +kernel
theorem dL_law_615 : decode cL_law 615 = .ok (.aload_n 0, 1) := by decide +kernel
theorem dL_law_616 : decode cL_law 616 = .ok (.iload_n 3, 1) := by decide +kernel
theorem dL_law_617 : decode cL_law 617 = .ok (.iconst 2, 1) := by decide +kernel
theorem dL_law_618 : decode cL_law 618 = .ok (.iadd, 1) := by decide +kernel
theorem dL_law_619 : decode cL_law 619 = .ok (.iaload, 1) := by decide +kernel
theorem dL_law_620 : decode cL_law 620 = .ok (.invokevirtual 78, 3) := by decide +kernel
theorem dL_law_623 : decode cL_law 623 = .ok (.aload_n 2, 1) := by decide +kernel
theorem dL_law_624 : decode cL_law 624 = .ok (.aload_n 0, 1) := by decide +kernel
theorem dL_law_625 : decode cL_law 625 = .ok (.iload_n 3, 1) := by decide +kernel
theorem dL_law_626 : decode cL_law 626 = .ok (.iconst 1, 1) := by decide +kernel
theorem dL_law_627 : decode cL_law 627 = .ok (.iadd, 1) := by decide +kernel
theorem dL_law_628 : decode cL_law 628 = .ok (.iaload, 1) := by decide +kernel
theorem dL_law_629 : decode cL_law 629 = .ok (.aload_n 0, 1) := by decide +kernel
theorem dL_law_630 : decode cL_law 630 = .ok (.iload_n 3, 1) := by decide +kernel
theorem dL_law_631 : decode cL_law 631 = .ok (.iconst 2, 1) := by decide +kernel
theorem dL_law_632 : decode cL_law 632 = .ok (.iadd, 1) := by decide +kernel
theorem dL_law_633 : decode cL_law 633 = .ok (.iaload, 1) := by decide +kernel
theorem dL_law_634 : decode cL_law 634 = .ok (.invokevirtual 81, 3) := by decide +kernel
theorem dL_law_637 : decode cL_law 637 = .ok (.if_icmp .eq 579, 3) := by decide +kernel
theorem dL_law_640 : decode cL_law 640 = .ok (.iconst 0, 1) := by decide +kernel
theorem dL_law_641 : decode cL_law 641 = .ok (.ireturn, 1) := by decide +kernel
theorem dL_law_642 : decode cL_law 642 = .ok (.aload_n 1, 1) := by decide +kernel
theorem dL_law_643 : decode cL_law 643 = .ok (.invokevirtual 82, 3) := by decide +kernel
theorem dL_law_646 : decode cL_law 646 = .ok (.aload_n 2, 1) := by decide +kernel
theorem dL_law_647 : decode cL_law 647 = .ok (.invokevirtual 85, 3) := by decide +kernel
theorem dL_law_650 : decode cL_law 650 = .ok (.if_icmp .eq 566, 3) := by decide +kernel
theorem dL_law_653 : decode cL_law 653 = .ok (.iconst 0, 1) := by decide +kernel
theorem dL_law_654 : decode cL_law 654 = .ok (.ireturn, 1) := by decide +kernel
theorem dL_law_655 : decode cL_law 655 = .ok (.aload_n 1, 1) := by decide +kernel
theorem dL_law_656 : decode cL_law 656 = .ok (.invokevirtual 86, 3) := by decide +kernel
theorem dL_law_659 : decode cL_law 659 = .ok (.aload_n 2, 1) := by decide +kernel
theorem dL_law_660 : decode cL_law 660 = .ok (.invokevirtual 89, 3) := by decide +kernel
theorem dL_law_663 : decode cL_law 663 = .ok (.if_icmp .eq 553, 3) := by decide +kernel
theorem dL_law_666 : decode cL_law 666 = .ok (.iconst 0, 1) := by decide +kernel
theorem dL_law_667 : decode cL_law 667 = .ok (.ireturn, 1) := by decide +kernel
theorem dL_law_668 : decode cL_law 668 = .ok (.aload_n 1, 1) := by decide +kernel
theorem dL_law_669 : decode cL_law 669 = .ok (.aload_n 0, 1) := by decide +kernel
theorem dL_law_670 : decode cL_law 670 = .ok (.iload_n 3, 1) := by decide +kernel
theorem dL_law_671 : decode cL_law 671 = .ok (.iconst 1, 1) := by decide +kernel
theorem dL_law_672 : decode cL_law 672 = .ok (.iadd, 1) := by decide +kernel
theorem dL_law_673 : decode cL_law 673 = .ok (.iaload, 1) := by decide +kernel
theorem dL_law_674 : decode cL_law 674 = .ok (.aload_n 0, 1) := by decide +kernel
theorem dL_law_675 : decode cL_law 675 = .ok (.iload_n 3, 1) := by decide +kernel
theorem dL_law_676 : decode cL_law 676 = .ok (.iconst 2, 1) := by decide +kernel
theorem dL_law_677 : decode cL_law 677 = .ok (.iadd, 1) := by decide +kernel
theorem dL_law_678 : decode cL_law 678 = .ok (.iaload, 1) := by decide +kernel
theorem dL_law_679 : decode cL_law 679 = .ok (.aload_n 0, 1) := by decide +kernel
theorem dL_law_680 : decode cL_law 680 = .ok (.iload_n 3, 1) := by decide +kernel
theorem dL_law_681 : decode cL_law 681 = .ok (.iconst 3, 1) := by decide +kernel
theorem dL_law_682 : decode cL_law 682 = .ok (.iadd, 1) := by decide +kernel
theorem dL_law_683 : decode cL_law 683 = .ok (.iaload, 1) := by decide +kernel
theorem dL_law_684 : decode cL_law 684 = .ok (.invokevirtual 90, 3) := by decide +kernel
theorem dL_law_687 : decode cL_law 687 = .ok (.aload_n 2, 1) := by decide +kernel
theorem dL_law_688 : decode cL_law 688 = .ok (.aload_n 0, 1) := by decide +kernel
theorem dL_law_689 : decode cL_law 689 = .ok (.iload_n 3, 1) := by decide +kernel
theorem dL_law_690 : decode cL_law 690 = .ok (.iconst 1, 1) := by decide +kernel
theorem dL_law_691 : decode cL_law 691 = .ok (.iadd, 1) := by decide +kernel
theorem dL_law_692 : decode cL_law 692 = .ok (.iaload, 1) := by decide +kernel
theorem dL_law_693 : decode cL_law 693 = .ok (.aload_n 0, 1) := by decide +kernel
theorem dL_law_694 : decode cL_law 694 = .ok (.iload_n 3, 1) := by decide +kernel
theorem dL_law_695 : decode cL_law 695 = .ok (.iconst 2, 1) := by decide +kernel
theorem dL_law_696 : decode cL_law 696 = .ok (.iadd, 1) := by decide +kernel
theorem dL_law_697 : decode cL_law 697 = .ok (.iaload, 1) := by decide +kernel
theorem dL_law_698 : decode cL_law 698 = .ok (.aload_n 0, 1) := by decide +kernel
theorem dL_law_699 : decode cL_law 699 = .ok (.iload_n 3, 1) := by decide +kernel
theorem dL_law_700 : decode cL_law 700 = .ok (.iconst 3, 1) := by decide +kernel
theorem dL_law_701 : decode cL_law 701 = .ok (.iadd, 1) := by decide +kernel
theorem dL_law_702 : decode cL_law 702 = .ok (.iaload, 1) := by decide +kernel
theorem dL_law_703 : decode cL_law 703 = .ok (.invokevirtual 93, 3) := by decide +kernel
theorem dL_law_706 : decode cL_law 706 = .ok (.if_icmp .eq 510, 3) := by decide +kernel
theorem dL_law_709 : decode cL_law 709 = .ok (.iconst 0, 1) := by decide +kernel
theorem dL_law_710 : decode cL_law 710 = .ok (.ireturn, 1) := by decide +kernel
theorem dL_law_711 : decode cL_law 711 = .ok (.aload_n 1, 1) := by decide +kernel
theorem dL_law_712 : decode cL_law 712 = .ok (.aload_n 0, 1) := by decide +kernel
theorem dL_law_713 : decode cL_law 713 = .ok (.iload_n 3, 1) := by decide +kernel
theorem dL_law_714 : decode cL_law 714 = .ok (.iconst 1, 1) := by decide +kernel
theorem dL_law_715 : decode cL_law 715 = .ok (.iadd, 1) := by decide +kernel
theorem dL_law_716 : decode cL_law 716 = .ok (.iaload, 1) := by decide +kernel
theorem dL_law_717 : decode cL_law 717 = .ok (.aload_n 0, 1) := by decide +kernel
theorem dL_law_718 : decode cL_law 718 = .ok (.iload_n 3, 1) := by decide +kernel
theorem dL_law_719 : decode cL_law 719 = .ok (.iconst 2, 1) := by decide +kernel
theorem dL_law_720 : decode cL_law 720 = .ok (.iadd, 1) := by decide +kernel
theorem dL_law_721 : decode cL_law 721 = .ok (.iaload, 1) := by decide +kernel
theorem dL_law_722 : decode cL_law 722 = .ok (.invokevirtual 94, 3) := by decide +kernel
theorem dL_law_725 : decode cL_law 725 = .ok (.aload_n 2, 1) := by decide +kernel
theorem dL_law_726 : decode cL_law 726 = .ok (.aload_n 0, 1) := by decide +kernel
theorem dL_law_727 : decode cL_law 727 = .ok (.iload_n 3, 1) := by decide +kernel
theorem dL_law_728 : decode cL_law 728 = .ok (.iconst 1, 1) := by decide +kernel
theorem dL_law_729 : decode cL_law 729 = .ok (.iadd, 1) := by decide +kernel
theorem dL_law_730 : decode cL_law 730 = .ok (.iaload, 1) := by decide +kernel
theorem dL_law_731 : decode cL_law 731 = .ok (.aload_n 0, 1) := by decide +kernel
theorem dL_law_732 : decode cL_law 732 = .ok (.iload_n 3, 1) := by decide +kernel
theorem dL_law_733 : decode cL_law 733 = .ok (.iconst 2, 1) := by decide +kernel
theorem dL_law_734 : decode cL_law 734 = .ok (.iadd, 1) := by decide +kernel
theorem dL_law_735 : decode cL_law 735 = .ok (.iaload, 1) := by decide +kernel
theorem dL_law_736 : decode cL_law 736 = .ok (.invokevirtual 97, 3) := by decide +kernel
theorem dL_law_739 : decode cL_law 739 = .ok (.if_icmp .eq 477, 3) := by decide +kernel
theorem dL_law_742 : decode cL_law 742 = .ok (.iconst 0, 1) := by decide +kernel
theorem dL_law_743 : decode cL_law 743 = .ok (.ireturn, 1) := by decide +kernel
theorem dL_law_744 : decode cL_law 744 = .ok (.aload_n 1, 1) := by decide +kernel
theorem dL_law_745 : decode cL_law 745 = .ok (.aload_n 0, 1) := by decide +kernel
theorem dL_law_746 : decode cL_law 746 = .ok (.iload_n 3, 1) := by decide +kernel
theorem dL_law_747 : decode cL_law 747 = .ok (.iconst 1, 1) := by decide +kernel
theorem dL_law_748 : decode cL_law 748 = .ok (.iadd, 1) := by decide +kernel
theorem dL_law_749 : decode cL_law 749 = .ok (.iaload, 1) := by decide +kernel
theorem dL_law_750 : decode cL_law 750 = .ok (.aload_n 0, 1) := by decide +kernel
theorem dL_law_751 : decode cL_law 751 = .ok (.iload_n 3, 1) := by decide +kernel
theorem dL_law_752 : decode cL_law 752 = .ok (.iconst 2, 1) := by decide +kernel
theorem dL_law_753 : decode cL_law 753 = .ok (.iadd, 1) := by decide +kernel
theorem dL_law_754 : decode cL_law 754 = .ok (.iaload, 1) := by decide +kernel
theorem dL_law_755 : decode cL_law 755 = .ok (.invokevirtual 98, 3) := by decide +kernel
theorem dL_law_758 : decode cL_law 758 = .ok (.aload_n 2, 1) := by decide +kernel
theorem dL_law_759 : decode cL_law 759 = .ok (.aload_n 0, 1) := by decide +kernel
theorem dL_law_760 : decode cL_law 760 = .ok (.iload_n 3, 1) := by decide +kernel
theorem dL_law_761 : decode cL_law 761 = .ok (.iconst 1, 1) := by decide +kernel
theorem dL_law_762 : decode cL_law 762 = .ok (.iadd, 1) := by decide +kernel
theorem dL_law_763 : decode cL_law 763 = .ok (.iaload, 1) := by decide +kernel
theorem dL_law_764 : decode cL_law 764 = .ok (.aload_n 0, 1) := by decide +kernel
theorem dL_law_765 : decode cL_law 765 = .ok (.iload_n 3, 1) := by decide +kernel
theorem dL_law_766 : decode cL_law 766 = .ok (.iconst 2, 1) := by decide +kernel
theorem dL_law_767 : decode cL_law 767 = .ok (.iadd, 1) := by decide +kernel
theorem dL_law_768 : decode cL_law 768 = .ok (.iaload, 1) := by decide +kernel
theorem dL_law_769 : decode cL_law 769 = .ok (.invokevirtual 101, 3) := by decide +kernel
theorem dL_law_772 : decode cL_law 772 = .ok (.if_icmp .eq 444, 3) := by decide +kernel
theorem dL_law_775 : decode cL_law 775 = .ok (.iconst 0, 1) := by decide +kernel
theorem dL_law_776 : decode cL_law 776 = .ok (.ireturn, 1) := by decide +kernel
theorem dL_law_777 : decode cL_law 777 = .ok (.aload_n 1, 1) := by decide +kernel
theorem dL_law_778 : decode cL_law 778 = .ok (.aload_n 0, 1) := by decide +kernel
theorem dL_law_779 : decode cL_law 779 = .ok (.iload_n 3, 1) := by decide +kernel
theorem dL_law_780 : decode cL_law 780 = .ok (.iconst 1, 1) := by decide +kernel
theorem dL_law_781 : decode cL_law 781 = .ok (.iadd, 1) := by decide +kernel
theorem dL_law_782 : decode cL_law 782 = .ok (.iaload, 1) := by decide +kernel
theorem dL_law_783 : decode cL_law 783 = .ok (.aload_n 0, 1) := by decide +kernel
theorem dL_law_784 : decode cL_law 784 = .ok (.iload_n 3, 1) := by decide +kernel
theorem dL_law_785 : decode cL_law 785 = .ok (.iconst 2, 1) := by decide +kernel
theorem dL_law_786 : decode cL_law 786 = .ok (.iadd, 1) := by decide +kernel
theorem dL_law_787 : decode cL_law 787 = .ok (.iaload, 1) := by decide +kernel
theorem dL_law_788 : decode cL_law 788 = .ok (.invokevirtual 102, 3) := by decide +kernel
theorem dL_law_791 : decode cL_law 791 = .ok (.aload_n 2, 1) := by decide +kernel
theorem dL_law_792 : decode cL_law 792 = .ok (.aload_n 0, 1) := by decide +kernel
theorem dL_law_793 : decode cL_law 793 = .ok (.iload_n 3, 1) := by decide +kernel
theorem dL_law_794 : decode cL_law 794 = .ok (.iconst 1, 1) := by decide +kernel
theorem dL_law_795 : decode cL_law 795 = .ok (.iadd, 1) := by decide +kernel
theorem dL_law_796 : decode cL_law 796 = .ok (.iaload, 1) := by decide +kernel
theorem dL_law_797 : decode cL_law 797 = .ok (.aload_n 0, 1) := by decide +kernel
theorem dL_law_798 : decode cL_law 798 = .ok (.iload_n 3, 1) := by decide +kernel
theorem dL_law_799 : decode cL_law 799 = .ok (.iconst 2, 1) := by decide +kernel
theorem dL_law_800 : decode cL_law 800 = .ok (.iadd, 1) := by decide +kernel
theorem dL_law_801 : decode cL_law 801 = .ok (.iaload, 1) := by decide +kernel
theorem dL_law_802 : decode cL_law 802 = .ok (.invokevirtual 105, 3) := by decide +kernel
theorem dL_law_805 : decode cL_law 805 = .ok (.if_icmp .eq 411, 3) := by decide +kernel
theorem dL_law_808 : decode cL_law 808 = .ok (.iconst 0, 1) := by decide +kernel
theorem dL_law_809 : decode cL_law 809 = .ok (.ireturn, 1) := by decide +kernel
theorem dL_law_810 : decode cL_law 810 = .ok (.aload_n 1, 1) := by decide +kernel
theorem dL_law_811 : decode cL_law 811 = .ok (.aload_n 0, 1) := by decide +kernel
theorem dL_law_812 : decode cL_law 812 = .ok (.iload_n 3, 1) := by decide +kernel
theorem dL_law_813 : decode cL_law 813 = .ok (.iconst 1, 1) := by decide +kernel
theorem dL_law_814 : decode cL_law 814 = .ok (.iadd, 1) := by decide +kernel
theorem dL_law_815 : decode cL_law 815 = .ok (.iaload, 1) := by decide +kernel
theorem dL_law_816 : decode cL_law 816 = .ok (.aload_n 0, 1) := by decide +kernel
theorem dL_law_817 : decode cL_law 817 = .ok (.iload_n 3, 1) := by decide +kernel
theorem dL_law_818 : decode cL_law 818 = .ok (.iconst 2, 1) := by decide +kernel
theorem dL_law_819 : decode cL_law 819 = .ok (.iadd, 1) := by decide +kernel
theorem dL_law_820 : decode cL_law 820 = .ok (.iaload, 1) := by decide +kernel
theorem dL_law_821 : decode cL_law 821 = .ok (.aload_n 0, 1) := by decide +kernel
theorem dL_law_822 : decode cL_law 822 = .ok (.iload_n 3, 1) := by decide +kernel
theorem dL_law_823 : decode cL_law 823 = .ok (.iconst 3, 1) := by decide +kernel
theorem dL_law_824 : decode cL_law 824 = .ok (.iadd, 1) := by decide +kernel
theorem dL_law_825 : decode cL_law 825 = .ok (.iaload, 1) := by decide +kernel
theorem dL_law_826 : decode cL_law 826 = .ok (.aload_n 0, 1) := by decide +kernel
theorem dL_law_827 : decode cL_law 827 = .ok (.iload_n 3, 1) := by decide +kernel
theorem dL_law_828 : decode cL_law 828 = .ok (.iconst 4, 1) := by decide +kernel
theorem dL_law_829 : decode cL_law 829 = .ok (.iadd, 1) := by decide +kernel
theorem dL_law_830 : decode cL_law 830 = .ok (.iaload, 1) := by decide +kernel
theorem dL_law_831 : decode cL_law 831 = .ok (.invokevirtual 106, 3) := by decide +kernel
theorem dL_law_834 : decode cL_law 834 = .ok (.aload_n 2, 1) := by decide +kernel
theorem dL_law_835 : decode cL_law 835 = .ok (.aload_n 0, 1) := by decide +kernel
theorem dL_law_836 : decode cL_law 836 = .ok (.iload_n 3, 1) := by decide +kernel
theorem dL_law_837 : decode cL_law 837 = .ok (.iconst 1, 1) := by decide +kernel
theorem dL_law_838 : decode cL_law 838 = .ok (.iadd, 1) := by decide +kernel
theorem dL_law_839 : decode cL_law 839 = .ok (.iaload, 1) := by decide +kernel
theorem dL_law_840 : decode cL_law 840 = .ok (.aload_n 0, 1) := by decide +kernel
theorem dL_law_841 : decode cL_law 841 = .ok (.iload_n 3, 1) := by decide +kernel
theorem dL_law_842 : decode cL_law 842 = .ok (.iconst 2, 1) := by decide +kernel
theorem dL_law_843 : decode cL_law 843 = .ok (.iadd, 1) := by decide +kernel
theorem dL_law_844 : decode cL_law 844 = .ok (.iaload, 1) := by decide +kernel
theorem dL_law_845 : decode cL_law 845 = .ok (.aload_n 0, 1) := by decide +kernel
theorem dL_law_846 : decode cL_law 846 = .ok (.iload_n 3, 1) := by decide +kernel
theorem dL_law_847 : decode cL_law 847 = .ok (.iconst 3, 1) := by decide +kernel
theorem dL_law_848 : decode cL_law 848 = .ok (.iadd, 1) := by decide +kernel
theorem dL_law_849 : decode cL_law 849 = .ok (.iaload, 1) := by decide +kernel
theorem dL_law_850 : decode cL_law 850 = .ok (.aload_n 0, 1) := by decide +kernel
theorem dL_law_851 : decode cL_law 851 = .ok (.iload_n 3, 1) := by decide +kernel
theorem dL_law_852 : decode cL_law 852 = .ok (.iconst 4, 1) := by decide +kernel
theorem dL_law_853 : decode cL_law 853 = .ok (.iadd, 1) := by decide +kernel
theorem dL_law_854 : decode cL_law 854 = .ok (.iaload, 1) := by decide +kernel
theorem dL_law_855 : decode cL_law 855 = .ok (.invokevirtual 110, 3) := by decide +kernel
theorem dL_law_858 : decode cL_law 858 = .ok (.if_icmp .eq 358, 3) := by decide +kernel
theorem dL_law_861 : decode cL_law 861 = .ok (.iconst 0, 1) := by decide +kernel
theorem dL_law_862 : decode cL_law 862 = .ok (.ireturn, 1) := by decide +kernel
theorem dL_law_863 : decode cL_law 863 = .ok (.aload_n 1, 1) := by decide +kernel
theorem dL_law_864 : decode cL_law 864 = .ok (.aload_n 0, 1) := by decide +kernel
theorem dL_law_865 : decode cL_law 865 = .ok (.iload_n 3, 1) := by decide +kernel
theorem dL_law_866 : decode cL_law 866 = .ok (.iconst 1, 1) := by decide +kernel
theorem dL_law_867 : decode cL_law 867 = .ok (.iadd, 1) := by decide +kernel
theorem dL_law_868 : decode cL_law 868 = .ok (.iaload, 1) := by decide +kernel
theorem dL_law_869 : decode cL_law 869 = .ok (.aload_n 0, 1) := by decide +kernel
theorem dL_law_870 : decode cL_law 870 = .ok (.iload_n 3, 1) := by decide +kernel
theorem dL_law_871 : decode cL_law 871 = .ok (.iconst 2, 1) := by decide +kernel
theorem dL_law_872 : decode cL_law 872 = .ok (.iadd, 1) := by decide +kernel
theorem dL_law_873 : decode cL_law 873 = .ok (.iaload, 1) := by decide +kernel
theorem dL_law_874 : decode cL_law 874 = .ok (.aload_n 0, 1) := by decide +kernel
theorem dL_law_875 : decode cL_law 875 = .ok (.iload_n 3, 1) := by decide +kernel
theorem dL_law_876 : decode cL_law 876 = .ok (.iconst 3, 1) := by decide +kernel
theorem dL_law_877 : decode cL_law 877 = .ok (.iadd, 1) := by decide +kernel
theorem dL_law_878 : decode cL_law 878 = .ok (.iaload, 1) := by decide +kernel
theorem dL_law_879 : decode cL_law 879 = .ok (.aload_n 0, 1) := by decide +kernel
theorem dL_law_880 : decode cL_law 880 = .ok (.iload_n 3, 1) := by decide +kernel
theorem dL_law_881 : decode cL_law 881 = .ok (.iconst 4, 1) := by decide +kernel
theorem dL_law_882 : decode cL_law 882 = .ok (.iadd, 1) := by decide +kernel
theorem dL_law_883 : decode cL_law 883 = .ok (.iaload, 1) := by decide +kernel
theorem dL_law_884 : decode cL_law 884 = .ok (.invokevirtual 111, 3) := by decide +kernel
theorem dL_law_887 : decode cL_law 887 = .ok (.aload_n 2, 1) := by decide +kernel
theorem dL_law_888 : decode cL_law 888 = .ok (.aload_n 0, 1) := by decide +kernel
theorem dL_law_889 : decode cL_law 889 = .ok (.iload_n 3, 1) := by decide +kernel
theorem dL_law_890 : decode cL_law 890 = .ok (.iconst 1, 1) := by decide +kernel
theorem dL_law_891 : decode cL_law 891 = .ok (.iadd, 1) := by decide +kernel
theorem dL_law_892 : decode cL_law 892 = .ok (.iaload, 1) := by decide +kernel
theorem dL_law_893 : decode cL_law 893 = .ok (.aload_n 0, 1) := by decide +kernel
theorem dL_law_894 : decode cL_law 894 = .ok (.iload_n 3, 1) := by decide +kernel
theorem dL_law_895 : decode cL_law 895 = .ok (.iconst 2, 1) := by decide +kernel
theorem dL_law_896 : decode cL_law 896 = .ok (.iadd, 1) := by decide +kernel
theorem dL_law_897 : decode cL_law 897 = .ok (.iaload, 1) := by decide +kernel
theorem dL_law_898 : decode cL_law 898 = .ok (.aload_n 0, 1) := by decide +kernel
theorem dL_law_899 : decode cL_law 899 = .ok (.iload_n 3, 1) := by decide +kernel
theorem dL_law_900 : decode cL_law 900 = .ok (.iconst 3, 1) := by decide +kernel
theorem dL_law_901 : decode cL_law 901 = .ok (.iadd, 1) := by decide +kernel
theorem dL_law_902 : decode cL_law 902 = .ok (.iaload, 1) := by decide +kernel
theorem dL_law_903 : decode cL_law 903 = .ok (.aload_n 0, 1) := by decide +kernel
theorem dL_law_904 : decode cL_law 904 = .ok (.iload_n 3, 1) := by decide +kernel
theorem dL_law_905 : decode cL_law 905 = .ok (.iconst 4, 1) := by decide +kernel
theorem dL_law_906 : decode cL_law 906 = .ok (.iadd, 1) := by decide +kernel
theorem dL_law_907 : decode cL_law 907 = .ok (.iaload, 1) := by decide +kernel
theorem dL_law_908 : decode cL_law 908 = .ok (.invokevirtual 114, 3) := by decide +kernel
theorem dL_law_911 : decode cL_law 911 = .ok (.if_icmp .eq 305, 3) := by decide +kernel
theorem dL_law_914 : decode cL_law 914 = .ok (.iconst 0, 1) := by decide +kernel
theorem dL_law_915 : decode cL_law 915 = .ok (.ireturn, 1) := by decide +kernel
theorem dL_law_916 : decode cL_law 916 = .ok (.aload_n 1, 1) := by decide +kernel
theorem dL_law_917 : decode cL_law 917 = .ok (.aload_n 0, 1) := by decide +kernel
theorem dL_law_918 : decode cL_law 918 = .ok (.iload_n 3, 1) := by decide +kernel
theorem dL_law_919 : decode cL_law 919 = .ok (.iconst 1, 1) := by decide +kernel
theorem dL_law_920 : decode cL_law 920 = .ok (.iadd, 1) := by decide +kernel
theorem dL_law_921 : decode cL_law 921 = .ok (.iaload, 1) := by decide +kernel
theorem dL_law_922 : decode cL_law 922 = .ok (.aload_n 0, 1) := by decide +kernel
theorem dL_law_923 : decode cL_law 923 = .ok (.iload_n 3, 1) := by decide +kernel
theorem dL_law_924 : decode cL_law 924 = .ok (.iconst 2, 1) := by decide +kernel
theorem dL_law_925 : decode cL_law 925 = .ok (.iadd, 1) := by decide +kernel
theorem dL_law_926 : decode cL_law 926 = .ok (.iaload, 1) := by decide +kernel
theorem dL_law_927 : decode cL_law 927 = .ok (.invokevirtual 115, 3) := by decide +kernel
theorem dL_law_930 : decode cL_law 930 = .ok (.aload_n 2, 1) := by decide +kernel
theorem dL_law_931 : decode cL_law 931 = .ok (.aload_n 0, 1) := by decide +kernel
theorem dL_law_932 : decode cL_law 932 = .ok (.iload_n 3, 1) := by decide +kernel
theorem dL_law_933 : decode cL_law 933 = .ok (.iconst 1, 1) := by decide +kernel
theorem dL_law_934 : decode cL_law 934 = .ok (.iadd, 1) := by decide +kernel
theorem dL_law_935 : decode cL_law 935 = .ok (.iaload, 1) := by decide +kernel
theorem dL_law_936 : decode cL_law 936 = .ok (.aload_n 0, 1) := by decide +kernel
theorem dL_law_937 : decode cL_law 937 = .ok (.iload_n 3, 1) := by decide +kernel
theorem dL_law_938 : decode cL_law 938 = .ok (.iconst 2, 1) := by decide +kernel
theorem dL_law_939 : decode cL_law 939 = .ok (.iadd, 1) := by decide +kernel
theorem dL_law_940 : decode cL_law 940 = .ok (.iaload, 1) := by decide +kernel
theorem dL_law_941 : decode cL_law 941 = .ok (.invokevirtual 118, 3) := by decide +kernel
theorem dL_law_944 : decode cL_law 944 = .ok (.if_icmp .eq 272, 3) := by decide +kernel
theorem dL_law_947 : decode cL_law 947 = .ok (.iconst 0, 1) := by decide +kernel
theorem dL_law_948 : decode cL_law 948 = .ok (.ireturn, 1) := by decide +kernel
theorem dL_law_949 : decode cL_law 949 = .ok (.aload_n 1, 1) := by decide +kernel
theorem dL_law_950 : decode cL_law 950 = .ok (.aload_n 0, 1) := by decide +kernel
theorem dL_law_951 : decode cL_law 951 = .ok (.iload_n 3, 1) := by decide +kernel
theorem dL_law_952 : decode cL_law 952 = .ok (.iconst 1, 1) := by decide +kernel
theorem dL_law_953 : decode cL_law 953 = .ok (.iadd, 1) := by decide +kernel
theorem dL_law_954 : decode cL_law 954 = .ok (.iaload, 1) := by decide +kernel
theorem dL_law_955 : decode cL_law 955 = .ok (.invokevirtual 119, 3) := by decide +kernel
theorem dL_law_958 : decode cL_law 958 = .ok (.aload_n 2, 1) := by decide +kernel
theorem dL_law_959 : decode cL_law 959 = .ok (.aload_n 0, 1) := by decide +kernel
theorem dL_law_960 : decode cL_law 960 = .ok (.iload_n 3, 1) := by decide +kernel
theorem dL_law_961 : decode cL_law 961 = .ok (.iconst 1, 1) := by decide +kernel
theorem dL_law_962 : decode cL_law 962 = .ok (.iadd, 1) := by decide +kernel
theorem dL_law_963 : decode cL_law 963 = .ok (.iaload, 1) := by decide +kernel
theorem dL_law_964 : decode cL_law 964 = .ok (.invokevirtual 122, 3) := by decide +kernel
theorem dL_law_967 : decode cL_law 967 = .ok (.if_icmp .eq 249, 3) := by decide +kernel
theorem dL_law_970 : decode cL_law 970 = .ok (.iconst 0, 1) := by decide +kernel
theorem dL_law_971 : decode cL_law 971 = .ok (.ireturn, 1) := by decide +kernel
theorem dL_law_972 : decode cL_law 972 = .ok (.aload_n 1, 1) := by decide +kernel
theorem dL_law_973 : decode cL_law 973 = .ok (.aload_n 0, 1) := by decide +kernel
theorem dL_law_974 : decode cL_law 974 = .ok (.iload_n 3, 1) := by decide +kernel
theorem dL_law_975 : decode cL_law 975 = .ok (.iconst 1, 1) := by decide +kernel
theorem dL_law_976 : decode cL_law 976 = .ok (.iadd, 1) := by decide +kernel
theorem dL_law_977 : decode cL_law 977 = .ok (.iaload, 1) := by decide +kernel
theorem dL_law_978 : decode cL_law 978 = .ok (.aload_n 0, 1) := by decide +kernel
theorem dL_law_979 : decode cL_law 979 = .ok (.iload_n 3, 1) := by decide +kernel
theorem dL_law_980 : decode cL_law 980 = .ok (.iconst 2, 1) := by decide +kernel
theorem dL_law_981 : decode cL_law 981 = .ok (.iadd, 1) := by decide +kernel
theorem dL_law_982 : decode cL_law 982 = .ok (.iaload, 1) := by decide +kernel
theorem dL_law_983 : decode cL_law 983 = .ok (.aload_n 0, 1) := by decide +kernel
theorem dL_law_984 : decode cL_law 984 = .ok (.iload_n 3, 1) := by decide +kernel
theorem dL_law_985 : decode cL_law 985 = .ok (.iconst 3, 1) := by decide +kernel
theorem dL_law_986 : decode cL_law 986 = .ok (.iadd, 1) := by decide +kernel
theorem dL_law_987 : decode cL_law 987 = .ok (.iaload, 1) := by decide +kernel
theorem dL_law_988 : decode cL_law 988 = .ok (.invokevirtual 123, 3) := by decide +kernel
theorem dL_law_991 : decode cL_law 991 = .ok (.aload_n 2, 1) := by decide +kernel
theorem dL_law_992 : decode cL_law 992 = .ok (.aload_n 0, 1) := by decide +kernel
theorem dL_law_993 : decode cL_law 993 = .ok (.iload_n 3, 1) := by decide +kernel
theorem dL_law_994 : decode cL_law 994 = .ok (.iconst 1, 1) := by decide +kernel
theorem dL_law_995 : decode cL_law 995 = .ok (.iadd, 1) := by decide +kernel
theorem dL_law_996 : decode cL_law 996 = .ok (.iaload, 1) := by decide +kernel
theorem dL_law_997 : decode cL_law 997 = .ok (.aload_n 0, 1) := by decide +kernel
theorem dL_law_998 : decode cL_law 998 = .ok (.iload_n 3, 1) := by decide +kernel
theorem dL_law_999 : decode cL_law 999 = .ok (.iconst 2, 1) := by decide +kernel
theorem dL_law_1000 : decode cL_law 1000 = .ok (.iadd, 1) := by decide +kernel
theorem dL_law_1001 : decode cL_law 1001 = .ok (.iaload, 1) := by decide +kernel
theorem dL_law_1002 : decode cL_law 1002 = .ok (.aload_n 0, 1) := by decide +kernel
theorem dL_law_1003 : decode cL_law 1003 = .ok (.iload_n 3, 1) := by decide +kernel
theorem dL_law_1004 : decode cL_law 1004 = .ok (.iconst 3, 1) := by decide +kernel
theorem dL_law_1005 : decode cL_law 1005 = .ok (.iadd, 1) := by decide +kernel
theorem dL_law_1006 : decode cL_law 1006 = .ok (.iaload, 1) := by decide +kernel
theorem dL_law_1007 : decode cL_law 1007 = .ok (.invokevirtual 126, 3) := by decide +kernel
theorem dL_law_1010 : decode cL_law 1010 = .ok (.if_icmp .eq 206, 3) := by decide +kernel
theorem dL_law_1013 : decode cL_law 1013 = .ok (.iconst 0, 1) := by decide +kernel
theorem dL_law_1014 : decode cL_law 1014 = .ok (.ireturn, 1) := by decide +kernel
theorem dL_law_1015 : decode cL_law 1015 = .ok (.aload_n 1, 1) := by decide +kernel
theorem dL_law_1016 : decode cL_law 1016 = .ok (.aload_n 0, 1) := by decide +kernel
theorem dL_law_1017 : decode cL_law 1017 = .ok (.iload_n 3, 1) := by decide +kernel
theorem dL_law_1018 : decode cL_law 1018 = .ok (.iconst 1, 1) := by decide +kernel
theorem dL_law_1019 : decode cL_law 1019 = .ok (.iadd, 1) := by decide +kernel
theorem dL_law_1020 : decode cL_law 1020 = .ok (.iaload, 1) := by decide +kernel
theorem dL_law_1021 : decode cL_law 1021 = .ok (.invokevirtual 127, 3) := by decide +kernel
theorem dL_law_1024 : decode cL_law 1024 = .ok (.aload_n 2, 1) := by decide +kernel
theorem dL_law_1025 : decode cL_law 1025 = .ok (.aload_n 0, 1) := by decide +kernel
theorem dL_law_1026 : decode cL_law 1026 = .ok (.iload_n 3, 1) := by decide +kernel
theorem dL_law_1027 : decode cL_law 1027 = .ok (.iconst 1, 1) := by decide +kernel
theorem dL_law_1028 : decode cL_law 1028 = .ok (.iadd, 1) := by decide +kernel
theorem dL_law_1029 : decode cL_law 1029 = .ok (.iaload, 1) := by decide +kernel
theorem dL_law_1030 : decode cL_law 1030 = .ok (.invokevirtual 130, 3) := by decide +kernel
theorem dL_law_1033 : decode cL_law 1033 = .ok (.if_icmp .eq 183, 3) := by decide +kernel
theorem dL_law_1036 : decode cL_law 1036 = .ok (.iconst 0, 1) := by decide +kernel
theorem dL_law_1037 : decode cL_law 1037 = .ok (.ireturn, 1) := by decide +kernel
theorem dL_law_1038 : decode cL_law 1038 = .ok (.aload_n 1, 1) := by decide +kernel
theorem dL_law_1039 : decode cL_law 1039 = .ok (.aload_n 0, 1) := by decide +kernel
theorem dL_law_1040 : decode cL_law 1040 = .ok (.iload_n 3, 1) := by decide +kernel
theorem dL_law_1041 : decode cL_law 1041 = .ok (.iconst 1, 1) := by decide +kernel
theorem dL_law_1042 : decode cL_law 1042 = .ok (.iadd, 1) := by decide +kernel
theorem dL_law_1043 : decode cL_law 1043 = .ok (.iaload, 1) := by decide +kernel
theorem dL_law_1044 : decode cL_law 1044 = .ok (.aload_n 0, 1) := by decide +kernel
theorem dL_law_1045 : decode cL_law 1045 = .ok (.iload_n 3, 1) := by decide +kernel
theorem dL_law_1046 : decode cL_law 1046 = .ok (.iconst 2, 1) := by decide +kernel
theorem dL_law_1047 : decode cL_law 1047 = .ok (.iadd, 1) := by decide +kernel
theorem dL_law_1048 : decode cL_law 1048 = .ok (.iaload, 1) := by decide +kernel
theorem dL_law_1049 : decode cL_law 1049 = .ok (.invokevirtual 131, 3) := by decide +kernel
theorem dL_law_1052 : decode cL_law 1052 = .ok (.aload_n 2, 1) := by decide +kernel
theorem dL_law_1053 : decode cL_law 1053 = .ok (.aload_n 0, 1) := by decide +kernel
theorem dL_law_1054 : decode cL_law 1054 = .ok (.iload_n 3, 1) := by decide +kernel
theorem dL_law_1055 : decode cL_law 1055 = .ok (.iconst 1, 1) := by decide +kernel
theorem dL_law_1056 : decode cL_law 1056 = .ok (.iadd, 1) := by decide +kernel
theorem dL_law_1057 : decode cL_law 1057 = .ok (.iaload, 1) := by decide +kernel
theorem dL_law_1058 : decode cL_law 1058 = .ok (.aload_n 0, 1) := by decide +kernel
theorem dL_law_1059 : decode cL_law 1059 = .ok (.iload_n 3, 1) := by decide +kernel
theorem dL_law_1060 : decode cL_law 1060 = .ok (.iconst 2, 1) := by decide +kernel
theorem dL_law_1061 : decode cL_law 1061 = .ok (.iadd, 1) := by decide +kernel
theorem dL_law_1062 : decode cL_law 1062 = .ok (.iaload, 1) := by decide +kernel
theorem dL_law_1063 : decode cL_law 1063 = .ok (.invokevirtual 134, 3) := by decide +kernel
theorem dL_law_1066 : decode cL_law 1066 = .ok (.if_icmp .eq 150, 3) := by decide +kernel
theorem dL_law_1069 : decode cL_law 1069 = .ok (.iconst 0, 1) := by decide +kernel
theorem dL_law_1070 : decode cL_law 1070 = .ok (.ireturn, 1) := by decide +kernel
theorem dL_law_1071 : decode cL_law 1071 = .ok (.aload_n 1, 1) := by decide +kernel
theorem dL_law_1072 : decode cL_law 1072 = .ok (.aload_n 0, 1) := by decide +kernel
theorem dL_law_1073 : decode cL_law 1073 = .ok (.iload_n 3, 1) := by decide +kernel
theorem dL_law_1074 : decode cL_law 1074 = .ok (.iconst 1, 1) := by decide +kernel
theorem dL_law_1075 : decode cL_law 1075 = .ok (.iadd, 1) := by decide +kernel
theorem dL_law_1076 : decode cL_law 1076 = .ok (.iaload, 1) := by decide +kernel
theorem dL_law_1077 : decode cL_law 1077 = .ok (.invokevirtual 135, 3) := by decide +kernel
theorem dL_law_1080 : decode cL_law 1080 = .ok (.aload_n 2, 1) := by decide +kernel
theorem dL_law_1081 : decode cL_law 1081 = .ok (.aload_n 0, 1) := by decide +kernel
theorem dL_law_1082 : decode cL_law 1082 = .ok (.iload_n 3, 1) := by decide +kernel
theorem dL_law_1083 : decode cL_law 1083 = .ok (.iconst 1, 1) := by decide +kernel
theorem dL_law_1084 : decode cL_law 1084 = .ok (.iadd, 1) := by decide +kernel
theorem dL_law_1085 : decode cL_law 1085 = .ok (.iaload, 1) := by decide +kernel
theorem dL_law_1086 : decode cL_law 1086 = .ok (.invokevirtual 138, 3) := by decide +kernel
theorem dL_law_1089 : decode cL_law 1089 = .ok (.if_icmp .eq 127, 3) := by decide +kernel
theorem dL_law_1092 : decode cL_law 1092 = .ok (.iconst 0, 1) := by decide +kernel
theorem dL_law_1093 : decode cL_law 1093 = .ok (.ireturn, 1) := by decide +kernel
theorem dL_law_1094 : decode cL_law 1094 = .ok (.aload_n 1, 1) := by decide +kernel
theorem dL_law_1095 : decode cL_law 1095 = .ok (.aload_n 0, 1) := by decide +kernel
theorem dL_law_1096 : decode cL_law 1096 = .ok (.iload_n 3, 1) := by decide +kernel
theorem dL_law_1097 : decode cL_law 1097 = .ok (.iconst 1, 1) := by decide +kernel
theorem dL_law_1098 : decode cL_law 1098 = .ok (.iadd, 1) := by decide +kernel
theorem dL_law_1099 : decode cL_law 1099 = .ok (.iaload, 1) := by decide +kernel
theorem dL_law_1100 : decode cL_law 1100 = .ok (.aload_n 0, 1) := by decide +kernel
theorem dL_law_1101 : decode cL_law 1101 = .ok (.iload_n 3, 1) := by decide +kernel
theorem dL_law_1102 : decode cL_law 1102 = .ok (.iconst 2, 1) := by decide +kernel
theorem dL_law_1103 : decode cL_law 1103 = .ok (.iadd, 1) := by decide +kernel
theorem dL_law_1104 : decode cL_law 1104 = .ok (.iaload, 1) := by decide +kernel
theorem dL_law_1105 : decode cL_law 1105 = .ok (.aload_n 0, 1) := by decide +kernel
theorem dL_law_1106 : decode cL_law 1106 = .ok (.iload_n 3, 1) := by decide +kernel
theorem dL_law_1107 : decode cL_law 1107 = .ok (.iconst 3, 1) := by decide +kernel
theorem dL_law_1108 : decode cL_law 1108 = .ok (.iadd, 1) := by decide +kernel
theorem dL_law_1109 : decode cL_law 1109 = .ok (.iaload, 1) := by decide +kernel
theorem dL_law_1110 : decode cL_law 1110 = .ok (.aload_n 0, 1) := by decide +kernel
theorem dL_law_1111 : decode cL_law 1111 = .ok (.iload_n 3, 1) := by decide +kernel
theorem dL_law_1112 : decode cL_law 1112 = .ok (.iconst 4, 1) := by decide +kernel
theorem dL_law_1113 : decode cL_law 1113 = .ok (.iadd, 1) := by decide +kernel
theorem dL_law_1114 : decode cL_law 1114 = .ok (.iaload, 1) := by decide +kernel
theorem dL_law_1115 : decode cL_law 1115 = .ok (.invokevirtual 139, 3) := by decide +kernel
theorem dL_law_1118 : decode cL_law 1118 = .ok (.aload_n 2, 1) := by decide +kernel
theorem dL_law_1119 : decode cL_law 1119 = .ok (.aload_n 0, 1) := by decide +kernel
theorem dL_law_1120 : decode cL_law 1120 = .ok (.iload_n 3, 1) := by decide +kernel
theorem dL_law_1121 : decode cL_law 1121 = .ok (.iconst 1, 1) := by decide +kernel
theorem dL_law_1122 : decode cL_law 1122 = .ok (.iadd, 1) := by decide +kernel
theorem dL_law_1123 : decode cL_law 1123 = .ok (.iaload, 1) := by decide +kernel
theorem dL_law_1124 : decode cL_law 1124 = .ok (.aload_n 0, 1) := by decide +kernel
theorem dL_law_1125 : decode cL_law 1125 = .ok (.iload_n 3, 1) := by decide +kernel
theorem dL_law_1126 : decode cL_law 1126 = .ok (.iconst 2, 1) := by decide +kernel
theorem dL_law_1127 : decode cL_law 1127 = .ok (.iadd, 1) := by decide +kernel
theorem dL_law_1128 : decode cL_law 1128 = .ok (.iaload, 1) := by decide +kernel
theorem dL_law_1129 : decode cL_law 1129 = .ok (.aload_n 0, 1) := by decide +kernel
theorem dL_law_1130 : decode cL_law 1130 = .ok (.iload_n 3, 1) := by decide +kernel
theorem dL_law_1131 : decode cL_law 1131 = .ok (.iconst 3, 1) := by decide +kernel
theorem dL_law_1132 : decode cL_law 1132 = .ok (.iadd, 1) := by decide +kernel
theorem dL_law_1133 : decode cL_law 1133 = .ok (.iaload, 1) := by decide +kernel
theorem dL_law_1134 : decode cL_law 1134 = .ok (.aload_n 0, 1) := by decide +kernel
theorem dL_law_1135 : decode cL_law 1135 = .ok (.iload_n 3, 1) := by decide +kernel
theorem dL_law_1136 : decode cL_law 1136 = .ok (.iconst 4, 1) := by decide +kernel
theorem dL_law_1137 : decode cL_law 1137 = .ok (.iadd, 1) := by decide +kernel
theorem dL_law_1138 : decode cL_law 1138 = .ok (.iaload, 1) := by decide +kernel
theorem dL_law_1139 : decode cL_law 1139 = .ok (.invokevirtual 142, 3) := by decide +kernel
theorem dL_law_1142 : decode cL_law 1142 = .ok (.if_icmp .eq 74, 3) := by decide +kernel
theorem dL_law_1145 : decode cL_law 1145 = .ok (.iconst 0, 1) := by decide +kernel
theorem dL_law_1146 : decode cL_law 1146 = .ok (.ireturn, 1) := by decide +kernel
theorem dL_law_1147 : decode cL_law 1147 = .ok (.aload_n 1, 1) := by decide +kernel
theorem dL_law_1148 : decode cL_law 1148 = .ok (.aload_n 0, 1) := by decide +kernel
theorem dL_law_1149 : decode cL_law 1149 = .ok (.iload_n 3, 1) := by decide +kernel
theorem dL_law_1150 : decode cL_law 1150 = .ok (.iconst 1, 1) := by decide +kernel
theorem dL_law_1151 : decode cL_law 1151 = .ok (.iadd, 1) := by decide +kernel
theorem dL_law_1152 : decode cL_law 1152 = .ok (.iaload, 1) := by decide +kernel
theorem dL_law_1153 : decode cL_law 1153 = .ok (.invokevirtual 143, 3) := by decide +kernel
theorem dL_law_1156 : decode cL_law 1156 = .ok (.aload_n 2, 1) := by decide +kernel
theorem dL_law_1157 : decode cL_law 1157 = .ok (.aload_n 0, 1) := by decide +kernel
theorem dL_law_1158 : decode cL_law 1158 = .ok (.iload_n 3, 1) := by decide +kernel
theorem dL_law_1159 : decode cL_law 1159 = .ok (.iconst 1, 1) := by decide +kernel
theorem dL_law_1160 : decode cL_law 1160 = .ok (.iadd, 1) := by decide +kernel
theorem dL_law_1161 : decode cL_law 1161 = .ok (.iaload, 1) := by decide +kernel
theorem dL_law_1162 : decode cL_law 1162 = .ok (.invokevirtual 146, 3) := by decide +kernel
theorem dL_law_1165 : decode cL_law 1165 = .ok (.if_icmp .eq 51, 3) := by decide +kernel
theorem dL_law_1168 : decode cL_law 1168 = .ok (.iconst 0, 1) := by decide +kernel
theorem dL_law_1169 : decode cL_law 1169 = .ok (.ireturn, 1) := by decide +kernel
theorem dL_law_1170 : decode cL_law 1170 = .ok (.aload_n 1, 1) := by decide +kernel
theorem dL_law_1171 : decode cL_law 1171 = .ok (.aload_n 0, 1) := by decide +kernel
theorem dL_law_1172 : decode cL_law 1172 = .ok (.iload_n 3, 1) := by decide +kernel
theorem dL_law_1173 : decode cL_law 1173 = .ok (.iconst 1, 1) := by decide +kernel
theorem dL_law_1174 : decode cL_law 1174 = .ok (.iadd, 1) := by decide +kernel
theorem dL_law_1175 : decode cL_law 1175 = .ok (.iaload, 1) := by decide +kernel
theorem dL_law_1176 : decode cL_law 1176 = .ok (.invokevirtual 147, 3) := by decide +kernel
theorem dL_law_1179 : decode cL_law 1179 = .ok (.aload_n 2, 1) := by decide +kernel
theorem dL_law_1180 : decode cL_law 1180 = .ok (.aload_n 0, 1) := by decide +kernel
theorem dL_law_1181 : decode cL_law 1181 = .ok (.iload_n 3, 1) := by decide +kernel
theorem dL_law_1182 : decode cL_law 1182 = .ok (.iconst 1, 1) := by decide +kernel
theorem dL_law_1183 : decode cL_law 1183 = .ok (.iadd, 1) := by decide +kernel
theorem dL_law_1184 : decode cL_law 1184 = .ok (.iaload, 1) := by decide +kernel
theorem dL_law_1185 : decode cL_law 1185 = .ok (.invokevirtual 150, 3) := by decide +kernel
theorem dL_law_1188 : decode cL_law 1188 = .ok (.if_icmp .eq 28, 3) := by decide +kernel
theorem dL_law_1191 : decode cL_law 1191 = .ok (.iconst 0, 1) := by decide +kernel
theorem dL_law_1192 : decode cL_law 1192 = .ok (.ireturn, 1) := by decide +kernel
theorem dL_law_1193 : decode cL_law 1193 = .ok (.aload_n 1, 1) := by decide +kernel
theorem dL_law_1194 : decode cL_law 1194 = .ok (.aload_n 0, 1) := by decide +kernel
theorem dL_law_1195 : decode cL_law 1195 = .ok (.iload_n 3, 1) := by decide +kernel
theorem dL_law_1196 : decode cL_law 1196 = .ok (.iconst 1, 1) := by decide +kernel
theorem dL_law_1197 : decode cL_law 1197 = .ok (.iadd, 1) := by decide +kernel
theorem dL_law_1198 : decode cL_law 1198 = .ok (.iaload, 1) := by decide +kernel
theorem dL_law_1199 : decode cL_law 1199 = .ok (.invokevirtual 151, 3) := by decide +kernel
theorem dL_law_1202 : decode cL_law 1202 = .ok (.aload_n 2, 1) := by decide +kernel
theorem dL_law_1203 : decode cL_law 1203 = .ok (.aload_n 0, 1) := by decide +kernel
theorem dL_law_1204 : decode cL_law 1204 = .ok (.iload_n 3, 1) := by decide +kernel
theorem dL_law_1205 : decode cL_law 1205 = .ok (.iconst 1, 1) := by decide +kernel
theorem dL_law_1206 : decode cL_law 1206 = .ok (.iadd, 1) := by decide +kernel
theorem dL_law_1207 : decode cL_law 1207 = .ok (.iaload, 1) := by decide +kernel
theorem dL_law_1208 : decode cL_law 1208 = .ok (.invokevirtual 154, 3) := by decide +kernel
theorem dL_law_1211 : decode cL_law 1211 = .ok (.if_icmp .eq 5, 3) := by decide +kernel
theorem dL_law_1214 : decode cL_law 1214 = .ok (.iconst 0, 1) := by decide +kernel
theorem dL_law_1215 : decode cL_law 1215 = .ok (.ireturn, 1) := by decide +kernel
theorem dL_law_1216 : decode cL_law 1216 = .ok (.iinc 3 6, 3) := by decide +kernel
theorem dL_law_1219 : decode cL_law 1219 = .ok (.goto (-1201), 3) := by decide +kernel
theorem dL_law_1222 : decode cL_law 1222 = .ok (.iconst 1, 1) := by decide +kernel
theorem dL_law_1223 : decode cL_law 1223 = .ok (.ireturn, 1) := by decide +kernel
