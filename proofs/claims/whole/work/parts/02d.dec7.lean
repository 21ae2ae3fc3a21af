theorem dX7_init_0 : decode cX7_init 0 = .ok (.aload_n 0, 1) := by decide +kernel
theorem dX7_init_1 : decode cX7_init 1 = .ok (.invokespecial 1, 3) := by decide +kernel
theorem dX7_init_4 : decode cX7_init 4 = .ok (.aload_n 0, 1) := by decide +kernel
theorem dX7_init_5 : decode cX7_init 5 = .ok (.new 7, 3) := by decide +kernel
theorem dX7_init_8 : decode cX7_init 8 = .ok (.dup, 1) := by decide +kernel
theorem dX7_init_9 : decode cX7_init 9 = .ok (.invokespecial 9, 3) := by decide +kernel
theorem dX7_init_12 : decode cX7_init 12 = .ok (.putfield 10, 3) := by decide +kernel
theorem dX7_init_15 : decode cX7_init 15 = .ok (.aload_n 0, 1) := by decide +kernel
theorem dX7_init_16 : decode cX7_init 16 = .ok (.new 16, 3) := by decide +kernel
theorem dX7_init_19 : decode cX7_init 19 = .ok (.dup, 1) := by decide +kernel
theorem dX7_init_20 : decode cX7_init 20 = .ok (.invokespecial 18, 3) := by decide +kernel
theorem dX7_init_23 : decode cX7_init 23 = .ok (.putfield 19, 3) := by decide +kernel
theorem dX7_init_26 : decode cX7_init 26 = .ok (.aload_n 0, 1) := by decide +kernel
theorem dX7_init_27 : decode cX7_init 27 = .ok (.new 16, 3) := by decide +kernel
theorem dX7_init_30 : decode cX7_init 30 = .ok (.dup, 1) := by decide +kernel
theorem dX7_init_31 : decode cX7_init 31 = .ok (.invokespecial 18, 3) := by decide +kernel
theorem dX7_init_34 : decode cX7_init 34 = .ok (.putfield 23, 3) := by decide +kernel
theorem dX7_init_37 : decode cX7_init 37 = .ok (.aload_n 0, 1) := by decide +kernel
theorem dX7_init_38 : decode cX7_init 38 = .ok (.iconst 4, 1) := by decide +kernel
theorem dX7_init_39 : decode cX7_init 39 = .ok (.anewarray 16, 3) := by decide +kernel
theorem dX7_init_42 : decode cX7_init 42 = .ok (.putfield 26, 3) := by decide +kernel
theorem dX7_init_45 : decode cX7_init 45 = .ok (.aload_n 0, 1) := by decide +kernel
theorem dX7_init_46 : decode cX7_init 46 = .ok (.bipush 6, 2) := by decide +kernel
theorem dX7_init_48 : decode cX7_init 48 = .ok (.anewarray 30, 3) := by decide +kernel
theorem dX7_init_51 : decode cX7_init 51 = .ok (.putfield 32, 3) := by decide +kernel
theorem dX7_init_54 : decode cX7_init 54 = .ok (.aload_n 0, 1) := by decide +kernel
theorem dX7_init_55 : decode cX7_init 55 = .ok (.iconst 0, 1) := by decide +kernel
theorem dX7_init_56 : decode cX7_init 56 = .ok (.putfield 36, 3) := by decide +kernel
theorem dX7_init_59 : decode cX7_init 59 = .ok (.aload_n 0, 1) := by decide +kernel
theorem dX7_init_60 : decode cX7_init 60 = .ok (.new 40, 3) := by decide +kernel
theorem dX7_init_63 : decode cX7_init 63 = .ok (.dup, 1) := by decide +kernel
theorem dX7_init_64 : decode cX7_init 64 = .ok (.aload_n 0, 1) := by decide +kernel
theorem dX7_init_65 : decode cX7_init 65 = .ok (.getfield 10, 3) := by decide +kernel
theorem dX7_init_68 : decode cX7_init 68 = .ok (.aload_n 0, 1) := by decide +kernel
theorem dX7_init_69 : decode cX7_init 69 = .ok (.getfield 23, 3) := by decide +kernel
theorem dX7_init_72 : decode cX7_init 72 = .ok (.invokespecial 42, 3) := by decide +kernel
theorem dX7_init_75 : decode cX7_init 75 = .ok (.putfield 45, 3) := by decide +kernel
theorem dX7_init_78 : decode cX7_init 78 = .ok (.aload_n 0, 1) := by decide +kernel
theorem dX7_init_79 : decode cX7_init 79 = .ok (.new 49, 3) := by decide +kernel
theorem dX7_init_82 : decode cX7_init 82 = .ok (.dup, 1) := by decide +kernel
theorem dX7_init_83 : decode cX7_init 83 = .ok (.aload_n 0, 1) := by decide +kernel
theorem dX7_init_84 : decode cX7_init 84 = .ok (.getfield 10, 3) := by decide +kernel
theorem dX7_init_87 : decode cX7_init 87 = .ok (.invokespecial 51, 3) := by decide +kernel
theorem dX7_init_90 : decode cX7_init 90 = .ok (.putfield 54, 3) := by decide +kernel
theorem dX7_init_93 : decode cX7_init 93 = .ok (.aload_n 0, 1) := by decide +kernel
theorem dX7_init_94 : decode cX7_init 94 = .ok (.new 58, 3) := by decide +kernel
theorem dX7_init_97 : decode cX7_init 97 = .ok (.dup, 1) := by decide +kernel
theorem dX7_init_98 : decode cX7_init 98 = .ok (.aload_n 0, 1) := by decide +kernel
theorem dX7_init_99 : decode cX7_init 99 = .ok (.getfield 23, 3) := by decide +kernel
theorem dX7_init_102 : decode cX7_init 102 = .ok (.invokespecial 60, 3) := by decide +kernel
theorem dX7_init_105 : decode cX7_init 105 = .ok (.putfield 63, 3) := by decide +kernel
theorem dX7_init_108 : decode cX7_init 108 = .ok (.aload_n 0, 1) := by decide +kernel
theorem dX7_init_109 : decode cX7_init 109 = .ok (.new 67, 3) := by decide +kernel
theorem dX7_init_112 : decode cX7_init 112 = .ok (.dup, 1) := by decide +kernel
theorem dX7_init_113 : decode cX7_init 113 = .ok (.aload_n 0, 1) := by decide +kernel
theorem dX7_init_114 : decode cX7_init 114 = .ok (.getfield 23, 3) := by decide +kernel
theorem dX7_init_117 : decode cX7_init 117 = .ok (.invokespecial 69, 3) := by decide +kernel
theorem dX7_init_120 : decode cX7_init 120 = .ok (.putfield 70, 3) := by decide +kernel
theorem dX7_init_123 : decode cX7_init 123 = .ok (.return_, 1) := by decide +kernel
theorem dX7_feed_0 : decode cX7_feed 0 = .ok (.aload_n 0, 1) := by decide +kernel
theorem dX7_feed_1 : decode cX7_feed 1 = .ok (.getfield 10, 3) := by decide +kernel
theorem dX7_feed_4 : decode cX7_feed 4 = .ok (.getfield 74, 3) := by decide +kernel
theorem dX7_feed_7 : decode cX7_feed 7 = .ok (.sipush 380, 3) := by decide +kernel
theorem dX7_feed_10 : decode cX7_feed 10 = .ok (.if_icmp .le 5, 3) := by decide +kernel
theorem dX7_feed_13 : decode cX7_feed 13 = .ok (.iconst (-1), 1) := by decide +kernel
theorem dX7_feed_14 : decode cX7_feed 14 = .ok (.ireturn, 1) := by decide +kernel
theorem dX7_feed_15 : decode cX7_feed 15 = .ok (.aload_n 0, 1) := by decide +kernel
theorem dX7_feed_16 : decode cX7_feed 16 = .ok (.getfield 10, 3) := by decide +kernel
theorem dX7_feed_19 : decode cX7_feed 19 = .ok (.iload_n 1, 1) := by decide +kernel
theorem dX7_feed_20 : decode cX7_feed 20 = .ok (.invokevirtual 77, 3) := by decide +kernel
theorem dX7_feed_23 : decode cX7_feed 23 = .ok (.aload_n 0, 1) := by decide +kernel
theorem dX7_feed_24 : decode cX7_feed 24 = .ok (.getfield 10, 3) := by decide +kernel
theorem dX7_feed_27 : decode cX7_feed 27 = .ok (.iload_n 2, 1) := by decide +kernel
theorem dX7_feed_28 : decode cX7_feed 28 = .ok (.invokevirtual 77, 3) := by decide +kernel
theorem dX7_feed_31 : decode cX7_feed 31 = .ok (.aload_n 0, 1) := by decide +kernel
theorem dX7_feed_32 : decode cX7_feed 32 = .ok (.getfield 10, 3) := by decide +kernel
theorem dX7_feed_35 : decode cX7_feed 35 = .ok (.iload_n 3, 1) := by decide +kernel
theorem dX7_feed_36 : decode cX7_feed 36 = .ok (.invokevirtual 77, 3) := by decide +kernel
theorem dX7_feed_39 : decode cX7_feed 39 = .ok (.aload_n 0, 1) := by decide +kernel
theorem dX7_feed_40 : decode cX7_feed 40 = .ok (.getfield 10, 3) := by decide +kernel
theorem dX7_feed_43 : decode cX7_feed 43 = .ok (.iload 4, 2) := by decide +kernel
theorem dX7_feed_45 : decode cX7_feed 45 = .ok (.invokevirtual 77, 3) := by decide +kernel
theorem dX7_feed_48 : decode cX7_feed 48 = .ok (.aload_n 0, 1) := by decide +kernel
theorem dX7_feed_49 : decode cX7_feed 49 = .ok (.getfield 10, 3) := by decide +kernel
theorem dX7_feed_52 : decode cX7_feed 52 = .ok (.iload 5, 2) := by decide +kernel
theorem dX7_feed_54 : decode cX7_feed 54 = .ok (.invokevirtual 77, 3) := by decide +kernel
theorem dX7_feed_57 : decode cX7_feed 57 = .ok (.aload_n 0, 1) := by decide +kernel
theorem dX7_feed_58 : decode cX7_feed 58 = .ok (.getfield 10, 3) := by decide +kernel
theorem dX7_feed_61 : decode cX7_feed 61 = .ok (.getfield 74, 3) := by decide +kernel
theorem dX7_feed_64 : decode cX7_feed 64 = .ok (.ireturn, 1) := by decide +kernel
theorem dX7_end_0 : decode cX7_end 0 = .ok (.iload_n 1, 1) := by decide +kernel
theorem dX7_end_1 : decode cX7_end 1 = .ok (.ifCond .lt 14, 3) := by decide +kernel
theorem dX7_end_4 : decode cX7_end 4 = .ok (.iload_n 1, 1) := by decide +kernel
theorem dX7_end_5 : decode cX7_end 5 = .ok (.aload_n 0, 1) := by decide +kernel
theorem dX7_end_6 : decode cX7_end 6 = .ok (.getfield 10, 3) := by decide +kernel
theorem dX7_end_9 : decode cX7_end 9 = .ok (.getfield 74, 3) := by decide +kernel
theorem dX7_end_12 : decode cX7_end 12 = .ok (.if_icmp .le 5, 3) := by decide +kernel
theorem dX7_end_15 : decode cX7_end 15 = .ok (.iconst (-1), 1) := by decide +kernel
theorem dX7_end_16 : decode cX7_end 16 = .ok (.ireturn, 1) := by decide +kernel
theorem dX7_end_17 : decode cX7_end 17 = .ok (.aload_n 0, 1) := by decide +kernel
theorem dX7_end_18 : decode cX7_end 18 = .ok (.getfield 10, 3) := by decide +kernel
theorem dX7_end_21 : decode cX7_end 21 = .ok (.iload_n 1, 1) := by decide +kernel
theorem dX7_end_22 : decode cX7_end 22 = .ok (.putfield 74, 3) := by decide +kernel
theorem dX7_end_25 : decode cX7_end 25 = .ok (.iload_n 1, 1) := by decide +kernel
theorem dX7_end_26 : decode cX7_end 26 = .ok (.ireturn, 1) := by decide +kernel
theorem dX7_stair_0 : decode cX7_stair 0 = .ok (.aload_n 0, 1) := by decide +kernel
theorem dX7_stair_1 : decode cX7_stair 1 = .ok (.getfield 45, 3) := by decide +kernel
theorem dX7_stair_4 : decode cX7_stair 4 = .ok (.invokevirtual 81, 3) := by decide +kernel
theorem dX7_stair_7 : decode cX7_stair 7 = .ok (.istore_n 1, 1) := by decide +kernel
theorem dX7_stair_8 : decode cX7_stair 8 = .ok (.aload_n 0, 1) := by decide +kernel
theorem dX7_stair_9 : decode cX7_stair 9 = .ok (.getfield 10, 3) := by decide +kernel
theorem dX7_stair_12 : decode cX7_stair 12 = .ok (.iconst 0, 1) := by decide +kernel
theorem dX7_stair_13 : decode cX7_stair 13 = .ok (.putfield 74, 3) := by decide +kernel
theorem dX7_stair_16 : decode cX7_stair 16 = .ok (.iload_n 1, 1) := by decide +kernel
theorem dX7_stair_17 : decode cX7_stair 17 = .ok (.ifCond .eq 8, 3) := by decide +kernel
theorem dX7_stair_20 : decode cX7_stair 20 = .ok (.bipush (-2), 2) := by decide +kernel
theorem dX7_stair_22 : decode cX7_stair 22 = .ok (.iload_n 1, 1) := by decide +kernel
theorem dX7_stair_23 : decode cX7_stair 23 = .ok (.isub, 1) := by decide +kernel
theorem dX7_stair_24 : decode cX7_stair 24 = .ok (.ireturn, 1) := by decide +kernel
theorem dX7_stair_25 : decode cX7_stair 25 = .ok (.aload_n 0, 1) := by decide +kernel
theorem dX7_stair_26 : decode cX7_stair 26 = .ok (.getfield 23, 3) := by decide +kernel
theorem dX7_stair_29 : decode cX7_stair 29 = .ok (.aload_n 0, 1) := by decide +kernel
theorem dX7_stair_30 : decode cX7_stair 30 = .ok (.getfield 19, 3) := by decide +kernel
theorem dX7_stair_33 : decode cX7_stair 33 = .ok (.getfield 85, 3) := by decide +kernel
theorem dX7_stair_36 : decode cX7_stair 36 = .ok (.putfield 85, 3) := by decide +kernel
theorem dX7_stair_39 : decode cX7_stair 39 = .ok (.aload_n 0, 1) := by decide +kernel
theorem dX7_stair_40 : decode cX7_stair 40 = .ok (.getfield 23, 3) := by decide +kernel
theorem dX7_stair_43 : decode cX7_stair 43 = .ok (.aload_n 0, 1) := by decide +kernel
theorem dX7_stair_44 : decode cX7_stair 44 = .ok (.getfield 19, 3) := by decide +kernel
theorem dX7_stair_47 : decode cX7_stair 47 = .ok (.getfield 88, 3) := by decide +kernel
theorem dX7_stair_50 : decode cX7_stair 50 = .ok (.putfield 88, 3) := by decide +kernel
theorem dX7_stair_53 : decode cX7_stair 53 = .ok (.aload_n 0, 1) := by decide +kernel
theorem dX7_stair_54 : decode cX7_stair 54 = .ok (.getfield 19, 3) := by decide +kernel
theorem dX7_stair_57 : decode cX7_stair 57 = .ok (.aload_n 0, 1) := by decide +kernel
theorem dX7_stair_58 : decode cX7_stair 58 = .ok (.getfield 23, 3) := by decide +kernel
theorem dX7_stair_61 : decode cX7_stair 61 = .ok (.invokevirtual 91, 3) := by decide +kernel
theorem dX7_stair_64 : decode cX7_stair 64 = .ok (.aload_n 0, 1) := by decide +kernel
theorem dX7_stair_65 : decode cX7_stair 65 = .ok (.getfield 63, 3) := by decide +kernel
theorem dX7_stair_68 : decode cX7_stair 68 = .ok (.invokevirtual 94, 3) := by decide +kernel
theorem dX7_stair_71 : decode cX7_stair 71 = .ok (.aload_n 0, 1) := by decide +kernel
theorem dX7_stair_72 : decode cX7_stair 72 = .ok (.getfield 19, 3) := by decide +kernel
theorem dX7_stair_75 : decode cX7_stair 75 = .ok (.getfield 97, 3) := by decide +kernel
theorem dX7_stair_78 : decode cX7_stair 78 = .ok (.ireturn, 1) := by decide +kernel
theorem dX7_rule_0 : decode cX7_rule 0 = .ok (.aload_n 0, 1) := by decide +kernel
theorem dX7_rule_1 : decode cX7_rule 1 = .ok (.getfield 36, 3) := by decide +kernel
theorem dX7_rule_4 : decode cX7_rule 4 = .ok (.bipush 6, 2) := by decide +kernel
theorem dX7_rule_6 : decode cX7_rule 6 = .ok (.if_icmp .lt 5, 3) := by decide +kernel
theorem dX7_rule_9 : decode cX7_rule 9 = .ok (.iconst (-1), 1) := by decide +kernel
theorem dX7_rule_10 : decode cX7_rule 10 = .ok (.ireturn, 1) := by decide +kernel
theorem dX7_rule_11 : decode cX7_rule 11 = .ok (.aload_n 0, 1) := by decide +kernel
theorem dX7_rule_12 : decode cX7_rule 12 = .ok (.getfield 54, 3) := by decide +kernel
theorem dX7_rule_15 : decode cX7_rule 15 = .ok (.invokevirtual 100, 3) := by decide +kernel
theorem dX7_rule_18 : decode cX7_rule 18 = .ok (.astore_n 1, 1) := by decide +kernel
theorem dX7_rule_19 : decode cX7_rule 19 = .ok (.aload_n 0, 1) := by decide +kernel
theorem dX7_rule_20 : decode cX7_rule 20 = .ok (.getfield 10, 3) := by decide +kernel
theorem dX7_rule_23 : decode cX7_rule 23 = .ok (.iconst 0, 1) := by decide +kernel
theorem dX7_rule_24 : decode cX7_rule 24 = .ok (.putfield 74, 3) := by decide +kernel
theorem dX7_rule_27 : decode cX7_rule 27 = .ok (.aload_n 1, 1) := by decide +kernel
theorem dX7_rule_28 : decode cX7_rule 28 = .ok (.ifnonnull 14, 3) := by decide +kernel
theorem dX7_rule_31 : decode cX7_rule 31 = .ok (.bipush (-2), 2) := by decide +kernel
theorem dX7_rule_33 : decode cX7_rule 33 = .ok (.aload_n 0, 1) := by decide +kernel
theorem dX7_rule_34 : decode cX7_rule 34 = .ok (.getfield 10, 3) := by decide +kernel
theorem dX7_rule_37 : decode cX7_rule 37 = .ok (.getfield 104, 3) := by decide +kernel
theorem dX7_rule_40 : decode cX7_rule 40 = .ok (.isub, 1) := by decide +kernel
theorem dX7_rule_41 : decode cX7_rule 41 = .ok (.ireturn, 1) := by decide +kernel
theorem dX7_rule_42 : decode cX7_rule 42 = .ok (.aload_n 0, 1) := by decide +kernel
theorem dX7_rule_43 : decode cX7_rule 43 = .ok (.getfield 32, 3) := by decide +kernel
theorem dX7_rule_46 : decode cX7_rule 46 = .ok (.aload_n 0, 1) := by decide +kernel
theorem dX7_rule_47 : decode cX7_rule 47 = .ok (.getfield 36, 3) := by decide +kernel
theorem dX7_rule_50 : decode cX7_rule 50 = .ok (.aload_n 1, 1) := by decide +kernel
theorem dX7_rule_51 : decode cX7_rule 51 = .ok (.aastore, 1) := by decide +kernel
theorem dX7_rule_52 : decode cX7_rule 52 = .ok (.aload_n 0, 1) := by decide +kernel
theorem dX7_rule_53 : decode cX7_rule 53 = .ok (.dup, 1) := by decide +kernel
theorem dX7_rule_54 : decode cX7_rule 54 = .ok (.getfield 36, 3) := by decide +kernel
theorem dX7_rule_57 : decode cX7_rule 57 = .ok (.iconst 1, 1) := by decide +kernel
theorem dX7_rule_58 : decode cX7_rule 58 = .ok (.iadd, 1) := by decide +kernel
theorem dX7_rule_59 : decode cX7_rule 59 = .ok (.putfield 36, 3) := by decide +kernel
theorem dX7_rule_62 : decode cX7_rule 62 = .ok (.aload_n 0, 1) := by decide +kernel
theorem dX7_rule_63 : decode cX7_rule 63 = .ok (.getfield 36, 3) := by decide +kernel
theorem dX7_rule_66 : decode cX7_rule 66 = .ok (.iconst 1, 1) := by decide +kernel
theorem dX7_rule_67 : decode cX7_rule 67 = .ok (.isub, 1) := by decide +kernel
theorem dX7_rule_68 : decode cX7_rule 68 = .ok (.ireturn, 1) := by decide +kernel
theorem dX7_force_0 : decode cX7_force 0 = .ok (.iload_n 1, 1) := by decide +kernel
theorem dX7_force_1 : decode cX7_force 1 = .ok (.iconst (-1), 1) := by decide +kernel
theorem dX7_force_2 : decode cX7_force 2 = .ok (.if_icmp .lt 11, 3) := by decide +kernel
theorem dX7_force_5 : decode cX7_force 5 = .ok (.iload_n 1, 1) := by decide +kernel
theorem dX7_force_6 : decode cX7_force 6 = .ok (.aload_n 0, 1) := by decide +kernel
theorem dX7_force_7 : decode cX7_force 7 = .ok (.getfield 36, 3) := by decide +kernel
theorem dX7_force_10 : decode cX7_force 10 = .ok (.if_icmp .lt 6, 3) := by decide +kernel
theorem dX7_force_13 : decode cX7_force 13 = .ok (.bipush (-2), 2) := by decide +kernel
theorem dX7_force_15 : decode cX7_force 15 = .ok (.ireturn, 1) := by decide +kernel
theorem dX7_force_16 : decode cX7_force 16 = .ok (.aload_n 0, 1) := by decide +kernel
theorem dX7_force_17 : decode cX7_force 17 = .ok (.getfield 19, 3) := by decide +kernel
theorem dX7_force_20 : decode cX7_force 20 = .ok (.getfield 85, 3) := by decide +kernel
theorem dX7_force_23 : decode cX7_force 23 = .ok (.istore_n 2, 1) := by decide +kernel
theorem dX7_force_24 : decode cX7_force 24 = .ok (.aload_n 0, 1) := by decide +kernel
theorem dX7_force_25 : decode cX7_force 25 = .ok (.getfield 19, 3) := by decide +kernel
theorem dX7_force_28 : decode cX7_force 28 = .ok (.iload_n 1, 1) := by decide +kernel
theorem dX7_force_29 : decode cX7_force 29 = .ok (.putfield 85, 3) := by decide +kernel
theorem dX7_force_32 : decode cX7_force 32 = .ok (.aload_n 0, 1) := by decide +kernel
theorem dX7_force_33 : decode cX7_force 33 = .ok (.getfield 63, 3) := by decide +kernel
theorem dX7_force_36 : decode cX7_force 36 = .ok (.invokevirtual 94, 3) := by decide +kernel
theorem dX7_force_39 : decode cX7_force 39 = .ok (.iload_n 2, 1) := by decide +kernel
theorem dX7_force_40 : decode cX7_force 40 = .ok (.ireturn, 1) := by decide +kernel
theorem dX7_level_0 : decode cX7_level 0 = .ok (.aload_n 0, 1) := by decide +kernel
theorem dX7_level_1 : decode cX7_level 1 = .ok (.getfield 19, 3) := by decide +kernel
theorem dX7_level_4 : decode cX7_level 4 = .ok (.iload_n 1, 1) := by decide +kernel
theorem dX7_level_5 : decode cX7_level 5 = .ok (.invokevirtual 107, 3) := by decide +kernel
theorem dX7_level_8 : decode cX7_level 8 = .ok (.ifCond .ne 5, 3) := by decide +kernel
theorem dX7_level_11 : decode cX7_level 11 = .ok (.iconst (-1), 1) := by decide +kernel
theorem dX7_level_12 : decode cX7_level 12 = .ok (.ireturn, 1) := by decide +kernel
theorem dX7_level_13 : decode cX7_level 13 = .ok (.iload_n 2, 1) := by decide +kernel
theorem dX7_level_14 : decode cX7_level 14 = .ok (.tableswitch 84 0 3 #[30, 40, 50, 59], 30) := by decide +kernel
theorem dX7_level_44 : decode cX7_level 44 = .ok (.aload_n 0, 1) := by decide +kernel
theorem dX7_level_45 : decode cX7_level 45 = .ok (.getfield 19, 3) := by decide +kernel
theorem dX7_level_48 : decode cX7_level 48 = .ok (.getfield 111, 3) := by decide +kernel
theorem dX7_level_51 : decode cX7_level 51 = .ok (.iload_n 1, 1) := by decide +kernel
theorem dX7_level_52 : decode cX7_level 52 = .ok (.iaload, 1) := by decide +kernel
theorem dX7_level_53 : decode cX7_level 53 = .ok (.ireturn, 1) := by decide +kernel
theorem dX7_level_54 : decode cX7_level 54 = .ok (.aload_n 0, 1) := by decide +kernel
theorem dX7_level_55 : decode cX7_level 55 = .ok (.getfield 19, 3) := by decide +kernel
theorem dX7_level_58 : decode cX7_level 58 = .ok (.getfield 115, 3) := by decide +kernel
theorem dX7_level_61 : decode cX7_level 61 = .ok (.iload_n 1, 1) := by decide +kernel
theorem dX7_level_62 : decode cX7_level 62 = .ok (.iaload, 1) := by decide +kernel
theorem dX7_level_63 : decode cX7_level 63 = .ok (.ireturn, 1) := by decide +kernel
theorem dX7_level_64 : decode cX7_level 64 = .ok (.aload_n 0, 1) := by decide +kernel
theorem dX7_level_65 : decode cX7_level 65 = .ok (.getfield 19, 3) := by decide +kernel
theorem dX7_level_68 : decode cX7_level 68 = .ok (.iload_n 1, 1) := by decide +kernel
theorem dX7_level_69 : decode cX7_level 69 = .ok (.invokevirtual 118, 3) := by decide +kernel
theorem dX7_level_72 : decode cX7_level 72 = .ok (.ireturn, 1) := by decide +kernel
theorem dX7_level_73 : decode cX7_level 73 = .ok (.aload_n 0, 1) := by decide +kernel
theorem dX7_level_74 : decode cX7_level 74 = .ok (.getfield 19, 3) := by decide +kernel
theorem dX7_level_77 : decode cX7_level 77 = .ok (.iload_n 1, 1) := by decide +kernel
theorem dX7_level_78 : decode cX7_level 78 = .ok (.invokevirtual 122, 3) := by decide +kernel
theorem dX7_level_81 : decode cX7_level 81 = .ok (.ifCond .eq 15, 3) := by decide +kernel
theorem dX7_level_84 : decode cX7_level 84 = .ok (.aload_n 0, 1) := by decide +kernel
theorem dX7_level_85 : decode cX7_level 85 = .ok (.getfield 19, 3) := by decide +kernel
theorem dX7_level_88 : decode cX7_level 88 = .ok (.getfield 125, 3) := by decide +kernel
theorem dX7_level_91 : decode cX7_level 91 = .ok (.iload_n 1, 1) := by decide +kernel
theorem dX7_level_92 : decode cX7_level 92 = .ok (.iaload, 1) := by decide +kernel
theorem dX7_level_93 : decode cX7_level 93 = .ok (.goto 4, 3) := by decide +kernel
theorem dX7_level_96 : decode cX7_level 96 = .ok (.iconst (-1), 1) := by decide +kernel
theorem dX7_level_97 : decode cX7_level 97 = .ok (.ireturn, 1) := by decide +kernel
theorem dX7_level_98 : decode cX7_level 98 = .ok (.iconst (-1), 1) := by decide +kernel
theorem dX7_level_99 : decode cX7_level 99 = .ok (.ireturn, 1) := by decide +kernel
theorem dX7_barge_0 : decode cX7_barge 0 = .ok (.aload_n 0, 1) := by decide +kernel
theorem dX7_barge_1 : decode cX7_barge 1 = .ok (.getfield 19, 3) := by decide +kernel
theorem dX7_barge_4 : decode cX7_barge 4 = .ok (.iload_n 1, 1) := by decide +kernel
theorem dX7_barge_5 : decode cX7_barge 5 = .ok (.invokevirtual 128, 3) := by decide +kernel
theorem dX7_barge_8 : decode cX7_barge 8 = .ok (.ifCond .ne 5, 3) := by decide +kernel
theorem dX7_barge_11 : decode cX7_barge 11 = .ok (.iconst (-1), 1) := by decide +kernel
theorem dX7_barge_12 : decode cX7_barge 12 = .ok (.ireturn, 1) := by decide +kernel
theorem dX7_barge_13 : decode cX7_barge 13 = .ok (.iload_n 2, 1) := by decide +kernel
theorem dX7_barge_14 : decode cX7_barge 14 = .ok (.tableswitch 105 0 5 #[38, 48, 58, 68, 78, 88], 38) := by decide +kernel
theorem dX7_barge_52 : decode cX7_barge 52 = .ok (.aload_n 0, 1) := by decide +kernel
theorem dX7_barge_53 : decode cX7_barge 53 = .ok (.getfield 19, 3) := by decide +kernel
theorem dX7_barge_56 : decode cX7_barge 56 = .ok (.getfield 131, 3) := by decide +kernel
theorem dX7_barge_59 : decode cX7_barge 59 = .ok (.iload_n 1, 1) := by decide +kernel
theorem dX7_barge_60 : decode cX7_barge 60 = .ok (.iaload, 1) := by decide +kernel
theorem dX7_barge_61 : decode cX7_barge 61 = .ok (.ireturn, 1) := by decide +kernel
theorem dX7_barge_62 : decode cX7_barge 62 = .ok (.aload_n 0, 1) := by decide +kernel
theorem dX7_barge_63 : decode cX7_barge 63 = .ok (.getfield 19, 3) := by decide +kernel
theorem dX7_barge_66 : decode cX7_barge 66 = .ok (.getfield 134, 3) := by decide +kernel
theorem dX7_barge_69 : decode cX7_barge 69 = .ok (.iload_n 1, 1) := by decide +kernel
theorem dX7_barge_70 : decode cX7_barge 70 = .ok (.iaload, 1) := by decide +kernel
theorem dX7_barge_71 : decode cX7_barge 71 = .ok (.ireturn, 1) := by decide +kernel
theorem dX7_barge_72 : decode cX7_barge 72 = .ok (.aload_n 0, 1) := by decide +kernel
theorem dX7_barge_73 : decode cX7_barge 73 = .ok (.getfield 19, 3) := by decide +kernel
theorem dX7_barge_76 : decode cX7_barge 76 = .ok (.getfield 137, 3) := by decide +kernel
theorem dX7_barge_79 : decode cX7_barge 79 = .ok (.iload_n 1, 1) := by decide +kernel
theorem dX7_barge_80 : decode cX7_barge 80 = .ok (.iaload, 1) := by decide +kernel
theorem dX7_barge_81 : decode cX7_barge 81 = .ok (.ireturn, 1) := by decide +kernel
theorem dX7_barge_82 : decode cX7_barge 82 = .ok (.aload_n 0, 1) := by decide +kernel
theorem dX7_barge_83 : decode cX7_barge 83 = .ok (.getfield 19, 3) := by decide +kernel
theorem dX7_barge_86 : decode cX7_barge 86 = .ok (.getfield 140, 3) := by decide +kernel
theorem dX7_barge_89 : decode cX7_barge 89 = .ok (.iload_n 1, 1) := by decide +kernel
theorem dX7_barge_90 : decode cX7_barge 90 = .ok (.iaload, 1) := by decide +kernel
theorem dX7_barge_91 : decode cX7_barge 91 = .ok (.ireturn, 1) := by decide +kernel
theorem dX7_barge_92 : decode cX7_barge 92 = .ok (.aload_n 0, 1) := by decide +kernel
theorem dX7_barge_93 : decode cX7_barge 93 = .ok (.getfield 19, 3) := by decide +kernel
theorem dX7_barge_96 : decode cX7_barge 96 = .ok (.getfield 143, 3) := by decide +kernel
theorem dX7_barge_99 : decode cX7_barge 99 = .ok (.iload_n 1, 1) := by decide +kernel
theorem dX7_barge_100 : decode cX7_barge 100 = .ok (.iaload, 1) := by decide +kernel
theorem dX7_barge_101 : decode cX7_barge 101 = .ok (.ireturn, 1) := by decide +kernel
theorem dX7_barge_102 : decode cX7_barge 102 = .ok (.aload_n 0, 1) := by decide +kernel
theorem dX7_barge_103 : decode cX7_barge 103 = .ok (.getfield 19, 3) := by decide +kernel
theorem dX7_barge_106 : decode cX7_barge 106 = .ok (.iload_n 1, 1) := by decide +kernel
theorem dX7_barge_107 : decode cX7_barge 107 = .ok (.invokevirtual 146, 3) := by decide +kernel
theorem dX7_barge_110 : decode cX7_barge 110 = .ok (.ifCond .eq 7, 3) := by decide +kernel
theorem dX7_barge_113 : decode cX7_barge 113 = .ok (.iconst 1, 1) := by decide +kernel
theorem dX7_barge_114 : decode cX7_barge 114 = .ok (.goto 4, 3) := by decide +kernel
theorem dX7_barge_117 : decode cX7_barge 117 = .ok (.iconst 0, 1) := by decide +kernel
theorem dX7_barge_118 : decode cX7_barge 118 = .ok (.ireturn, 1) := by decide +kernel
theorem dX7_barge_119 : decode cX7_barge 119 = .ok (.iconst (-1), 1) := by decide +kernel
theorem dX7_barge_120 : decode cX7_barge 120 = .ok (.ireturn, 1) := by decide +kernel
theorem dX7_tip_0 : decode cX7_tip 0 = .ok (.aload_n 0, 1) := by decide +kernel
theorem dX7_tip_1 : decode cX7_tip 1 = .ok (.iload_n 1, 1) := by decide +kernel
theorem dX7_tip_2 : decode cX7_tip 2 = .ok (.iload_n 2, 1) := by decide +kernel
theorem dX7_tip_3 : decode cX7_tip 3 = .ok (.iload_n 3, 1) := by decide +kernel
theorem dX7_tip_4 : decode cX7_tip 4 = .ok (.invokevirtual 149, 3) := by decide +kernel
theorem dX7_tip_7 : decode cX7_tip 7 = .ok (.istore 4, 2) := by decide +kernel
theorem dX7_tip_9 : decode cX7_tip 9 = .ok (.iload 4, 2) := by decide +kernel
theorem dX7_tip_11 : decode cX7_tip 11 = .ok (.ifCond .lt 23, 3) := by decide +kernel
theorem dX7_tip_14 : decode cX7_tip 14 = .ok (.aload_n 0, 1) := by decide +kernel
theorem dX7_tip_15 : decode cX7_tip 15 = .ok (.getfield 19, 3) := by decide +kernel
theorem dX7_tip_18 : decode cX7_tip 18 = .ok (.iload_n 1, 1) := by decide +kernel
theorem dX7_tip_19 : decode cX7_tip 19 = .ok (.iload_n 2, 1) := by decide +kernel
theorem dX7_tip_20 : decode cX7_tip 20 = .ok (.iload_n 3, 1) := by decide +kernel
theorem dX7_tip_21 : decode cX7_tip 21 = .ok (.invokestatic 153, 3) := by decide +kernel
theorem dX7_tip_24 : decode cX7_tip 24 = .ok (.invokevirtual 156, 3) := by decide +kernel
theorem dX7_tip_27 : decode cX7_tip 27 = .ok (.aload_n 0, 1) := by decide +kernel
theorem dX7_tip_28 : decode cX7_tip 28 = .ok (.getfield 63, 3) := by decide +kernel
theorem dX7_tip_31 : decode cX7_tip 31 = .ok (.invokevirtual 94, 3) := by decide +kernel
theorem dX7_tip_34 : decode cX7_tip 34 = .ok (.iload 4, 2) := by decide +kernel
theorem dX7_tip_36 : decode cX7_tip 36 = .ok (.ireturn, 1) := by decide +kernel
theorem dX7_may_0 : decode cX7_may 0 = .ok (.aload_n 0, 1) := by decide +kernel
theorem dX7_may_1 : decode cX7_may 1 = .ok (.getfield 19, 3) := by decide +kernel
theorem dX7_may_4 : decode cX7_may 4 = .ok (.iload_n 1, 1) := by decide +kernel
theorem dX7_may_5 : decode cX7_may 5 = .ok (.iload_n 2, 1) := by decide +kernel
theorem dX7_may_6 : decode cX7_may 6 = .ok (.iload_n 3, 1) := by decide +kernel
theorem dX7_may_7 : decode cX7_may 7 = .ok (.invokevirtual 159, 3) := by decide +kernel
theorem dX7_may_10 : decode cX7_may 10 = .ok (.ifCond .ne 5, 3) := by decide +kernel
theorem dX7_may_13 : decode cX7_may 13 = .ok (.iconst (-1), 1) := by decide +kernel
theorem dX7_may_14 : decode cX7_may 14 = .ok (.ireturn, 1) := by decide +kernel
theorem dX7_may_15 : decode cX7_may 15 = .ok (.aload_n 0, 1) := by decide +kernel
theorem dX7_may_16 : decode cX7_may 16 = .ok (.getfield 19, 3) := by decide +kernel
theorem dX7_may_19 : decode cX7_may 19 = .ok (.aload_n 0, 1) := by decide +kernel
theorem dX7_may_20 : decode cX7_may 20 = .ok (.invokevirtual 163, 3) := by decide +kernel
theorem dX7_may_23 : decode cX7_may 23 = .ok (.iload_n 1, 1) := by decide +kernel
theorem dX7_may_24 : decode cX7_may 24 = .ok (.iload_n 2, 1) := by decide +kernel
theorem dX7_may_25 : decode cX7_may 25 = .ok (.iload_n 3, 1) := by decide +kernel
theorem dX7_may_26 : decode cX7_may 26 = .ok (.invokevirtual 166, 3) := by decide +kernel
theorem dX7_may_29 : decode cX7_may 29 = .ok (.istore 4, 2) := by decide +kernel
theorem dX7_may_31 : decode cX7_may 31 = .ok (.iload 4, 2) := by decide +kernel
theorem dX7_may_33 : decode cX7_may 33 = .ok (.ifCond .ne 15, 3) := by decide +kernel
theorem dX7_may_36 : decode cX7_may 36 = .ok (.aload_n 0, 1) := by decide +kernel
theorem dX7_may_37 : decode cX7_may 37 = .ok (.getfield 19, 3) := by decide +kernel
theorem dX7_may_40 : decode cX7_may 40 = .ok (.iload_n 2, 1) := by decide +kernel
theorem dX7_may_41 : decode cX7_may 41 = .ok (.iload_n 3, 1) := by decide +kernel
theorem dX7_may_42 : decode cX7_may 42 = .ok (.invokevirtual 170, 3) := by decide +kernel
theorem dX7_may_45 : decode cX7_may 45 = .ok (.goto 8, 3) := by decide +kernel
theorem dX7_may_48 : decode cX7_may 48 = .ok (.bipush (-2), 2) := by decide +kernel
theorem dX7_may_50 : decode cX7_may 50 = .ok (.iload 4, 2) := by decide +kernel
theorem dX7_may_52 : decode cX7_may 52 = .ok (.isub, 1) := by decide +kernel
theorem dX7_may_53 : decode cX7_may 53 = .ok (.ireturn, 1) := by decide +kernel
theorem dX7_rain_0 : decode cX7_rain 0 = .ok (.aload_n 0, 1) := by decide +kernel
theorem dX7_rain_1 : decode cX7_rain 1 = .ok (.getfield 19, 3) := by decide +kernel
theorem dX7_rain_4 : decode cX7_rain 4 = .ok (.iload_n 1, 1) := by decide +kernel
theorem dX7_rain_5 : decode cX7_rain 5 = .ok (.invokevirtual 107, 3) := by decide +kernel
theorem dX7_rain_8 : decode cX7_rain 8 = .ok (.ifCond .eq 14, 3) := by decide +kernel
theorem dX7_rain_11 : decode cX7_rain 11 = .ok (.iload_n 2, 1) := by decide +kernel
theorem dX7_rain_12 : decode cX7_rain 12 = .ok (.ifCond .lt 10, 3) := by decide +kernel
theorem dX7_rain_15 : decode cX7_rain 15 = .ok (.iload_n 2, 1) := by decide +kernel
theorem dX7_rain_16 : decode cX7_rain 16 = .ok (.sipush 9999, 3) := by decide +kernel
theorem dX7_rain_19 : decode cX7_rain 19 = .ok (.if_icmp .le 5, 3) := by decide +kernel
theorem dX7_rain_22 : decode cX7_rain 22 = .ok (.iconst (-1), 1) := by decide +kernel
theorem dX7_rain_23 : decode cX7_rain 23 = .ok (.ireturn, 1) := by decide +kernel
theorem dX7_rain_24 : decode cX7_rain 24 = .ok (.aload_n 0, 1) := by decide +kernel
theorem dX7_rain_25 : decode cX7_rain 25 = .ok (.getfield 19, 3) := by decide +kernel
theorem dX7_rain_28 : decode cX7_rain 28 = .ok (.getfield 111, 3) := by decide +kernel
theorem dX7_rain_31 : decode cX7_rain 31 = .ok (.iload_n 1, 1) := by decide +kernel
theorem dX7_rain_32 : decode cX7_rain 32 = .ok (.iaload, 1) := by decide +kernel
theorem dX7_rain_33 : decode cX7_rain 33 = .ok (.sipush 9999, 3) := by decide +kernel
theorem dX7_rain_36 : decode cX7_rain 36 = .ok (.if_icmp .ge 29, 3) := by decide +kernel
theorem dX7_rain_39 : decode cX7_rain 39 = .ok (.aload_n 0, 1) := by decide +kernel
theorem dX7_rain_40 : decode cX7_rain 40 = .ok (.getfield 19, 3) := by decide +kernel
theorem dX7_rain_43 : decode cX7_rain 43 = .ok (.getfield 111, 3) := by decide +kernel
theorem dX7_rain_46 : decode cX7_rain 46 = .ok (.iload_n 1, 1) := by decide +kernel
theorem dX7_rain_47 : decode cX7_rain 47 = .ok (.aload_n 0, 1) := by decide +kernel
theorem dX7_rain_48 : decode cX7_rain 48 = .ok (.getfield 19, 3) := by decide +kernel
theorem dX7_rain_51 : decode cX7_rain 51 = .ok (.getfield 111, 3) := by decide +kernel
theorem dX7_rain_54 : decode cX7_rain 54 = .ok (.iload_n 1, 1) := by decide +kernel
theorem dX7_rain_55 : decode cX7_rain 55 = .ok (.iaload, 1) := by decide +kernel
theorem dX7_rain_56 : decode cX7_rain 56 = .ok (.iload_n 2, 1) := by decide +kernel
theorem dX7_rain_57 : decode cX7_rain 57 = .ok (.iadd, 1) := by decide +kernel
theorem dX7_rain_58 : decode cX7_rain 58 = .ok (.sipush 9999, 3) := by decide +kernel
theorem dX7_rain_61 : decode cX7_rain 61 = .ok (.invokestatic 174, 3) := by decide +kernel
theorem dX7_rain_64 : decode cX7_rain 64 = .ok (.iastore, 1) := by decide +kernel
theorem dX7_rain_65 : decode cX7_rain 65 = .ok (.aload_n 0, 1) := by decide +kernel
theorem dX7_rain_66 : decode cX7_rain 66 = .ok (.getfield 63, 3) := by decide +kernel
theorem dX7_rain_69 : decode cX7_rain 69 = .ok (.invokevirtual 94, 3) := by decide +kernel
theorem dX7_rain_72 : decode cX7_rain 72 = .ok (.aload_n 0, 1) := by decide +kernel
theorem dX7_rain_73 : decode cX7_rain 73 = .ok (.getfield 19, 3) := by decide +kernel
theorem dX7_rain_76 : decode cX7_rain 76 = .ok (.getfield 111, 3) := by decide +kernel
theorem dX7_rain_79 : decode cX7_rain 79 = .ok (.iload_n 1, 1) := by decide +kernel
theorem dX7_rain_80 : decode cX7_rain 80 = .ok (.iaload, 1) := by decide +kernel
theorem dX7_rain_81 : decode cX7_rain 81 = .ok (.ireturn, 1) := by decide +kernel
theorem dX7_chain_0 : decode cX7_chain 0 = .ok (.iload_n 2, 1) := by decide +kernel
theorem dX7_chain_1 : decode cX7_chain 1 = .ok (.ifCond .eq 7, 3) := by decide +kernel
theorem dX7_chain_4 : decode cX7_chain 4 = .ok (.iconst 1, 1) := by decide +kernel
theorem dX7_chain_5 : decode cX7_chain 5 = .ok (.goto 4, 3) := by decide +kernel
theorem dX7_chain_8 : decode cX7_chain 8 = .ok (.iconst 0, 1) := by decide +kernel
theorem dX7_chain_9 : decode cX7_chain 9 = .ok (.istore_n 3, 1) := by decide +kernel
theorem dX7_chain_10 : decode cX7_chain 10 = .ok (.aload_n 0, 1) := by decide +kernel
theorem dX7_chain_11 : decode cX7_chain 11 = .ok (.getfield 19, 3) := by decide +kernel
theorem dX7_chain_14 : decode cX7_chain 14 = .ok (.iload_n 1, 1) := by decide +kernel
theorem dX7_chain_15 : decode cX7_chain 15 = .ok (.invokevirtual 122, 3) := by decide +kernel
theorem dX7_chain_18 : decode cX7_chain 18 = .ok (.ifCond .eq 16, 3) := by decide +kernel
theorem dX7_chain_21 : decode cX7_chain 21 = .ok (.aload_n 0, 1) := by decide +kernel
theorem dX7_chain_22 : decode cX7_chain 22 = .ok (.getfield 19, 3) := by decide +kernel
theorem dX7_chain_25 : decode cX7_chain 25 = .ok (.getfield 125, 3) := by decide +kernel
theorem dX7_chain_28 : decode cX7_chain 28 = .ok (.iload_n 1, 1) := by decide +kernel
theorem dX7_chain_29 : decode cX7_chain 29 = .ok (.iaload, 1) := by decide +kernel
theorem dX7_chain_30 : decode cX7_chain 30 = .ok (.iload_n 3, 1) := by decide +kernel
theorem dX7_chain_31 : decode cX7_chain 31 = .ok (.if_icmp .ne 5, 3) := by decide +kernel
theorem dX7_chain_34 : decode cX7_chain 34 = .ok (.iconst 0, 1) := by decide +kernel
theorem dX7_chain_35 : decode cX7_chain 35 = .ok (.ireturn, 1) := by decide +kernel
theorem dX7_chain_36 : decode cX7_chain 36 = .ok (.aload_n 0, 1) := by decide +kernel
theorem dX7_chain_37 : decode cX7_chain 37 = .ok (.getfield 19, 3) := by decide +kernel
theorem dX7_chain_40 : decode cX7_chain 40 = .ok (.getfield 125, 3) := by decide +kernel
theorem dX7_chain_43 : decode cX7_chain 43 = .ok (.iload_n 1, 1) := by decide +kernel
theorem dX7_chain_44 : decode cX7_chain 44 = .ok (.iload_n 3, 1) := by decide +kernel
theorem dX7_chain_45 : decode cX7_chain 45 = .ok (.iastore, 1) := by decide +kernel
theorem dX7_chain_46 : decode cX7_chain 46 = .ok (.aload_n 0, 1) := by decide +kernel
theorem dX7_chain_47 : decode cX7_chain 47 = .ok (.getfield 63, 3) := by decide +kernel
theorem dX7_chain_50 : decode cX7_chain 50 = .ok (.invokevirtual 94, 3) := by decide +kernel
theorem dX7_chain_53 : decode cX7_chain 53 = .ok (.iconst 1, 1) := by decide +kernel
theorem dX7_chain_54 : decode cX7_chain 54 = .ok (.ireturn, 1) := by decide +kernel
theorem dX7_run_0 : decode cX7_run 0 = .ok (.aload_n 0, 1) := by decide +kernel
theorem dX7_run_1 : decode cX7_run 1 = .ok (.getfield 19, 3) := by decide +kernel
theorem dX7_run_4 : decode cX7_run 4 = .ok (.getfield 97, 3) := by decide +kernel
theorem dX7_run_7 : decode cX7_run 7 = .ok (.ifCond .eq 14, 3) := by decide +kernel
theorem dX7_run_10 : decode cX7_run 10 = .ok (.iload_n 1, 1) := by decide +kernel
theorem dX7_run_11 : decode cX7_run 11 = .ok (.ifCond .lt 10, 3) := by decide +kernel
theorem dX7_run_14 : decode cX7_run 14 = .ok (.iload_n 1, 1) := by decide +kernel
theorem dX7_run_15 : decode cX7_run 15 = .ok (.sipush 200, 3) := by decide +kernel
theorem dX7_run_18 : decode cX7_run 18 = .ok (.if_icmp .le 5, 3) := by decide +kernel
theorem dX7_run_21 : decode cX7_run 21 = .ok (.iconst (-1), 1) := by decide +kernel
theorem dX7_run_22 : decode cX7_run 22 = .ok (.ireturn, 1) := by decide +kernel
theorem dX7_run_23 : decode cX7_run 23 = .ok (.aload_n 0, 1) := by decide +kernel
theorem dX7_run_24 : decode cX7_run 24 = .ok (.getfield 63, 3) := by decide +kernel
theorem dX7_run_27 : decode cX7_run 27 = .ok (.invokevirtual 94, 3) := by decide +kernel
theorem dX7_run_30 : decode cX7_run 30 = .ok (.aload_n 0, 1) := by decide +kernel
theorem dX7_run_31 : decode cX7_run 31 = .ok (.getfield 19, 3) := by decide +kernel
theorem dX7_run_34 : decode cX7_run 34 = .ok (.aload_n 0, 1) := by decide +kernel
theorem dX7_run_35 : decode cX7_run 35 = .ok (.invokevirtual 163, 3) := by decide +kernel
theorem dX7_run_38 : decode cX7_run 38 = .ok (.iload_n 1, 1) := by decide +kernel
theorem dX7_run_39 : decode cX7_run 39 = .ok (.invokevirtual 179, 3) := by decide +kernel
theorem dX7_run_42 : decode cX7_run 42 = .ok (.ireturn, 1) := by decide +kernel
theorem dX7_would_0 : decode cX7_would 0 = .ok (.aload_n 0, 1) := by decide +kernel
theorem dX7_would_1 : decode cX7_would 1 = .ok (.getfield 19, 3) := by decide +kernel
theorem dX7_would_4 : decode cX7_would 4 = .ok (.getfield 97, 3) := by decide +kernel
theorem dX7_would_7 : decode cX7_would 7 = .ok (.ifCond .eq 23, 3) := by decide +kernel
theorem dX7_would_10 : decode cX7_would 10 = .ok (.iload_n 1, 1) := by decide +kernel
theorem dX7_would_11 : decode cX7_would 11 = .ok (.ifCond .lt 19, 3) := by decide +kernel
theorem dX7_would_14 : decode cX7_would 14 = .ok (.iload_n 1, 1) := by decide +kernel
theorem dX7_would_15 : decode cX7_would 15 = .ok (.sipush 200, 3) := by decide +kernel
theorem dX7_would_18 : decode cX7_would 18 = .ok (.if_icmp .gt 12, 3) := by decide +kernel
theorem dX7_would_21 : decode cX7_would 21 = .ok (.iload_n 2, 1) := by decide +kernel
theorem dX7_would_22 : decode cX7_would 22 = .ok (.ifCond .lt 8, 3) := by decide +kernel
theorem dX7_would_25 : decode cX7_would 25 = .ok (.iload_n 2, 1) := by decide +kernel
theorem dX7_would_26 : decode cX7_would 26 = .ok (.iconst 3, 1) := by decide +kernel
theorem dX7_would_27 : decode cX7_would 27 = .ok (.if_icmp .le 5, 3) := by decide +kernel
theorem dX7_would_30 : decode cX7_would 30 = .ok (.iconst (-1), 1) := by decide +kernel
theorem dX7_would_31 : decode cX7_would 31 = .ok (.ireturn, 1) := by decide +kernel
theorem dX7_would_32 : decode cX7_would 32 = .ok (.aload_n 0, 1) := by decide +kernel
theorem dX7_would_33 : decode cX7_would 33 = .ok (.getfield 23, 3) := by decide +kernel
theorem dX7_would_36 : decode cX7_would 36 = .ok (.aload_n 0, 1) := by decide +kernel
theorem dX7_would_37 : decode cX7_would 37 = .ok (.getfield 19, 3) := by decide +kernel
theorem dX7_would_40 : decode cX7_would 40 = .ok (.invokevirtual 91, 3) := by decide +kernel
theorem dX7_would_43 : decode cX7_would 43 = .ok (.aload_n 0, 1) := by decide +kernel
theorem dX7_would_44 : decode cX7_would 44 = .ok (.getfield 23, 3) := by decide +kernel
theorem dX7_would_47 : decode cX7_would 47 = .ok (.aload_n 0, 1) := by decide +kernel
theorem dX7_would_48 : decode cX7_would 48 = .ok (.invokevirtual 163, 3) := by decide +kernel
theorem dX7_would_51 : decode cX7_would 51 = .ok (.iload_n 1, 1) := by decide +kernel
theorem dX7_would_52 : decode cX7_would 52 = .ok (.invokevirtual 179, 3) := by decide +kernel
theorem dX7_would_55 : decode cX7_would 55 = .ok (.istore_n 3, 1) := by decide +kernel
theorem dX7_would_56 : decode cX7_would 56 = .ok (.iload_n 2, 1) := by decide +kernel
theorem dX7_would_57 : decode cX7_would 57 = .ok (.tableswitch 56 0 2 #[27, 29, 40], 27) := by decide +kernel
theorem dX7_would_84 : decode cX7_would 84 = .ok (.iload_n 3, 1) := by decide +kernel
theorem dX7_would_85 : decode cX7_would 85 = .ok (.ireturn, 1) := by decide +kernel
theorem dX7_would_86 : decode cX7_would 86 = .ok (.aload_n 0, 1) := by decide +kernel
theorem dX7_would_87 : decode cX7_would 87 = .ok (.getfield 23, 3) := by decide +kernel
theorem dX7_would_90 : decode cX7_would 90 = .ok (.invokevirtual 183, 3) := by decide +kernel
theorem dX7_would_93 : decode cX7_would 93 = .ok (.invokestatic 186, 3) := by decide +kernel
theorem dX7_would_96 : decode cX7_would 96 = .ok (.ireturn, 1) := by decide +kernel
theorem dX7_would_97 : decode cX7_would 97 = .ok (.aload_n 0, 1) := by decide +kernel
theorem dX7_would_98 : decode cX7_would 98 = .ok (.getfield 23, 3) := by decide +kernel
theorem dX7_would_101 : decode cX7_would 101 = .ok (.getfield 191, 3) := by decide +kernel
theorem dX7_would_104 : decode cX7_would 104 = .ok (.aload_n 0, 1) := by decide +kernel
theorem dX7_would_105 : decode cX7_would 105 = .ok (.getfield 19, 3) := by decide +kernel
theorem dX7_would_108 : decode cX7_would 108 = .ok (.getfield 191, 3) := by decide +kernel
theorem dX7_would_111 : decode cX7_would 111 = .ok (.isub, 1) := by decide +kernel
theorem dX7_would_112 : decode cX7_would 112 = .ok (.ireturn, 1) := by decide +kernel
theorem dX7_would_113 : decode cX7_would 113 = .ok (.aload_n 0, 1) := by decide +kernel
theorem dX7_would_114 : decode cX7_would 114 = .ok (.getfield 23, 3) := by decide +kernel
theorem dX7_would_117 : decode cX7_would 117 = .ok (.aload_n 0, 1) := by decide +kernel
theorem dX7_would_118 : decode cX7_would 118 = .ok (.invokevirtual 163, 3) := by decide +kernel
theorem dX7_would_121 : decode cX7_would 121 = .ok (.invokevirtual 194, 3) := by decide +kernel
theorem dX7_would_124 : decode cX7_would 124 = .ok (.ifCond .eq 7, 3) := by decide +kernel
theorem dX7_would_127 : decode cX7_would 127 = .ok (.iconst 1, 1) := by decide +kernel
theorem dX7_would_128 : decode cX7_would 128 = .ok (.goto 4, 3) := by decide +kernel
theorem dX7_would_131 : decode cX7_would 131 = .ok (.iconst 0, 1) := by decide +kernel
theorem dX7_would_132 : decode cX7_would 132 = .ok (.ireturn, 1) := by decide +kernel
theorem dX7_can_0 : decode cX7_can 0 = .ok (.aload_n 0, 1) := by decide +kernel
theorem dX7_can_1 : decode cX7_can 1 = .ok (.getfield 19, 3) := by decide +kernel
theorem dX7_can_4 : decode cX7_can 4 = .ok (.getfield 97, 3) := by decide +kernel
theorem dX7_can_7 : decode cX7_can 7 = .ok (.ifCond .ne 7, 3) := by decide +kernel
theorem dX7_can_10 : decode cX7_can 10 = .ok (.iconst (-1), 1) := by decide +kernel
theorem dX7_can_11 : decode cX7_can 11 = .ok (.goto 29, 3) := by decide +kernel
theorem dX7_can_14 : decode cX7_can 14 = .ok (.aload_n 0, 1) := by decide +kernel
theorem dX7_can_15 : decode cX7_can 15 = .ok (.getfield 19, 3) := by decide +kernel
theorem dX7_can_18 : decode cX7_can 18 = .ok (.aload_n 0, 1) := by decide +kernel
theorem dX7_can_19 : decode cX7_can 19 = .ok (.invokevirtual 163, 3) := by decide +kernel
theorem dX7_can_22 : decode cX7_can 22 = .ok (.aload_n 0, 1) := by decide +kernel
theorem dX7_can_23 : decode cX7_can 23 = .ok (.getfield 19, 3) := by decide +kernel
theorem dX7_can_26 : decode cX7_can 26 = .ok (.getfield 198, 3) := by decide +kernel
theorem dX7_can_29 : decode cX7_can 29 = .ok (.aload_n 0, 1) := by decide +kernel
theorem dX7_can_30 : decode cX7_can 30 = .ok (.getfield 19, 3) := by decide +kernel
theorem dX7_can_33 : decode cX7_can 33 = .ok (.getfield 198, 3) := by decide +kernel
theorem dX7_can_36 : decode cX7_can 36 = .ok (.arraylength, 1) := by decide +kernel
theorem dX7_can_37 : decode cX7_can 37 = .ok (.invokevirtual 201, 3) := by decide +kernel
theorem dX7_can_40 : decode cX7_can 40 = .ok (.ireturn, 1) := by decide +kernel
theorem dX7_plan_0 : decode cX7_plan 0 = .ok (.aload_n 0, 1) := by decide +kernel
theorem dX7_plan_1 : decode cX7_plan 1 = .ok (.getfield 19, 3) := by decide +kernel
theorem dX7_plan_4 : decode cX7_plan 4 = .ok (.iload_n 1, 1) := by decide +kernel
theorem dX7_plan_5 : decode cX7_plan 5 = .ok (.invokevirtual 205, 3) := by decide +kernel
theorem dX7_plan_8 : decode cX7_plan 8 = .ok (.ifCond .ne 5, 3) := by decide +kernel
theorem dX7_plan_11 : decode cX7_plan 11 = .ok (.iconst (-1), 1) := by decide +kernel
theorem dX7_plan_12 : decode cX7_plan 12 = .ok (.ireturn, 1) := by decide +kernel
theorem dX7_plan_13 : decode cX7_plan 13 = .ok (.aload_n 0, 1) := by decide +kernel
theorem dX7_plan_14 : decode cX7_plan 14 = .ok (.getfield 63, 3) := by decide +kernel
theorem dX7_plan_17 : decode cX7_plan 17 = .ok (.aload_n 0, 1) := by decide +kernel
theorem dX7_plan_18 : decode cX7_plan 18 = .ok (.getfield 19, 3) := by decide +kernel
theorem dX7_plan_21 : decode cX7_plan 21 = .ok (.aload_n 0, 1) := by decide +kernel
theorem dX7_plan_22 : decode cX7_plan 22 = .ok (.invokevirtual 163, 3) := by decide +kernel
theorem dX7_plan_25 : decode cX7_plan 25 = .ok (.iload_n 2, 1) := by decide +kernel
theorem dX7_plan_26 : decode cX7_plan 26 = .ok (.aload_n 0, 1) := by decide +kernel
theorem dX7_plan_27 : decode cX7_plan 27 = .ok (.getfield 19, 3) := by decide +kernel
theorem dX7_plan_30 : decode cX7_plan 30 = .ok (.getfield 111, 3) := by decide +kernel
theorem dX7_plan_33 : decode cX7_plan 33 = .ok (.iconst 0, 1) := by decide +kernel
theorem dX7_plan_34 : decode cX7_plan 34 = .ok (.iaload, 1) := by decide +kernel
theorem dX7_plan_35 : decode cX7_plan 35 = .ok (.invokevirtual 208, 3) := by decide +kernel
theorem dX7_plan_38 : decode cX7_plan 38 = .ok (.aload_n 0, 1) := by decide +kernel
theorem dX7_plan_39 : decode cX7_plan 39 = .ok (.getfield 63, 3) := by decide +kernel
theorem dX7_plan_42 : decode cX7_plan 42 = .ok (.iload_n 1, 1) := by decide +kernel
theorem dX7_plan_43 : decode cX7_plan 43 = .ok (.invokevirtual 212, 3) := by decide +kernel
theorem dX7_plan_46 : decode cX7_plan 46 = .ok (.ireturn, 1) := by decide +kernel
theorem dX7_row_0 : decode cX7_row 0 = .ok (.aload_n 0, 1) := by decide +kernel
theorem dX7_row_1 : decode cX7_row 1 = .ok (.getfield 19, 3) := by decide +kernel
theorem dX7_row_4 : decode cX7_row 4 = .ok (.iload_n 1, 1) := by decide +kernel
theorem dX7_row_5 : decode cX7_row 5 = .ok (.invokevirtual 205, 3) := by decide +kernel
theorem dX7_row_8 : decode cX7_row 8 = .ok (.ifCond .eq 18, 3) := by decide +kernel
theorem dX7_row_11 : decode cX7_row 11 = .ok (.iload_n 3, 1) := by decide +kernel
theorem dX7_row_12 : decode cX7_row 12 = .ok (.ifCond .lt 14, 3) := by decide +kernel
theorem dX7_row_15 : decode cX7_row 15 = .ok (.iload 4, 2) := by decide +kernel
theorem dX7_row_17 : decode cX7_row 17 = .ok (.ifCond .lt 9, 3) := by decide +kernel
theorem dX7_row_20 : decode cX7_row 20 = .ok (.iload 4, 2) := by decide +kernel
theorem dX7_row_22 : decode cX7_row 22 = .ok (.iconst 2, 1) := by decide +kernel
theorem dX7_row_23 : decode cX7_row 23 = .ok (.if_icmp .le 5, 3) := by decide +kernel
theorem dX7_row_26 : decode cX7_row 26 = .ok (.iconst (-1), 1) := by decide +kernel
theorem dX7_row_27 : decode cX7_row 27 = .ok (.ireturn, 1) := by decide +kernel
theorem dX7_row_28 : decode cX7_row 28 = .ok (.aload_n 0, 1) := by decide +kernel
theorem dX7_row_29 : decode cX7_row 29 = .ok (.getfield 63, 3) := by decide +kernel
theorem dX7_row_32 : decode cX7_row 32 = .ok (.aload_n 0, 1) := by decide +kernel
theorem dX7_row_33 : decode cX7_row 33 = .ok (.getfield 19, 3) := by decide +kernel
theorem dX7_row_36 : decode cX7_row 36 = .ok (.aload_n 0, 1) := by decide +kernel
theorem dX7_row_37 : decode cX7_row 37 = .ok (.invokevirtual 163, 3) := by decide +kernel
theorem dX7_row_40 : decode cX7_row 40 = .ok (.iload_n 2, 1) := by decide +kernel
theorem dX7_row_41 : decode cX7_row 41 = .ok (.aload_n 0, 1) := by decide +kernel
theorem dX7_row_42 : decode cX7_row 42 = .ok (.getfield 19, 3) := by decide +kernel
theorem dX7_row_45 : decode cX7_row 45 = .ok (.getfield 111, 3) := by decide +kernel
theorem dX7_row_48 : decode cX7_row 48 = .ok (.iconst 0, 1) := by decide +kernel
theorem dX7_row_49 : decode cX7_row 49 = .ok (.iaload, 1) := by decide +kernel
theorem dX7_row_50 : decode cX7_row 50 = .ok (.invokevirtual 208, 3) := by decide +kernel
theorem dX7_row_53 : decode cX7_row 53 = .ok (.aload_n 0, 1) := by decide +kernel
theorem dX7_row_54 : decode cX7_row 54 = .ok (.getfield 63, 3) := by decide +kernel
theorem dX7_row_57 : decode cX7_row 57 = .ok (.iload_n 1, 1) := by decide +kernel
theorem dX7_row_58 : decode cX7_row 58 = .ok (.iload_n 3, 1) := by decide +kernel
theorem dX7_row_59 : decode cX7_row 59 = .ok (.invokevirtual 215, 3) := by decide +kernel
theorem dX7_row_62 : decode cX7_row 62 = .ok (.istore 5, 2) := by decide +kernel
theorem dX7_row_64 : decode cX7_row 64 = .ok (.iload 5, 2) := by decide +kernel
theorem dX7_row_66 : decode cX7_row 66 = .ok (.ifCond .ge 8, 3) := by decide +kernel
theorem dX7_row_69 : decode cX7_row 69 = .ok (.iload 5, 2) := by decide +kernel
theorem dX7_row_71 : decode cX7_row 71 = .ok (.goto 10, 3) := by decide +kernel
theorem dX7_row_74 : decode cX7_row 74 = .ok (.iload 5, 2) := by decide +kernel
theorem dX7_row_76 : decode cX7_row 76 = .ok (.iload 4, 2) := by decide +kernel
theorem dX7_row_78 : decode cX7_row 78 = .ok (.invokestatic 218, 3) := by decide +kernel
theorem dX7_row_81 : decode cX7_row 81 = .ok (.ireturn, 1) := by decide +kernel
theorem dX7_drought_0 : decode cX7_drought 0 = .ok (.aload_n 0, 1) := by decide +kernel
theorem dX7_drought_1 : decode cX7_drought 1 = .ok (.getfield 19, 3) := by decide +kernel
theorem dX7_drought_4 : decode cX7_drought 4 = .ok (.getfield 97, 3) := by decide +kernel
theorem dX7_drought_7 : decode cX7_drought 7 = .ok (.ifCond .eq 23, 3) := by decide +kernel
theorem dX7_drought_10 : decode cX7_drought 10 = .ok (.iload_n 1, 1) := by decide +kernel
theorem dX7_drought_11 : decode cX7_drought 11 = .ok (.ifCond .lt 19, 3) := by decide +kernel
theorem dX7_drought_14 : decode cX7_drought 14 = .ok (.iload_n 1, 1) := by decide +kernel
theorem dX7_drought_15 : decode cX7_drought 15 = .ok (.sipush 999, 3) := by decide +kernel
theorem dX7_drought_18 : decode cX7_drought 18 = .ok (.if_icmp .gt 12, 3) := by decide +kernel
theorem dX7_drought_21 : decode cX7_drought 21 = .ok (.iload_n 2, 1) := by decide +kernel
theorem dX7_drought_22 : decode cX7_drought 22 = .ok (.ifCond .lt 8, 3) := by decide +kernel
theorem dX7_drought_25 : decode cX7_drought 25 = .ok (.iload_n 2, 1) := by decide +kernel
theorem dX7_drought_26 : decode cX7_drought 26 = .ok (.iconst 1, 1) := by decide +kernel
theorem dX7_drought_27 : decode cX7_drought 27 = .ok (.if_icmp .le 5, 3) := by decide +kernel
theorem dX7_drought_30 : decode cX7_drought 30 = .ok (.iconst (-1), 1) := by decide +kernel
theorem dX7_drought_31 : decode cX7_drought 31 = .ok (.ireturn, 1) := by decide +kernel
theorem dX7_drought_32 : decode cX7_drought 32 = .ok (.aload_n 0, 1) := by decide +kernel
theorem dX7_drought_33 : decode cX7_drought 33 = .ok (.getfield 63, 3) := by decide +kernel
theorem dX7_drought_36 : decode cX7_drought 36 = .ok (.aload_n 0, 1) := by decide +kernel
theorem dX7_drought_37 : decode cX7_drought 37 = .ok (.getfield 19, 3) := by decide +kernel
theorem dX7_drought_40 : decode cX7_drought 40 = .ok (.aload_n 0, 1) := by decide +kernel
theorem dX7_drought_41 : decode cX7_drought 41 = .ok (.invokevirtual 163, 3) := by decide +kernel
theorem dX7_drought_44 : decode cX7_drought 44 = .ok (.iconst 0, 1) := by decide +kernel
theorem dX7_drought_45 : decode cX7_drought 45 = .ok (.iload_n 1, 1) := by decide +kernel
theorem dX7_drought_46 : decode cX7_drought 46 = .ok (.invokevirtual 208, 3) := by decide +kernel
theorem dX7_drought_49 : decode cX7_drought 49 = .ok (.iconst 0, 1) := by decide +kernel
theorem dX7_drought_50 : decode cX7_drought 50 = .ok (.istore_n 3, 1) := by decide +kernel
theorem dX7_drought_51 : decode cX7_drought 51 = .ok (.iconst 1, 1) := by decide +kernel
theorem dX7_drought_52 : decode cX7_drought 52 = .ok (.istore 4, 2) := by decide +kernel
theorem dX7_drought_54 : decode cX7_drought 54 = .ok (.iload 4, 2) := by decide +kernel
theorem dX7_drought_56 : decode cX7_drought 56 = .ok (.iconst 1, 1) := by decide +kernel
theorem dX7_drought_57 : decode cX7_drought 57 = .ok (.aload_n 0, 1) := by decide +kernel
theorem dX7_drought_58 : decode cX7_drought 58 = .ok (.getfield 19, 3) := by decide +kernel
theorem dX7_drought_61 : decode cX7_drought 61 = .ok (.getfield 221, 3) := by decide +kernel
theorem dX7_drought_64 : decode cX7_drought 64 = .ok (.ishl, 1) := by decide +kernel
theorem dX7_drought_65 : decode cX7_drought 65 = .ok (.if_icmp .ge 37, 3) := by decide +kernel
theorem dX7_drought_68 : decode cX7_drought 68 = .ok (.aload_n 0, 1) := by decide +kernel
theorem dX7_drought_69 : decode cX7_drought 69 = .ok (.getfield 63, 3) := by decide +kernel
theorem dX7_drought_72 : decode cX7_drought 72 = .ok (.iload 4, 2) := by decide +kernel
theorem dX7_drought_74 : decode cX7_drought 74 = .ok (.invokevirtual 212, 3) := by decide +kernel
theorem dX7_drought_77 : decode cX7_drought 77 = .ok (.ifCond .lt 19, 3) := by decide +kernel
theorem dX7_drought_80 : decode cX7_drought 80 = .ok (.aload_n 0, 1) := by decide +kernel
theorem dX7_drought_81 : decode cX7_drought 81 = .ok (.getfield 19, 3) := by decide +kernel
theorem dX7_drought_84 : decode cX7_drought 84 = .ok (.iload 4, 2) := by decide +kernel
theorem dX7_drought_86 : decode cX7_drought 86 = .ok (.iload_n 3, 1) := by decide +kernel
theorem dX7_drought_87 : decode cX7_drought 87 = .ok (.invokevirtual 224, 3) := by decide +kernel
theorem dX7_drought_90 : decode cX7_drought 90 = .ok (.ifCond .eq 6, 3) := by decide +kernel
theorem dX7_drought_93 : decode cX7_drought 93 = .ok (.iload 4, 2) := by decide +kernel
theorem dX7_drought_95 : decode cX7_drought 95 = .ok (.istore_n 3, 1) := by decide +kernel
theorem dX7_drought_96 : decode cX7_drought 96 = .ok (.iinc 4 1, 3) := by decide +kernel
theorem dX7_drought_99 : decode cX7_drought 99 = .ok (.goto (-45), 3) := by decide +kernel
theorem dX7_drought_102 : decode cX7_drought 102 = .ok (.iload_n 2, 1) := by decide +kernel
theorem dX7_drought_103 : decode cX7_drought 103 = .ok (.ifCond .ne 14, 3) := by decide +kernel
theorem dX7_drought_106 : decode cX7_drought 106 = .ok (.aload_n 0, 1) := by decide +kernel
theorem dX7_drought_107 : decode cX7_drought 107 = .ok (.getfield 19, 3) := by decide +kernel
theorem dX7_drought_110 : decode cX7_drought 110 = .ok (.iload_n 3, 1) := by decide +kernel
theorem dX7_drought_111 : decode cX7_drought 111 = .ok (.invokevirtual 228, 3) := by decide +kernel
theorem dX7_drought_114 : decode cX7_drought 114 = .ok (.goto 4, 3) := by decide +kernel
theorem dX7_drought_117 : decode cX7_drought 117 = .ok (.iload_n 3, 1) := by decide +kernel
theorem dX7_drought_118 : decode cX7_drought 118 = .ok (.ireturn, 1) := by decide +kernel
theorem dX7_pass_0 : decode cX7_pass 0 = .ok (.aload_n 0, 1) := by decide +kernel
theorem dX7_pass_1 : decode cX7_pass 1 = .ok (.getfield 19, 3) := by decide +kernel
theorem dX7_pass_4 : decode cX7_pass 4 = .ok (.iload_n 1, 1) := by decide +kernel
theorem dX7_pass_5 : decode cX7_pass 5 = .ok (.invokevirtual 122, 3) := by decide +kernel
theorem dX7_pass_8 : decode cX7_pass 8 = .ok (.ifCond .eq 14, 3) := by decide +kernel
theorem dX7_pass_11 : decode cX7_pass 11 = .ok (.aload_n 0, 1) := by decide +kernel
theorem dX7_pass_12 : decode cX7_pass 12 = .ok (.getfield 19, 3) := by decide +kernel
theorem dX7_pass_15 : decode cX7_pass 15 = .ok (.iload_n 1, 1) := by decide +kernel
theorem dX7_pass_16 : decode cX7_pass 16 = .ok (.invokevirtual 231, 3) := by decide +kernel
theorem dX7_pass_19 : decode cX7_pass 19 = .ok (.goto 4, 3) := by decide +kernel
theorem dX7_pass_22 : decode cX7_pass 22 = .ok (.iconst (-1), 1) := by decide +kernel
theorem dX7_pass_23 : decode cX7_pass 23 = .ok (.ireturn, 1) := by decide +kernel
theorem dX7_worst_0 : decode cX7_worst 0 = .ok (.aload_n 0, 1) := by decide +kernel
theorem dX7_worst_1 : decode cX7_worst 1 = .ok (.getfield 19, 3) := by decide +kernel
theorem dX7_worst_4 : decode cX7_worst 4 = .ok (.getfield 97, 3) := by decide +kernel
theorem dX7_worst_7 : decode cX7_worst 7 = .ok (.ifCond .ne 5, 3) := by decide +kernel
theorem dX7_worst_10 : decode cX7_worst 10 = .ok (.iconst (-1), 1) := by decide +kernel
theorem dX7_worst_11 : decode cX7_worst 11 = .ok (.ireturn, 1) := by decide +kernel
theorem dX7_worst_12 : decode cX7_worst 12 = .ok (.iconst 0, 1) := by decide +kernel
theorem dX7_worst_13 : decode cX7_worst 13 = .ok (.istore_n 1, 1) := by decide +kernel
theorem dX7_worst_14 : decode cX7_worst 14 = .ok (.iconst 1, 1) := by decide +kernel
theorem dX7_worst_15 : decode cX7_worst 15 = .ok (.istore_n 2, 1) := by decide +kernel
theorem dX7_worst_16 : decode cX7_worst 16 = .ok (.iload_n 2, 1) := by decide +kernel
theorem dX7_worst_17 : decode cX7_worst 17 = .ok (.aload_n 0, 1) := by decide +kernel
theorem dX7_worst_18 : decode cX7_worst 18 = .ok (.getfield 19, 3) := by decide +kernel
theorem dX7_worst_21 : decode cX7_worst 21 = .ok (.getfield 97, 3) := by decide +kernel
theorem dX7_worst_24 : decode cX7_worst 24 = .ok (.iconst 1, 1) := by decide +kernel
theorem dX7_worst_25 : decode cX7_worst 25 = .ok (.isub, 1) := by decide +kernel
theorem dX7_worst_26 : decode cX7_worst 26 = .ok (.if_icmp .ge 30, 3) := by decide +kernel
theorem dX7_worst_29 : decode cX7_worst 29 = .ok (.aload_n 0, 1) := by decide +kernel
theorem dX7_worst_30 : decode cX7_worst 30 = .ok (.getfield 19, 3) := by decide +kernel
theorem dX7_worst_33 : decode cX7_worst 33 = .ok (.iload_n 2, 1) := by decide +kernel
theorem dX7_worst_34 : decode cX7_worst 34 = .ok (.invokevirtual 231, 3) := by decide +kernel
theorem dX7_worst_37 : decode cX7_worst 37 = .ok (.aload_n 0, 1) := by decide +kernel
theorem dX7_worst_38 : decode cX7_worst 38 = .ok (.getfield 19, 3) := by decide +kernel
theorem dX7_worst_41 : decode cX7_worst 41 = .ok (.iload_n 1, 1) := by decide +kernel
theorem dX7_worst_42 : decode cX7_worst 42 = .ok (.invokevirtual 231, 3) := by decide +kernel
theorem dX7_worst_45 : decode cX7_worst 45 = .ok (.if_icmp .le 5, 3) := by decide +kernel
theorem dX7_worst_48 : decode cX7_worst 48 = .ok (.iload_n 2, 1) := by decide +kernel
theorem dX7_worst_49 : decode cX7_worst 49 = .ok (.istore_n 1, 1) := by decide +kernel
theorem dX7_worst_50 : decode cX7_worst 50 = .ok (.iinc 2 1, 3) := by decide +kernel
theorem dX7_worst_53 : decode cX7_worst 53 = .ok (.goto (-37), 3) := by decide +kernel
theorem dX7_worst_56 : decode cX7_worst 56 = .ok (.iload_n 1, 1) := by decide +kernel
theorem dX7_worst_57 : decode cX7_worst 57 = .ok (.ireturn, 1) := by decide +kernel
theorem dX7_seen_0 : decode cX7_seen 0 = .ok (.aload_n 0, 1) := by decide +kernel
theorem dX7_seen_1 : decode cX7_seen 1 = .ok (.getfield 19, 3) := by decide +kernel
theorem dX7_seen_4 : decode cX7_seen 4 = .ok (.iload_n 1, 1) := by decide +kernel
theorem dX7_seen_5 : decode cX7_seen 5 = .ok (.invokevirtual 107, 3) := by decide +kernel
theorem dX7_seen_8 : decode cX7_seen 8 = .ok (.ifCond .eq 15, 3) := by decide +kernel
theorem dX7_seen_11 : decode cX7_seen 11 = .ok (.iload_n 2, 1) := by decide +kernel
theorem dX7_seen_12 : decode cX7_seen 12 = .ok (.iconst (-1), 1) := by decide +kernel
theorem dX7_seen_13 : decode cX7_seen 13 = .ok (.if_icmp .lt 10, 3) := by decide +kernel
theorem dX7_seen_16 : decode cX7_seen 16 = .ok (.iload_n 2, 1) := by decide +kernel
theorem dX7_seen_17 : decode cX7_seen 17 = .ok (.sipush 9999, 3) := by decide +kernel
theorem dX7_seen_20 : decode cX7_seen 20 = .ok (.if_icmp .le 5, 3) := by decide +kernel
theorem dX7_seen_23 : decode cX7_seen 23 = .ok (.iconst 0, 1) := by decide +kernel
theorem dX7_seen_24 : decode cX7_seen 24 = .ok (.ireturn, 1) := by decide +kernel
theorem dX7_seen_25 : decode cX7_seen 25 = .ok (.aload_n 0, 1) := by decide +kernel
theorem dX7_seen_26 : decode cX7_seen 26 = .ok (.getfield 19, 3) := by decide +kernel
theorem dX7_seen_29 : decode cX7_seen 29 = .ok (.getfield 234, 3) := by decide +kernel
theorem dX7_seen_32 : decode cX7_seen 32 = .ok (.iload_n 1, 1) := by decide +kernel
theorem dX7_seen_33 : decode cX7_seen 33 = .ok (.iload_n 2, 1) := by decide +kernel
theorem dX7_seen_34 : decode cX7_seen 34 = .ok (.iastore, 1) := by decide +kernel
theorem dX7_seen_35 : decode cX7_seen 35 = .ok (.iconst 1, 1) := by decide +kernel
theorem dX7_seen_36 : decode cX7_seen 36 = .ok (.ireturn, 1) := by decide +kernel
theorem dX7_went_0 : decode cX7_went 0 = .ok (.aload_n 0, 1) := by decide +kernel
theorem dX7_went_1 : decode cX7_went 1 = .ok (.getfield 19, 3) := by decide +kernel
theorem dX7_went_4 : decode cX7_went 4 = .ok (.getfield 97, 3) := by decide +kernel
theorem dX7_went_7 : decode cX7_went 7 = .ok (.ifCond .eq 24, 3) := by decide +kernel
theorem dX7_went_10 : decode cX7_went 10 = .ok (.iload_n 1, 1) := by decide +kernel
theorem dX7_went_11 : decode cX7_went 11 = .ok (.iconst 1, 1) := by decide +kernel
theorem dX7_went_12 : decode cX7_went 12 = .ok (.if_icmp .lt 19, 3) := by decide +kernel
theorem dX7_went_15 : decode cX7_went 15 = .ok (.iload_n 1, 1) := by decide +kernel
theorem dX7_went_16 : decode cX7_went 16 = .ok (.iconst 3, 1) := by decide +kernel
theorem dX7_went_17 : decode cX7_went 17 = .ok (.if_icmp .gt 14, 3) := by decide +kernel
theorem dX7_went_20 : decode cX7_went 20 = .ok (.iload_n 2, 1) := by decide +kernel
theorem dX7_went_21 : decode cX7_went 21 = .ok (.ifCond .lt 10, 3) := by decide +kernel
theorem dX7_went_24 : decode cX7_went 24 = .ok (.iload_n 2, 1) := by decide +kernel
theorem dX7_went_25 : decode cX7_went 25 = .ok (.iconst 3, 1) := by decide +kernel
theorem dX7_went_26 : decode cX7_went 26 = .ok (.iload_n 1, 1) := by decide +kernel
theorem dX7_went_27 : decode cX7_went 27 = .ok (.imul, 1) := by decide +kernel
theorem dX7_went_28 : decode cX7_went 28 = .ok (.if_icmp .le 5, 3) := by decide +kernel
theorem dX7_went_31 : decode cX7_went 31 = .ok (.iconst (-1), 1) := by decide +kernel
theorem dX7_went_32 : decode cX7_went 32 = .ok (.ireturn, 1) := by decide +kernel
theorem dX7_went_33 : decode cX7_went 33 = .ok (.aload_n 0, 1) := by decide +kernel
theorem dX7_went_34 : decode cX7_went 34 = .ok (.getfield 70, 3) := by decide +kernel
theorem dX7_went_37 : decode cX7_went 37 = .ok (.aload_n 0, 1) := by decide +kernel
theorem dX7_went_38 : decode cX7_went 38 = .ok (.getfield 19, 3) := by decide +kernel
theorem dX7_went_41 : decode cX7_went 41 = .ok (.aload_n 0, 1) := by decide +kernel
theorem dX7_went_42 : decode cX7_went 42 = .ok (.invokevirtual 163, 3) := by decide +kernel
theorem dX7_went_45 : decode cX7_went 45 = .ok (.iload_n 1, 1) := by decide +kernel
theorem dX7_went_46 : decode cX7_went 46 = .ok (.iload_n 2, 1) := by decide +kernel
theorem dX7_went_47 : decode cX7_went 47 = .ok (.ifCond .ne 9, 3) := by decide +kernel
theorem dX7_went_50 : decode cX7_went 50 = .ok (.sipush 30000, 3) := by decide +kernel
theorem dX7_went_53 : decode cX7_went 53 = .ok (.goto 4, 3) := by decide +kernel
theorem dX7_went_56 : decode cX7_went 56 = .ok (.iconst 1, 1) := by decide +kernel
theorem dX7_went_57 : decode cX7_went 57 = .ok (.invokevirtual 237, 3) := by decide +kernel
theorem dX7_went_60 : decode cX7_went 60 = .ok (.istore_n 3, 1) := by decide +kernel
theorem dX7_went_61 : decode cX7_went 61 = .ok (.iload_n 2, 1) := by decide +kernel
theorem dX7_went_62 : decode cX7_went 62 = .ok (.ifCond .ne 5, 3) := by decide +kernel
theorem dX7_went_65 : decode cX7_went 65 = .ok (.iload_n 3, 1) := by decide +kernel
theorem dX7_went_66 : decode cX7_went 66 = .ok (.ireturn, 1) := by decide +kernel
theorem dX7_went_67 : decode cX7_went 67 = .ok (.iload_n 3, 1) := by decide +kernel
theorem dX7_went_68 : decode cX7_went 68 = .ok (.ifCond .ne 8, 3) := by decide +kernel
theorem dX7_went_71 : decode cX7_went 71 = .ok (.bipush (-2), 2) := by decide +kernel
theorem dX7_went_73 : decode cX7_went 73 = .ok (.goto 24, 3) := by decide +kernel
theorem dX7_went_76 : decode cX7_went 76 = .ok (.aload_n 0, 1) := by decide +kernel
theorem dX7_went_77 : decode cX7_went 77 = .ok (.getfield 70, 3) := by decide +kernel
theorem dX7_went_80 : decode cX7_went 80 = .ok (.getfield 241, 3) := by decide +kernel
theorem dX7_went_83 : decode cX7_went 83 = .ok (.iload_n 2, 1) := by decide +kernel
theorem dX7_went_84 : decode cX7_went 84 = .ok (.iconst 1, 1) := by decide +kernel
theorem dX7_went_85 : decode cX7_went 85 = .ok (.isub, 1) := by decide +kernel
theorem dX7_went_86 : decode cX7_went 86 = .ok (.iconst 3, 1) := by decide +kernel
theorem dX7_went_87 : decode cX7_went 87 = .ok (.idiv, 1) := by decide +kernel
theorem dX7_went_88 : decode cX7_went 88 = .ok (.iaload, 1) := by decide +kernel
theorem dX7_went_89 : decode cX7_went 89 = .ok (.iload_n 2, 1) := by decide +kernel
theorem dX7_went_90 : decode cX7_went 90 = .ok (.iconst 1, 1) := by decide +kernel
theorem dX7_went_91 : decode cX7_went 91 = .ok (.isub, 1) := by decide +kernel
theorem dX7_went_92 : decode cX7_went 92 = .ok (.iconst 3, 1) := by decide +kernel
theorem dX7_went_93 : decode cX7_went 93 = .ok (.irem, 1) := by decide +kernel
theorem dX7_went_94 : decode cX7_went 94 = .ok (.invokestatic 218, 3) := by decide +kernel
theorem dX7_went_97 : decode cX7_went 97 = .ok (.ireturn, 1) := by decide +kernel
theorem dX7_book_0 : decode cX7_book 0 = .ok (.iload_n 1, 1) := by decide +kernel
theorem dX7_book_1 : decode cX7_book 1 = .ok (.iconst (-1), 1) := by decide +kernel
theorem dX7_book_2 : decode cX7_book 2 = .ok (.if_icmp .ne 13, 3) := by decide +kernel
theorem dX7_book_5 : decode cX7_book 5 = .ok (.aload_n 0, 1) := by decide +kernel
theorem dX7_book_6 : decode cX7_book 6 = .ok (.getfield 19, 3) := by decide +kernel
theorem dX7_book_9 : decode cX7_book 9 = .ok (.iconst 0, 1) := by decide +kernel
theorem dX7_book_10 : decode cX7_book 10 = .ok (.putfield 244, 3) := by decide +kernel
theorem dX7_book_13 : decode cX7_book 13 = .ok (.iconst 0, 1) := by decide +kernel
theorem dX7_book_14 : decode cX7_book 14 = .ok (.ireturn, 1) := by decide +kernel
theorem dX7_book_15 : decode cX7_book 15 = .ok (.aload_n 0, 1) := by decide +kernel
theorem dX7_book_16 : decode cX7_book 16 = .ok (.getfield 19, 3) := by decide +kernel
theorem dX7_book_19 : decode cX7_book 19 = .ok (.iload_n 1, 1) := by decide +kernel
theorem dX7_book_20 : decode cX7_book 20 = .ok (.iload_n 2, 1) := by decide +kernel
theorem dX7_book_21 : decode cX7_book 21 = .ok (.iload_n 3, 1) := by decide +kernel
theorem dX7_book_22 : decode cX7_book 22 = .ok (.invokevirtual 159, 3) := by decide +kernel
theorem dX7_book_25 : decode cX7_book 25 = .ok (.ifCond .eq 15, 3) := by decide +kernel
theorem dX7_book_28 : decode cX7_book 28 = .ok (.aload_n 0, 1) := by decide +kernel
theorem dX7_book_29 : decode cX7_book 29 = .ok (.getfield 19, 3) := by decide +kernel
theorem dX7_book_32 : decode cX7_book 32 = .ok (.getfield 244, 3) := by decide +kernel
theorem dX7_book_35 : decode cX7_book 35 = .ok (.bipush 10, 2) := by decide +kernel
theorem dX7_book_37 : decode cX7_book 37 = .ok (.if_icmp .lt 6, 3) := by decide +kernel
theorem dX7_book_40 : decode cX7_book 40 = .ok (.bipush (-2), 2) := by decide +kernel
theorem dX7_book_42 : decode cX7_book 42 = .ok (.ireturn, 1) := by decide +kernel
theorem dX7_book_43 : decode cX7_book 43 = .ok (.aload_n 0, 1) := by decide +kernel
theorem dX7_book_44 : decode cX7_book 44 = .ok (.getfield 19, 3) := by decide +kernel
theorem dX7_book_47 : decode cX7_book 47 = .ok (.getfield 247, 3) := by decide +kernel
theorem dX7_book_50 : decode cX7_book 50 = .ok (.aload_n 0, 1) := by decide +kernel
theorem dX7_book_51 : decode cX7_book 51 = .ok (.getfield 19, 3) := by decide +kernel
theorem dX7_book_54 : decode cX7_book 54 = .ok (.getfield 244, 3) := by decide +kernel
theorem dX7_book_57 : decode cX7_book 57 = .ok (.iload_n 1, 1) := by decide +kernel
theorem dX7_book_58 : decode cX7_book 58 = .ok (.iload_n 2, 1) := by decide +kernel
theorem dX7_book_59 : decode cX7_book 59 = .ok (.iload_n 3, 1) := by decide +kernel
theorem dX7_book_60 : decode cX7_book 60 = .ok (.invokestatic 153, 3) := by decide +kernel
theorem dX7_book_63 : decode cX7_book 63 = .ok (.iastore, 1) := by decide +kernel
theorem dX7_book_64 : decode cX7_book 64 = .ok (.aload_n 0, 1) := by decide +kernel
theorem dX7_book_65 : decode cX7_book 65 = .ok (.getfield 19, 3) := by decide +kernel
theorem dX7_book_68 : decode cX7_book 68 = .ok (.dup, 1) := by decide +kernel
theorem dX7_book_69 : decode cX7_book 69 = .ok (.getfield 244, 3) := by decide +kernel
theorem dX7_book_72 : decode cX7_book 72 = .ok (.iconst 1, 1) := by decide +kernel
theorem dX7_book_73 : decode cX7_book 73 = .ok (.iadd, 1) := by decide +kernel
theorem dX7_book_74 : decode cX7_book 74 = .ok (.putfield 244, 3) := by decide +kernel
theorem dX7_book_77 : decode cX7_book 77 = .ok (.aload_n 0, 1) := by decide +kernel
theorem dX7_book_78 : decode cX7_book 78 = .ok (.getfield 19, 3) := by decide +kernel
theorem dX7_book_81 : decode cX7_book 81 = .ok (.getfield 244, 3) := by decide +kernel
theorem dX7_book_84 : decode cX7_book 84 = .ok (.ireturn, 1) := by decide +kernel
theorem dX7_smuggled_0 : decode cX7_smuggled 0 = .ok (.aload_n 0, 1) := by decide +kernel
theorem dX7_smuggled_1 : decode cX7_smuggled 1 = .ok (.getfield 19, 3) := by decide +kernel
theorem dX7_smuggled_4 : decode cX7_smuggled 4 = .ok (.getfield 97, 3) := by decide +kernel
theorem dX7_smuggled_7 : decode cX7_smuggled 7 = .ok (.ifCond .eq 12, 3) := by decide +kernel
theorem dX7_smuggled_10 : decode cX7_smuggled 10 = .ok (.iload_n 1, 1) := by decide +kernel
theorem dX7_smuggled_11 : decode cX7_smuggled 11 = .ok (.ifCond .lt 8, 3) := by decide +kernel
theorem dX7_smuggled_14 : decode cX7_smuggled 14 = .ok (.iload_n 1, 1) := by decide +kernel
theorem dX7_smuggled_15 : decode cX7_smuggled 15 = .ok (.iconst 2, 1) := by decide +kernel
theorem dX7_smuggled_16 : decode cX7_smuggled 16 = .ok (.if_icmp .le 5, 3) := by decide +kernel
theorem dX7_smuggled_19 : decode cX7_smuggled 19 = .ok (.iconst (-1), 1) := by decide +kernel
theorem dX7_smuggled_20 : decode cX7_smuggled 20 = .ok (.ireturn, 1) := by decide +kernel
theorem dX7_smuggled_21 : decode cX7_smuggled 21 = .ok (.aload_n 0, 1) := by decide +kernel
theorem dX7_smuggled_22 : decode cX7_smuggled 22 = .ok (.getfield 70, 3) := by decide +kernel
theorem dX7_smuggled_25 : decode cX7_smuggled 25 = .ok (.aload_n 0, 1) := by decide +kernel
theorem dX7_smuggled_26 : decode cX7_smuggled 26 = .ok (.getfield 19, 3) := by decide +kernel
theorem dX7_smuggled_29 : decode cX7_smuggled 29 = .ok (.invokevirtual 250, 3) := by decide +kernel
theorem dX7_smuggled_32 : decode cX7_smuggled 32 = .ok (.iload_n 1, 1) := by decide +kernel
theorem dX7_smuggled_33 : decode cX7_smuggled 33 = .ok (.lookupswitch 58 #[(0, 27), (1, 35)], 27) := by decide +kernel
theorem dX7_smuggled_60 : decode cX7_smuggled 60 = .ok (.aload_n 0, 1) := by decide +kernel
theorem dX7_smuggled_61 : decode cX7_smuggled 61 = .ok (.getfield 70, 3) := by decide +kernel
theorem dX7_smuggled_64 : decode cX7_smuggled 64 = .ok (.getfield 253, 3) := by decide +kernel
theorem dX7_smuggled_67 : decode cX7_smuggled 67 = .ok (.ireturn, 1) := by decide +kernel
theorem dX7_smuggled_68 : decode cX7_smuggled 68 = .ok (.aload_n 0, 1) := by decide +kernel
theorem dX7_smuggled_69 : decode cX7_smuggled 69 = .ok (.getfield 70, 3) := by decide +kernel
theorem dX7_smuggled_72 : decode cX7_smuggled 72 = .ok (.getfield 253, 3) := by decide +kernel
theorem dX7_smuggled_75 : decode cX7_smuggled 75 = .ok (.ifCond .ne 8, 3) := by decide +kernel
theorem dX7_smuggled_78 : decode cX7_smuggled 78 = .ok (.bipush (-2), 2) := by decide +kernel
theorem dX7_smuggled_80 : decode cX7_smuggled 80 = .ok (.goto 10, 3) := by decide +kernel
theorem dX7_smuggled_83 : decode cX7_smuggled 83 = .ok (.aload_n 0, 1) := by decide +kernel
theorem dX7_smuggled_84 : decode cX7_smuggled 84 = .ok (.getfield 70, 3) := by decide +kernel
theorem dX7_smuggled_87 : decode cX7_smuggled 87 = .ok (.getfield 256, 3) := by decide +kernel
theorem dX7_smuggled_90 : decode cX7_smuggled 90 = .ok (.ireturn, 1) := by decide +kernel
theorem dX7_smuggled_91 : decode cX7_smuggled 91 = .ok (.aload_n 0, 1) := by decide +kernel
theorem dX7_smuggled_92 : decode cX7_smuggled 92 = .ok (.getfield 70, 3) := by decide +kernel
theorem dX7_smuggled_95 : decode cX7_smuggled 95 = .ok (.getfield 253, 3) := by decide +kernel
theorem dX7_smuggled_98 : decode cX7_smuggled 98 = .ok (.ifCond .ne 7, 3) := by decide +kernel
theorem dX7_smuggled_101 : decode cX7_smuggled 101 = .ok (.iconst 0, 1) := by decide +kernel
theorem dX7_smuggled_102 : decode cX7_smuggled 102 = .ok (.goto 10, 3) := by decide +kernel
theorem dX7_smuggled_105 : decode cX7_smuggled 105 = .ok (.aload_n 0, 1) := by decide +kernel
theorem dX7_smuggled_106 : decode cX7_smuggled 106 = .ok (.getfield 70, 3) := by decide +kernel
theorem dX7_smuggled_109 : decode cX7_smuggled 109 = .ok (.getfield 259, 3) := by decide +kernel
theorem dX7_smuggled_112 : decode cX7_smuggled 112 = .ok (.ireturn, 1) := by decide +kernel
theorem dX7_seed_0 : decode cX7_seed 0 = .ok (.iload_n 1, 1) := by decide +kernel
theorem dX7_seed_1 : decode cX7_seed 1 = .ok (.ifCond .ge 5, 3) := by decide +kernel
theorem dX7_seed_4 : decode cX7_seed 4 = .ok (.iconst (-1), 1) := by decide +kernel
theorem dX7_seed_5 : decode cX7_seed 5 = .ok (.ireturn, 1) := by decide +kernel
theorem dX7_seed_6 : decode cX7_seed 6 = .ok (.aload_n 0, 1) := by decide +kernel
theorem dX7_seed_7 : decode cX7_seed 7 = .ok (.getfield 19, 3) := by decide +kernel
theorem dX7_seed_10 : decode cX7_seed 10 = .ok (.getfield 88, 3) := by decide +kernel
theorem dX7_seed_13 : decode cX7_seed 13 = .ok (.istore_n 2, 1) := by decide +kernel
theorem dX7_seed_14 : decode cX7_seed 14 = .ok (.aload_n 0, 1) := by decide +kernel
theorem dX7_seed_15 : decode cX7_seed 15 = .ok (.getfield 19, 3) := by decide +kernel
theorem dX7_seed_18 : decode cX7_seed 18 = .ok (.iload_n 1, 1) := by decide +kernel
theorem dX7_seed_19 : decode cX7_seed 19 = .ok (.putfield 88, 3) := by decide +kernel
theorem dX7_seed_22 : decode cX7_seed 22 = .ok (.iload_n 2, 1) := by decide +kernel
theorem dX7_seed_23 : decode cX7_seed 23 = .ok (.ireturn, 1) := by decide +kernel
theorem dX7_seasons_0 : decode cX7_seasons 0 = .ok (.aload_n 0, 1) := by decide +kernel
theorem dX7_seasons_1 : decode cX7_seasons 1 = .ok (.getfield 19, 3) := by decide +kernel
theorem dX7_seasons_4 : decode cX7_seasons 4 = .ok (.getfield 97, 3) := by decide +kernel
theorem dX7_seasons_7 : decode cX7_seasons 7 = .ok (.ifCond .eq 34, 3) := by decide +kernel
theorem dX7_seasons_10 : decode cX7_seasons 10 = .ok (.iload_n 1, 1) := by decide +kernel
theorem dX7_seasons_11 : decode cX7_seasons 11 = .ok (.iconst 1, 1) := by decide +kernel
theorem dX7_seasons_12 : decode cX7_seasons 12 = .ok (.if_icmp .lt 29, 3) := by decide +kernel
theorem dX7_seasons_15 : decode cX7_seasons 15 = .ok (.iload_n 1, 1) := by decide +kernel
theorem dX7_seasons_16 : decode cX7_seasons 16 = .ok (.bipush 20, 2) := by decide +kernel
theorem dX7_seasons_18 : decode cX7_seasons 18 = .ok (.if_icmp .gt 23, 3) := by decide +kernel
theorem dX7_seasons_21 : decode cX7_seasons 21 = .ok (.iload_n 2, 1) := by decide +kernel
theorem dX7_seasons_22 : decode cX7_seasons 22 = .ok (.iconst 1, 1) := by decide +kernel
theorem dX7_seasons_23 : decode cX7_seasons 23 = .ok (.if_icmp .lt 18, 3) := by decide +kernel
theorem dX7_seasons_26 : decode cX7_seasons 26 = .ok (.iload_n 2, 1) := by decide +kernel
theorem dX7_seasons_27 : decode cX7_seasons 27 = .ok (.bipush 99, 2) := by decide +kernel
theorem dX7_seasons_29 : decode cX7_seasons 29 = .ok (.if_icmp .gt 12, 3) := by decide +kernel
theorem dX7_seasons_32 : decode cX7_seasons 32 = .ok (.iload_n 3, 1) := by decide +kernel
theorem dX7_seasons_33 : decode cX7_seasons 33 = .ok (.ifCond .lt 8, 3) := by decide +kernel
theorem dX7_seasons_36 : decode cX7_seasons 36 = .ok (.iload_n 3, 1) := by decide +kernel
theorem dX7_seasons_37 : decode cX7_seasons 37 = .ok (.iconst 1, 1) := by decide +kernel
theorem dX7_seasons_38 : decode cX7_seasons 38 = .ok (.if_icmp .le 5, 3) := by decide +kernel
theorem dX7_seasons_41 : decode cX7_seasons 41 = .ok (.iconst (-1), 1) := by decide +kernel
theorem dX7_seasons_42 : decode cX7_seasons 42 = .ok (.ireturn, 1) := by decide +kernel
theorem dX7_seasons_43 : decode cX7_seasons 43 = .ok (.iconst 0, 1) := by decide +kernel
theorem dX7_seasons_44 : decode cX7_seasons 44 = .ok (.istore 4, 2) := by decide +kernel
theorem dX7_seasons_46 : decode cX7_seasons 46 = .ok (.iconst 0, 1) := by decide +kernel
theorem dX7_seasons_47 : decode cX7_seasons 47 = .ok (.istore 5, 2) := by decide +kernel
theorem dX7_seasons_49 : decode cX7_seasons 49 = .ok (.aload_n 0, 1) := by decide +kernel
theorem dX7_seasons_50 : decode cX7_seasons 50 = .ok (.getfield 19, 3) := by decide +kernel
theorem dX7_seasons_53 : decode cX7_seasons 53 = .ok (.getfield 88, 3) := by decide +kernel
theorem dX7_seasons_56 : decode cX7_seasons 56 = .ok (.istore 6, 2) := by decide +kernel
theorem dX7_seasons_58 : decode cX7_seasons 58 = .ok (.iconst 0, 1) := by decide +kernel
theorem dX7_seasons_59 : decode cX7_seasons 59 = .ok (.istore 7, 2) := by decide +kernel
theorem dX7_seasons_61 : decode cX7_seasons 61 = .ok (.iload 7, 2) := by decide +kernel
theorem dX7_seasons_63 : decode cX7_seasons 63 = .ok (.iload_n 1, 1) := by decide +kernel
theorem dX7_seasons_64 : decode cX7_seasons 64 = .ok (.if_icmp .ge 96, 3) := by decide +kernel
theorem dX7_seasons_67 : decode cX7_seasons 67 = .ok (.aload_n 0, 1) := by decide +kernel
theorem dX7_seasons_68 : decode cX7_seasons 68 = .ok (.getfield 23, 3) := by decide +kernel
theorem dX7_seasons_71 : decode cX7_seasons 71 = .ok (.aload_n 0, 1) := by decide +kernel
theorem dX7_seasons_72 : decode cX7_seasons 72 = .ok (.getfield 19, 3) := by decide +kernel
theorem dX7_seasons_75 : decode cX7_seasons 75 = .ok (.invokevirtual 91, 3) := by decide +kernel
theorem dX7_seasons_78 : decode cX7_seasons 78 = .ok (.aload_n 0, 1) := by decide +kernel
theorem dX7_seasons_79 : decode cX7_seasons 79 = .ok (.getfield 23, 3) := by decide +kernel
theorem dX7_seasons_82 : decode cX7_seasons 82 = .ok (.iload 6, 2) := by decide +kernel
theorem dX7_seasons_84 : decode cX7_seasons 84 = .ok (.putfield 88, 3) := by decide +kernel
theorem dX7_seasons_87 : decode cX7_seasons 87 = .ok (.aload_n 0, 1) := by decide +kernel
theorem dX7_seasons_88 : decode cX7_seasons 88 = .ok (.getfield 23, 3) := by decide +kernel
theorem dX7_seasons_91 : decode cX7_seasons 91 = .ok (.iload_n 2, 1) := by decide +kernel
theorem dX7_seasons_92 : decode cX7_seasons 92 = .ok (.invokevirtual 262, 3) := by decide +kernel
theorem dX7_seasons_95 : decode cX7_seasons 95 = .ok (.aload_n 0, 1) := by decide +kernel
theorem dX7_seasons_96 : decode cX7_seasons 96 = .ok (.getfield 23, 3) := by decide +kernel
theorem dX7_seasons_99 : decode cX7_seasons 99 = .ok (.getfield 88, 3) := by decide +kernel
theorem dX7_seasons_102 : decode cX7_seasons 102 = .ok (.istore 6, 2) := by decide +kernel
theorem dX7_seasons_104 : decode cX7_seasons 104 = .ok (.aload_n 0, 1) := by decide +kernel
theorem dX7_seasons_105 : decode cX7_seasons 105 = .ok (.getfield 23, 3) := by decide +kernel
theorem dX7_seasons_108 : decode cX7_seasons 108 = .ok (.aload_n 0, 1) := by decide +kernel
theorem dX7_seasons_109 : decode cX7_seasons 109 = .ok (.invokevirtual 163, 3) := by decide +kernel
theorem dX7_seasons_112 : decode cX7_seasons 112 = .ok (.sipush 200, 3) := by decide +kernel
theorem dX7_seasons_115 : decode cX7_seasons 115 = .ok (.invokevirtual 179, 3) := by decide +kernel
theorem dX7_seasons_118 : decode cX7_seasons 118 = .ok (.pop, 1) := by decide +kernel
theorem dX7_seasons_119 : decode cX7_seasons 119 = .ok (.iload 4, 2) := by decide +kernel
theorem dX7_seasons_121 : decode cX7_seasons 121 = .ok (.aload_n 0, 1) := by decide +kernel
theorem dX7_seasons_122 : decode cX7_seasons 122 = .ok (.getfield 23, 3) := by decide +kernel
theorem dX7_seasons_125 : decode cX7_seasons 125 = .ok (.invokevirtual 183, 3) := by decide +kernel
theorem dX7_seasons_128 : decode cX7_seasons 128 = .ok (.invokestatic 186, 3) := by decide +kernel
theorem dX7_seasons_131 : decode cX7_seasons 131 = .ok (.iadd, 1) := by decide +kernel
theorem dX7_seasons_132 : decode cX7_seasons 132 = .ok (.istore 4, 2) := by decide +kernel
theorem dX7_seasons_134 : decode cX7_seasons 134 = .ok (.iload 5, 2) := by decide +kernel
theorem dX7_seasons_136 : decode cX7_seasons 136 = .ok (.aload_n 0, 1) := by decide +kernel
theorem dX7_seasons_137 : decode cX7_seasons 137 = .ok (.getfield 23, 3) := by decide +kernel
theorem dX7_seasons_140 : decode cX7_seasons 140 = .ok (.getfield 191, 3) := by decide +kernel
theorem dX7_seasons_143 : decode cX7_seasons 143 = .ok (.aload_n 0, 1) := by decide +kernel
theorem dX7_seasons_144 : decode cX7_seasons 144 = .ok (.getfield 19, 3) := by decide +kernel
theorem dX7_seasons_147 : decode cX7_seasons 147 = .ok (.getfield 191, 3) := by decide +kernel
theorem dX7_seasons_150 : decode cX7_seasons 150 = .ok (.isub, 1) := by decide +kernel
theorem dX7_seasons_151 : decode cX7_seasons 151 = .ok (.iadd, 1) := by decide +kernel
theorem dX7_seasons_152 : decode cX7_seasons 152 = .ok (.istore 5, 2) := by decide +kernel
theorem dX7_seasons_154 : decode cX7_seasons 154 = .ok (.iinc 7 1, 3) := by decide +kernel
theorem dX7_seasons_157 : decode cX7_seasons 157 = .ok (.goto (-96), 3) := by decide +kernel
theorem dX7_seasons_160 : decode cX7_seasons 160 = .ok (.iload_n 3, 1) := by decide +kernel
theorem dX7_seasons_161 : decode cX7_seasons 161 = .ok (.ifCond .ne 8, 3) := by decide +kernel
theorem dX7_seasons_164 : decode cX7_seasons 164 = .ok (.iload 4, 2) := by decide +kernel
theorem dX7_seasons_166 : decode cX7_seasons 166 = .ok (.goto 5, 3) := by decide +kernel
theorem dX7_seasons_169 : decode cX7_seasons 169 = .ok (.iload 5, 2) := by decide +kernel
theorem dX7_seasons_171 : decode cX7_seasons 171 = .ok (.ireturn, 1) := by decide +kernel
theorem dX7_count_0 : decode cX7_count 0 = .ok (.iload_n 1, 1) := by decide +kernel
theorem dX7_count_1 : decode cX7_count 1 = .ok (.tableswitch 171 0 12 #[67, 75, 83, 94, 102, 110, 118, 123, 131, 139, 147, 155, 163], 67) := by decide +kernel
theorem dX7_count_68 : decode cX7_count 68 = .ok (.aload_n 0, 1) := by decide +kernel
theorem dX7_count_69 : decode cX7_count 69 = .ok (.getfield 19, 3) := by decide +kernel
theorem dX7_count_72 : decode cX7_count 72 = .ok (.getfield 97, 3) := by decide +kernel
theorem dX7_count_75 : decode cX7_count 75 = .ok (.ireturn, 1) := by decide +kernel
theorem dX7_count_76 : decode cX7_count 76 = .ok (.aload_n 0, 1) := by decide +kernel
theorem dX7_count_77 : decode cX7_count 77 = .ok (.getfield 19, 3) := by decide +kernel
theorem dX7_count_80 : decode cX7_count 80 = .ok (.getfield 221, 3) := by decide +kernel
theorem dX7_count_83 : decode cX7_count 83 = .ok (.ireturn, 1) := by decide +kernel
theorem dX7_count_84 : decode cX7_count 84 = .ok (.aload_n 0, 1) := by decide +kernel
theorem dX7_count_85 : decode cX7_count 85 = .ok (.getfield 19, 3) := by decide +kernel
theorem dX7_count_88 : decode cX7_count 88 = .ok (.invokevirtual 183, 3) := by decide +kernel
theorem dX7_count_91 : decode cX7_count 91 = .ok (.invokestatic 186, 3) := by decide +kernel
theorem dX7_count_94 : decode cX7_count 94 = .ok (.ireturn, 1) := by decide +kernel
theorem dX7_count_95 : decode cX7_count 95 = .ok (.aload_n 0, 1) := by decide +kernel
theorem dX7_count_96 : decode cX7_count 96 = .ok (.getfield 19, 3) := by decide +kernel
theorem dX7_count_99 : decode cX7_count 99 = .ok (.getfield 265, 3) := by decide +kernel
theorem dX7_count_102 : decode cX7_count 102 = .ok (.ireturn, 1) := by decide +kernel
theorem dX7_count_103 : decode cX7_count 103 = .ok (.aload_n 0, 1) := by decide +kernel
theorem dX7_count_104 : decode cX7_count 104 = .ok (.getfield 19, 3) := by decide +kernel
theorem dX7_count_107 : decode cX7_count 107 = .ok (.invokevirtual 268, 3) := by decide +kernel
theorem dX7_count_110 : decode cX7_count 110 = .ok (.ireturn, 1) := by decide +kernel
theorem dX7_count_111 : decode cX7_count 111 = .ok (.aload_n 0, 1) := by decide +kernel
theorem dX7_count_112 : decode cX7_count 112 = .ok (.getfield 19, 3) := by decide +kernel
theorem dX7_count_115 : decode cX7_count 115 = .ok (.getfield 191, 3) := by decide +kernel
theorem dX7_count_118 : decode cX7_count 118 = .ok (.ireturn, 1) := by decide +kernel
theorem dX7_count_119 : decode cX7_count 119 = .ok (.aload_n 0, 1) := by decide +kernel
theorem dX7_count_120 : decode cX7_count 120 = .ok (.getfield 36, 3) := by decide +kernel
theorem dX7_count_123 : decode cX7_count 123 = .ok (.ireturn, 1) := by decide +kernel
theorem dX7_count_124 : decode cX7_count 124 = .ok (.aload_n 0, 1) := by decide +kernel
theorem dX7_count_125 : decode cX7_count 125 = .ok (.getfield 19, 3) := by decide +kernel
theorem dX7_count_128 : decode cX7_count 128 = .ok (.getfield 85, 3) := by decide +kernel
theorem dX7_count_131 : decode cX7_count 131 = .ok (.ireturn, 1) := by decide +kernel
theorem dX7_count_132 : decode cX7_count 132 = .ok (.aload_n 0, 1) := by decide +kernel
theorem dX7_count_133 : decode cX7_count 133 = .ok (.getfield 19, 3) := by decide +kernel
theorem dX7_count_136 : decode cX7_count 136 = .ok (.getfield 271, 3) := by decide +kernel
theorem dX7_count_139 : decode cX7_count 139 = .ok (.ireturn, 1) := by decide +kernel
theorem dX7_count_140 : decode cX7_count 140 = .ok (.aload_n 0, 1) := by decide +kernel
theorem dX7_count_141 : decode cX7_count 141 = .ok (.getfield 19, 3) := by decide +kernel
theorem dX7_count_144 : decode cX7_count 144 = .ok (.getfield 244, 3) := by decide +kernel
theorem dX7_count_147 : decode cX7_count 147 = .ok (.ireturn, 1) := by decide +kernel
theorem dX7_count_148 : decode cX7_count 148 = .ok (.aload_n 0, 1) := by decide +kernel
theorem dX7_count_149 : decode cX7_count 149 = .ok (.getfield 19, 3) := by decide +kernel
theorem dX7_count_152 : decode cX7_count 152 = .ok (.invokevirtual 274, 3) := by decide +kernel
theorem dX7_count_155 : decode cX7_count 155 = .ok (.ireturn, 1) := by decide +kernel
theorem dX7_count_156 : decode cX7_count 156 = .ok (.aload_n 0, 1) := by decide +kernel
theorem dX7_count_157 : decode cX7_count 157 = .ok (.getfield 19, 3) := by decide +kernel
theorem dX7_count_160 : decode cX7_count 160 = .ok (.getfield 88, 3) := by decide +kernel
theorem dX7_count_163 : decode cX7_count 163 = .ok (.ireturn, 1) := by decide +kernel
theorem dX7_count_164 : decode cX7_count 164 = .ok (.aload_n 0, 1) := by decide +kernel
theorem dX7_count_165 : decode cX7_count 165 = .ok (.getfield 10, 3) := by decide +kernel
theorem dX7_count_168 : decode cX7_count 168 = .ok (.getfield 74, 3) := by decide +kernel
theorem dX7_count_171 : decode cX7_count 171 = .ok (.ireturn, 1) := by decide +kernel
theorem dX7_count_172 : decode cX7_count 172 = .ok (.iconst (-1), 1) := by decide +kernel
theorem dX7_count_173 : decode cX7_count 173 = .ok (.ireturn, 1) := by decide +kernel
theorem dX7_image_0 : decode cX7_image 0 = .ok (.iload_n 1, 1) := by decide +kernel
theorem dX7_image_1 : decode cX7_image 1 = .ok (.ifCond .lt 8, 3) := by decide +kernel
theorem dX7_image_4 : decode cX7_image 4 = .ok (.iload_n 1, 1) := by decide +kernel
theorem dX7_image_5 : decode cX7_image 5 = .ok (.iconst 4, 1) := by decide +kernel
theorem dX7_image_6 : decode cX7_image 6 = .ok (.if_icmp .lt 5, 3) := by decide +kernel
theorem dX7_image_9 : decode cX7_image 9 = .ok (.iconst (-1), 1) := by decide +kernel
theorem dX7_image_10 : decode cX7_image 10 = .ok (.ireturn, 1) := by decide +kernel
theorem dX7_image_11 : decode cX7_image 11 = .ok (.aload_n 0, 1) := by decide +kernel
theorem dX7_image_12 : decode cX7_image 12 = .ok (.getfield 26, 3) := by decide +kernel
theorem dX7_image_15 : decode cX7_image 15 = .ok (.iload_n 1, 1) := by decide +kernel
theorem dX7_image_16 : decode cX7_image 16 = .ok (.aaload, 1) := by decide +kernel
theorem dX7_image_17 : decode cX7_image 17 = .ok (.ifnonnull 16, 3) := by decide +kernel
theorem dX7_image_20 : decode cX7_image 20 = .ok (.aload_n 0, 1) := by decide +kernel
theorem dX7_image_21 : decode cX7_image 21 = .ok (.getfield 26, 3) := by decide +kernel
theorem dX7_image_24 : decode cX7_image 24 = .ok (.iload_n 1, 1) := by decide +kernel
theorem dX7_image_25 : decode cX7_image 25 = .ok (.new 16, 3) := by decide +kernel
theorem dX7_image_28 : decode cX7_image 28 = .ok (.dup, 1) := by decide +kernel
theorem dX7_image_29 : decode cX7_image 29 = .ok (.invokespecial 18, 3) := by decide +kernel
theorem dX7_image_32 : decode cX7_image 32 = .ok (.aastore, 1) := by decide +kernel
theorem dX7_image_33 : decode cX7_image 33 = .ok (.aload_n 0, 1) := by decide +kernel
theorem dX7_image_34 : decode cX7_image 34 = .ok (.getfield 26, 3) := by decide +kernel
theorem dX7_image_37 : decode cX7_image 37 = .ok (.iload_n 1, 1) := by decide +kernel
theorem dX7_image_38 : decode cX7_image 38 = .ok (.aaload, 1) := by decide +kernel
theorem dX7_image_39 : decode cX7_image 39 = .ok (.aload_n 0, 1) := by decide +kernel
theorem dX7_image_40 : decode cX7_image 40 = .ok (.getfield 19, 3) := by decide +kernel
theorem dX7_image_43 : decode cX7_image 43 = .ok (.invokevirtual 91, 3) := by decide +kernel
theorem dX7_image_46 : decode cX7_image 46 = .ok (.aload_n 0, 1) := by decide +kernel
theorem dX7_image_47 : decode cX7_image 47 = .ok (.getfield 19, 3) := by decide +kernel
theorem dX7_image_50 : decode cX7_image 50 = .ok (.getfield 265, 3) := by decide +kernel
theorem dX7_image_53 : decode cX7_image 53 = .ok (.ireturn, 1) := by decide +kernel
theorem dX7_back_0 : decode cX7_back 0 = .ok (.iload_n 1, 1) := by decide +kernel
theorem dX7_back_1 : decode cX7_back 1 = .ok (.ifCond .lt 17, 3) := by decide +kernel
theorem dX7_back_4 : decode cX7_back 4 = .ok (.iload_n 1, 1) := by decide +kernel
theorem dX7_back_5 : decode cX7_back 5 = .ok (.iconst 4, 1) := by decide +kernel
theorem dX7_back_6 : decode cX7_back 6 = .ok (.if_icmp .ge 12, 3) := by decide +kernel
theorem dX7_back_9 : decode cX7_back 9 = .ok (.aload_n 0, 1) := by decide +kernel
theorem dX7_back_10 : decode cX7_back 10 = .ok (.getfield 26, 3) := by decide +kernel
theorem dX7_back_13 : decode cX7_back 13 = .ok (.iload_n 1, 1) := by decide +kernel
theorem dX7_back_14 : decode cX7_back 14 = .ok (.aaload, 1) := by decide +kernel
theorem dX7_back_15 : decode cX7_back 15 = .ok (.ifnonnull 5, 3) := by decide +kernel
theorem dX7_back_18 : decode cX7_back 18 = .ok (.iconst (-1), 1) := by decide +kernel
theorem dX7_back_19 : decode cX7_back 19 = .ok (.ireturn, 1) := by decide +kernel
theorem dX7_back_20 : decode cX7_back 20 = .ok (.aload_n 0, 1) := by decide +kernel
theorem dX7_back_21 : decode cX7_back 21 = .ok (.getfield 19, 3) := by decide +kernel
theorem dX7_back_24 : decode cX7_back 24 = .ok (.aload_n 0, 1) := by decide +kernel
theorem dX7_back_25 : decode cX7_back 25 = .ok (.getfield 26, 3) := by decide +kernel
theorem dX7_back_28 : decode cX7_back 28 = .ok (.iload_n 1, 1) := by decide +kernel
theorem dX7_back_29 : decode cX7_back 29 = .ok (.aaload, 1) := by decide +kernel
theorem dX7_back_30 : decode cX7_back 30 = .ok (.invokevirtual 91, 3) := by decide +kernel
theorem dX7_back_33 : decode cX7_back 33 = .ok (.aload_n 0, 1) := by decide +kernel
theorem dX7_back_34 : decode cX7_back 34 = .ok (.getfield 63, 3) := by decide +kernel
theorem dX7_back_37 : decode cX7_back 37 = .ok (.invokevirtual 94, 3) := by decide +kernel
theorem dX7_back_40 : decode cX7_back 40 = .ok (.aload_n 0, 1) := by decide +kernel
theorem dX7_back_41 : decode cX7_back 41 = .ok (.getfield 19, 3) := by decide +kernel
theorem dX7_back_44 : decode cX7_back 44 = .ok (.getfield 265, 3) := by decide +kernel
theorem dX7_back_47 : decode cX7_back 47 = .ok (.ireturn, 1) := by decide +kernel
theorem dX7_ruleInForce_0 : decode cX7_ruleInForce 0 = .ok (.aload_n 0, 1) := by decide +kernel
theorem dX7_ruleInForce_1 : decode cX7_ruleInForce 1 = .ok (.getfield 19, 3) := by decide +kernel
theorem dX7_ruleInForce_4 : decode cX7_ruleInForce 4 = .ok (.getfield 85, 3) := by decide +kernel
theorem dX7_ruleInForce_7 : decode cX7_ruleInForce 7 = .ok (.istore_n 1, 1) := by decide +kernel
theorem dX7_ruleInForce_8 : decode cX7_ruleInForce 8 = .ok (.iload_n 1, 1) := by decide +kernel
theorem dX7_ruleInForce_9 : decode cX7_ruleInForce 9 = .ok (.ifCond .lt 11, 3) := by decide +kernel
theorem dX7_ruleInForce_12 : decode cX7_ruleInForce 12 = .ok (.iload_n 1, 1) := by decide +kernel
theorem dX7_ruleInForce_13 : decode cX7_ruleInForce 13 = .ok (.aload_n 0, 1) := by decide +kernel
theorem dX7_ruleInForce_14 : decode cX7_ruleInForce 14 = .ok (.getfield 36, 3) := by decide +kernel
theorem dX7_ruleInForce_17 : decode cX7_ruleInForce 17 = .ok (.if_icmp .lt 7, 3) := by decide +kernel
theorem dX7_ruleInForce_20 : decode cX7_ruleInForce 20 = .ok (.aconst_null, 1) := by decide +kernel
theorem dX7_ruleInForce_21 : decode cX7_ruleInForce 21 = .ok (.goto 9, 3) := by decide +kernel
theorem dX7_ruleInForce_24 : decode cX7_ruleInForce 24 = .ok (.aload_n 0, 1) := by decide +kernel
theorem dX7_ruleInForce_25 : decode cX7_ruleInForce 25 = .ok (.getfield 32, 3) := by decide +kernel
theorem dX7_ruleInForce_28 : decode cX7_ruleInForce 28 = .ok (.iload_n 1, 1) := by decide +kernel
theorem dX7_ruleInForce_29 : decode cX7_ruleInForce 29 = .ok (.aaload, 1) := by decide +kernel
theorem dX7_ruleInForce_30 : decode cX7_ruleInForce 30 = .ok (.areturn, 1) := by decide +kernel
theorem dL_law_0 : decode cL_law 0 = .ok (.new 7, 3) := by decide +kernel
theorem dL_law_3 : decode cL_law 3 = .ok (.dup, 1) := by decide +kernel
theorem dL_law_4 : decode cL_law 4 = .ok (.invokespecial 9, 3) := by decide +kernel
theorem dL_law_7 : decode cL_law 7 = .ok (.astore_n 1, 1) := by decide +kernel
theorem dL_law_8 : decode cL_law 8 = .ok (.new 10, 3) := by decide +kernel
theorem dL_law_11 : decode cL_law 11 = .ok (.dup, 1) := by decide +kernel
theorem dL_law_12 : decode cL_law 12 = .ok (.invokespecial 12, 3) := by decide +kernel
theorem dL_law_15 : decode cL_law 15 = .ok (.astore_n 2, 1) := by decide +kernel
theorem dL_law_16 : decode cL_law 16 = .ok (.iconst 0, 1) := by decide +kernel
theorem dL_law_17 : decode cL_law 17 = .ok (.istore_n 3, 1) := by decide +kernel
theorem dL_law_18 : decode cL_law 18 = .ok (.iload_n 3, 1) := by decide +kernel
theorem dL_law_19 : decode cL_law 19 = .ok (.aload_n 0, 1) := by decide +kernel
theorem dL_law_20 : decode cL_law 20 = .ok (.arraylength, 1) := by decide +kernel
theorem dL_law_21 : decode cL_law 21 = .ok (.bipush 6, 2) := by decide +kernel
theorem dL_law_23 : decode cL_law 23 = .ok (.isub, 1) := by decide +kernel
theorem dL_law_24 : decode cL_law 24 = .ok (.if_icmp .gt 1034, 3) := by decide +kernel
theorem dL_law_27 : decode cL_law 27 = .ok (.aload_n 0, 1) := by decide +kernel
theorem dL_law_28 : decode cL_law 28 = .ok (.iload_n 3, 1) := by decide +kernel
theorem dL_law_29 : decode cL_law 29 = .ok (.iaload, 1) := by decide +kernel
theorem dL_law_30 : decode cL_law 30 = .ok (.bipush 31, 2) := by decide +kernel
theorem dL_law_32 : decode cL_law 32 = .ok (.iand, 1) := by decide +kernel
theorem dL_law_33 : decode cL_law 33 = .ok (.tableswitch 1019 0 27 #[127, 190, 213, 226, 239, 262, 295, 328, 371, 414, 447, 496, 519, 552, 565, 614, 683, 716, 739, 752, 785, 818, 861, 884, 907, 950, 973, 996], 127) := by decide +kernel
theorem dL_law_160 : decode cL_law 160 = .ok (.aload_n 1, 1) := by decide +kernel
theorem dL_law_161 : decode cL_law 161 = .ok (.aload_n 0, 1) := by decide +kernel
theorem dL_law_162 : decode cL_law 162 = .ok (.iload_n 3, 1) := by decide +kernel
theorem dL_law_163 : decode cL_law 163 = .ok (.iconst 1, 1) := by decide +kernel
theorem dL_law_164 : decode cL_law 164 = .ok (.iadd, 1) := by decide +kernel
theorem dL_law_165 : decode cL_law 165 = .ok (.iaload, 1) := by decide +kernel
theorem dL_law_166 : decode cL_law 166 = .ok (.aload_n 0, 1) := by decide +kernel
theorem dL_law_167 : decode cL_law 167 = .ok (.iload_n 3, 1) := by decide +kernel
theorem dL_law_168 : decode cL_law 168 = .ok (.iconst 2, 1) := by decide +kernel
theorem dL_law_169 : decode cL_law 169 = .ok (.iadd, 1) := by decide +kernel
theorem dL_law_170 : decode cL_law 170 = .ok (.iaload, 1) := by decide +kernel
theorem dL_law_171 : decode cL_law 171 = .ok (.aload_n 0, 1) := by decide +kernel
theorem dL_law_172 : decode cL_law 172 = .ok (.iload_n 3, 1) := by decide +kernel
theorem dL_law_173 : decode cL_law 173 = .ok (.iconst 3, 1) := by decide +kernel
theorem dL_law_174 : decode cL_law 174 = .ok (.iadd, 1) := by decide +kernel
theorem dL_law_175 : decode cL_law 175 = .ok (.iaload, 1) := by decide +kernel
theorem dL_law_176 : decode cL_law 176 = .ok (.aload_n 0, 1) := by decide +kernel
theorem dL_law_177 : decode cL_law 177 = .ok (.iload_n 3, 1) := by decide +kernel
theorem dL_law_178 : decode cL_law 178 = .ok (.iconst 4, 1) := by decide +kernel
theorem dL_law_179 : decode cL_law 179 = .ok (.iadd, 1) := by decide +kernel
theorem dL_law_180 : decode cL_law 180 = .ok (.iaload, 1) := by decide +kernel
theorem dL_law_181 : decode cL_law 181 = .ok (.aload_n 0, 1) := by decide +kernel
theorem dL_law_182 : decode cL_law 182 = .ok (.iload_n 3, 1) := by decide +kernel
theorem dL_law_183 : decode cL_law 183 = .ok (.iconst 5, 1) := by decide +kernel
theorem dL_law_184 : decode cL_law 184 = .ok (.iadd, 1) := by decide +kernel
theorem dL_law_185 : decode cL_law 185 = .ok (.iaload, 1) := by decide +kernel
theorem dL_law_186 : decode cL_law 186 = .ok (.invokevirtual 13, 3) := by decide +kernel
theorem dL_law_189 : decode cL_law 189 = .ok (.aload_n 2, 1) := by decide +kernel
theorem dL_law_190 : decode cL_law 190 = .ok (.aload_n 0, 1) := by decide +kernel
theorem dL_law_191 : decode cL_law 191 = .ok (.iload_n 3, 1) := by decide +kernel
theorem dL_law_192 : decode cL_law 192 = .ok (.iconst 1, 1) := by decide +kernel
theorem dL_law_193 : decode cL_law 193 = .ok (.iadd, 1) := by decide +kernel
theorem dL_law_194 : decode cL_law 194 = .ok (.iaload, 1) := by decide +kernel
theorem dL_law_195 : decode cL_law 195 = .ok (.aload_n 0, 1) := by decide +kernel
theorem dL_law_196 : decode cL_law 196 = .ok (.iload_n 3, 1) := by decide +kernel
theorem dL_law_197 : decode cL_law 197 = .ok (.iconst 2, 1) := by decide +kernel
theorem dL_law_198 : decode cL_law 198 = .ok (.iadd, 1) := by decide +kernel
theorem dL_law_199 : decode cL_law 199 = .ok (.iaload, 1) := by decide +kernel
theorem dL_law_200 : decode cL_law 200 = .ok (.aload_n 0, 1) := by decide +kernel
theorem dL_law_201 : decode cL_law 201 = .ok (.iload_n 3, 1) := by decide +kernel
theorem dL_law_202 : decode cL_law 202 = .ok (.iconst 3, 1) := by decide +kernel
theorem dL_law_203 : decode cL_law 203 = .ok (.iadd, 1) := by decide +kernel
theorem dL_law_204 : decode cL_law 204 = .ok (.iaload, 1) := by decide +kernel
theorem dL_law_205 : decode cL_law 205 = .ok (.aload_n 0, 1) := by decide +kernel
theorem dL_law_206 : decode cL_law 206 = .ok (.iload_n 3, 1) := by decide +kernel
theorem dL_law_207 : decode cL_law 207 = .ok (.iconst 4, 1) := by decide +kernel
theorem dL_law_208 : decode cL_law 208 = .ok (.iadd, 1) := by decide +kernel
theorem dL_law_209 : decode cL_law 209 = .ok (.iaload, 1) := by decide +kernel
theorem dL_law_210 : decode cL_law 210 = .ok (.aload_n 0, 1) := by decide +kernel
theorem dL_law_211 : decode cL_law 211 = .ok (.iload_n 3, 1) := by decide +kernel
theorem dL_law_212 : decode cL_law 212 = .ok (.iconst 5, 1) := by decide +kernel
theorem dL_law_213 : decode cL_law 213 = .ok (.iadd, 1) := by decide +kernel
theorem dL_law_214 : decode cL_law 214 = .ok (.iaload, 1) := by decide +kernel
theorem dL_law_215 : decode cL_law 215 = .ok (.invokevirtual 17, 3) := by decide +kernel
theorem dL_law_218 : decode cL_law 218 = .ok (.if_icmp .eq 834, 3) := by decide +kernel
theorem dL_law_221 : decode cL_law 221 = .ok (.iconst 0, 1) := by decide +kernel
theorem dL_law_222 : decode cL_law 222 = .ok (.ireturn, 1) := by decide +kernel
theorem dL_law_223 : decode cL_law 223 = .ok (.aload_n 1, 1) := by decide +kernel
theorem dL_law_224 : decode cL_law 224 = .ok (.aload_n 0, 1) := by decide +kernel
theorem dL_law_225 : decode cL_law 225 = .ok (.iload_n 3, 1) := by decide +kernel
theorem dL_law_226 : decode cL_law 226 = .ok (.iconst 1, 1) := by decide +kernel
theorem dL_law_227 : decode cL_law 227 = .ok (.iadd, 1) := by decide +kernel
theorem dL_law_228 : decode cL_law 228 = .ok (.iaload, 1) := by decide +kernel
theorem dL_law_229 : decode cL_law 229 = .ok (.invokevirtual 18, 3) := by decide +kernel
theorem dL_law_232 : decode cL_law 232 = .ok (.aload_n 2, 1) := by decide +kernel
theorem dL_law_233 : decode cL_law 233 = .ok (.aload_n 0, 1) := by decide +kernel
theorem dL_law_234 : decode cL_law 234 = .ok (.iload_n 3, 1) := by decide +kernel
theorem dL_law_235 : decode cL_law 235 = .ok (.iconst 1, 1) := by decide +kernel
theorem dL_law_236 : decode cL_law 236 = .ok (.iadd, 1) := by decide +kernel
theorem dL_law_237 : decode cL_law 237 = .ok (.iaload, 1) := by decide +kernel
theorem dL_law_238 : decode cL_law 238 = .ok (.invokevirtual 22, 3) := by decide +kernel
theorem dL_law_241 : decode cL_law 241 = .ok (.if_icmp .eq 811, 3) := by decide +kernel
theorem dL_law_244 : decode cL_law 244 = .ok (.iconst 0, 1) := by decide +kernel
theorem dL_law_245 : decode cL_law 245 = .ok (.ireturn, 1) := by decide +kernel
theorem dL_law_246 : decode cL_law 246 = .ok (.aload_n 1, 1) := by decide +kernel
theorem dL_law_247 : decode cL_law 247 = .ok (.invokevirtual 23, 3) := by decide +kernel
theorem dL_law_250 : decode cL_law 250 = .ok (.aload_n 2, 1) := by decide +kernel
theorem dL_law_251 : decode cL_law 251 = .ok (.invokevirtual 27, 3) := by decide +kernel
theorem dL_law_254 : decode cL_law 254 = .ok (.if_icmp .eq 798, 3) := by decide +kernel
theorem dL_law_257 : decode cL_law 257 = .ok (.iconst 0, 1) := by decide +kernel
theorem dL_law_258 : decode cL_law 258 = .ok (.ireturn, 1) := by decide +kernel
theorem dL_law_259 : decode cL_law 259 = .ok (.aload_n 1, 1) := by decide +kernel
theorem dL_law_260 : decode cL_law 260 = .ok (.invokevirtual 28, 3) := by decide +kernel
theorem dL_law_263 : decode cL_law 263 = .ok (.aload_n 2, 1) := by decide +kernel
theorem dL_law_264 : decode cL_law 264 = .ok (.invokevirtual 31, 3) := by decide +kernel
theorem dL_law_267 : decode cL_law 267 = .ok (.if_icmp .eq 785, 3) := by decide +kernel
theorem dL_law_270 : decode cL_law 270 = .ok (.iconst 0, 1) := by decide +kernel
theorem dL_law_271 : decode cL_law 271 = .ok (.ireturn, 1) := by decide +kernel
theorem dL_law_272 : decode cL_law 272 = .ok (.aload_n 1, 1) := by decide +kernel
theorem dL_law_273 : decode cL_law 273 = .ok (.aload_n 0, 1) := by decide +kernel
theorem dL_law_274 : decode cL_law 274 = .ok (.iload_n 3, 1) := by decide +kernel
theorem dL_law_275 : decode cL_law 275 = .ok (.iconst 1, 1) := by decide +kernel
theorem dL_law_276 : decode cL_law 276 = .ok (.iadd, 1) := by decide +kernel
theorem dL_law_277 : decode cL_law 277 = .ok (.iaload, 1) := by decide +kernel
theorem dL_law_278 : decode cL_law 278 = .ok (.invokevirtual 32, 3) := by decide +kernel
theorem dL_law_281 : decode cL_law 281 = .ok (.aload_n 2, 1) := by decide +kernel
theorem dL_law_282 : decode cL_law 282 = .ok (.aload_n 0, 1) := by decide +kernel
theorem dL_law_283 : decode cL_law 283 = .ok (.iload_n 3, 1) := by decide +kernel
theorem dL_law_284 : decode cL_law 284 = .ok (.iconst 1, 1) := by decide +kernel
theorem dL_law_285 : decode cL_law 285 = .ok (.iadd, 1) := by decide +kernel
theorem dL_law_286 : decode cL_law 286 = .ok (.iaload, 1) := by decide +kernel
theorem dL_law_287 : decode cL_law 287 = .ok (.invokevirtual 35, 3) := by decide +kernel
theorem dL_law_290 : decode cL_law 290 = .ok (.if_icmp .eq 762, 3) := by decide +kernel
theorem dL_law_293 : decode cL_law 293 = .ok (.iconst 0, 1) := by decide +kernel
theorem dL_law_294 : decode cL_law 294 = .ok (.ireturn, 1) := by decide +kernel
theorem dL_law_295 : decode cL_law 295 = .ok (.aload_n 1, 1) := by decide +kernel
theorem dL_law_296 : decode cL_law 296 = .ok (.aload_n 0, 1) := by decide +kernel
theorem dL_law_297 : decode cL_law 297 = .ok (.iload_n 3, 1) := by decide +kernel
theorem dL_law_298 : decode cL_law 298 = .ok (.iconst 1, 1) := by decide +kernel
theorem dL_law_299 : decode cL_law 299 = .ok (.iadd, 1) := by decide +kernel
theorem dL_law_300 : decode cL_law 300 = .ok (.iaload, 1) := by decide +kernel
theorem dL_law_301 : decode cL_law 301 = .ok (.aload_n 0, 1) := by decide +kernel
theorem dL_law_302 : decode cL_law 302 = .ok (.iload_n 3, 1) := by decide +kernel
theorem dL_law_303 : decode cL_law 303 = .ok (.iconst 2, 1) := by decide +kernel
theorem dL_law_304 : decode cL_law 304 = .ok (.iadd, 1) := by decide +kernel
theorem dL_law_305 : decode cL_law 305 = .ok (.iaload, 1) := by decide +kernel
theorem dL_law_306 : decode cL_law 306 = .ok (.invokevirtual 36, 3) := by decide +kernel
theorem dL_law_309 : decode cL_law 309 = .ok (.aload_n 2, 1) := by decide +kernel
theorem dL_law_310 : decode cL_law 310 = .ok (.aload_n 0, 1) := by decide +kernel
theorem dL_law_311 : decode cL_law 311 = .ok (.iload_n 3, 1) := by decide +kernel
theorem dL_law_312 : decode cL_law 312 = .ok (.iconst 1, 1) := by decide +kernel
theorem dL_law_313 : decode cL_law 313 = .ok (.iadd, 1) := by decide +kernel
theorem dL_law_314 : decode cL_law 314 = .ok (.iaload, 1) := by decide +kernel
theorem dL_law_315 : decode cL_law 315 = .ok (.aload_n 0, 1) := by decide +kernel
theorem dL_law_316 : decode cL_law 316 = .ok (.iload_n 3, 1) := by decide +kernel
theorem dL_law_317 : decode cL_law 317 = .ok (.iconst 2, 1) := by decide +kernel
theorem dL_law_318 : decode cL_law 318 = .ok (.iadd, 1) := by decide +kernel
theorem dL_law_319 : decode cL_law 319 = .ok (.iaload, 1) := by decide +kernel
theorem dL_law_320 : decode cL_law 320 = .ok (.invokevirtual 40, 3) := by decide +kernel
theorem dL_law_323 : decode cL_law 323 = .ok (.if_icmp .eq 729, 3) := by decide +kernel
theorem dL_law_326 : decode cL_law 326 = .ok (.iconst 0, 1) := by decide +kernel
theorem dL_law_327 : decode cL_law 327 = .ok (.ireturn, 1) := by decide +kernel
theorem dL_law_328 : decode cL_law 328 = .ok (.aload_n 1, 1) := by decide +kernel
theorem dL_law_329 : decode cL_law 329 = .ok (.aload_n 0, 1) := by decide +kernel
theorem dL_law_330 : decode cL_law 330 = .ok (.iload_n 3, 1) := by decide +kernel
theorem dL_law_331 : decode cL_law 331 = .ok (.iconst 1, 1) := by decide +kernel
theorem dL_law_332 : decode cL_law 332 = .ok (.iadd, 1) := by decide +kernel
theorem dL_law_333 : decode cL_law 333 = .ok (.iaload, 1) := by decide +kernel
theorem dL_law_334 : decode cL_law 334 = .ok (.aload_n 0, 1) := by decide +kernel
theorem dL_law_335 : decode cL_law 335 = .ok (.iload_n 3, 1) := by decide +kernel
theorem dL_law_336 : decode cL_law 336 = .ok (.iconst 2, 1) := by decide +kernel
theorem dL_law_337 : decode cL_law 337 = .ok (.iadd, 1) := by decide +kernel
theorem dL_law_338 : decode cL_law 338 = .ok (.iaload, 1) := by decide +kernel
theorem dL_law_339 : decode cL_law 339 = .ok (.invokevirtual 41, 3) := by decide +kernel
theorem dL_law_342 : decode cL_law 342 = .ok (.aload_n 2, 1) := by decide +kernel
theorem dL_law_343 : decode cL_law 343 = .ok (.aload_n 0, 1) := by decide +kernel
theorem dL_law_344 : decode cL_law 344 = .ok (.iload_n 3, 1) := by decide +kernel
theorem dL_law_345 : decode cL_law 345 = .ok (.iconst 1, 1) := by decide +kernel
theorem dL_law_346 : decode cL_law 346 = .ok (.iadd, 1) := by decide +kernel
theorem dL_law_347 : decode cL_law 347 = .ok (.iaload, 1) := by decide +kernel
theorem dL_law_348 : decode cL_law 348 = .ok (.aload_n 0, 1) := by decide +kernel
theorem dL_law_349 : decode cL_law 349 = .ok (.iload_n 3, 1) := by decide +kernel
theorem dL_law_350 : decode cL_law 350 = .ok (.iconst 2, 1) := by decide +kernel
theorem dL_law_351 : decode cL_law 351 = .ok (.iadd, 1) := by decide +kernel
theorem dL_law_352 : decode cL_law 352 = .ok (.iaload, 1) := by decide +kernel
theorem dL_law_353 : decode cL_law 353 = .ok (.invokevirtual 44, 3) := by decide +kernel
theorem dL_law_356 : decode cL_law 356 = .ok (.if_icmp .eq 696, 3) := by decide +kernel
theorem dL_law_359 : decode cL_law 359 = .ok (.iconst 0, 1) := by decide +kernel
theorem dL_law_360 : decode cL_law 360 = .ok (.ireturn, 1) := by decide +kernel
theorem dL_law_361 : decode cL_law 361 = .ok (.aload_n 1, 1) := by decide +kernel
theorem dL_law_362 : decode cL_law 362 = .ok (.aload_n 0, 1) := by decide +kernel
theorem dL_law_363 : decode cL_law 363 = .ok (.iload_n 3, 1) := by decide +kernel
theorem dL_law_364 : decode cL_law 364 = .ok (.iconst 1, 1) := by decide +kernel
theorem dL_law_365 : decode cL_law 365 = .ok (.iadd, 1) := by decide +kernel
theorem dL_law_366 : decode cL_law 366 = .ok (.iaload, 1) := by decide +kernel
theorem dL_law_367 : decode cL_law 367 = .ok (.aload_n 0, 1) := by decide +kernel
theorem dL_law_368 : decode cL_law 368 = .ok (.iload_n 3, 1) := by decide +kernel
theorem dL_law_369 : decode cL_law 369 = .ok (.iconst 2, 1) := by decide +kernel
theorem dL_law_370 : decode cL_law 370 = .ok (.iadd, 1) := by decide +kernel
theorem dL_law_371 : decode cL_law 371 = .ok (.iaload, 1) := by decide +kernel
theorem dL_law_372 : decode cL_law 372 = .ok (.aload_n 0, 1) := by decide +kernel
theorem dL_law_373 : decode cL_law 373 = .ok (.iload_n 3, 1) := by decide +kernel
theorem dL_law_374 : decode cL_law 374 = .ok (.iconst 3, 1) := by decide +kernel
theorem dL_law_375 : decode cL_law 375 = .ok (.iadd, 1) := by decide +kernel
theorem dL_law_376 : decode cL_law 376 = .ok (.iaload, 1) := by decide +kernel
theorem dL_law_377 : decode cL_law 377 = .ok (.invokevirtual 45, 3) := by decide +kernel
theorem dL_law_380 : decode cL_law 380 = .ok (.aload_n 2, 1) := by decide +kernel
theorem dL_law_381 : decode cL_law 381 = .ok (.aload_n 0, 1) := by decide +kernel
theorem dL_law_382 : decode cL_law 382 = .ok (.iload_n 3, 1) := by decide +kernel
theorem dL_law_383 : decode cL_law 383 = .ok (.iconst 1, 1) := by decide +kernel
theorem dL_law_384 : decode cL_law 384 = .ok (.iadd, 1) := by decide +kernel
theorem dL_law_385 : decode cL_law 385 = .ok (.iaload, 1) := by decide +kernel
theorem dL_law_386 : decode cL_law 386 = .ok (.aload_n 0, 1) := by decide +kernel
theorem dL_law_387 : decode cL_law 387 = .ok (.iload_n 3, 1) := by decide +kernel
theorem dL_law_388 : decode cL_law 388 = .ok (.iconst 2, 1) := by decide +kernel
theorem dL_law_389 : decode cL_law 389 = .ok (.iadd, 1) := by decide +kernel
theorem dL_law_390 : decode cL_law 390 = .ok (.iaload, 1) := by decide +kernel
theorem dL_law_391 : decode cL_law 391 = .ok (.aload_n 0, 1) := by decide +kernel
theorem dL_law_392 : decode cL_law 392 = .ok (.iload_n 3, 1) := by decide +kernel
theorem dL_law_393 : decode cL_law 393 = .ok (.iconst 3, 1) := by decide +kernel
theorem dL_law_394 : decode cL_law 394 = .ok (.iadd, 1) := by decide +kernel
theorem dL_law_395 : decode cL_law 395 = .ok (.iaload, 1) := by decide +kernel
theorem dL_law_396 : decode cL_law 396 = .ok (.invokevirtual 49, 3) := by decide +kernel
theorem dL_law_399 : decode cL_law 399 = .ok (.if_icmp .eq 653, 3) := by decide +kernel
theorem dL_law_402 : decode cL_law 402 = .ok (.iconst 0, 1) := by decide +kernel
theorem dL_law_403 : decode cL_law 403 = .ok (.ireturn, 1) := by decide +kernel
theorem dL_law_404 : decode cL_law 404 = .ok (.aload_n 1, 1) := by decide +kernel
theorem dL_law_405 : decode cL_law 405 = .ok (.aload_n 0, 1) := by decide +kernel
theorem dL_law_406 : decode cL_law 406 = .ok (.iload_n 3, 1) := by decide +kernel
theorem dL_law_407 : decode cL_law 407 = .ok (.iconst 1, 1) := by decide +kernel
theorem dL_law_408 : decode cL_law 408 = .ok (.iadd, 1) := by decide +kernel
theorem dL_law_409 : decode cL_law 409 = .ok (.iaload, 1) := by decide +kernel
theorem dL_law_410 : decode cL_law 410 = .ok (.aload_n 0, 1) := by decide +kernel
theorem dL_law_411 : decode cL_law 411 = .ok (.iload_n 3, 1) := by decide +kernel
theorem dL_law_412 : decode cL_law 412 = .ok (.iconst 2, 1) := by decide +kernel
theorem dL_law_413 : decode cL_law 413 = .ok (.iadd, 1) := by decide +kernel
theorem dL_law_414 : decode cL_law 414 = .ok (.iaload, 1) := by decide +kernel
theorem dL_law_415 : decode cL_law 415 = .ok (.aload_n 0, 1) := by decide +kernel
theorem dL_law_416 : decode cL_law 416 = .ok (.iload_n 3, 1) := by decide +kernel
theorem dL_law_417 : decode cL_law 417 = .ok (.iconst 3, 1) := by decide +kernel
theorem dL_law_418 : decode cL_law 418 = .ok (.iadd, 1) := by decide +kernel
theorem dL_law_419 : decode cL_law 419 = .ok (.iaload, 1) := by decide +kernel
theorem dL_law_420 : decode cL_law 420 = .ok (.invokevirtual 50, 3) := by decide +kernel
theorem dL_law_423 : decode cL_law 423 = .ok (.aload_n 2, 1) := by decide +kernel
theorem dL_law_424 : decode cL_law 424 = .ok (.aload_n 0, 1) := by decide +kernel
theorem dL_law_425 : decode cL_law 425 = .ok (.iload_n 3, 1) := by decide +kernel
theorem dL_law_426 : decode cL_law 426 = .ok (.iconst 1, 1) := by decide +kernel
theorem dL_law_427 : decode cL_law 427 = .ok (.iadd, 1) := by decide +kernel
theorem dL_law_428 : decode cL_law 428 = .ok (.iaload, 1) := by decide +kernel
theorem dL_law_429 : decode cL_law 429 = .ok (.aload_n 0, 1) := by decide +kernel
theorem dL_law_430 : decode cL_law 430 = .ok (.iload_n 3, 1) := by decide +kernel
theorem dL_law_431 : decode cL_law 431 = .ok (.iconst 2, 1) := by decide +kernel
theorem dL_law_432 : decode cL_law 432 = .ok (.iadd, 1) := by decide +kernel
theorem dL_law_433 : decode cL_law 433 = .ok (.iaload, 1) := by decide +kernel
theorem dL_law_434 : decode cL_law 434 = .ok (.aload_n 0, 1) := by decide +kernel
theorem dL_law_435 : decode cL_law 435 = .ok (.iload_n 3, 1) := by decide +kernel
theorem dL_law_436 : decode cL_law 436 = .ok (.iconst 3, 1) := by decide +kernel
theorem dL_law_437 : decode cL_law 437 = .ok (.iadd, 1) := by decide +kernel
theorem dL_law_438 : decode cL_law 438 = .ok (.iaload, 1) := by decide +kernel
theorem dL_law_439 : decode cL_law 439 = .ok (.invokevirtual 53, 3) := by decide +kernel
theorem dL_law_442 : decode cL_law 442 = .ok (.if_icmp .eq 610, 3) := by decide +kernel
theorem dL_law_445 : decode cL_law 445 = .ok (.iconst 0, 1) := by decide +kernel
theorem dL_law_446 : decode cL_law 446 = .ok (.ireturn, 1) := by decide +kernel
theorem dL_law_447 : decode cL_law 447 = .ok (.aload_n 1, 1) := by decide +kernel
theorem dL_law_448 : decode cL_law 448 = .ok (.aload_n 0, 1) := by decide +kernel
theorem dL_law_449 : decode cL_law 449 = .ok (.iload_n 3, 1) := by decide +kernel
theorem dL_law_450 : decode cL_law 450 = .ok (.iconst 1, 1) := by decide +kernel
theorem dL_law_451 : decode cL_law 451 = .ok (.iadd, 1) := by decide +kernel
theorem dL_law_452 : decode cL_law 452 = .ok (.iaload, 1) := by decide +kernel
theorem dL_law_453 : decode cL_law 453 = .ok (.aload_n 0, 1) := by decide +kernel
theorem dL_law_454 : decode cL_law 454 = .ok (.iload_n 3, 1) := by decide +kernel
theorem dL_law_455 : decode cL_law 455 = .ok (.iconst 2, 1) := by decide +kernel
theorem dL_law_456 : decode cL_law 456 = .ok (.iadd, 1) := by decide +kernel
theorem dL_law_457 : decode cL_law 457 = .ok (.iaload, 1) := by decide +kernel
theorem dL_law_458 : decode cL_law 458 = .ok (.invokevirtual 54, 3) := by decide +kernel
theorem dL_law_461 : decode cL_law 461 = .ok (.aload_n 2, 1) := by decide +kernel
theorem dL_law_462 : decode cL_law 462 = .ok (.aload_n 0, 1) := by decide +kernel
theorem dL_law_463 : decode cL_law 463 = .ok (.iload_n 3, 1) := by decide +kernel
theorem dL_law_464 : decode cL_law 464 = .ok (.iconst 1, 1) := by decide +kernel
theorem dL_law_465 : decode cL_law 465 = .ok (.iadd, 1) := by decide +kernel
theorem dL_law_466 : decode cL_law 466 = .ok (.iaload, 1) := by decide +kernel
theorem dL_law_467 : decode cL_law 467 = .ok (.aload_n 0, 1) := by decide +kernel
theorem dL_law_468 : decode cL_law 468 = .ok (.iload_n 3, 1) := by decide +kernel
theorem dL_law_469 : decode cL_law 469 = .ok (.iconst 2, 1) := by decide +kernel
theorem dL_law_470 : decode cL_law 470 = .ok (.iadd, 1) := by decide +kernel
theorem dL_law_471 : decode cL_law 471 = .ok (.iaload, 1) := by decide +kernel
theorem dL_law_472 : decode cL_law 472 = .ok (.invokevirtual 57, 3) := by decide +kernel
theorem dL_law_475 : decode cL_law 475 = .ok (.if_icmp .eq 577, 3) := by decide +kernel
theorem dL_law_478 : decode cL_law 478 = .ok (.iconst 0, 1) := by decide +kernel
theorem dL_law_479 : decode cL_law 479 = .ok (.ireturn, 1) := by decide +kernel
theorem dL_law_480 : decode cL_law 480 = .ok (.aload_n 1, 1) := by decide +kernel
theorem dL_law_481 : decode cL_law 481 = .ok (.aload_n 0, 1) := by decide +kernel
theorem dL_law_482 : decode cL_law 482 = .ok (.iload_n 3, 1) := by decide +kernel
theorem dL_law_483 : decode cL_law 483 = .ok (.iconst 1, 1) := by decide +kernel
theorem dL_law_484 : decode cL_law 484 = .ok (.iadd, 1) := by decide +kernel
theorem dL_law_485 : decode cL_law 485 = .ok (.iaload, 1) := by decide +kernel
theorem dL_law_486 : decode cL_law 486 = .ok (.aload_n 0, 1) := by decide +kernel
theorem dL_law_487 : decode cL_law 487 = .ok (.iload_n 3, 1) := by decide +kernel
theorem dL_law_488 : decode cL_law 488 = .ok (.iconst 2, 1) := by decide +kernel
theorem dL_law_489 : decode cL_law 489 = .ok (.iadd, 1) := by decide +kernel
theorem dL_law_490 : decode cL_law 490 = .ok (.iaload, 1) := by decide +kernel
theorem dL_law_491 : decode cL_law 491 = .ok (.ifCond .eq 7, 3) := by decide +kernel
theorem dL_law_494 : decode cL_law 494 = .ok (.iconst 1, 1) := by decide +kernel
theorem dL_law_495 : decode cL_law 495 = .ok (.goto 4, 3) := by decide +kernel
theorem dL_law_498 : decode cL_law 498 = .ok (.iconst 0, 1) := by decide +kernel
theorem dL_law_499 : decode cL_law 499 = .ok (.invokevirtual 58, 3) := by decide +kernel
theorem dL_law_502 : decode cL_law 502 = .ok (.aload_n 2, 1) := by decide +kernel
theorem dL_law_503 : decode cL_law 503 = .ok (.aload_n 0, 1) := by decide +kernel
theorem dL_law_504 : decode cL_law 504 = .ok (.iload_n 3, 1) := by decide +kernel
theorem dL_law_505 : decode cL_law 505 = .ok (.iconst 1, 1) := by decide +kernel
theorem dL_law_506 : decode cL_law 506 = .ok (.iadd, 1) := by decide +kernel
theorem dL_law_507 : decode cL_law 507 = .ok (.iaload, 1) := by decide +kernel
theorem dL_law_508 : decode cL_law 508 = .ok (.aload_n 0, 1) := by decide +kernel
theorem dL_law_509 : decode cL_law 509 = .ok (.iload_n 3, 1) := by decide +kernel
theorem dL_law_510 : decode cL_law 510 = .ok (.iconst 2, 1) := by decide +kernel
theorem dL_law_511 : decode cL_law 511 = .ok (.iadd, 1) := by decide +kernel
theorem dL_law_512 : decode cL_law 512 = .ok (.iaload, 1) := by decide +kernel
theorem dL_law_513 : decode cL_law 513 = .ok (.ifCond .eq 7, 3) := by decide +kernel
theorem dL_law_516 : decode cL_law 516 = .ok (.iconst 1, 1) := by decide +kernel
theorem dL_law_517 : decode cL_law 517 = .ok (.goto 4, 3) := by decide +kernel
theorem dL_law_520 : decode cL_law 520 = .ok (.iconst 0, 1) := by decide +kernel
theorem dL_law_521 : decode cL_law 521 = .ok (.invokevirtual 62, 3) := by decide +kernel
theorem dL_law_524 : decode cL_law 524 = .ok (.if_icmp .eq 528, 3) := by decide +kernel
theorem dL_law_527 : decode cL_law 527 = .ok (.iconst 0, 1) := by decide +kernel
theorem dL_law_528 : decode cL_law 528 = .ok (.ireturn, 1) := by decide +kernel
theorem dL_law_529 : decode cL_law 529 = .ok (.aload_n 1, 1) := by decide +kernel
theorem dL_law_530 : decode cL_law 530 = .ok (.aload_n 0, 1) := by decide +kernel
theorem dL_law_531 : decode cL_law 531 = .ok (.iload_n 3, 1) := by decide +kernel
theorem dL_law_532 : decode cL_law 532 = .ok (.iconst 1, 1) := by decide +kernel
theorem dL_law_533 : decode cL_law 533 = .ok (.iadd, 1) := by decide +kernel
theorem dL_law_534 : decode cL_law 534 = .ok (.iaload, 1) := by decide +kernel
theorem dL_law_535 : decode cL_law 535 = .ok (.invokevirtual 63, 3) := by decide +kernel
theorem dL_law_538 : decode cL_law 538 = .ok (.aload_n 2, 1) := by decide +kernel
theorem dL_law_539 : decode cL_law 539 = .ok (.aload_n 0, 1) := by decide +kernel
theorem dL_law_540 : decode cL_law 540 = .ok (.iload_n 3, 1) := by decide +kernel
theorem dL_law_541 : decode cL_law 541 = .ok (.iconst 1, 1) := by decide +kernel
theorem dL_law_542 : decode cL_law 542 = .ok (.iadd, 1) := by decide +kernel
theorem dL_law_543 : decode cL_law 543 = .ok (.iaload, 1) := by decide +kernel
theorem dL_law_544 : decode cL_law 544 = .ok (.invokevirtual 66, 3) := by decide +kernel
theorem dL_law_547 : decode cL_law 547 = .ok (.if_icmp .eq 505, 3) := by decide +kernel
theorem dL_law_550 : decode cL_law 550 = .ok (.iconst 0, 1) := by decide +kernel
theorem dL_law_551 : decode cL_law 551 = .ok (.ireturn, 1) := by decide +kernel
theorem dL_law_552 : decode cL_law 552 = .ok (.aload_n 1, 1) := by decide +kernel
theorem dL_law_553 : decode cL_law 553 = .ok (.aload_n 0, 1) := by decide +kernel
theorem dL_law_554 : decode cL_law 554 = .ok (.iload_n 3, 1) := by decide +kernel
theorem dL_law_555 : decode cL_law 555 = .ok (.iconst 1, 1) := by decide +kernel
theorem dL_law_556 : decode cL_law 556 = .ok (.iadd, 1) := by decide +kernel
theorem dL_law_557 : decode cL_law 557 = .ok (.iaload, 1) := by decide +kernel
theorem dL_law_558 : decode cL_law 558 = .ok (.aload_n 0, 1) := by decide +kernel
theorem dL_law_559 : decode cL_law 559 = .ok (.iload_n 3, 1) := by decide +kernel
theorem dL_law_560 : decode cL_law 560 = .ok (.iconst 2, 1) := by decide +kernel
theorem dL_law_561 : decode cL_law 561 = .ok (.iadd, 1) := by decide +kernel
theorem dL_law_562 : decode cL_law 562 = .ok (.iaload, 1) := by decide +kernel
theorem dL_law_563 : decode cL_law 563 = .ok (.invokevirtual 67, 3) := by decide +kernel
theorem dL_law_566 : decode cL_law 566 = .ok (.aload_n 2, 1) := by decide +kernel
theorem dL_law_567 : decode cL_law 567 = .ok (.aload_n 0, 1) := by decide +kernel
theorem dL_law_568 : decode cL_law 568 = .ok (.iload_n 3, 1) := by decide +kernel
theorem dL_law_569 : decode cL_law 569 = .ok (.iconst 1, 1) := by decide +kernel
theorem dL_law_570 : decode cL_law 570 = .ok (.iadd, 1) := by decide +kernel
theorem dL_law_571 : decode cL_law 571 = .ok (.iaload, 1) := by decide +kernel
theorem dL_law_572 : decode cL_law 572 = .ok (.aload_n 0, 1) := by decide +kernel
theorem dL_law_573 : decode cL_law 573 = .ok (.iload_n 3, 1) := by decide +kernel
theorem dL_law_574 : decode cL_law 574 = .ok (.iconst 2, 1) := by decide +kernel
theorem dL_law_575 : decode cL_law 575 = .ok (.iadd, 1) := by decide +kernel
theorem dL_law_576 : decode cL_law 576 = .ok (.iaload, 1) := by decide +kernel
theorem dL_law_577 : decode cL_law 577 = .ok (.invokevirtual 70, 3) := by decide +kernel
theorem dL_law_580 : decode cL_law 580 = .ok (.if_icmp .eq 472, 3) := by decide +kernel
theorem dL_law_583 : decode cL_law 583 = .ok (.iconst 0, 1) := by decide +kernel
theorem dL_law_584 : decode cL_law 584 = .ok (.ireturn, 1) := by decide +kernel
theorem dL_law_585 : decode cL_law 585 = .ok (.aload_n 1, 1) := by decide +kernel
theorem dL_law_586 : decode cL_law 586 = .ok (.invokevirtual 71, 3) := by decide +kernel
theorem dL_law_589 : decode cL_law 589 = .ok (.aload_n 2, 1) := by decide +kernel
theorem dL_law_590 : decode cL_law 590 = .ok (.invokevirtual 74, 3) := by decide +kernel
theorem dL_law_593 : decode cL_law 593 = .ok (.if_icmp .eq 459, 3) := by decide +kernel
theorem dL_law_596 : decode cL_law 596 = .ok (.iconst 0, 1) := by decide +kernel
theorem dL_law_597 : decode cL_law 597 = .ok (.ireturn, 1) := by decide +kernel
theorem dL_law_598 : decode cL_law 598 = .ok (.aload_n 1, 1) := by decide +kernel
theorem dL_law_599 : decode cL_law 599 = .ok (.aload_n 0, 1) := by decide +kernel
theorem dL_law_600 : decode cL_law 600 = .ok (.iload_n 3, 1) := by decide +kernel
theorem dL_law_601 : decode cL_law 601 = .ok (.iconst 1, 1) := by decide +kernel
theorem dL_law_602 : decode cL_law 602 = .ok (.iadd, 1) := by decide +kernel
theorem dL_law_603 : decode cL_law 603 = .ok (.iaload, 1) := by decide +kernel
theorem dL_law_604 : decode cL_law 604 = .ok (.aload_n 0, 1) := by decide +kernel
theorem dL_law_605 : decode cL_law 605 = .ok (.iload_n 3, 1) := by decide +kernel
theorem dL_law_606 : decode cL_law 606 = .ok (.iconst 2, 1) := by decide +kernel
theorem dL_law_607 : decode cL_law 607 = .ok (.iadd, 1) := by decide +kernel
theorem dL_law_608 : decode cL_law 608 = .ok (.iaload, 1) := by decide +kernel
theorem dL_law_609 : decode cL_law 609 = .ok (.ifCond .eq 7, 3) := by decide +kernel
theorem dL_law_612 : decode cL_law 612 = .ok (.iconst 1, 1) := by decide +kernel
theorem dL_law_613 : decode cL_law 613 = .ok (.goto 4, 3) := by decide +kernel
theorem dL_law_616 : decode cL_law 616 = .ok (.iconst 0, 1) := by decide +kernel
theorem dL_law_617 : decode cL_law 617 = .ok (.invokevirtual 75, 3) := by decide +kernel
theorem dL_law_620 : decode cL_law 620 = .ok (.aload_n 2, 1) := by decide +kernel
theorem dL_law_621 : decode cL_law 621 = .ok (.aload_n 0, 1) := by decide +kernel
theorem dL_law_622 : decode cL_law 622 = .ok (.iload_n 3, 1) := by decide +kernel
theorem dL_law_623 : decode cL_law 623 = .ok (.iconst 1, 1) := by decide +kernel
theorem dL_law_624 : decode cL_law 624 = .ok (.iadd, 1) := by decide +kernel
theorem dL_law_625 : decode cL_law 625 = .ok (.iaload, 1) := by decide +kernel
theorem dL_law_626 : decode cL_law 626 = .ok (.aload_n 0, 1) := by decide +kernel
theorem dL_law_627 : decode cL_law 627 = .ok (.iload_n 3, 1) := by decide +kernel
theorem dL_law_628 : decode cL_law 628 = .ok (.iconst 2, 1) := by decide +kernel
theorem dL_law_629 : decode cL_law 629 = .ok (.iadd, 1) := by decide +kernel
theorem dL_law_630 : decode cL_law 630 = .ok (.iaload, 1) := by decide +kernel
theorem dL_law_631 : decode cL_law 631 = .ok (.ifCond .eq 7, 3) := by decide +kernel
theorem dL_law_634 : decode cL_law 634 = .ok (.iconst 1, 1) := by decide +kernel
theorem dL_law_635 : decode cL_law 635 = .ok (.goto 4, 3) := by decide +kernel
theorem dL_law_638 : decode cL_law 638 = .ok (.iconst 0, 1) := by decide +kernel
theorem dL_law_639 : decode cL_law 639 = .ok (.invokevirtual 79, 3) := by decide +kernel
theorem dL_law_642 : decode cL_law 642 = .ok (.if_icmp .eq 410, 3) := by decide +kernel
theorem dL_law_645 : decode cL_law 645 = .ok (.iconst 0, 1) := by decide +kernel
theorem dL_law_646 : decode cL_law 646 = .ok (.ireturn, 1) := by decide +kernel
theorem dL_law_647 : decode cL_law 647 = .ok (.aload_n 1, 1) := by decide +kernel
theorem dL_law_648 : decode cL_law 648 = .ok (.aload_n 0, 1) := by decide +kernel
theorem dL_law_649 : decode cL_law 649 = .ok (.iload_n 3, 1) := by decide +kernel
theorem dL_law_650 : decode cL_law 650 = .ok (.iconst 1, 1) := by decide +kernel
theorem dL_law_651 : decode cL_law 651 = .ok (.iadd, 1) := by decide +kernel
theorem dL_law_652 : decode cL_law 652 = .ok (.iaload, 1) := by decide +kernel
theorem dL_law_653 : decode cL_law 653 = .ok (.aload_n 0, 1) := by decide +kernel
theorem dL_law_654 : decode cL_law 654 = .ok (.iload_n 3, 1) := by decide +kernel
theorem dL_law_655 : decode cL_law 655 = .ok (.iconst 2, 1) := by decide +kernel
theorem dL_law_656 : decode cL_law 656 = .ok (.iadd, 1) := by decide +kernel
theorem dL_law_657 : decode cL_law 657 = .ok (.iaload, 1) := by decide +kernel
theorem dL_law_658 : decode cL_law 658 = .ok (.ifCond .eq 7, 3) := by decide +kernel
theorem dL_law_661 : decode cL_law 661 = .ok (.iconst 1, 1) := by decide +kernel
theorem dL_law_662 : decode cL_law 662 = .ok (.goto 4, 3) := by decide +kernel
theorem dL_law_665 : decode cL_law 665 = .ok (.iconst 0, 1) := by decide +kernel
theorem dL_law_666 : decode cL_law 666 = .ok (.aload_n 0, 1) := by decide +kernel
theorem dL_law_667 : decode cL_law 667 = .ok (.iload_n 3, 1) := by decide +kernel
theorem dL_law_668 : decode cL_law 668 = .ok (.iconst 3, 1) := by decide +kernel
theorem dL_law_669 : decode cL_law 669 = .ok (.iadd, 1) := by decide +kernel
theorem dL_law_670 : decode cL_law 670 = .ok (.iaload, 1) := by decide +kernel
theorem dL_law_671 : decode cL_law 671 = .ok (.aload_n 0, 1) := by decide +kernel
theorem dL_law_672 : decode cL_law 672 = .ok (.iload_n 3, 1) := by decide +kernel
theorem dL_law_673 : decode cL_law 673 = .ok (.iconst 4, 1) := by decide +kernel
theorem dL_law_674 : decode cL_law 674 = .ok (.iadd, 1) := by decide +kernel
theorem dL_law_675 : decode cL_law 675 = .ok (.iaload, 1) := by decide +kernel
theorem dL_law_676 : decode cL_law 676 = .ok (.invokevirtual 80, 3) := by decide +kernel
theorem dL_law_679 : decode cL_law 679 = .ok (.aload_n 2, 1) := by decide +kernel
theorem dL_law_680 : decode cL_law 680 = .ok (.aload_n 0, 1) := by decide +kernel
theorem dL_law_681 : decode cL_law 681 = .ok (.iload_n 3, 1) := by decide +kernel
theorem dL_law_682 : decode cL_law 682 = .ok (.iconst 1, 1) := by decide +kernel
theorem dL_law_683 : decode cL_law 683 = .ok (.iadd, 1) := by decide +kernel
theorem dL_law_684 : decode cL_law 684 = .ok (.iaload, 1) := by decide +kernel
theorem dL_law_685 : decode cL_law 685 = .ok (.aload_n 0, 1) := by decide +kernel
theorem dL_law_686 : decode cL_law 686 = .ok (.iload_n 3, 1) := by decide +kernel
theorem dL_law_687 : decode cL_law 687 = .ok (.iconst 2, 1) := by decide +kernel
theorem dL_law_688 : decode cL_law 688 = .ok (.iadd, 1) := by decide +kernel
theorem dL_law_689 : decode cL_law 689 = .ok (.iaload, 1) := by decide +kernel
theorem dL_law_690 : decode cL_law 690 = .ok (.ifCond .eq 7, 3) := by decide +kernel
theorem dL_law_693 : decode cL_law 693 = .ok (.iconst 1, 1) := by decide +kernel
theorem dL_law_694 : decode cL_law 694 = .ok (.goto 4, 3) := by decide +kernel
theorem dL_law_697 : decode cL_law 697 = .ok (.iconst 0, 1) := by decide +kernel
theorem dL_law_698 : decode cL_law 698 = .ok (.aload_n 0, 1) := by decide +kernel
theorem dL_law_699 : decode cL_law 699 = .ok (.iload_n 3, 1) := by decide +kernel
theorem dL_law_700 : decode cL_law 700 = .ok (.iconst 3, 1) := by decide +kernel
theorem dL_law_701 : decode cL_law 701 = .ok (.iadd, 1) := by decide +kernel
theorem dL_law_702 : decode cL_law 702 = .ok (.iaload, 1) := by decide +kernel
theorem dL_law_703 : decode cL_law 703 = .ok (.aload_n 0, 1) := by decide +kernel
theorem dL_law_704 : decode cL_law 704 = .ok (.iload_n 3, 1) := by decide +kernel
theorem dL_law_705 : decode cL_law 705 = .ok (.iconst 4, 1) := by decide +kernel
theorem dL_law_706 : decode cL_law 706 = .ok (.iadd, 1) := by decide +kernel
theorem dL_law_707 : decode cL_law 707 = .ok (.iaload, 1) := by decide +kernel
theorem dL_law_708 : decode cL_law 708 = .ok (.invokevirtual 84, 3) := by decide +kernel
theorem dL_law_711 : decode cL_law 711 = .ok (.if_icmp .eq 341, 3) := by decide +kernel
theorem dL_law_714 : decode cL_law 714 = .ok (.iconst 0, 1) := by decide +kernel
theorem dL_law_715 : decode cL_law 715 = .ok (.ireturn, 1) := by decide +kernel
theorem dL_law_716 : decode cL_law 716 = .ok (.aload_n 1, 1) := by decide +kernel
theorem dL_law_717 : decode cL_law 717 = .ok (.aload_n 0, 1) := by decide +kernel
theorem dL_law_718 : decode cL_law 718 = .ok (.iload_n 3, 1) := by decide +kernel
theorem dL_law_719 : decode cL_law 719 = .ok (.iconst 1, 1) := by decide +kernel
theorem dL_law_720 : decode cL_law 720 = .ok (.iadd, 1) := by decide +kernel
theorem dL_law_721 : decode cL_law 721 = .ok (.iaload, 1) := by decide +kernel
theorem dL_law_722 : decode cL_law 722 = .ok (.aload_n 0, 1) := by decide +kernel
theorem dL_law_723 : decode cL_law 723 = .ok (.iload_n 3, 1) := by decide +kernel
theorem dL_law_724 : decode cL_law 724 = .ok (.iconst 2, 1) := by decide +kernel
theorem dL_law_725 : decode cL_law 725 = .ok (.iadd, 1) := by decide +kernel
theorem dL_law_726 : decode cL_law 726 = .ok (.iaload, 1) := by decide +kernel
theorem dL_law_727 : decode cL_law 727 = .ok (.invokevirtual 85, 3) := by decide +kernel
theorem dL_law_730 : decode cL_law 730 = .ok (.aload_n 2, 1) := by decide +kernel
theorem dL_law_731 : decode cL_law 731 = .ok (.aload_n 0, 1) := by decide +kernel
theorem dL_law_732 : decode cL_law 732 = .ok (.iload_n 3, 1) := by decide +kernel
theorem dL_law_733 : decode cL_law 733 = .ok (.iconst 1, 1) := by decide +kernel
theorem dL_law_734 : decode cL_law 734 = .ok (.iadd, 1) := by decide +kernel
theorem dL_law_735 : decode cL_law 735 = .ok (.iaload, 1) := by decide +kernel
theorem dL_law_736 : decode cL_law 736 = .ok (.aload_n 0, 1) := by decide +kernel
theorem dL_law_737 : decode cL_law 737 = .ok (.iload_n 3, 1) := by decide +kernel
theorem dL_law_738 : decode cL_law 738 = .ok (.iconst 2, 1) := by decide +kernel
theorem dL_law_739 : decode cL_law 739 = .ok (.iadd, 1) := by decide +kernel
theorem dL_law_740 : decode cL_law 740 = .ok (.iaload, 1) := by decide +kernel
theorem dL_law_741 : decode cL_law 741 = .ok (.invokevirtual 88, 3) := by decide +kernel
theorem dL_law_744 : decode cL_law 744 = .ok (.if_icmp .eq 308, 3) := by decide +kernel
theorem dL_law_747 : decode cL_law 747 = .ok (.iconst 0, 1) := by decide +kernel
theorem dL_law_748 : decode cL_law 748 = .ok (.ireturn, 1) := by decide +kernel
theorem dL_law_749 : decode cL_law 749 = .ok (.aload_n 1, 1) := by decide +kernel
theorem dL_law_750 : decode cL_law 750 = .ok (.aload_n 0, 1) := by decide +kernel
theorem dL_law_751 : decode cL_law 751 = .ok (.iload_n 3, 1) := by decide +kernel
theorem dL_law_752 : decode cL_law 752 = .ok (.iconst 1, 1) := by decide +kernel
theorem dL_law_753 : decode cL_law 753 = .ok (.iadd, 1) := by decide +kernel
theorem dL_law_754 : decode cL_law 754 = .ok (.iaload, 1) := by decide +kernel
theorem dL_law_755 : decode cL_law 755 = .ok (.invokevirtual 89, 3) := by decide +kernel
theorem dL_law_758 : decode cL_law 758 = .ok (.aload_n 2, 1) := by decide +kernel
theorem dL_law_759 : decode cL_law 759 = .ok (.aload_n 0, 1) := by decide +kernel
theorem dL_law_760 : decode cL_law 760 = .ok (.iload_n 3, 1) := by decide +kernel
theorem dL_law_761 : decode cL_law 761 = .ok (.iconst 1, 1) := by decide +kernel
theorem dL_law_762 : decode cL_law 762 = .ok (.iadd, 1) := by decide +kernel
theorem dL_law_763 : decode cL_law 763 = .ok (.iaload, 1) := by decide +kernel
theorem dL_law_764 : decode cL_law 764 = .ok (.invokevirtual 92, 3) := by decide +kernel
theorem dL_law_767 : decode cL_law 767 = .ok (.if_icmp .eq 285, 3) := by decide +kernel
theorem dL_law_770 : decode cL_law 770 = .ok (.iconst 0, 1) := by decide +kernel
theorem dL_law_771 : decode cL_law 771 = .ok (.ireturn, 1) := by decide +kernel
theorem dL_law_772 : decode cL_law 772 = .ok (.aload_n 1, 1) := by decide +kernel
theorem dL_law_773 : decode cL_law 773 = .ok (.invokevirtual 93, 3) := by decide +kernel
theorem dL_law_776 : decode cL_law 776 = .ok (.aload_n 2, 1) := by decide +kernel
theorem dL_law_777 : decode cL_law 777 = .ok (.invokevirtual 96, 3) := by decide +kernel
theorem dL_law_780 : decode cL_law 780 = .ok (.if_icmp .eq 272, 3) := by decide +kernel
theorem dL_law_783 : decode cL_law 783 = .ok (.iconst 0, 1) := by decide +kernel
theorem dL_law_784 : decode cL_law 784 = .ok (.ireturn, 1) := by decide +kernel
theorem dL_law_785 : decode cL_law 785 = .ok (.aload_n 1, 1) := by decide +kernel
theorem dL_law_786 : decode cL_law 786 = .ok (.aload_n 0, 1) := by decide +kernel
theorem dL_law_787 : decode cL_law 787 = .ok (.iload_n 3, 1) := by decide +kernel
theorem dL_law_788 : decode cL_law 788 = .ok (.iconst 1, 1) := by decide +kernel
theorem dL_law_789 : decode cL_law 789 = .ok (.iadd, 1) := by decide +kernel
theorem dL_law_790 : decode cL_law 790 = .ok (.iaload, 1) := by decide +kernel
theorem dL_law_791 : decode cL_law 791 = .ok (.aload_n 0, 1) := by decide +kernel
theorem dL_law_792 : decode cL_law 792 = .ok (.iload_n 3, 1) := by decide +kernel
theorem dL_law_793 : decode cL_law 793 = .ok (.iconst 2, 1) := by decide +kernel
theorem dL_law_794 : decode cL_law 794 = .ok (.iadd, 1) := by decide +kernel
theorem dL_law_795 : decode cL_law 795 = .ok (.iaload, 1) := by decide +kernel
theorem dL_law_796 : decode cL_law 796 = .ok (.invokevirtual 97, 3) := by decide +kernel
theorem dL_law_799 : decode cL_law 799 = .ok (.aload_n 2, 1) := by decide +kernel
theorem dL_law_800 : decode cL_law 800 = .ok (.aload_n 0, 1) := by decide +kernel
theorem dL_law_801 : decode cL_law 801 = .ok (.iload_n 3, 1) := by decide +kernel
theorem dL_law_802 : decode cL_law 802 = .ok (.iconst 1, 1) := by decide +kernel
theorem dL_law_803 : decode cL_law 803 = .ok (.iadd, 1) := by decide +kernel
theorem dL_law_804 : decode cL_law 804 = .ok (.iaload, 1) := by decide +kernel
theorem dL_law_805 : decode cL_law 805 = .ok (.aload_n 0, 1) := by decide +kernel
theorem dL_law_806 : decode cL_law 806 = .ok (.iload_n 3, 1) := by decide +kernel
theorem dL_law_807 : decode cL_law 807 = .ok (.iconst 2, 1) := by decide +kernel
theorem dL_law_808 : decode cL_law 808 = .ok (.iadd, 1) := by decide +kernel
theorem dL_law_809 : decode cL_law 809 = .ok (.iaload, 1) := by decide +kernel
theorem dL_law_810 : decode cL_law 810 = .ok (.invokevirtual 101, 3) := by decide +kernel
theorem dL_law_813 : decode cL_law 813 = .ok (.if_icmp .eq 239, 3) := by decide +kernel
theorem dL_law_816 : decode cL_law 816 = .ok (.iconst 0, 1) := by decide +kernel
theorem dL_law_817 : decode cL_law 817 = .ok (.ireturn, 1) := by decide +kernel
theorem dL_law_818 : decode cL_law 818 = .ok (.aload_n 1, 1) := by decide +kernel
theorem dL_law_819 : decode cL_law 819 = .ok (.aload_n 0, 1) := by decide +kernel
theorem dL_law_820 : decode cL_law 820 = .ok (.iload_n 3, 1) := by decide +kernel
theorem dL_law_821 : decode cL_law 821 = .ok (.iconst 1, 1) := by decide +kernel
theorem dL_law_822 : decode cL_law 822 = .ok (.iadd, 1) := by decide +kernel
theorem dL_law_823 : decode cL_law 823 = .ok (.iaload, 1) := by decide +kernel
theorem dL_law_824 : decode cL_law 824 = .ok (.aload_n 0, 1) := by decide +kernel
theorem dL_law_825 : decode cL_law 825 = .ok (.iload_n 3, 1) := by decide +kernel
theorem dL_law_826 : decode cL_law 826 = .ok (.iconst 2, 1) := by decide +kernel
theorem dL_law_827 : decode cL_law 827 = .ok (.iadd, 1) := by decide +kernel
theorem dL_law_828 : decode cL_law 828 = .ok (.iaload, 1) := by decide +kernel
theorem dL_law_829 : decode cL_law 829 = .ok (.invokevirtual 102, 3) := by decide +kernel
theorem dL_law_832 : decode cL_law 832 = .ok (.aload_n 2, 1) := by decide +kernel
theorem dL_law_833 : decode cL_law 833 = .ok (.aload_n 0, 1) := by decide +kernel
theorem dL_law_834 : decode cL_law 834 = .ok (.iload_n 3, 1) := by decide +kernel
theorem dL_law_835 : decode cL_law 835 = .ok (.iconst 1, 1) := by decide +kernel
theorem dL_law_836 : decode cL_law 836 = .ok (.iadd, 1) := by decide +kernel
theorem dL_law_837 : decode cL_law 837 = .ok (.iaload, 1) := by decide +kernel
theorem dL_law_838 : decode cL_law 838 = .ok (.aload_n 0, 1) := by decide +kernel
theorem dL_law_839 : decode cL_law 839 = .ok (.iload_n 3, 1) := by decide +kernel
theorem dL_law_840 : decode cL_law 840 = .ok (.iconst 2, 1) := by decide +kernel
theorem dL_law_841 : decode cL_law 841 = .ok (.iadd, 1) := by decide +kernel
theorem dL_law_842 : decode cL_law 842 = .ok (.iaload, 1) := by decide +kernel
theorem dL_law_843 : decode cL_law 843 = .ok (.invokevirtual 105, 3) := by decide +kernel
theorem dL_law_846 : decode cL_law 846 = .ok (.if_icmp .eq 206, 3) := by decide +kernel
theorem dL_law_849 : decode cL_law 849 = .ok (.iconst 0, 1) := by decide +kernel
theorem dL_law_850 : decode cL_law 850 = .ok (.ireturn, 1) := by decide +kernel
theorem dL_law_851 : decode cL_law 851 = .ok (.aload_n 1, 1) := by decide +kernel
theorem dL_law_852 : decode cL_law 852 = .ok (.aload_n 0, 1) := by decide +kernel
theorem dL_law_853 : decode cL_law 853 = .ok (.iload_n 3, 1) := by decide +kernel
theorem dL_law_854 : decode cL_law 854 = .ok (.iconst 1, 1) := by decide +kernel
theorem dL_law_855 : decode cL_law 855 = .ok (.iadd, 1) := by decide +kernel
theorem dL_law_856 : decode cL_law 856 = .ok (.iaload, 1) := by decide +kernel
theorem dL_law_857 : decode cL_law 857 = .ok (.aload_n 0, 1) := by decide +kernel
theorem dL_law_858 : decode cL_law 858 = .ok (.iload_n 3, 1) := by decide +kernel
theorem dL_law_859 : decode cL_law 859 = .ok (.iconst 2, 1) := by decide +kernel
theorem dL_law_860 : decode cL_law 860 = .ok (.iadd, 1) := by decide +kernel
theorem dL_law_861 : decode cL_law 861 = .ok (.iaload, 1) := by decide +kernel
theorem dL_law_862 : decode cL_law 862 = .ok (.aload_n 0, 1) := by decide +kernel
theorem dL_law_863 : decode cL_law 863 = .ok (.iload_n 3, 1) := by decide +kernel
theorem dL_law_864 : decode cL_law 864 = .ok (.iconst 3, 1) := by decide +kernel
theorem dL_law_865 : decode cL_law 865 = .ok (.iadd, 1) := by decide +kernel
theorem dL_law_866 : decode cL_law 866 = .ok (.iaload, 1) := by decide +kernel
theorem dL_law_867 : decode cL_law 867 = .ok (.invokevirtual 106, 3) := by decide +kernel
theorem dL_law_870 : decode cL_law 870 = .ok (.aload_n 2, 1) := by decide +kernel
theorem dL_law_871 : decode cL_law 871 = .ok (.aload_n 0, 1) := by decide +kernel
theorem dL_law_872 : decode cL_law 872 = .ok (.iload_n 3, 1) := by decide +kernel
theorem dL_law_873 : decode cL_law 873 = .ok (.iconst 1, 1) := by decide +kernel
theorem dL_law_874 : decode cL_law 874 = .ok (.iadd, 1) := by decide +kernel
theorem dL_law_875 : decode cL_law 875 = .ok (.iaload, 1) := by decide +kernel
theorem dL_law_876 : decode cL_law 876 = .ok (.aload_n 0, 1) := by decide +kernel
theorem dL_law_877 : decode cL_law 877 = .ok (.iload_n 3, 1) := by decide +kernel
theorem dL_law_878 : decode cL_law 878 = .ok (.iconst 2, 1) := by decide +kernel
theorem dL_law_879 : decode cL_law 879 = .ok (.iadd, 1) := by decide +kernel
theorem dL_law_880 : decode cL_law 880 = .ok (.iaload, 1) := by decide +kernel
theorem dL_law_881 : decode cL_law 881 = .ok (.aload_n 0, 1) := by decide +kernel
theorem dL_law_882 : decode cL_law 882 = .ok (.iload_n 3, 1) := by decide +kernel
theorem dL_law_883 : decode cL_law 883 = .ok (.iconst 3, 1) := by decide +kernel
theorem dL_law_884 : decode cL_law 884 = .ok (.iadd, 1) := by decide +kernel
theorem dL_law_885 : decode cL_law 885 = .ok (.iaload, 1) := by decide +kernel
theorem dL_law_886 : decode cL_law 886 = .ok (.invokevirtual 109, 3) := by decide +kernel
theorem dL_law_889 : decode cL_law 889 = .ok (.if_icmp .eq 163, 3) := by decide +kernel
theorem dL_law_892 : decode cL_law 892 = .ok (.iconst 0, 1) := by decide +kernel
theorem dL_law_893 : decode cL_law 893 = .ok (.ireturn, 1) := by decide +kernel
theorem dL_law_894 : decode cL_law 894 = .ok (.aload_n 1, 1) := by decide +kernel
theorem dL_law_895 : decode cL_law 895 = .ok (.aload_n 0, 1) := by decide +kernel
theorem dL_law_896 : decode cL_law 896 = .ok (.iload_n 3, 1) := by decide +kernel
theorem dL_law_897 : decode cL_law 897 = .ok (.iconst 1, 1) := by decide +kernel
theorem dL_law_898 : decode cL_law 898 = .ok (.iadd, 1) := by decide +kernel
theorem dL_law_899 : decode cL_law 899 = .ok (.iaload, 1) := by decide +kernel
theorem dL_law_900 : decode cL_law 900 = .ok (.invokevirtual 110, 3) := by decide +kernel
theorem dL_law_903 : decode cL_law 903 = .ok (.aload_n 2, 1) := by decide +kernel
theorem dL_law_904 : decode cL_law 904 = .ok (.aload_n 0, 1) := by decide +kernel
theorem dL_law_905 : decode cL_law 905 = .ok (.iload_n 3, 1) := by decide +kernel
theorem dL_law_906 : decode cL_law 906 = .ok (.iconst 1, 1) := by decide +kernel
theorem dL_law_907 : decode cL_law 907 = .ok (.iadd, 1) := by decide +kernel
theorem dL_law_908 : decode cL_law 908 = .ok (.iaload, 1) := by decide +kernel
theorem dL_law_909 : decode cL_law 909 = .ok (.invokevirtual 113, 3) := by decide +kernel
theorem dL_law_912 : decode cL_law 912 = .ok (.if_icmp .eq 140, 3) := by decide +kernel
theorem dL_law_915 : decode cL_law 915 = .ok (.iconst 0, 1) := by decide +kernel
theorem dL_law_916 : decode cL_law 916 = .ok (.ireturn, 1) := by decide +kernel
theorem dL_law_917 : decode cL_law 917 = .ok (.aload_n 1, 1) := by decide +kernel
theorem dL_law_918 : decode cL_law 918 = .ok (.aload_n 0, 1) := by decide +kernel
theorem dL_law_919 : decode cL_law 919 = .ok (.iload_n 3, 1) := by decide +kernel
theorem dL_law_920 : decode cL_law 920 = .ok (.iconst 1, 1) := by decide +kernel
theorem dL_law_921 : decode cL_law 921 = .ok (.iadd, 1) := by decide +kernel
theorem dL_law_922 : decode cL_law 922 = .ok (.iaload, 1) := by decide +kernel
theorem dL_law_923 : decode cL_law 923 = .ok (.invokevirtual 114, 3) := by decide +kernel
theorem dL_law_926 : decode cL_law 926 = .ok (.aload_n 2, 1) := by decide +kernel
theorem dL_law_927 : decode cL_law 927 = .ok (.aload_n 0, 1) := by decide +kernel
theorem dL_law_928 : decode cL_law 928 = .ok (.iload_n 3, 1) := by decide +kernel
theorem dL_law_929 : decode cL_law 929 = .ok (.iconst 1, 1) := by decide +kernel
theorem dL_law_930 : decode cL_law 930 = .ok (.iadd, 1) := by decide +kernel
theorem dL_law_931 : decode cL_law 931 = .ok (.iaload, 1) := by decide +kernel
theorem dL_law_932 : decode cL_law 932 = .ok (.invokevirtual 117, 3) := by decide +kernel
theorem dL_law_935 : decode cL_law 935 = .ok (.if_icmp .eq 117, 3) := by decide +kernel
theorem dL_law_938 : decode cL_law 938 = .ok (.iconst 0, 1) := by decide +kernel
theorem dL_law_939 : decode cL_law 939 = .ok (.ireturn, 1) := by decide +kernel
theorem dL_law_940 : decode cL_law 940 = .ok (.aload_n 1, 1) := by decide +kernel
theorem dL_law_941 : decode cL_law 941 = .ok (.aload_n 0, 1) := by decide +kernel
theorem dL_law_942 : decode cL_law 942 = .ok (.iload_n 3, 1) := by decide +kernel
theorem dL_law_943 : decode cL_law 943 = .ok (.iconst 1, 1) := by decide +kernel
theorem dL_law_944 : decode cL_law 944 = .ok (.iadd, 1) := by decide +kernel
theorem dL_law_945 : decode cL_law 945 = .ok (.iaload, 1) := by decide +kernel
theorem dL_law_946 : decode cL_law 946 = .ok (.aload_n 0, 1) := by decide +kernel
theorem dL_law_947 : decode cL_law 947 = .ok (.iload_n 3, 1) := by decide +kernel
theorem dL_law_948 : decode cL_law 948 = .ok (.iconst 2, 1) := by decide +kernel
theorem dL_law_949 : decode cL_law 949 = .ok (.iadd, 1) := by decide +kernel
theorem dL_law_950 : decode cL_law 950 = .ok (.iaload, 1) := by decide +kernel
theorem dL_law_951 : decode cL_law 951 = .ok (.aload_n 0, 1) := by decide +kernel
theorem dL_law_952 : decode cL_law 952 = .ok (.iload_n 3, 1) := by decide +kernel
theorem dL_law_953 : decode cL_law 953 = .ok (.iconst 3, 1) := by decide +kernel
theorem dL_law_954 : decode cL_law 954 = .ok (.iadd, 1) := by decide +kernel
theorem dL_law_955 : decode cL_law 955 = .ok (.iaload, 1) := by decide +kernel
theorem dL_law_956 : decode cL_law 956 = .ok (.invokevirtual 118, 3) := by decide +kernel
theorem dL_law_959 : decode cL_law 959 = .ok (.aload_n 2, 1) := by decide +kernel
theorem dL_law_960 : decode cL_law 960 = .ok (.aload_n 0, 1) := by decide +kernel
theorem dL_law_961 : decode cL_law 961 = .ok (.iload_n 3, 1) := by decide +kernel
theorem dL_law_962 : decode cL_law 962 = .ok (.iconst 1, 1) := by decide +kernel
theorem dL_law_963 : decode cL_law 963 = .ok (.iadd, 1) := by decide +kernel
theorem dL_law_964 : decode cL_law 964 = .ok (.iaload, 1) := by decide +kernel
theorem dL_law_965 : decode cL_law 965 = .ok (.aload_n 0, 1) := by decide +kernel
theorem dL_law_966 : decode cL_law 966 = .ok (.iload_n 3, 1) := by decide +kernel
theorem dL_law_967 : decode cL_law 967 = .ok (.iconst 2, 1) := by decide +kernel
theorem dL_law_968 : decode cL_law 968 = .ok (.iadd, 1) := by decide +kernel
theorem dL_law_969 : decode cL_law 969 = .ok (.iaload, 1) := by decide +kernel
theorem dL_law_970 : decode cL_law 970 = .ok (.aload_n 0, 1) := by decide +kernel
theorem dL_law_971 : decode cL_law 971 = .ok (.iload_n 3, 1) := by decide +kernel
theorem dL_law_972 : decode cL_law 972 = .ok (.iconst 3, 1) := by decide +kernel
theorem dL_law_973 : decode cL_law 973 = .ok (.iadd, 1) := by decide +kernel
theorem dL_law_974 : decode cL_law 974 = .ok (.iaload, 1) := by decide +kernel
theorem dL_law_975 : decode cL_law 975 = .ok (.invokevirtual 121, 3) := by decide +kernel
theorem dL_law_978 : decode cL_law 978 = .ok (.if_icmp .eq 74, 3) := by decide +kernel
theorem dL_law_981 : decode cL_law 981 = .ok (.iconst 0, 1) := by decide +kernel
theorem dL_law_982 : decode cL_law 982 = .ok (.ireturn, 1) := by decide +kernel
theorem dL_law_983 : decode cL_law 983 = .ok (.aload_n 1, 1) := by decide +kernel
theorem dL_law_984 : decode cL_law 984 = .ok (.aload_n 0, 1) := by decide +kernel
theorem dL_law_985 : decode cL_law 985 = .ok (.iload_n 3, 1) := by decide +kernel
theorem dL_law_986 : decode cL_law 986 = .ok (.iconst 1, 1) := by decide +kernel
theorem dL_law_987 : decode cL_law 987 = .ok (.iadd, 1) := by decide +kernel
theorem dL_law_988 : decode cL_law 988 = .ok (.iaload, 1) := by decide +kernel
theorem dL_law_989 : decode cL_law 989 = .ok (.invokevirtual 122, 3) := by decide +kernel
theorem dL_law_992 : decode cL_law 992 = .ok (.aload_n 2, 1) := by decide +kernel
theorem dL_law_993 : decode cL_law 993 = .ok (.aload_n 0, 1) := by decide +kernel
theorem dL_law_994 : decode cL_law 994 = .ok (.iload_n 3, 1) := by decide +kernel
theorem dL_law_995 : decode cL_law 995 = .ok (.iconst 1, 1) := by decide +kernel
theorem dL_law_996 : decode cL_law 996 = .ok (.iadd, 1) := by decide +kernel
theorem dL_law_997 : decode cL_law 997 = .ok (.iaload, 1) := by decide +kernel
theorem dL_law_998 : decode cL_law 998 = .ok (.invokevirtual 125, 3) := by decide +kernel
theorem dL_law_1001 : decode cL_law 1001 = .ok (.if_icmp .eq 51, 3) := by decide +kernel
theorem dL_law_1004 : decode cL_law 1004 = .ok (.iconst 0, 1) := by decide +kernel
theorem dL_law_1005 : decode cL_law 1005 = .ok (.ireturn, 1) := by decide +kernel
theorem dL_law_1006 : decode cL_law 1006 = .ok (.aload_n 1, 1) := by decide +kernel
theorem dL_law_1007 : decode cL_law 1007 = .ok (.aload_n 0, 1) := by decide +kernel
theorem dL_law_1008 : decode cL_law 1008 = .ok (.iload_n 3, 1) := by decide +kernel
theorem dL_law_1009 : decode cL_law 1009 = .ok (.iconst 1, 1) := by decide +kernel
theorem dL_law_1010 : decode cL_law 1010 = .ok (.iadd, 1) := by decide +kernel
theorem dL_law_1011 : decode cL_law 1011 = .ok (.iaload, 1) := by decide +kernel
theorem dL_law_1012 : decode cL_law 1012 = .ok (.invokevirtual 126, 3) := by decide +kernel
theorem dL_law_1015 : decode cL_law 1015 = .ok (.aload_n 2, 1) := by decide +kernel
theorem dL_law_1016 : decode cL_law 1016 = .ok (.aload_n 0, 1) := by decide +kernel
theorem dL_law_1017 : decode cL_law 1017 = .ok (.iload_n 3, 1) := by decide +kernel
theorem dL_law_1018 : decode cL_law 1018 = .ok (.iconst 1, 1) := by decide +kernel
theorem dL_law_1019 : decode cL_law 1019 = .ok (.iadd, 1) := by decide +kernel
theorem dL_law_1020 : decode cL_law 1020 = .ok (.iaload, 1) := by decide +kernel
theorem dL_law_1021 : decode cL_law 1021 = .ok (.invokevirtual 129, 3) := by decide +kernel
theorem dL_law_1024 : decode cL_law 1024 = .ok (.if_icmp .eq 28, 3) := by decide +kernel
theorem dL_law_1027 : decode cL_law 1027 = .ok (.iconst 0, 1) := by decide +kernel
theorem dL_law_1028 : decode cL_law 1028 = .ok (.ireturn, 1) := by decide +kernel
theorem dL_law_1029 : decode cL_law 1029 = .ok (.aload_n 1, 1) := by decide +kernel
theorem dL_law_1030 : decode cL_law 1030 = .ok (.aload_n 0, 1) := by decide +kernel
theorem dL_law_1031 : decode cL_law 1031 = .ok (.iload_n 3, 1) := by decide +kernel
theorem dL_law_1032 : decode cL_law 1032 = .ok (.iconst 1, 1) := by decide +kernel
theorem dL_law_1033 : decode cL_law 1033 = .ok (.iadd, 1) := by decide +kernel
theorem dL_law_1034 : decode cL_law 1034 = .ok (.iaload, 1) := by decide +kernel
theorem dL_law_1035 : decode cL_law 1035 = .ok (.invokevirtual 130, 3) := by decide +kernel
theorem dL_law_1038 : decode cL_law 1038 = .ok (.aload_n 2, 1) := by decide +kernel
theorem dL_law_1039 : decode cL_law 1039 = .ok (.aload_n 0, 1) := by decide +kernel
theorem dL_law_1040 : decode cL_law 1040 = .ok (.iload_n 3, 1) := by decide +kernel
theorem dL_law_1041 : decode cL_law 1041 = .ok (.iconst 1, 1) := by decide +kernel
theorem dL_law_1042 : decode cL_law 1042 = .ok (.iadd, 1) := by decide +kernel
theorem dL_law_1043 : decode cL_law 1043 = .ok (.iaload, 1) := by decide +kernel
theorem dL_law_1044 : decode cL_law 1044 = .ok (.invokevirtual 133, 3) := by decide +kernel
theorem dL_law_1047 : decode cL_law 1047 = .ok (.if_icmp .eq 5, 3) := by decide +kernel
theorem dL_law_1050 : decode cL_law 1050 = .ok (.iconst 0, 1) := by decide +kernel
theorem dL_law_1051 : decode cL_law 1051 = .ok (.ireturn, 1) := by decide +kernel
theorem dL_law_1052 : decode cL_law 1052 = .ok (.iinc 3 6, 3) := by decide +kernel
theorem dL_law_1055 : decode cL_law 1055 = .ok (.goto (-1037), 3) := by decide +kernel
theorem dL_law_1058 : decode cL_law 1058 = .ok (.iconst 1, 1) := by decide +kernel
theorem dL_law_1059 : decode cL_law 1059 = .ok (.ireturn, 1) := by decide +kernel
