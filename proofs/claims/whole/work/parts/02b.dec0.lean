theorem dX0_init_0 : decode cX0_init 0 = .ok (.aload_n 0, 1) := by decide +kernel
theorem dX0_init_1 : decode cX0_init 1 = .ok (.invokespecial 3, 3) := by decide +kernel
theorem dX0_init_4 : decode cX0_init 4 = .ok (.aload_n 0, 1) := by decide +kernel
theorem dX0_init_5 : decode cX0_init 5 = .ok (.iconst 3, 1) := by decide +kernel
theorem dX0_init_6 : decode cX0_init 6 = .ok (.bipush 16, 2) := by decide +kernel
theorem dX0_init_8 : decode cX0_init 8 = .ok (.multianewarray 9 2, 4) := by decide +kernel
theorem dX0_init_12 : decode cX0_init 12 = .ok (.putfield 11, 3) := by decide +kernel
theorem dX0_init_15 : decode cX0_init 15 = .ok (.aload_n 0, 1) := by decide +kernel
theorem dX0_init_16 : decode cX0_init 16 = .ok (.iconst 3, 1) := by decide +kernel
theorem dX0_init_17 : decode cX0_init 17 = .ok (.newarray .int, 2) := by decide +kernel
theorem dX0_init_19 : decode cX0_init 19 = .ok (.putfield 16, 3) := by decide +kernel
theorem dX0_init_22 : decode cX0_init 22 = .ok (.aload_n 0, 1) := by decide +kernel
theorem dX0_init_23 : decode cX0_init 23 = .ok (.iconst 3, 1) := by decide +kernel
theorem dX0_init_24 : decode cX0_init 24 = .ok (.newarray .int, 2) := by decide +kernel
theorem dX0_init_26 : decode cX0_init 26 = .ok (.putfield 20, 3) := by decide +kernel
theorem dX0_init_29 : decode cX0_init 29 = .ok (.aload_n 0, 1) := by decide +kernel
theorem dX0_init_30 : decode cX0_init 30 = .ok (.iconst 0, 1) := by decide +kernel
theorem dX0_init_31 : decode cX0_init 31 = .ok (.putfield 23, 3) := by decide +kernel
theorem dX0_init_34 : decode cX0_init 34 = .ok (.aload_n 0, 1) := by decide +kernel
theorem dX0_init_35 : decode cX0_init 35 = .ok (.iconst 0, 1) := by decide +kernel
theorem dX0_init_36 : decode cX0_init 36 = .ok (.putfield 27, 3) := by decide +kernel
theorem dX0_init_39 : decode cX0_init 39 = .ok (.aload_n 0, 1) := by decide +kernel
theorem dX0_init_40 : decode cX0_init 40 = .ok (.iconst 0, 1) := by decide +kernel
theorem dX0_init_41 : decode cX0_init 41 = .ok (.putfield 30, 3) := by decide +kernel
theorem dX0_init_44 : decode cX0_init 44 = .ok (.aload_n 0, 1) := by decide +kernel
theorem dX0_init_45 : decode cX0_init 45 = .ok (.iconst 0, 1) := by decide +kernel
theorem dX0_init_46 : decode cX0_init 46 = .ok (.putfield 33, 3) := by decide +kernel
theorem dX0_init_49 : decode cX0_init 49 = .ok (.aload_n 0, 1) := by decide +kernel
theorem dX0_init_50 : decode cX0_init 50 = .ok (.aload_n 1, 1) := by decide +kernel
theorem dX0_init_51 : decode cX0_init 51 = .ok (.putfield 36, 3) := by decide +kernel
theorem dX0_init_54 : decode cX0_init 54 = .ok (.return_, 1) := by decide +kernel
theorem dX0_countRows_0 : decode cX0_countRows 0 = .ok (.aload_n 0, 1) := by decide +kernel
theorem dX0_countRows_1 : decode cX0_countRows 1 = .ok (.getfield 36, 3) := by decide +kernel
theorem dX0_countRows_4 : decode cX0_countRows 4 = .ok (.aload_n 1, 1) := by decide +kernel
theorem dX0_countRows_5 : decode cX0_countRows 5 = .ok (.invokevirtual 40, 3) := by decide +kernel
theorem dX0_countRows_8 : decode cX0_countRows 8 = .ok (.aload_n 0, 1) := by decide +kernel
theorem dX0_countRows_9 : decode cX0_countRows 9 = .ok (.iconst 0, 1) := by decide +kernel
theorem dX0_countRows_10 : decode cX0_countRows 10 = .ok (.putfield 23, 3) := by decide +kernel
theorem dX0_countRows_13 : decode cX0_countRows 13 = .ok (.aload_n 0, 1) := by decide +kernel
theorem dX0_countRows_14 : decode cX0_countRows 14 = .ok (.aload_n 2, 1) := by decide +kernel
theorem dX0_countRows_15 : decode cX0_countRows 15 = .ok (.iconst 0, 1) := by decide +kernel
theorem dX0_countRows_16 : decode cX0_countRows 16 = .ok (.iload_n 3, 1) := by decide +kernel
theorem dX0_countRows_17 : decode cX0_countRows 17 = .ok (.iconst 3, 1) := by decide +kernel
theorem dX0_countRows_18 : decode cX0_countRows 18 = .ok (.invokestatic 46, 3) := by decide +kernel
theorem dX0_countRows_21 : decode cX0_countRows 21 = .ok (.iload 4, 2) := by decide +kernel
theorem dX0_countRows_23 : decode cX0_countRows 23 = .ok (.invokevirtual 52, 3) := by decide +kernel
theorem dX0_countRows_26 : decode cX0_countRows 26 = .ok (.aload_n 0, 1) := by decide +kernel
theorem dX0_countRows_27 : decode cX0_countRows 27 = .ok (.getfield 23, 3) := by decide +kernel
theorem dX0_countRows_30 : decode cX0_countRows 30 = .ok (.ireturn, 1) := by decide +kernel
theorem dX0_follow_0 : decode cX0_follow 0 = .ok (.iload_n 2, 1) := by decide +kernel
theorem dX0_follow_1 : decode cX0_follow 1 = .ok (.ifCond .lt 13, 3) := by decide +kernel
theorem dX0_follow_4 : decode cX0_follow 4 = .ok (.iload_n 2, 1) := by decide +kernel
theorem dX0_follow_5 : decode cX0_follow 5 = .ok (.iload_n 3, 1) := by decide +kernel
theorem dX0_follow_6 : decode cX0_follow 6 = .ok (.if_icmp .ge 8, 3) := by decide +kernel
theorem dX0_follow_9 : decode cX0_follow 9 = .ok (.iload_n 2, 1) := by decide +kernel
theorem dX0_follow_10 : decode cX0_follow 10 = .ok (.iconst 3, 1) := by decide +kernel
theorem dX0_follow_11 : decode cX0_follow 11 = .ok (.if_icmp .lt 8, 3) := by decide +kernel
theorem dX0_follow_14 : decode cX0_follow 14 = .ok (.aload_n 0, 1) := by decide +kernel
theorem dX0_follow_15 : decode cX0_follow 15 = .ok (.invokevirtual 56, 3) := by decide +kernel
theorem dX0_follow_18 : decode cX0_follow 18 = .ok (.return_, 1) := by decide +kernel
theorem dX0_follow_19 : decode cX0_follow 19 = .ok (.aload_n 0, 1) := by decide +kernel
theorem dX0_follow_20 : decode cX0_follow 20 = .ok (.getfield 11, 3) := by decide +kernel
theorem dX0_follow_23 : decode cX0_follow 23 = .ok (.iload_n 2, 1) := by decide +kernel
theorem dX0_follow_24 : decode cX0_follow 24 = .ok (.aaload, 1) := by decide +kernel
theorem dX0_follow_25 : decode cX0_follow 25 = .ok (.astore 5, 2) := by decide +kernel
theorem dX0_follow_27 : decode cX0_follow 27 = .ok (.aload_n 0, 1) := by decide +kernel
theorem dX0_follow_28 : decode cX0_follow 28 = .ok (.getfield 36, 3) := by decide +kernel
theorem dX0_follow_31 : decode cX0_follow 31 = .ok (.aload_n 1, 1) := by decide +kernel
theorem dX0_follow_32 : decode cX0_follow 32 = .ok (.aload 5, 2) := by decide +kernel
theorem dX0_follow_34 : decode cX0_follow 34 = .ok (.aload 5, 2) := by decide +kernel
theorem dX0_follow_36 : decode cX0_follow 36 = .ok (.arraylength, 1) := by decide +kernel
theorem dX0_follow_37 : decode cX0_follow 37 = .ok (.invokevirtual 59, 3) := by decide +kernel
theorem dX0_follow_40 : decode cX0_follow 40 = .ok (.istore 6, 2) := by decide +kernel
theorem dX0_follow_42 : decode cX0_follow 42 = .ok (.iconst 0, 1) := by decide +kernel
theorem dX0_follow_43 : decode cX0_follow 43 = .ok (.istore 7, 2) := by decide +kernel
theorem dX0_follow_45 : decode cX0_follow 45 = .ok (.iload 7, 2) := by decide +kernel
theorem dX0_follow_47 : decode cX0_follow 47 = .ok (.iload 6, 2) := by decide +kernel
theorem dX0_follow_49 : decode cX0_follow 49 = .ok (.if_icmp .ge 64, 3) := by decide +kernel
theorem dX0_follow_52 : decode cX0_follow 52 = .ok (.aload_n 0, 1) := by decide +kernel
theorem dX0_follow_53 : decode cX0_follow 53 = .ok (.getfield 23, 3) := by decide +kernel
theorem dX0_follow_56 : decode cX0_follow 56 = .ok (.iload 4, 2) := by decide +kernel
theorem dX0_follow_58 : decode cX0_follow 58 = .ok (.if_icmp .ge 55, 3) := by decide +kernel
theorem dX0_follow_61 : decode cX0_follow 61 = .ok (.aload_n 0, 1) := by decide +kernel
theorem dX0_follow_62 : decode cX0_follow 62 = .ok (.getfield 16, 3) := by decide +kernel
theorem dX0_follow_65 : decode cX0_follow 65 = .ok (.iload_n 2, 1) := by decide +kernel
theorem dX0_follow_66 : decode cX0_follow 66 = .ok (.aload 5, 2) := by decide +kernel
theorem dX0_follow_68 : decode cX0_follow 68 = .ok (.iload 7, 2) := by decide +kernel
theorem dX0_follow_70 : decode cX0_follow 70 = .ok (.iaload, 1) := by decide +kernel
theorem dX0_follow_71 : decode cX0_follow 71 = .ok (.iastore, 1) := by decide +kernel
theorem dX0_follow_72 : decode cX0_follow 72 = .ok (.aload_n 0, 1) := by decide +kernel
theorem dX0_follow_73 : decode cX0_follow 73 = .ok (.getfield 36, 3) := by decide +kernel
theorem dX0_follow_76 : decode cX0_follow 76 = .ok (.aload 5, 2) := by decide +kernel
theorem dX0_follow_78 : decode cX0_follow 78 = .ok (.iload 7, 2) := by decide +kernel
theorem dX0_follow_80 : decode cX0_follow 80 = .ok (.iaload, 1) := by decide +kernel
theorem dX0_follow_81 : decode cX0_follow 81 = .ok (.invokevirtual 63, 3) := by decide +kernel
theorem dX0_follow_84 : decode cX0_follow 84 = .ok (.aload_n 0, 1) := by decide +kernel
theorem dX0_follow_85 : decode cX0_follow 85 = .ok (.aload_n 1, 1) := by decide +kernel
theorem dX0_follow_86 : decode cX0_follow 86 = .ok (.iload_n 2, 1) := by decide +kernel
theorem dX0_follow_87 : decode cX0_follow 87 = .ok (.iconst 1, 1) := by decide +kernel
theorem dX0_follow_88 : decode cX0_follow 88 = .ok (.iadd, 1) := by decide +kernel
theorem dX0_follow_89 : decode cX0_follow 89 = .ok (.iload_n 3, 1) := by decide +kernel
theorem dX0_follow_90 : decode cX0_follow 90 = .ok (.iload 4, 2) := by decide +kernel
theorem dX0_follow_92 : decode cX0_follow 92 = .ok (.invokevirtual 52, 3) := by decide +kernel
theorem dX0_follow_95 : decode cX0_follow 95 = .ok (.aload_n 0, 1) := by decide +kernel
theorem dX0_follow_96 : decode cX0_follow 96 = .ok (.getfield 36, 3) := by decide +kernel
theorem dX0_follow_99 : decode cX0_follow 99 = .ok (.aload 5, 2) := by decide +kernel
theorem dX0_follow_101 : decode cX0_follow 101 = .ok (.iload 7, 2) := by decide +kernel
theorem dX0_follow_103 : decode cX0_follow 103 = .ok (.iaload, 1) := by decide +kernel
theorem dX0_follow_104 : decode cX0_follow 104 = .ok (.invokevirtual 67, 3) := by decide +kernel
theorem dX0_follow_107 : decode cX0_follow 107 = .ok (.iinc 7 1, 3) := by decide +kernel
theorem dX0_follow_110 : decode cX0_follow 110 = .ok (.goto (-65), 3) := by decide +kernel
theorem dX0_follow_113 : decode cX0_follow 113 = .ok (.return_, 1) := by decide +kernel
theorem dX0_noteRow_0 : decode cX0_noteRow 0 = .ok (.aload_n 0, 1) := by decide +kernel
theorem dX0_noteRow_1 : decode cX0_noteRow 1 = .ok (.getfield 36, 3) := by decide +kernel
theorem dX0_noteRow_4 : decode cX0_noteRow 4 = .ok (.invokevirtual 70, 3) := by decide +kernel
theorem dX0_noteRow_7 : decode cX0_noteRow 7 = .ok (.ifCond .ne 4, 3) := by decide +kernel
theorem dX0_noteRow_10 : decode cX0_noteRow 10 = .ok (.return_, 1) := by decide +kernel
theorem dX0_noteRow_11 : decode cX0_noteRow 11 = .ok (.aload_n 0, 1) := by decide +kernel
theorem dX0_noteRow_12 : decode cX0_noteRow 12 = .ok (.getfield 23, 3) := by decide +kernel
theorem dX0_noteRow_15 : decode cX0_noteRow 15 = .ok (.ifCond .ne 17, 3) := by decide +kernel
theorem dX0_noteRow_18 : decode cX0_noteRow 18 = .ok (.aload_n 0, 1) := by decide +kernel
theorem dX0_noteRow_19 : decode cX0_noteRow 19 = .ok (.getfield 16, 3) := by decide +kernel
theorem dX0_noteRow_22 : decode cX0_noteRow 22 = .ok (.iconst 0, 1) := by decide +kernel
theorem dX0_noteRow_23 : decode cX0_noteRow 23 = .ok (.aload_n 0, 1) := by decide +kernel
theorem dX0_noteRow_24 : decode cX0_noteRow 24 = .ok (.getfield 20, 3) := by decide +kernel
theorem dX0_noteRow_27 : decode cX0_noteRow 27 = .ok (.iconst 0, 1) := by decide +kernel
theorem dX0_noteRow_28 : decode cX0_noteRow 28 = .ok (.iconst 3, 1) := by decide +kernel
theorem dX0_noteRow_29 : decode cX0_noteRow 29 = .ok (.invokestatic 74, 3) := by decide +kernel
theorem dX0_noteRow_32 : decode cX0_noteRow 32 = .ok (.aload_n 0, 1) := by decide +kernel
theorem dX0_noteRow_33 : decode cX0_noteRow 33 = .ok (.dup, 1) := by decide +kernel
theorem dX0_noteRow_34 : decode cX0_noteRow 34 = .ok (.getfield 23, 3) := by decide +kernel
theorem dX0_noteRow_37 : decode cX0_noteRow 37 = .ok (.iconst 1, 1) := by decide +kernel
theorem dX0_noteRow_38 : decode cX0_noteRow 38 = .ok (.iadd, 1) := by decide +kernel
theorem dX0_noteRow_39 : decode cX0_noteRow 39 = .ok (.putfield 23, 3) := by decide +kernel
theorem dX0_noteRow_42 : decode cX0_noteRow 42 = .ok (.return_, 1) := by decide +kernel
theorem dX0_searchSmuggled_0 : decode cX0_searchSmuggled 0 = .ok (.aload_n 0, 1) := by decide +kernel
theorem dX0_searchSmuggled_1 : decode cX0_searchSmuggled 1 = .ok (.iconst 0, 1) := by decide +kernel
theorem dX0_searchSmuggled_2 : decode cX0_searchSmuggled 2 = .ok (.putfield 27, 3) := by decide +kernel
theorem dX0_searchSmuggled_5 : decode cX0_searchSmuggled 5 = .ok (.iconst 0, 1) := by decide +kernel
theorem dX0_searchSmuggled_6 : decode cX0_searchSmuggled 6 = .ok (.istore_n 2, 1) := by decide +kernel
theorem dX0_searchSmuggled_7 : decode cX0_searchSmuggled 7 = .ok (.iload_n 2, 1) := by decide +kernel
theorem dX0_searchSmuggled_8 : decode cX0_searchSmuggled 8 = .ok (.aload_n 1, 1) := by decide +kernel
theorem dX0_searchSmuggled_9 : decode cX0_searchSmuggled 9 = .ok (.getfield 80, 3) := by decide +kernel
theorem dX0_searchSmuggled_12 : decode cX0_searchSmuggled 12 = .ok (.if_icmp .ge 45, 3) := by decide +kernel
theorem dX0_searchSmuggled_15 : decode cX0_searchSmuggled 15 = .ok (.iload_n 2, 1) := by decide +kernel
theorem dX0_searchSmuggled_16 : decode cX0_searchSmuggled 16 = .ok (.bipush 6, 2) := by decide +kernel
theorem dX0_searchSmuggled_18 : decode cX0_searchSmuggled 18 = .ok (.if_icmp .ge 39, 3) := by decide +kernel
theorem dX0_searchSmuggled_21 : decode cX0_searchSmuggled 21 = .ok (.iconst 1, 1) := by decide +kernel
theorem dX0_searchSmuggled_22 : decode cX0_searchSmuggled 22 = .ok (.istore_n 3, 1) := by decide +kernel
theorem dX0_searchSmuggled_23 : decode cX0_searchSmuggled 23 = .ok (.iload_n 3, 1) := by decide +kernel
theorem dX0_searchSmuggled_24 : decode cX0_searchSmuggled 24 = .ok (.bipush 20, 2) := by decide +kernel
theorem dX0_searchSmuggled_26 : decode cX0_searchSmuggled 26 = .ok (.if_icmp .gt 25, 3) := by decide +kernel
theorem dX0_searchSmuggled_29 : decode cX0_searchSmuggled 29 = .ok (.aload_n 0, 1) := by decide +kernel
theorem dX0_searchSmuggled_30 : decode cX0_searchSmuggled 30 = .ok (.aload_n 1, 1) := by decide +kernel
theorem dX0_searchSmuggled_31 : decode cX0_searchSmuggled 31 = .ok (.iload_n 2, 1) := by decide +kernel
theorem dX0_searchSmuggled_32 : decode cX0_searchSmuggled 32 = .ok (.iload_n 3, 1) := by decide +kernel
theorem dX0_searchSmuggled_33 : decode cX0_searchSmuggled 33 = .ok (.invokevirtual 83, 3) := by decide +kernel
theorem dX0_searchSmuggled_36 : decode cX0_searchSmuggled 36 = .ok (.ifCond .eq 9, 3) := by decide +kernel
theorem dX0_searchSmuggled_39 : decode cX0_searchSmuggled 39 = .ok (.aload_n 0, 1) := by decide +kernel
theorem dX0_searchSmuggled_40 : decode cX0_searchSmuggled 40 = .ok (.iload_n 2, 1) := by decide +kernel
theorem dX0_searchSmuggled_41 : decode cX0_searchSmuggled 41 = .ok (.iload_n 3, 1) := by decide +kernel
theorem dX0_searchSmuggled_42 : decode cX0_searchSmuggled 42 = .ok (.invokevirtual 87, 3) := by decide +kernel
theorem dX0_searchSmuggled_45 : decode cX0_searchSmuggled 45 = .ok (.iinc 3 1, 3) := by decide +kernel
theorem dX0_searchSmuggled_48 : decode cX0_searchSmuggled 48 = .ok (.goto (-25), 3) := by decide +kernel
theorem dX0_searchSmuggled_51 : decode cX0_searchSmuggled 51 = .ok (.iinc 2 1, 3) := by decide +kernel
theorem dX0_searchSmuggled_54 : decode cX0_searchSmuggled 54 = .ok (.goto (-47), 3) := by decide +kernel
theorem dX0_searchSmuggled_57 : decode cX0_searchSmuggled 57 = .ok (.return_, 1) := by decide +kernel
theorem dX0_isTold_0 : decode cX0_isTold 0 = .ok (.aload_n 0, 1) := by decide +kernel
theorem dX0_isTold_1 : decode cX0_isTold 1 = .ok (.getfield 36, 3) := by decide +kernel
theorem dX0_isTold_4 : decode cX0_isTold 4 = .ok (.aload_n 1, 1) := by decide +kernel
theorem dX0_isTold_5 : decode cX0_isTold 5 = .ok (.invokevirtual 40, 3) := by decide +kernel
theorem dX0_isTold_8 : decode cX0_isTold 8 = .ok (.aload_n 0, 1) := by decide +kernel
theorem dX0_isTold_9 : decode cX0_isTold 9 = .ok (.getfield 36, 3) := by decide +kernel
theorem dX0_isTold_12 : decode cX0_isTold 12 = .ok (.getfield 91, 3) := by decide +kernel
theorem dX0_isTold_15 : decode cX0_isTold 15 = .ok (.iload_n 2, 1) := by decide +kernel
theorem dX0_isTold_16 : decode cX0_isTold 16 = .ok (.dup2, 1) := by decide +kernel
theorem dX0_isTold_17 : decode cX0_isTold 17 = .ok (.iaload, 1) := by decide +kernel
theorem dX0_isTold_18 : decode cX0_isTold 18 = .ok (.iload_n 3, 1) := by decide +kernel
theorem dX0_isTold_19 : decode cX0_isTold 19 = .ok (.iadd, 1) := by decide +kernel
theorem dX0_isTold_20 : decode cX0_isTold 20 = .ok (.iastore, 1) := by decide +kernel
theorem dX0_isTold_21 : decode cX0_isTold 21 = .ok (.iconst 0, 1) := by decide +kernel
theorem dX0_isTold_22 : decode cX0_isTold 22 = .ok (.istore 4, 2) := by decide +kernel
theorem dX0_isTold_24 : decode cX0_isTold 24 = .ok (.iload 4, 2) := by decide +kernel
theorem dX0_isTold_26 : decode cX0_isTold 26 = .ok (.aload_n 0, 1) := by decide +kernel
theorem dX0_isTold_27 : decode cX0_isTold 27 = .ok (.getfield 36, 3) := by decide +kernel
theorem dX0_isTold_30 : decode cX0_isTold 30 = .ok (.getfield 94, 3) := by decide +kernel
theorem dX0_isTold_33 : decode cX0_isTold 33 = .ok (.if_icmp .ge 34, 3) := by decide +kernel
theorem dX0_isTold_36 : decode cX0_isTold 36 = .ok (.iload 4, 2) := by decide +kernel
theorem dX0_isTold_38 : decode cX0_isTold 38 = .ok (.bipush 10, 2) := by decide +kernel
theorem dX0_isTold_40 : decode cX0_isTold 40 = .ok (.if_icmp .ge 27, 3) := by decide +kernel
theorem dX0_isTold_43 : decode cX0_isTold 43 = .ok (.aload_n 0, 1) := by decide +kernel
theorem dX0_isTold_44 : decode cX0_isTold 44 = .ok (.getfield 36, 3) := by decide +kernel
theorem dX0_isTold_47 : decode cX0_isTold 47 = .ok (.aload_n 0, 1) := by decide +kernel
theorem dX0_isTold_48 : decode cX0_isTold 48 = .ok (.getfield 36, 3) := by decide +kernel
theorem dX0_isTold_51 : decode cX0_isTold 51 = .ok (.getfield 97, 3) := by decide +kernel
theorem dX0_isTold_54 : decode cX0_isTold 54 = .ok (.iload 4, 2) := by decide +kernel
theorem dX0_isTold_56 : decode cX0_isTold 56 = .ok (.iaload, 1) := by decide +kernel
theorem dX0_isTold_57 : decode cX0_isTold 57 = .ok (.iconst 1, 1) := by decide +kernel
theorem dX0_isTold_58 : decode cX0_isTold 58 = .ok (.invokevirtual 100, 3) := by decide +kernel
theorem dX0_isTold_61 : decode cX0_isTold 61 = .ok (.iinc 4 1, 3) := by decide +kernel
theorem dX0_isTold_64 : decode cX0_isTold 64 = .ok (.goto (-40), 3) := by decide +kernel
theorem dX0_isTold_67 : decode cX0_isTold 67 = .ok (.aload_n 0, 1) := by decide +kernel
theorem dX0_isTold_68 : decode cX0_isTold 68 = .ok (.getfield 36, 3) := by decide +kernel
theorem dX0_isTold_71 : decode cX0_isTold 71 = .ok (.invokevirtual 70, 3) := by decide +kernel
theorem dX0_isTold_74 : decode cX0_isTold 74 = .ok (.ireturn, 1) := by decide +kernel
theorem dX0_notePair_0 : decode cX0_notePair 0 = .ok (.aload_n 0, 1) := by decide +kernel
theorem dX0_notePair_1 : decode cX0_notePair 1 = .ok (.getfield 27, 3) := by decide +kernel
theorem dX0_notePair_4 : decode cX0_notePair 4 = .ok (.ifCond .ne 13, 3) := by decide +kernel
theorem dX0_notePair_7 : decode cX0_notePair 7 = .ok (.aload_n 0, 1) := by decide +kernel
theorem dX0_notePair_8 : decode cX0_notePair 8 = .ok (.iload_n 1, 1) := by decide +kernel
theorem dX0_notePair_9 : decode cX0_notePair 9 = .ok (.putfield 30, 3) := by decide +kernel
theorem dX0_notePair_12 : decode cX0_notePair 12 = .ok (.aload_n 0, 1) := by decide +kernel
theorem dX0_notePair_13 : decode cX0_notePair 13 = .ok (.iload_n 2, 1) := by decide +kernel
theorem dX0_notePair_14 : decode cX0_notePair 14 = .ok (.putfield 33, 3) := by decide +kernel
theorem dX0_notePair_17 : decode cX0_notePair 17 = .ok (.aload_n 0, 1) := by decide +kernel
theorem dX0_notePair_18 : decode cX0_notePair 18 = .ok (.dup, 1) := by decide +kernel
theorem dX0_notePair_19 : decode cX0_notePair 19 = .ok (.getfield 27, 3) := by decide +kernel
theorem dX0_notePair_22 : decode cX0_notePair 22 = .ok (.iconst 1, 1) := by decide +kernel
theorem dX0_notePair_23 : decode cX0_notePair 23 = .ok (.iadd, 1) := by decide +kernel
theorem dX0_notePair_24 : decode cX0_notePair 24 = .ok (.putfield 27, 3) := by decide +kernel
theorem dX0_notePair_27 : decode cX0_notePair 27 = .ok (.return_, 1) := by decide +kernel
theorem dX1_init_0 : decode cX1_init 0 = .ok (.aload_n 0, 1) := by decide +kernel
theorem dX1_init_1 : decode cX1_init 1 = .ok (.invokespecial 1, 3) := by decide +kernel
theorem dX1_init_4 : decode cX1_init 4 = .ok (.aload_n 0, 1) := by decide +kernel
theorem dX1_init_5 : decode cX1_init 5 = .ok (.bipush 10, 2) := by decide +kernel
theorem dX1_init_7 : decode cX1_init 7 = .ok (.newarray .long, 2) := by decide +kernel
theorem dX1_init_9 : decode cX1_init 9 = .ok (.putfield 9, 3) := by decide +kernel
theorem dX1_init_12 : decode cX1_init 12 = .ok (.aload_n 0, 1) := by decide +kernel
theorem dX1_init_13 : decode cX1_init 13 = .ok (.bipush 60, 2) := by decide +kernel
theorem dX1_init_15 : decode cX1_init 15 = .ok (.newarray .long, 2) := by decide +kernel
theorem dX1_init_17 : decode cX1_init 17 = .ok (.putfield 15, 3) := by decide +kernel
theorem dX1_init_20 : decode cX1_init 20 = .ok (.aload_n 0, 1) := by decide +kernel
theorem dX1_init_21 : decode cX1_init 21 = .ok (.aload_n 1, 1) := by decide +kernel
theorem dX1_init_22 : decode cX1_init 22 = .ok (.putfield 18, 3) := by decide +kernel
theorem dX1_init_25 : decode cX1_init 25 = .ok (.return_, 1) := by decide +kernel
theorem dX1_codeOfWord_0 : decode cX1_codeOfWord 0 = .ok (.iconst (-1), 1) := by decide +kernel
theorem dX1_codeOfWord_1 : decode cX1_codeOfWord 1 = .ok (.iload_n 0, 1) := by decide +kernel
theorem dX1_codeOfWord_2 : decode cX1_codeOfWord 2 = .ok (.isub, 1) := by decide +kernel
theorem dX1_codeOfWord_3 : decode cX1_codeOfWord 3 = .ok (.ireturn, 1) := by decide +kernel
theorem dX1_holds_0 : decode cX1_holds 0 = .ok (.iconst 0, 1) := by decide +kernel
theorem dX1_holds_1 : decode cX1_holds 1 = .ok (.istore_n 1, 1) := by decide +kernel
theorem dX1_holds_2 : decode cX1_holds 2 = .ok (.iconst 0, 1) := by decide +kernel
theorem dX1_holds_3 : decode cX1_holds 3 = .ok (.istore_n 2, 1) := by decide +kernel
theorem dX1_holds_4 : decode cX1_holds 4 = .ok (.iload_n 2, 1) := by decide +kernel
theorem dX1_holds_5 : decode cX1_holds 5 = .ok (.aload_n 0, 1) := by decide +kernel
theorem dX1_holds_6 : decode cX1_holds 6 = .ok (.getfield 18, 3) := by decide +kernel
theorem dX1_holds_9 : decode cX1_holds 9 = .ok (.arraylength, 1) := by decide +kernel
theorem dX1_holds_10 : decode cX1_holds 10 = .ok (.if_icmp .ge 120, 3) := by decide +kernel
theorem dX1_holds_13 : decode cX1_holds 13 = .ok (.aload_n 0, 1) := by decide +kernel
theorem dX1_holds_14 : decode cX1_holds 14 = .ok (.getfield 18, 3) := by decide +kernel
theorem dX1_holds_17 : decode cX1_holds 17 = .ok (.iload_n 2, 1) := by decide +kernel
theorem dX1_holds_18 : decode cX1_holds 18 = .ok (.iaload, 1) := by decide +kernel
theorem dX1_holds_19 : decode cX1_holds 19 = .ok (.istore_n 3, 1) := by decide +kernel
theorem dX1_holds_20 : decode cX1_holds 20 = .ok (.iload_n 3, 1) := by decide +kernel
theorem dX1_holds_21 : decode cX1_holds 21 = .ok (.ldc 22, 2) := by decide +kernel
theorem dX1_holds_23 : decode cX1_holds 23 = .ok (.if_icmp .ge 29, 3) := by decide +kernel
theorem dX1_holds_26 : decode cX1_holds 26 = .ok (.iload_n 1, 1) := by decide +kernel
theorem dX1_holds_27 : decode cX1_holds 27 = .ok (.aload_n 0, 1) := by decide +kernel
theorem dX1_holds_28 : decode cX1_holds 28 = .ok (.getfield 15, 3) := by decide +kernel
theorem dX1_holds_31 : decode cX1_holds 31 = .ok (.arraylength, 1) := by decide +kernel
theorem dX1_holds_32 : decode cX1_holds 32 = .ok (.if_icmp .ge 20, 3) := by decide +kernel
theorem dX1_holds_35 : decode cX1_holds 35 = .ok (.aload_n 0, 1) := by decide +kernel
theorem dX1_holds_36 : decode cX1_holds 36 = .ok (.getfield 15, 3) := by decide +kernel
theorem dX1_holds_39 : decode cX1_holds 39 = .ok (.iload_n 1, 1) := by decide +kernel
theorem dX1_holds_40 : decode cX1_holds 40 = .ok (.aload_n 0, 1) := by decide +kernel
theorem dX1_holds_41 : decode cX1_holds 41 = .ok (.iload_n 3, 1) := by decide +kernel
theorem dX1_holds_42 : decode cX1_holds 42 = .ok (.invokevirtual 23, 3) := by decide +kernel
theorem dX1_holds_45 : decode cX1_holds 45 = .ok (.lastore, 1) := by decide +kernel
theorem dX1_holds_46 : decode cX1_holds 46 = .ok (.iinc 1 1, 3) := by decide +kernel
theorem dX1_holds_49 : decode cX1_holds 49 = .ok (.goto 75, 3) := by decide +kernel
theorem dX1_holds_52 : decode cX1_holds 52 = .ok (.iload_n 3, 1) := by decide +kernel
theorem dX1_holds_53 : decode cX1_holds 53 = .ok (.ldc 27, 2) := by decide +kernel
theorem dX1_holds_55 : decode cX1_holds 55 = .ok (.if_icmp .ne 29, 3) := by decide +kernel
theorem dX1_holds_58 : decode cX1_holds 58 = .ok (.iload_n 1, 1) := by decide +kernel
theorem dX1_holds_59 : decode cX1_holds 59 = .ok (.iconst 1, 1) := by decide +kernel
theorem dX1_holds_60 : decode cX1_holds 60 = .ok (.if_icmp .lt 24, 3) := by decide +kernel
theorem dX1_holds_63 : decode cX1_holds 63 = .ok (.aload_n 0, 1) := by decide +kernel
theorem dX1_holds_64 : decode cX1_holds 64 = .ok (.getfield 15, 3) := by decide +kernel
theorem dX1_holds_67 : decode cX1_holds 67 = .ok (.iload_n 1, 1) := by decide +kernel
theorem dX1_holds_68 : decode cX1_holds 68 = .ok (.iconst 1, 1) := by decide +kernel
theorem dX1_holds_69 : decode cX1_holds 69 = .ok (.isub, 1) := by decide +kernel
theorem dX1_holds_70 : decode cX1_holds 70 = .ok (.lconst 1, 1) := by decide +kernel
theorem dX1_holds_71 : decode cX1_holds 71 = .ok (.aload_n 0, 1) := by decide +kernel
theorem dX1_holds_72 : decode cX1_holds 72 = .ok (.getfield 15, 3) := by decide +kernel
theorem dX1_holds_75 : decode cX1_holds 75 = .ok (.iload_n 1, 1) := by decide +kernel
theorem dX1_holds_76 : decode cX1_holds 76 = .ok (.iconst 1, 1) := by decide +kernel
theorem dX1_holds_77 : decode cX1_holds 77 = .ok (.isub, 1) := by decide +kernel
theorem dX1_holds_78 : decode cX1_holds 78 = .ok (.laload, 1) := by decide +kernel
theorem dX1_holds_79 : decode cX1_holds 79 = .ok (.lsub, 1) := by decide +kernel
theorem dX1_holds_80 : decode cX1_holds 80 = .ok (.lastore, 1) := by decide +kernel
theorem dX1_holds_81 : decode cX1_holds 81 = .ok (.goto 43, 3) := by decide +kernel
theorem dX1_holds_84 : decode cX1_holds 84 = .ok (.iload_n 3, 1) := by decide +kernel
theorem dX1_holds_85 : decode cX1_holds 85 = .ok (.ldc 22, 2) := by decide +kernel
theorem dX1_holds_87 : decode cX1_holds 87 = .ok (.if_icmp .lt 37, 3) := by decide +kernel
theorem dX1_holds_90 : decode cX1_holds 90 = .ok (.iload_n 1, 1) := by decide +kernel
theorem dX1_holds_91 : decode cX1_holds 91 = .ok (.iconst 2, 1) := by decide +kernel
theorem dX1_holds_92 : decode cX1_holds 92 = .ok (.if_icmp .lt 32, 3) := by decide +kernel
theorem dX1_holds_95 : decode cX1_holds 95 = .ok (.iinc 1 (-1), 3) := by decide +kernel
theorem dX1_holds_98 : decode cX1_holds 98 = .ok (.aload_n 0, 1) := by decide +kernel
theorem dX1_holds_99 : decode cX1_holds 99 = .ok (.getfield 15, 3) := by decide +kernel
theorem dX1_holds_102 : decode cX1_holds 102 = .ok (.iload_n 1, 1) := by decide +kernel
theorem dX1_holds_103 : decode cX1_holds 103 = .ok (.iconst 1, 1) := by decide +kernel
theorem dX1_holds_104 : decode cX1_holds 104 = .ok (.isub, 1) := by decide +kernel
theorem dX1_holds_105 : decode cX1_holds 105 = .ok (.iload_n 3, 1) := by decide +kernel
theorem dX1_holds_106 : decode cX1_holds 106 = .ok (.aload_n 0, 1) := by decide +kernel
theorem dX1_holds_107 : decode cX1_holds 107 = .ok (.getfield 15, 3) := by decide +kernel
theorem dX1_holds_110 : decode cX1_holds 110 = .ok (.iload_n 1, 1) := by decide +kernel
theorem dX1_holds_111 : decode cX1_holds 111 = .ok (.iconst 1, 1) := by decide +kernel
theorem dX1_holds_112 : decode cX1_holds 112 = .ok (.isub, 1) := by decide +kernel
theorem dX1_holds_113 : decode cX1_holds 113 = .ok (.laload, 1) := by decide +kernel
theorem dX1_holds_114 : decode cX1_holds 114 = .ok (.aload_n 0, 1) := by decide +kernel
theorem dX1_holds_115 : decode cX1_holds 115 = .ok (.getfield 15, 3) := by decide +kernel
theorem dX1_holds_118 : decode cX1_holds 118 = .ok (.iload_n 1, 1) := by decide +kernel
theorem dX1_holds_119 : decode cX1_holds 119 = .ok (.laload, 1) := by decide +kernel
theorem dX1_holds_120 : decode cX1_holds 120 = .ok (.invokestatic 28, 3) := by decide +kernel
theorem dX1_holds_123 : decode cX1_holds 123 = .ok (.lastore, 1) := by decide +kernel
theorem dX1_holds_124 : decode cX1_holds 124 = .ok (.iinc 2 1, 3) := by decide +kernel
theorem dX1_holds_127 : decode cX1_holds 127 = .ok (.goto (-123), 3) := by decide +kernel
theorem dX1_holds_130 : decode cX1_holds 130 = .ok (.iload_n 1, 1) := by decide +kernel
theorem dX1_holds_131 : decode cX1_holds 131 = .ok (.ifCond .le 18, 3) := by decide +kernel
theorem dX1_holds_134 : decode cX1_holds 134 = .ok (.aload_n 0, 1) := by decide +kernel
theorem dX1_holds_135 : decode cX1_holds 135 = .ok (.getfield 15, 3) := by decide +kernel
theorem dX1_holds_138 : decode cX1_holds 138 = .ok (.iconst 0, 1) := by decide +kernel
theorem dX1_holds_139 : decode cX1_holds 139 = .ok (.laload, 1) := by decide +kernel
theorem dX1_holds_140 : decode cX1_holds 140 = .ok (.lconst 0, 1) := by decide +kernel
theorem dX1_holds_141 : decode cX1_holds 141 = .ok (.lcmp, 1) := by decide +kernel
theorem dX1_holds_142 : decode cX1_holds 142 = .ok (.ifCond .eq 7, 3) := by decide +kernel
theorem dX1_holds_145 : decode cX1_holds 145 = .ok (.iconst 1, 1) := by decide +kernel
theorem dX1_holds_146 : decode cX1_holds 146 = .ok (.goto 4, 3) := by decide +kernel
theorem dX1_holds_149 : decode cX1_holds 149 = .ok (.iconst 0, 1) := by decide +kernel
theorem dX1_holds_150 : decode cX1_holds 150 = .ok (.ireturn, 1) := by decide +kernel
theorem dX1_valueOf_0 : decode cX1_valueOf 0 = .ok (.iconst (-1), 1) := by decide +kernel
theorem dX1_valueOf_1 : decode cX1_valueOf 1 = .ok (.iload_n 1, 1) := by decide +kernel
theorem dX1_valueOf_2 : decode cX1_valueOf 2 = .ok (.isub, 1) := by decide +kernel
theorem dX1_valueOf_3 : decode cX1_valueOf 3 = .ok (.istore_n 2, 1) := by decide +kernel
theorem dX1_valueOf_4 : decode cX1_valueOf 4 = .ok (.iload_n 2, 1) := by decide +kernel
theorem dX1_valueOf_5 : decode cX1_valueOf 5 = .ok (.ifCond .lt 18, 3) := by decide +kernel
theorem dX1_valueOf_8 : decode cX1_valueOf 8 = .ok (.iload_n 2, 1) := by decide +kernel
theorem dX1_valueOf_9 : decode cX1_valueOf 9 = .ok (.bipush 10, 2) := by decide +kernel
theorem dX1_valueOf_11 : decode cX1_valueOf 11 = .ok (.if_icmp .ge 12, 3) := by decide +kernel
theorem dX1_valueOf_14 : decode cX1_valueOf 14 = .ok (.aload_n 0, 1) := by decide +kernel
theorem dX1_valueOf_15 : decode cX1_valueOf 15 = .ok (.getfield 9, 3) := by decide +kernel
theorem dX1_valueOf_18 : decode cX1_valueOf 18 = .ok (.iload_n 2, 1) := by decide +kernel
theorem dX1_valueOf_19 : decode cX1_valueOf 19 = .ok (.laload, 1) := by decide +kernel
theorem dX1_valueOf_20 : decode cX1_valueOf 20 = .ok (.goto 5, 3) := by decide +kernel
theorem dX1_valueOf_23 : decode cX1_valueOf 23 = .ok (.iload_n 1, 1) := by decide +kernel
theorem dX1_valueOf_24 : decode cX1_valueOf 24 = .ok (.i2l, 1) := by decide +kernel
theorem dX1_valueOf_25 : decode cX1_valueOf 25 = .ok (.lreturn, 1) := by decide +kernel
theorem dX1_combine_0 : decode cX1_combine 0 = .ok (.iload_n 0, 1) := by decide +kernel
theorem dX1_combine_1 : decode cX1_combine 1 = .ok (.tableswitch 145 100000 100009 #[55, 59, 63, 67, 81, 93, 105, 117, 129, 141], 55) := by decide +kernel
theorem dX1_combine_56 : decode cX1_combine 56 = .ok (.lload_n 1, 1) := by decide +kernel
theorem dX1_combine_57 : decode cX1_combine 57 = .ok (.lload_n 3, 1) := by decide +kernel
theorem dX1_combine_58 : decode cX1_combine 58 = .ok (.ladd, 1) := by decide +kernel
theorem dX1_combine_59 : decode cX1_combine 59 = .ok (.lreturn, 1) := by decide +kernel
theorem dX1_combine_60 : decode cX1_combine 60 = .ok (.lload_n 1, 1) := by decide +kernel
theorem dX1_combine_61 : decode cX1_combine 61 = .ok (.lload_n 3, 1) := by decide +kernel
theorem dX1_combine_62 : decode cX1_combine 62 = .ok (.lsub, 1) := by decide +kernel
theorem dX1_combine_63 : decode cX1_combine 63 = .ok (.lreturn, 1) := by decide +kernel
theorem dX1_combine_64 : decode cX1_combine 64 = .ok (.lload_n 1, 1) := by decide +kernel
theorem dX1_combine_65 : decode cX1_combine 65 = .ok (.lload_n 3, 1) := by decide +kernel
theorem dX1_combine_66 : decode cX1_combine 66 = .ok (.lmul, 1) := by decide +kernel
theorem dX1_combine_67 : decode cX1_combine 67 = .ok (.lreturn, 1) := by decide +kernel
theorem dX1_combine_68 : decode cX1_combine 68 = .ok (.lload_n 3, 1) := by decide +kernel
theorem dX1_combine_69 : decode cX1_combine 69 = .ok (.lconst 0, 1) := by decide +kernel
theorem dX1_combine_70 : decode cX1_combine 70 = .ok (.lcmp, 1) := by decide +kernel
theorem dX1_combine_71 : decode cX1_combine 71 = .ok (.ifCond .ne 7, 3) := by decide +kernel
theorem dX1_combine_74 : decode cX1_combine 74 = .ok (.lconst 0, 1) := by decide +kernel
theorem dX1_combine_75 : decode cX1_combine 75 = .ok (.goto 6, 3) := by decide +kernel
theorem dX1_combine_78 : decode cX1_combine 78 = .ok (.lload_n 1, 1) := by decide +kernel
theorem dX1_combine_79 : decode cX1_combine 79 = .ok (.lload_n 3, 1) := by decide +kernel
theorem dX1_combine_80 : decode cX1_combine 80 = .ok (.ldiv, 1) := by decide +kernel
theorem dX1_combine_81 : decode cX1_combine 81 = .ok (.lreturn, 1) := by decide +kernel
theorem dX1_combine_82 : decode cX1_combine 82 = .ok (.lload_n 1, 1) := by decide +kernel
theorem dX1_combine_83 : decode cX1_combine 83 = .ok (.lload_n 3, 1) := by decide +kernel
theorem dX1_combine_84 : decode cX1_combine 84 = .ok (.lcmp, 1) := by decide +kernel
theorem dX1_combine_85 : decode cX1_combine 85 = .ok (.ifCond .ge 7, 3) := by decide +kernel
theorem dX1_combine_88 : decode cX1_combine 88 = .ok (.lconst 1, 1) := by decide +kernel
theorem dX1_combine_89 : decode cX1_combine 89 = .ok (.goto 4, 3) := by decide +kernel
theorem dX1_combine_92 : decode cX1_combine 92 = .ok (.lconst 0, 1) := by decide +kernel
theorem dX1_combine_93 : decode cX1_combine 93 = .ok (.lreturn, 1) := by decide +kernel
theorem dX1_combine_94 : decode cX1_combine 94 = .ok (.lload_n 1, 1) := by decide +kernel
theorem dX1_combine_95 : decode cX1_combine 95 = .ok (.lload_n 3, 1) := by decide +kernel
theorem dX1_combine_96 : decode cX1_combine 96 = .ok (.lcmp, 1) := by decide +kernel
theorem dX1_combine_97 : decode cX1_combine 97 = .ok (.ifCond .gt 7, 3) := by decide +kernel
theorem dX1_combine_100 : decode cX1_combine 100 = .ok (.lconst 1, 1) := by decide +kernel
theorem dX1_combine_101 : decode cX1_combine 101 = .ok (.goto 4, 3) := by decide +kernel
theorem dX1_combine_104 : decode cX1_combine 104 = .ok (.lconst 0, 1) := by decide +kernel
theorem dX1_combine_105 : decode cX1_combine 105 = .ok (.lreturn, 1) := by decide +kernel
theorem dX1_combine_106 : decode cX1_combine 106 = .ok (.lload_n 1, 1) := by decide +kernel
theorem dX1_combine_107 : decode cX1_combine 107 = .ok (.lload_n 3, 1) := by decide +kernel
theorem dX1_combine_108 : decode cX1_combine 108 = .ok (.lcmp, 1) := by decide +kernel
theorem dX1_combine_109 : decode cX1_combine 109 = .ok (.ifCond .ne 7, 3) := by decide +kernel
theorem dX1_combine_112 : decode cX1_combine 112 = .ok (.lconst 1, 1) := by decide +kernel
theorem dX1_combine_113 : decode cX1_combine 113 = .ok (.goto 4, 3) := by decide +kernel
theorem dX1_combine_116 : decode cX1_combine 116 = .ok (.lconst 0, 1) := by decide +kernel
theorem dX1_combine_117 : decode cX1_combine 117 = .ok (.lreturn, 1) := by decide +kernel
theorem dX1_combine_118 : decode cX1_combine 118 = .ok (.lload_n 1, 1) := by decide +kernel
theorem dX1_combine_119 : decode cX1_combine 119 = .ok (.lload_n 3, 1) := by decide +kernel
theorem dX1_combine_120 : decode cX1_combine 120 = .ok (.lcmp, 1) := by decide +kernel
theorem dX1_combine_121 : decode cX1_combine 121 = .ok (.ifCond .lt 7, 3) := by decide +kernel
theorem dX1_combine_124 : decode cX1_combine 124 = .ok (.lconst 1, 1) := by decide +kernel
theorem dX1_combine_125 : decode cX1_combine 125 = .ok (.goto 4, 3) := by decide +kernel
theorem dX1_combine_128 : decode cX1_combine 128 = .ok (.lconst 0, 1) := by decide +kernel
theorem dX1_combine_129 : decode cX1_combine 129 = .ok (.lreturn, 1) := by decide +kernel
theorem dX1_combine_130 : decode cX1_combine 130 = .ok (.lload_n 1, 1) := by decide +kernel
theorem dX1_combine_131 : decode cX1_combine 131 = .ok (.lload_n 3, 1) := by decide +kernel
theorem dX1_combine_132 : decode cX1_combine 132 = .ok (.lcmp, 1) := by decide +kernel
theorem dX1_combine_133 : decode cX1_combine 133 = .ok (.ifCond .le 7, 3) := by decide +kernel
theorem dX1_combine_136 : decode cX1_combine 136 = .ok (.lconst 1, 1) := by decide +kernel
theorem dX1_combine_137 : decode cX1_combine 137 = .ok (.goto 4, 3) := by decide +kernel
theorem dX1_combine_140 : decode cX1_combine 140 = .ok (.lconst 0, 1) := by decide +kernel
theorem dX1_combine_141 : decode cX1_combine 141 = .ok (.lreturn, 1) := by decide +kernel
theorem dX1_combine_142 : decode cX1_combine 142 = .ok (.lload_n 1, 1) := by decide +kernel
theorem dX1_combine_143 : decode cX1_combine 143 = .ok (.lload_n 3, 1) := by decide +kernel
theorem dX1_combine_144 : decode cX1_combine 144 = .ok (.land, 1) := by decide +kernel
theorem dX1_combine_145 : decode cX1_combine 145 = .ok (.lreturn, 1) := by decide +kernel
theorem dX1_combine_146 : decode cX1_combine 146 = .ok (.lload_n 1, 1) := by decide +kernel
theorem dX1_combine_147 : decode cX1_combine 147 = .ok (.lload_n 3, 1) := by decide +kernel
theorem dX1_combine_148 : decode cX1_combine 148 = .ok (.lor, 1) := by decide +kernel
theorem dX1_combine_149 : decode cX1_combine 149 = .ok (.lreturn, 1) := by decide +kernel
theorem dX2_init_0 : decode cX2_init 0 = .ok (.aload_n 0, 1) := by decide +kernel
theorem dX2_init_1 : decode cX2_init 1 = .ok (.invokespecial 3, 3) := by decide +kernel
theorem dX2_init_4 : decode cX2_init 4 = .ok (.aload_n 0, 1) := by decide +kernel
theorem dX2_init_5 : decode cX2_init 5 = .ok (.sipush 400, 3) := by decide +kernel
theorem dX2_init_8 : decode cX2_init 8 = .ok (.newarray .int, 2) := by decide +kernel
theorem dX2_init_10 : decode cX2_init 10 = .ok (.putfield 9, 3) := by decide +kernel
theorem dX2_init_13 : decode cX2_init 13 = .ok (.aload_n 0, 1) := by decide +kernel
theorem dX2_init_14 : decode cX2_init 14 = .ok (.iconst 0, 1) := by decide +kernel
theorem dX2_init_15 : decode cX2_init 15 = .ok (.putfield 15, 3) := by decide +kernel
theorem dX2_init_18 : decode cX2_init 18 = .ok (.aload_n 0, 1) := by decide +kernel
theorem dX2_init_19 : decode cX2_init 19 = .ok (.iconst 0, 1) := by decide +kernel
theorem dX2_init_20 : decode cX2_init 20 = .ok (.putfield 19, 3) := by decide +kernel
theorem dX2_init_23 : decode cX2_init 23 = .ok (.aload_n 0, 1) := by decide +kernel
theorem dX2_init_24 : decode cX2_init 24 = .ok (.aload_n 1, 1) := by decide +kernel
theorem dX2_init_25 : decode cX2_init 25 = .ok (.putfield 22, 3) := by decide +kernel
theorem dX2_init_28 : decode cX2_init 28 = .ok (.return_, 1) := by decide +kernel
theorem dX2_readRule_0 : decode cX2_readRule 0 = .ok (.aload_n 0, 1) := by decide +kernel
theorem dX2_readRule_1 : decode cX2_readRule 1 = .ok (.iconst 0, 1) := by decide +kernel
theorem dX2_readRule_2 : decode cX2_readRule 2 = .ok (.putfield 15, 3) := by decide +kernel
theorem dX2_readRule_5 : decode cX2_readRule 5 = .ok (.aload_n 0, 1) := by decide +kernel
theorem dX2_readRule_6 : decode cX2_readRule 6 = .ok (.iconst 0, 1) := by decide +kernel
theorem dX2_readRule_7 : decode cX2_readRule 7 = .ok (.putfield 19, 3) := by decide +kernel
theorem dX2_readRule_10 : decode cX2_readRule 10 = .ok (.aload_n 0, 1) := by decide +kernel
theorem dX2_readRule_11 : decode cX2_readRule 11 = .ok (.getfield 22, 3) := by decide +kernel
theorem dX2_readRule_14 : decode cX2_readRule 14 = .ok (.invokevirtual 26, 3) := by decide +kernel
theorem dX2_readRule_17 : decode cX2_readRule 17 = .ok (.iconst 0, 1) := by decide +kernel
theorem dX2_readRule_18 : decode cX2_readRule 18 = .ok (.istore_n 1, 1) := by decide +kernel
theorem dX2_readRule_19 : decode cX2_readRule 19 = .ok (.iload_n 1, 1) := by decide +kernel
theorem dX2_readRule_20 : decode cX2_readRule 20 = .ok (.bipush 12, 2) := by decide +kernel
theorem dX2_readRule_22 : decode cX2_readRule 22 = .ok (.if_icmp .gt 108, 3) := by decide +kernel
theorem dX2_readRule_25 : decode cX2_readRule 25 = .ok (.aload_n 0, 1) := by decide +kernel
theorem dX2_readRule_26 : decode cX2_readRule 26 = .ok (.getfield 22, 3) := by decide +kernel
theorem dX2_readRule_29 : decode cX2_readRule 29 = .ok (.getfield 31, 3) := by decide +kernel
theorem dX2_readRule_32 : decode cX2_readRule 32 = .ok (.ifCond .ne 98, 3) := by decide +kernel
theorem dX2_readRule_35 : decode cX2_readRule 35 = .ok (.aload_n 0, 1) := by decide +kernel
theorem dX2_readRule_36 : decode cX2_readRule 36 = .ok (.iload_n 1, 1) := by decide +kernel
theorem dX2_readRule_37 : decode cX2_readRule 37 = .ok (.bipush 12, 2) := by decide +kernel
theorem dX2_readRule_39 : decode cX2_readRule 39 = .ok (.if_icmp .ge 7, 3) := by decide +kernel
theorem dX2_readRule_42 : decode cX2_readRule 42 = .ok (.iconst 1, 1) := by decide +kernel
theorem dX2_readRule_43 : decode cX2_readRule 43 = .ok (.goto 4, 3) := by decide +kernel
theorem dX2_readRule_46 : decode cX2_readRule 46 = .ok (.iconst 0, 1) := by decide +kernel
theorem dX2_readRule_47 : decode cX2_readRule 47 = .ok (.invokevirtual 34, 3) := by decide +kernel
theorem dX2_readRule_50 : decode cX2_readRule 50 = .ok (.aload_n 0, 1) := by decide +kernel
theorem dX2_readRule_51 : decode cX2_readRule 51 = .ok (.iconst 0, 1) := by decide +kernel
theorem dX2_readRule_52 : decode cX2_readRule 52 = .ok (.invokevirtual 38, 3) := by decide +kernel
theorem dX2_readRule_55 : decode cX2_readRule 55 = .ok (.iload_n 1, 1) := by decide +kernel
theorem dX2_readRule_56 : decode cX2_readRule 56 = .ok (.ifCond .le 9, 3) := by decide +kernel
theorem dX2_readRule_59 : decode cX2_readRule 59 = .ok (.aload_n 0, 1) := by decide +kernel
theorem dX2_readRule_60 : decode cX2_readRule 60 = .ok (.ldc 44, 2) := by decide +kernel
theorem dX2_readRule_62 : decode cX2_readRule 62 = .ok (.invokevirtual 45, 3) := by decide +kernel
theorem dX2_readRule_65 : decode cX2_readRule 65 = .ok (.aload_n 0, 1) := by decide +kernel
theorem dX2_readRule_66 : decode cX2_readRule 66 = .ok (.getfield 22, 3) := by decide +kernel
theorem dX2_readRule_69 : decode cX2_readRule 69 = .ok (.getfield 48, 3) := by decide +kernel
theorem dX2_readRule_72 : decode cX2_readRule 72 = .ok (.sipush 256, 3) := by decide +kernel
theorem dX2_readRule_75 : decode cX2_readRule 75 = .ok (.if_icmp .ne 22, 3) := by decide +kernel
theorem dX2_readRule_78 : decode cX2_readRule 78 = .ok (.new 42, 3) := by decide +kernel
theorem dX2_readRule_81 : decode cX2_readRule 81 = .ok (.dup, 1) := by decide +kernel
theorem dX2_readRule_82 : decode cX2_readRule 82 = .ok (.aload_n 0, 1) := by decide +kernel
theorem dX2_readRule_83 : decode cX2_readRule 83 = .ok (.getfield 9, 3) := by decide +kernel
theorem dX2_readRule_86 : decode cX2_readRule 86 = .ok (.aload_n 0, 1) := by decide +kernel
theorem dX2_readRule_87 : decode cX2_readRule 87 = .ok (.getfield 15, 3) := by decide +kernel
theorem dX2_readRule_90 : decode cX2_readRule 90 = .ok (.invokestatic 51, 3) := by decide +kernel
theorem dX2_readRule_93 : decode cX2_readRule 93 = .ok (.invokespecial 57, 3) := by decide +kernel
theorem dX2_readRule_96 : decode cX2_readRule 96 = .ok (.areturn, 1) := by decide +kernel
theorem dX2_readRule_97 : decode cX2_readRule 97 = .ok (.aload_n 0, 1) := by decide +kernel
theorem dX2_readRule_98 : decode cX2_readRule 98 = .ok (.getfield 22, 3) := by decide +kernel
theorem dX2_readRule_101 : decode cX2_readRule 101 = .ok (.getfield 48, 3) := by decide +kernel
theorem dX2_readRule_104 : decode cX2_readRule 104 = .ok (.bipush 59, 2) := by decide +kernel
theorem dX2_readRule_106 : decode cX2_readRule 106 = .ok (.if_icmp .eq 11, 3) := by decide +kernel
theorem dX2_readRule_109 : decode cX2_readRule 109 = .ok (.aload_n 0, 1) := by decide +kernel
theorem dX2_readRule_110 : decode cX2_readRule 110 = .ok (.getfield 22, 3) := by decide +kernel
theorem dX2_readRule_113 : decode cX2_readRule 113 = .ok (.iconst 0, 1) := by decide +kernel
theorem dX2_readRule_114 : decode cX2_readRule 114 = .ok (.invokevirtual 60, 3) := by decide +kernel
theorem dX2_readRule_117 : decode cX2_readRule 117 = .ok (.aload_n 0, 1) := by decide +kernel
theorem dX2_readRule_118 : decode cX2_readRule 118 = .ok (.getfield 22, 3) := by decide +kernel
theorem dX2_readRule_121 : decode cX2_readRule 121 = .ok (.invokevirtual 63, 3) := by decide +kernel
theorem dX2_readRule_124 : decode cX2_readRule 124 = .ok (.iinc 1 1, 3) := by decide +kernel
theorem dX2_readRule_127 : decode cX2_readRule 127 = .ok (.goto (-108), 3) := by decide +kernel
theorem dX2_readRule_130 : decode cX2_readRule 130 = .ok (.aconst_null, 1) := by decide +kernel
theorem dX2_readRule_131 : decode cX2_readRule 131 = .ok (.areturn, 1) := by decide +kernel
theorem dX2_takeBar_0 : decode cX2_takeBar 0 = .ok (.aload_n 0, 1) := by decide +kernel
theorem dX2_takeBar_1 : decode cX2_takeBar 1 = .ok (.getfield 22, 3) := by decide +kernel
theorem dX2_takeBar_4 : decode cX2_takeBar 4 = .ok (.ldc 66, 2) := by decide +kernel
theorem dX2_takeBar_6 : decode cX2_takeBar 6 = .ok (.invokevirtual 68, 3) := by decide +kernel
theorem dX2_takeBar_9 : decode cX2_takeBar 9 = .ok (.ifCond .ne 14, 3) := by decide +kernel
theorem dX2_takeBar_12 : decode cX2_takeBar 12 = .ok (.aload_n 0, 1) := by decide +kernel
theorem dX2_takeBar_13 : decode cX2_takeBar 13 = .ok (.getfield 22, 3) := by decide +kernel
theorem dX2_takeBar_16 : decode cX2_takeBar 16 = .ok (.iconst 0, 1) := by decide +kernel
theorem dX2_takeBar_17 : decode cX2_takeBar 17 = .ok (.invokevirtual 60, 3) := by decide +kernel
theorem dX2_takeBar_20 : decode cX2_takeBar 20 = .ok (.goto 15, 3) := by decide +kernel
theorem dX2_takeBar_23 : decode cX2_takeBar 23 = .ok (.iload_n 1, 1) := by decide +kernel
theorem dX2_takeBar_24 : decode cX2_takeBar 24 = .ok (.ifCond .ne 11, 3) := by decide +kernel
theorem dX2_takeBar_27 : decode cX2_takeBar 27 = .ok (.aload_n 0, 1) := by decide +kernel
theorem dX2_takeBar_28 : decode cX2_takeBar 28 = .ok (.getfield 22, 3) := by decide +kernel
theorem dX2_takeBar_31 : decode cX2_takeBar 31 = .ok (.iconst 4, 1) := by decide +kernel
theorem dX2_takeBar_32 : decode cX2_takeBar 32 = .ok (.invokevirtual 60, 3) := by decide +kernel
theorem dX2_takeBar_35 : decode cX2_takeBar 35 = .ok (.aload_n 0, 1) := by decide +kernel
theorem dX2_takeBar_36 : decode cX2_takeBar 36 = .ok (.getfield 22, 3) := by decide +kernel
theorem dX2_takeBar_39 : decode cX2_takeBar 39 = .ok (.invokevirtual 63, 3) := by decide +kernel
theorem dX2_takeBar_42 : decode cX2_takeBar 42 = .ok (.return_, 1) := by decide +kernel
theorem dX2_readTest_0 : decode cX2_readTest 0 = .ok (.aload_n 0, 1) := by decide +kernel
theorem dX2_readTest_1 : decode cX2_readTest 1 = .ok (.iload_n 1, 1) := by decide +kernel
theorem dX2_readTest_2 : decode cX2_readTest 2 = .ok (.invokevirtual 72, 3) := by decide +kernel
theorem dX2_readTest_5 : decode cX2_readTest 5 = .ok (.iconst 0, 1) := by decide +kernel
theorem dX2_readTest_6 : decode cX2_readTest 6 = .ok (.istore_n 2, 1) := by decide +kernel
theorem dX2_readTest_7 : decode cX2_readTest 7 = .ok (.iconst 0, 1) := by decide +kernel
theorem dX2_readTest_8 : decode cX2_readTest 8 = .ok (.istore_n 3, 1) := by decide +kernel
theorem dX2_readTest_9 : decode cX2_readTest 9 = .ok (.iload_n 3, 1) := by decide +kernel
theorem dX2_readTest_10 : decode cX2_readTest 10 = .ok (.sipush 400, 3) := by decide +kernel
theorem dX2_readTest_13 : decode cX2_readTest 13 = .ok (.if_icmp .ge 87, 3) := by decide +kernel
theorem dX2_readTest_16 : decode cX2_readTest 16 = .ok (.aload_n 0, 1) := by decide +kernel
theorem dX2_readTest_17 : decode cX2_readTest 17 = .ok (.getfield 22, 3) := by decide +kernel
theorem dX2_readTest_20 : decode cX2_readTest 20 = .ok (.ldc 75, 2) := by decide +kernel
theorem dX2_readTest_22 : decode cX2_readTest 22 = .ok (.invokevirtual 68, 3) := by decide +kernel
theorem dX2_readTest_25 : decode cX2_readTest 25 = .ok (.ifCond .ne 15, 3) := by decide +kernel
theorem dX2_readTest_28 : decode cX2_readTest 28 = .ok (.aload_n 0, 1) := by decide +kernel
theorem dX2_readTest_29 : decode cX2_readTest 29 = .ok (.getfield 22, 3) := by decide +kernel
theorem dX2_readTest_32 : decode cX2_readTest 32 = .ok (.ldc 77, 2) := by decide +kernel
theorem dX2_readTest_34 : decode cX2_readTest 34 = .ok (.invokevirtual 68, 3) := by decide +kernel
theorem dX2_readTest_37 : decode cX2_readTest 37 = .ok (.ifCond .eq 63, 3) := by decide +kernel
theorem dX2_readTest_40 : decode cX2_readTest 40 = .ok (.aload_n 0, 1) := by decide +kernel
theorem dX2_readTest_41 : decode cX2_readTest 41 = .ok (.getfield 22, 3) := by decide +kernel
theorem dX2_readTest_44 : decode cX2_readTest 44 = .ok (.ldc 75, 2) := by decide +kernel
theorem dX2_readTest_46 : decode cX2_readTest 46 = .ok (.invokevirtual 68, 3) := by decide +kernel
theorem dX2_readTest_49 : decode cX2_readTest 49 = .ok (.istore 4, 2) := by decide +kernel
theorem dX2_readTest_51 : decode cX2_readTest 51 = .ok (.iload 4, 2) := by decide +kernel
theorem dX2_readTest_53 : decode cX2_readTest 53 = .ok (.ifCond .eq 13, 3) := by decide +kernel
theorem dX2_readTest_56 : decode cX2_readTest 56 = .ok (.iload_n 2, 1) := by decide +kernel
theorem dX2_readTest_57 : decode cX2_readTest 57 = .ok (.ifCond .eq 9, 3) := by decide +kernel
theorem dX2_readTest_60 : decode cX2_readTest 60 = .ok (.aload_n 0, 1) := by decide +kernel
theorem dX2_readTest_61 : decode cX2_readTest 61 = .ok (.ldc 44, 2) := by decide +kernel
theorem dX2_readTest_63 : decode cX2_readTest 63 = .ok (.invokevirtual 45, 3) := by decide +kernel
theorem dX2_readTest_66 : decode cX2_readTest 66 = .ok (.aload_n 0, 1) := by decide +kernel
theorem dX2_readTest_67 : decode cX2_readTest 67 = .ok (.getfield 22, 3) := by decide +kernel
theorem dX2_readTest_70 : decode cX2_readTest 70 = .ok (.invokevirtual 63, 3) := by decide +kernel
theorem dX2_readTest_73 : decode cX2_readTest 73 = .ok (.aload_n 0, 1) := by decide +kernel
theorem dX2_readTest_74 : decode cX2_readTest 74 = .ok (.iload_n 1, 1) := by decide +kernel
theorem dX2_readTest_75 : decode cX2_readTest 75 = .ok (.invokevirtual 72, 3) := by decide +kernel
theorem dX2_readTest_78 : decode cX2_readTest 78 = .ok (.iload 4, 2) := by decide +kernel
theorem dX2_readTest_80 : decode cX2_readTest 80 = .ok (.ifCond .ne 9, 3) := by decide +kernel
theorem dX2_readTest_83 : decode cX2_readTest 83 = .ok (.aload_n 0, 1) := by decide +kernel
theorem dX2_readTest_84 : decode cX2_readTest 84 = .ok (.ldc 79, 2) := by decide +kernel
theorem dX2_readTest_86 : decode cX2_readTest 86 = .ok (.invokevirtual 45, 3) := by decide +kernel
theorem dX2_readTest_89 : decode cX2_readTest 89 = .ok (.iload_n 2, 1) := by decide +kernel
theorem dX2_readTest_90 : decode cX2_readTest 90 = .ok (.iload 4, 2) := by decide +kernel
theorem dX2_readTest_92 : decode cX2_readTest 92 = .ok (.ior, 1) := by decide +kernel
theorem dX2_readTest_93 : decode cX2_readTest 93 = .ok (.istore_n 2, 1) := by decide +kernel
theorem dX2_readTest_94 : decode cX2_readTest 94 = .ok (.iinc 3 1, 3) := by decide +kernel
theorem dX2_readTest_97 : decode cX2_readTest 97 = .ok (.goto (-88), 3) := by decide +kernel
theorem dX2_readTest_100 : decode cX2_readTest 100 = .ok (.iload_n 2, 1) := by decide +kernel
theorem dX2_readTest_101 : decode cX2_readTest 101 = .ok (.ifCond .eq 9, 3) := by decide +kernel
theorem dX2_readTest_104 : decode cX2_readTest 104 = .ok (.aload_n 0, 1) := by decide +kernel
theorem dX2_readTest_105 : decode cX2_readTest 105 = .ok (.ldc 44, 2) := by decide +kernel
theorem dX2_readTest_107 : decode cX2_readTest 107 = .ok (.invokevirtual 45, 3) := by decide +kernel
theorem dX2_readTest_110 : decode cX2_readTest 110 = .ok (.return_, 1) := by decide +kernel
theorem dX2_readFact_0 : decode cX2_readFact 0 = .ok (.aload_n 0, 1) := by decide +kernel
theorem dX2_readFact_1 : decode cX2_readFact 1 = .ok (.getfield 22, 3) := by decide +kernel
theorem dX2_readFact_4 : decode cX2_readFact 4 = .ok (.ldc 80, 2) := by decide +kernel
theorem dX2_readFact_6 : decode cX2_readFact 6 = .ok (.invokevirtual 68, 3) := by decide +kernel
theorem dX2_readFact_9 : decode cX2_readFact 9 = .ok (.istore_n 2, 1) := by decide +kernel
theorem dX2_readFact_10 : decode cX2_readFact 10 = .ok (.aload_n 0, 1) := by decide +kernel
theorem dX2_readFact_11 : decode cX2_readFact 11 = .ok (.getfield 22, 3) := by decide +kernel
theorem dX2_readFact_14 : decode cX2_readFact 14 = .ok (.getfield 48, 3) := by decide +kernel
theorem dX2_readFact_17 : decode cX2_readFact 17 = .ok (.bipush 91, 2) := by decide +kernel
theorem dX2_readFact_19 : decode cX2_readFact 19 = .ok (.if_icmp .ne 7, 3) := by decide +kernel
theorem dX2_readFact_22 : decode cX2_readFact 22 = .ok (.iconst 1, 1) := by decide +kernel
theorem dX2_readFact_23 : decode cX2_readFact 23 = .ok (.goto 4, 3) := by decide +kernel
theorem dX2_readFact_26 : decode cX2_readFact 26 = .ok (.iconst 0, 1) := by decide +kernel
theorem dX2_readFact_27 : decode cX2_readFact 27 = .ok (.istore_n 3, 1) := by decide +kernel
theorem dX2_readFact_28 : decode cX2_readFact 28 = .ok (.iload_n 2, 1) := by decide +kernel
theorem dX2_readFact_29 : decode cX2_readFact 29 = .ok (.ifCond .ne 7, 3) := by decide +kernel
theorem dX2_readFact_32 : decode cX2_readFact 32 = .ok (.iload_n 3, 1) := by decide +kernel
theorem dX2_readFact_33 : decode cX2_readFact 33 = .ok (.ifCond .eq 20, 3) := by decide +kernel
theorem dX2_readFact_36 : decode cX2_readFact 36 = .ok (.iload_n 1, 1) := by decide +kernel
theorem dX2_readFact_37 : decode cX2_readFact 37 = .ok (.bipush 10, 2) := by decide +kernel
theorem dX2_readFact_39 : decode cX2_readFact 39 = .ok (.if_icmp .lt 14, 3) := by decide +kernel
theorem dX2_readFact_42 : decode cX2_readFact 42 = .ok (.aload_n 0, 1) := by decide +kernel
theorem dX2_readFact_43 : decode cX2_readFact 43 = .ok (.getfield 22, 3) := by decide +kernel
theorem dX2_readFact_46 : decode cX2_readFact 46 = .ok (.iconst 2, 1) := by decide +kernel
theorem dX2_readFact_47 : decode cX2_readFact 47 = .ok (.invokevirtual 60, 3) := by decide +kernel
theorem dX2_readFact_50 : decode cX2_readFact 50 = .ok (.goto 75, 3) := by decide +kernel
theorem dX2_readFact_53 : decode cX2_readFact 53 = .ok (.iload_n 2, 1) := by decide +kernel
theorem dX2_readFact_54 : decode cX2_readFact 54 = .ok (.ifCond .eq 26, 3) := by decide +kernel
theorem dX2_readFact_57 : decode cX2_readFact 57 = .ok (.aload_n 0, 1) := by decide +kernel
theorem dX2_readFact_58 : decode cX2_readFact 58 = .ok (.getfield 22, 3) := by decide +kernel
theorem dX2_readFact_61 : decode cX2_readFact 61 = .ok (.invokevirtual 63, 3) := by decide +kernel
theorem dX2_readFact_64 : decode cX2_readFact 64 = .ok (.aload_n 0, 1) := by decide +kernel
theorem dX2_readFact_65 : decode cX2_readFact 65 = .ok (.iload_n 1, 1) := by decide +kernel
theorem dX2_readFact_66 : decode cX2_readFact 66 = .ok (.iconst 1, 1) := by decide +kernel
theorem dX2_readFact_67 : decode cX2_readFact 67 = .ok (.iadd, 1) := by decide +kernel
theorem dX2_readFact_68 : decode cX2_readFact 68 = .ok (.invokevirtual 72, 3) := by decide +kernel
theorem dX2_readFact_71 : decode cX2_readFact 71 = .ok (.aload_n 0, 1) := by decide +kernel
theorem dX2_readFact_72 : decode cX2_readFact 72 = .ok (.ldc 82, 2) := by decide +kernel
theorem dX2_readFact_74 : decode cX2_readFact 74 = .ok (.invokevirtual 45, 3) := by decide +kernel
theorem dX2_readFact_77 : decode cX2_readFact 77 = .ok (.goto 48, 3) := by decide +kernel
theorem dX2_readFact_80 : decode cX2_readFact 80 = .ok (.iload_n 3, 1) := by decide +kernel
theorem dX2_readFact_81 : decode cX2_readFact 81 = .ok (.ifCond .eq 24, 3) := by decide +kernel
theorem dX2_readFact_84 : decode cX2_readFact 84 = .ok (.aload_n 0, 1) := by decide +kernel
theorem dX2_readFact_85 : decode cX2_readFact 85 = .ok (.getfield 22, 3) := by decide +kernel
theorem dX2_readFact_88 : decode cX2_readFact 88 = .ok (.invokevirtual 63, 3) := by decide +kernel
theorem dX2_readFact_91 : decode cX2_readFact 91 = .ok (.aload_n 0, 1) := by decide +kernel
theorem dX2_readFact_92 : decode cX2_readFact 92 = .ok (.iload_n 1, 1) := by decide +kernel
theorem dX2_readFact_93 : decode cX2_readFact 93 = .ok (.iconst 1, 1) := by decide +kernel
theorem dX2_readFact_94 : decode cX2_readFact 94 = .ok (.iadd, 1) := by decide +kernel
theorem dX2_readFact_95 : decode cX2_readFact 95 = .ok (.invokevirtual 38, 3) := by decide +kernel
theorem dX2_readFact_98 : decode cX2_readFact 98 = .ok (.aload_n 0, 1) := by decide +kernel
theorem dX2_readFact_99 : decode cX2_readFact 99 = .ok (.invokevirtual 83, 3) := by decide +kernel
theorem dX2_readFact_102 : decode cX2_readFact 102 = .ok (.goto 23, 3) := by decide +kernel
theorem dX2_readFact_105 : decode cX2_readFact 105 = .ok (.aload_n 0, 1) := by decide +kernel
theorem dX2_readFact_106 : decode cX2_readFact 106 = .ok (.invokevirtual 86, 3) := by decide +kernel
theorem dX2_readFact_109 : decode cX2_readFact 109 = .ok (.aload_n 0, 1) := by decide +kernel
theorem dX2_readFact_110 : decode cX2_readFact 110 = .ok (.invokevirtual 89, 3) := by decide +kernel
theorem dX2_readFact_113 : decode cX2_readFact 113 = .ok (.istore 4, 2) := by decide +kernel
theorem dX2_readFact_115 : decode cX2_readFact 115 = .ok (.aload_n 0, 1) := by decide +kernel
theorem dX2_readFact_116 : decode cX2_readFact 116 = .ok (.invokevirtual 86, 3) := by decide +kernel
theorem dX2_readFact_119 : decode cX2_readFact 119 = .ok (.aload_n 0, 1) := by decide +kernel
theorem dX2_readFact_120 : decode cX2_readFact 120 = .ok (.iload 4, 2) := by decide +kernel
theorem dX2_readFact_122 : decode cX2_readFact 122 = .ok (.invokevirtual 45, 3) := by decide +kernel
theorem dX2_readFact_125 : decode cX2_readFact 125 = .ok (.return_, 1) := by decide +kernel
theorem dX2_takeClosing_0 : decode cX2_takeClosing 0 = .ok (.aload_n 0, 1) := by decide +kernel
theorem dX2_takeClosing_1 : decode cX2_takeClosing 1 = .ok (.getfield 22, 3) := by decide +kernel
theorem dX2_takeClosing_4 : decode cX2_takeClosing 4 = .ok (.getfield 48, 3) := by decide +kernel
theorem dX2_takeClosing_7 : decode cX2_takeClosing 7 = .ok (.bipush 93, 2) := by decide +kernel
theorem dX2_takeClosing_9 : decode cX2_takeClosing 9 = .ok (.if_icmp .eq 11, 3) := by decide +kernel
theorem dX2_takeClosing_12 : decode cX2_takeClosing 12 = .ok (.aload_n 0, 1) := by decide +kernel
theorem dX2_takeClosing_13 : decode cX2_takeClosing 13 = .ok (.getfield 22, 3) := by decide +kernel
theorem dX2_takeClosing_16 : decode cX2_takeClosing 16 = .ok (.iconst 0, 1) := by decide +kernel
theorem dX2_takeClosing_17 : decode cX2_takeClosing 17 = .ok (.invokevirtual 60, 3) := by decide +kernel
theorem dX2_takeClosing_20 : decode cX2_takeClosing 20 = .ok (.aload_n 0, 1) := by decide +kernel
theorem dX2_takeClosing_21 : decode cX2_takeClosing 21 = .ok (.getfield 22, 3) := by decide +kernel
theorem dX2_takeClosing_24 : decode cX2_takeClosing 24 = .ok (.invokevirtual 63, 3) := by decide +kernel
theorem dX2_takeClosing_27 : decode cX2_takeClosing 27 = .ok (.return_, 1) := by decide +kernel
theorem dX2_takeComparison_0 : decode cX2_takeComparison 0 = .ok (.aload_n 0, 1) := by decide +kernel
theorem dX2_takeComparison_1 : decode cX2_takeComparison 1 = .ok (.invokevirtual 93, 3) := by decide +kernel
theorem dX2_takeComparison_4 : decode cX2_takeComparison 4 = .ok (.istore_n 1, 1) := by decide +kernel
theorem dX2_takeComparison_5 : decode cX2_takeComparison 5 = .ok (.iload_n 1, 1) := by decide +kernel
theorem dX2_takeComparison_6 : decode cX2_takeComparison 6 = .ok (.iconst (-1), 1) := by decide +kernel
theorem dX2_takeComparison_7 : decode cX2_takeComparison 7 = .ok (.if_icmp .ne 14, 3) := by decide +kernel
theorem dX2_takeComparison_10 : decode cX2_takeComparison 10 = .ok (.aload_n 0, 1) := by decide +kernel
theorem dX2_takeComparison_11 : decode cX2_takeComparison 11 = .ok (.getfield 22, 3) := by decide +kernel
theorem dX2_takeComparison_14 : decode cX2_takeComparison 14 = .ok (.iconst 0, 1) := by decide +kernel
theorem dX2_takeComparison_15 : decode cX2_takeComparison 15 = .ok (.invokevirtual 60, 3) := by decide +kernel
theorem dX2_takeComparison_18 : decode cX2_takeComparison 18 = .ok (.goto 7, 3) := by decide +kernel
theorem dX2_takeComparison_21 : decode cX2_takeComparison 21 = .ok (.aload_n 0, 1) := by decide +kernel
theorem dX2_takeComparison_22 : decode cX2_takeComparison 22 = .ok (.invokevirtual 96, 3) := by decide +kernel
theorem dX2_takeComparison_25 : decode cX2_takeComparison 25 = .ok (.aload_n 0, 1) := by decide +kernel
theorem dX2_takeComparison_26 : decode cX2_takeComparison 26 = .ok (.getfield 22, 3) := by decide +kernel
theorem dX2_takeComparison_29 : decode cX2_takeComparison 29 = .ok (.invokevirtual 63, 3) := by decide +kernel
theorem dX2_takeComparison_32 : decode cX2_takeComparison 32 = .ok (.iload_n 1, 1) := by decide +kernel
theorem dX2_takeComparison_33 : decode cX2_takeComparison 33 = .ok (.ireturn, 1) := by decide +kernel
theorem dX2_comparisonAhead_0 : decode cX2_comparisonAhead 0 = .ok (.aload_n 0, 1) := by decide +kernel
theorem dX2_comparisonAhead_1 : decode cX2_comparisonAhead 1 = .ok (.getfield 22, 3) := by decide +kernel
theorem dX2_comparisonAhead_4 : decode cX2_comparisonAhead 4 = .ok (.getfield 48, 3) := by decide +kernel
theorem dX2_comparisonAhead_7 : decode cX2_comparisonAhead 7 = .ok (.lookupswitch 64 #[(60, 49), (61, 55), (62, 61), (259, 52), (260, 58)], 49) := by decide +kernel
theorem dX2_comparisonAhead_56 : decode cX2_comparisonAhead 56 = .ok (.ldc 99, 2) := by decide +kernel
theorem dX2_comparisonAhead_58 : decode cX2_comparisonAhead 58 = .ok (.ireturn, 1) := by decide +kernel
theorem dX2_comparisonAhead_59 : decode cX2_comparisonAhead 59 = .ok (.ldc 100, 2) := by decide +kernel
theorem dX2_comparisonAhead_61 : decode cX2_comparisonAhead 61 = .ok (.ireturn, 1) := by decide +kernel
theorem dX2_comparisonAhead_62 : decode cX2_comparisonAhead 62 = .ok (.ldc 101, 2) := by decide +kernel
theorem dX2_comparisonAhead_64 : decode cX2_comparisonAhead 64 = .ok (.ireturn, 1) := by decide +kernel
theorem dX2_comparisonAhead_65 : decode cX2_comparisonAhead 65 = .ok (.ldc 102, 2) := by decide +kernel
theorem dX2_comparisonAhead_67 : decode cX2_comparisonAhead 67 = .ok (.ireturn, 1) := by decide +kernel
theorem dX2_comparisonAhead_68 : decode cX2_comparisonAhead 68 = .ok (.ldc 103, 2) := by decide +kernel
theorem dX2_comparisonAhead_70 : decode cX2_comparisonAhead 70 = .ok (.ireturn, 1) := by decide +kernel
theorem dX2_comparisonAhead_71 : decode cX2_comparisonAhead 71 = .ok (.iconst (-1), 1) := by decide +kernel
theorem dX2_comparisonAhead_72 : decode cX2_comparisonAhead 72 = .ok (.ireturn, 1) := by decide +kernel
theorem dX2_readSum_0 : decode cX2_readSum 0 = .ok (.aload_n 0, 1) := by decide +kernel
theorem dX2_readSum_1 : decode cX2_readSum 1 = .ok (.invokevirtual 104, 3) := by decide +kernel
theorem dX2_readSum_4 : decode cX2_readSum 4 = .ok (.iconst (-1), 1) := by decide +kernel
theorem dX2_readSum_5 : decode cX2_readSum 5 = .ok (.istore_n 1, 1) := by decide +kernel
theorem dX2_readSum_6 : decode cX2_readSum 6 = .ok (.iconst 0, 1) := by decide +kernel
theorem dX2_readSum_7 : decode cX2_readSum 7 = .ok (.istore_n 2, 1) := by decide +kernel
theorem dX2_readSum_8 : decode cX2_readSum 8 = .ok (.iload_n 2, 1) := by decide +kernel
theorem dX2_readSum_9 : decode cX2_readSum 9 = .ok (.sipush 400, 3) := by decide +kernel
theorem dX2_readSum_12 : decode cX2_readSum 12 = .ok (.if_icmp .ge 82, 3) := by decide +kernel
theorem dX2_readSum_15 : decode cX2_readSum 15 = .ok (.aload_n 0, 1) := by decide +kernel
theorem dX2_readSum_16 : decode cX2_readSum 16 = .ok (.invokevirtual 107, 3) := by decide +kernel
theorem dX2_readSum_19 : decode cX2_readSum 19 = .ok (.iconst (-1), 1) := by decide +kernel
theorem dX2_readSum_20 : decode cX2_readSum 20 = .ok (.if_icmp .eq 74, 3) := by decide +kernel
theorem dX2_readSum_23 : decode cX2_readSum 23 = .ok (.aload_n 0, 1) := by decide +kernel
theorem dX2_readSum_24 : decode cX2_readSum 24 = .ok (.invokevirtual 107, 3) := by decide +kernel
theorem dX2_readSum_27 : decode cX2_readSum 27 = .ok (.istore_n 3, 1) := by decide +kernel
theorem dX2_readSum_28 : decode cX2_readSum 28 = .ok (.iload_n 3, 1) := by decide +kernel
theorem dX2_readSum_29 : decode cX2_readSum 29 = .ok (.ldc 110, 2) := by decide +kernel
theorem dX2_readSum_31 : decode cX2_readSum 31 = .ok (.if_icmp .eq 9, 3) := by decide +kernel
theorem dX2_readSum_34 : decode cX2_readSum 34 = .ok (.iload_n 3, 1) := by decide +kernel
theorem dX2_readSum_35 : decode cX2_readSum 35 = .ok (.ldc 111, 2) := by decide +kernel
theorem dX2_readSum_37 : decode cX2_readSum 37 = .ok (.if_icmp .ne 7, 3) := by decide +kernel
theorem dX2_readSum_40 : decode cX2_readSum 40 = .ok (.iconst 1, 1) := by decide +kernel
theorem dX2_readSum_41 : decode cX2_readSum 41 = .ok (.goto 4, 3) := by decide +kernel
theorem dX2_readSum_44 : decode cX2_readSum 44 = .ok (.iconst 0, 1) := by decide +kernel
theorem dX2_readSum_45 : decode cX2_readSum 45 = .ok (.istore 4, 2) := by decide +kernel
theorem dX2_readSum_47 : decode cX2_readSum 47 = .ok (.iload 4, 2) := by decide +kernel
theorem dX2_readSum_49 : decode cX2_readSum 49 = .ok (.ifCond .ne 13, 3) := by decide +kernel
theorem dX2_readSum_52 : decode cX2_readSum 52 = .ok (.iload_n 1, 1) := by decide +kernel
theorem dX2_readSum_53 : decode cX2_readSum 53 = .ok (.iconst (-1), 1) := by decide +kernel
theorem dX2_readSum_54 : decode cX2_readSum 54 = .ok (.if_icmp .eq 8, 3) := by decide +kernel
theorem dX2_readSum_57 : decode cX2_readSum 57 = .ok (.aload_n 0, 1) := by decide +kernel
theorem dX2_readSum_58 : decode cX2_readSum 58 = .ok (.iload_n 1, 1) := by decide +kernel
theorem dX2_readSum_59 : decode cX2_readSum 59 = .ok (.invokevirtual 45, 3) := by decide +kernel
theorem dX2_readSum_62 : decode cX2_readSum 62 = .ok (.aload_n 0, 1) := by decide +kernel
theorem dX2_readSum_63 : decode cX2_readSum 63 = .ok (.getfield 22, 3) := by decide +kernel
theorem dX2_readSum_66 : decode cX2_readSum 66 = .ok (.invokevirtual 63, 3) := by decide +kernel
theorem dX2_readSum_69 : decode cX2_readSum 69 = .ok (.aload_n 0, 1) := by decide +kernel
theorem dX2_readSum_70 : decode cX2_readSum 70 = .ok (.invokevirtual 104, 3) := by decide +kernel
theorem dX2_readSum_73 : decode cX2_readSum 73 = .ok (.iload 4, 2) := by decide +kernel
theorem dX2_readSum_75 : decode cX2_readSum 75 = .ok (.ifCond .eq 11, 3) := by decide +kernel
theorem dX2_readSum_78 : decode cX2_readSum 78 = .ok (.aload_n 0, 1) := by decide +kernel
theorem dX2_readSum_79 : decode cX2_readSum 79 = .ok (.iload_n 3, 1) := by decide +kernel
theorem dX2_readSum_80 : decode cX2_readSum 80 = .ok (.invokevirtual 45, 3) := by decide +kernel
theorem dX2_readSum_83 : decode cX2_readSum 83 = .ok (.goto 5, 3) := by decide +kernel
theorem dX2_readSum_86 : decode cX2_readSum 86 = .ok (.iload_n 3, 1) := by decide +kernel
theorem dX2_readSum_87 : decode cX2_readSum 87 = .ok (.istore_n 1, 1) := by decide +kernel
theorem dX2_readSum_88 : decode cX2_readSum 88 = .ok (.iinc 2 1, 3) := by decide +kernel
theorem dX2_readSum_91 : decode cX2_readSum 91 = .ok (.goto (-83), 3) := by decide +kernel
theorem dX2_readSum_94 : decode cX2_readSum 94 = .ok (.iload_n 1, 1) := by decide +kernel
theorem dX2_readSum_95 : decode cX2_readSum 95 = .ok (.iconst (-1), 1) := by decide +kernel
theorem dX2_readSum_96 : decode cX2_readSum 96 = .ok (.if_icmp .eq 8, 3) := by decide +kernel
theorem dX2_readSum_99 : decode cX2_readSum 99 = .ok (.aload_n 0, 1) := by decide +kernel
theorem dX2_readSum_100 : decode cX2_readSum 100 = .ok (.iload_n 1, 1) := by decide +kernel
theorem dX2_readSum_101 : decode cX2_readSum 101 = .ok (.invokevirtual 45, 3) := by decide +kernel
theorem dX2_readSum_104 : decode cX2_readSum 104 = .ok (.return_, 1) := by decide +kernel
theorem dX2_operatorAhead_0 : decode cX2_operatorAhead 0 = .ok (.aload_n 0, 1) := by decide +kernel
theorem dX2_operatorAhead_1 : decode cX2_operatorAhead 1 = .ok (.getfield 22, 3) := by decide +kernel
theorem dX2_operatorAhead_4 : decode cX2_operatorAhead 4 = .ok (.getfield 48, 3) := by decide +kernel
theorem dX2_operatorAhead_7 : decode cX2_operatorAhead 7 = .ok (.tableswitch 49 42 47 #[43, 37, 49, 40, 49, 46], 37) := by decide +kernel
theorem dX2_operatorAhead_44 : decode cX2_operatorAhead 44 = .ok (.ldc 112, 2) := by decide +kernel
theorem dX2_operatorAhead_46 : decode cX2_operatorAhead 46 = .ok (.ireturn, 1) := by decide +kernel
theorem dX2_operatorAhead_47 : decode cX2_operatorAhead 47 = .ok (.ldc 113, 2) := by decide +kernel
theorem dX2_operatorAhead_49 : decode cX2_operatorAhead 49 = .ok (.ireturn, 1) := by decide +kernel
theorem dX2_operatorAhead_50 : decode cX2_operatorAhead 50 = .ok (.ldc 110, 2) := by decide +kernel
theorem dX2_operatorAhead_52 : decode cX2_operatorAhead 52 = .ok (.ireturn, 1) := by decide +kernel
theorem dX2_operatorAhead_53 : decode cX2_operatorAhead 53 = .ok (.ldc 111, 2) := by decide +kernel
theorem dX2_operatorAhead_55 : decode cX2_operatorAhead 55 = .ok (.ireturn, 1) := by decide +kernel
theorem dX2_operatorAhead_56 : decode cX2_operatorAhead 56 = .ok (.iconst (-1), 1) := by decide +kernel
theorem dX2_operatorAhead_57 : decode cX2_operatorAhead 57 = .ok (.ireturn, 1) := by decide +kernel
theorem dX2_readValue_0 : decode cX2_readValue 0 = .ok (.aload_n 0, 1) := by decide +kernel
theorem dX2_readValue_1 : decode cX2_readValue 1 = .ok (.getfield 22, 3) := by decide +kernel
theorem dX2_readValue_4 : decode cX2_readValue 4 = .ok (.ldc 114, 2) := by decide +kernel
theorem dX2_readValue_6 : decode cX2_readValue 6 = .ok (.invokevirtual 116, 3) := by decide +kernel
theorem dX2_readValue_9 : decode cX2_readValue 9 = .ok (.istore_n 1, 1) := by decide +kernel
theorem dX2_readValue_10 : decode cX2_readValue 10 = .ok (.aload_n 0, 1) := by decide +kernel
theorem dX2_readValue_11 : decode cX2_readValue 11 = .ok (.getfield 22, 3) := by decide +kernel
theorem dX2_readValue_14 : decode cX2_readValue 14 = .ok (.getfield 48, 3) := by decide +kernel
theorem dX2_readValue_17 : decode cX2_readValue 17 = .ok (.sipush 257, 3) := by decide +kernel
theorem dX2_readValue_20 : decode cX2_readValue 20 = .ok (.if_icmp .ne 25, 3) := by decide +kernel
theorem dX2_readValue_23 : decode cX2_readValue 23 = .ok (.aload_n 0, 1) := by decide +kernel
theorem dX2_readValue_24 : decode cX2_readValue 24 = .ok (.getfield 22, 3) := by decide +kernel
theorem dX2_readValue_27 : decode cX2_readValue 27 = .ok (.getfield 120, 3) := by decide +kernel
theorem dX2_readValue_30 : decode cX2_readValue 30 = .ok (.iconst (-1), 1) := by decide +kernel
theorem dX2_readValue_31 : decode cX2_readValue 31 = .ok (.if_icmp .ne 14, 3) := by decide +kernel
theorem dX2_readValue_34 : decode cX2_readValue 34 = .ok (.aload_n 0, 1) := by decide +kernel
theorem dX2_readValue_35 : decode cX2_readValue 35 = .ok (.getfield 22, 3) := by decide +kernel
theorem dX2_readValue_38 : decode cX2_readValue 38 = .ok (.iconst 1, 1) := by decide +kernel
theorem dX2_readValue_39 : decode cX2_readValue 39 = .ok (.invokevirtual 60, 3) := by decide +kernel
theorem dX2_readValue_42 : decode cX2_readValue 42 = .ok (.goto 62, 3) := by decide +kernel
theorem dX2_readValue_45 : decode cX2_readValue 45 = .ok (.aload_n 0, 1) := by decide +kernel
theorem dX2_readValue_46 : decode cX2_readValue 46 = .ok (.getfield 22, 3) := by decide +kernel
theorem dX2_readValue_49 : decode cX2_readValue 49 = .ok (.getfield 48, 3) := by decide +kernel
theorem dX2_readValue_52 : decode cX2_readValue 52 = .ok (.sipush 257, 3) := by decide +kernel
theorem dX2_readValue_55 : decode cX2_readValue 55 = .ok (.if_icmp .ne 21, 3) := by decide +kernel
theorem dX2_readValue_58 : decode cX2_readValue 58 = .ok (.aload_n 0, 1) := by decide +kernel
theorem dX2_readValue_59 : decode cX2_readValue 59 = .ok (.invokevirtual 96, 3) := by decide +kernel
theorem dX2_readValue_62 : decode cX2_readValue 62 = .ok (.aload_n 0, 1) := by decide +kernel
theorem dX2_readValue_63 : decode cX2_readValue 63 = .ok (.aload_n 0, 1) := by decide +kernel
theorem dX2_readValue_64 : decode cX2_readValue 64 = .ok (.getfield 22, 3) := by decide +kernel
theorem dX2_readValue_67 : decode cX2_readValue 67 = .ok (.getfield 120, 3) := by decide +kernel
theorem dX2_readValue_70 : decode cX2_readValue 70 = .ok (.invokevirtual 45, 3) := by decide +kernel
theorem dX2_readValue_73 : decode cX2_readValue 73 = .ok (.goto 31, 3) := by decide +kernel
theorem dX2_readValue_76 : decode cX2_readValue 76 = .ok (.iload_n 1, 1) := by decide +kernel
theorem dX2_readValue_77 : decode cX2_readValue 77 = .ok (.iconst (-1), 1) := by decide +kernel
theorem dX2_readValue_78 : decode cX2_readValue 78 = .ok (.if_icmp .eq 18, 3) := by decide +kernel
theorem dX2_readValue_81 : decode cX2_readValue 81 = .ok (.aload_n 0, 1) := by decide +kernel
theorem dX2_readValue_82 : decode cX2_readValue 82 = .ok (.invokevirtual 96, 3) := by decide +kernel
theorem dX2_readValue_85 : decode cX2_readValue 85 = .ok (.aload_n 0, 1) := by decide +kernel
theorem dX2_readValue_86 : decode cX2_readValue 86 = .ok (.iload_n 1, 1) := by decide +kernel
theorem dX2_readValue_87 : decode cX2_readValue 87 = .ok (.invokestatic 123, 3) := by decide +kernel
theorem dX2_readValue_90 : decode cX2_readValue 90 = .ok (.invokevirtual 45, 3) := by decide +kernel
theorem dX2_readValue_93 : decode cX2_readValue 93 = .ok (.goto 11, 3) := by decide +kernel
theorem dX2_readValue_96 : decode cX2_readValue 96 = .ok (.aload_n 0, 1) := by decide +kernel
theorem dX2_readValue_97 : decode cX2_readValue 97 = .ok (.getfield 22, 3) := by decide +kernel
theorem dX2_readValue_100 : decode cX2_readValue 100 = .ok (.iconst 0, 1) := by decide +kernel
theorem dX2_readValue_101 : decode cX2_readValue 101 = .ok (.invokevirtual 60, 3) := by decide +kernel
theorem dX2_readValue_104 : decode cX2_readValue 104 = .ok (.aload_n 0, 1) := by decide +kernel
theorem dX2_readValue_105 : decode cX2_readValue 105 = .ok (.getfield 22, 3) := by decide +kernel
theorem dX2_readValue_108 : decode cX2_readValue 108 = .ok (.invokevirtual 63, 3) := by decide +kernel
theorem dX2_readValue_111 : decode cX2_readValue 111 = .ok (.return_, 1) := by decide +kernel
theorem dX2_countOne_0 : decode cX2_countOne 0 = .ok (.aload_n 0, 1) := by decide +kernel
theorem dX2_countOne_1 : decode cX2_countOne 1 = .ok (.getfield 19, 3) := by decide +kernel
theorem dX2_countOne_4 : decode cX2_countOne 4 = .ok (.bipush 60, 2) := by decide +kernel
theorem dX2_countOne_6 : decode cX2_countOne 6 = .ok (.if_icmp .lt 11, 3) := by decide +kernel
theorem dX2_countOne_9 : decode cX2_countOne 9 = .ok (.aload_n 0, 1) := by decide +kernel
theorem dX2_countOne_10 : decode cX2_countOne 10 = .ok (.getfield 22, 3) := by decide +kernel
theorem dX2_countOne_13 : decode cX2_countOne 13 = .ok (.iconst 3, 1) := by decide +kernel
theorem dX2_countOne_14 : decode cX2_countOne 14 = .ok (.invokevirtual 60, 3) := by decide +kernel
theorem dX2_countOne_17 : decode cX2_countOne 17 = .ok (.aload_n 0, 1) := by decide +kernel
theorem dX2_countOne_18 : decode cX2_countOne 18 = .ok (.dup, 1) := by decide +kernel
theorem dX2_countOne_19 : decode cX2_countOne 19 = .ok (.getfield 19, 3) := by decide +kernel
theorem dX2_countOne_22 : decode cX2_countOne 22 = .ok (.iconst 1, 1) := by decide +kernel
theorem dX2_countOne_23 : decode cX2_countOne 23 = .ok (.iadd, 1) := by decide +kernel
theorem dX2_countOne_24 : decode cX2_countOne 24 = .ok (.putfield 19, 3) := by decide +kernel
theorem dX2_countOne_27 : decode cX2_countOne 27 = .ok (.return_, 1) := by decide +kernel
theorem dX2_emit_0 : decode cX2_emit 0 = .ok (.aload_n 0, 1) := by decide +kernel
theorem dX2_emit_1 : decode cX2_emit 1 = .ok (.getfield 22, 3) := by decide +kernel
theorem dX2_emit_4 : decode cX2_emit 4 = .ok (.getfield 31, 3) := by decide +kernel
theorem dX2_emit_7 : decode cX2_emit 7 = .ok (.ifCond .ne 35, 3) := by decide +kernel
theorem dX2_emit_10 : decode cX2_emit 10 = .ok (.aload_n 0, 1) := by decide +kernel
theorem dX2_emit_11 : decode cX2_emit 11 = .ok (.getfield 15, 3) := by decide +kernel
theorem dX2_emit_14 : decode cX2_emit 14 = .ok (.aload_n 0, 1) := by decide +kernel
theorem dX2_emit_15 : decode cX2_emit 15 = .ok (.getfield 9, 3) := by decide +kernel
theorem dX2_emit_18 : decode cX2_emit 18 = .ok (.arraylength, 1) := by decide +kernel
theorem dX2_emit_19 : decode cX2_emit 19 = .ok (.if_icmp .ge 23, 3) := by decide +kernel
theorem dX2_emit_22 : decode cX2_emit 22 = .ok (.aload_n 0, 1) := by decide +kernel
theorem dX2_emit_23 : decode cX2_emit 23 = .ok (.getfield 9, 3) := by decide +kernel
theorem dX2_emit_26 : decode cX2_emit 26 = .ok (.aload_n 0, 1) := by decide +kernel
theorem dX2_emit_27 : decode cX2_emit 27 = .ok (.getfield 15, 3) := by decide +kernel
theorem dX2_emit_30 : decode cX2_emit 30 = .ok (.iload_n 1, 1) := by decide +kernel
theorem dX2_emit_31 : decode cX2_emit 31 = .ok (.iastore, 1) := by decide +kernel
theorem dX2_emit_32 : decode cX2_emit 32 = .ok (.aload_n 0, 1) := by decide +kernel
theorem dX2_emit_33 : decode cX2_emit 33 = .ok (.dup, 1) := by decide +kernel
theorem dX2_emit_34 : decode cX2_emit 34 = .ok (.getfield 15, 3) := by decide +kernel
theorem dX2_emit_37 : decode cX2_emit 37 = .ok (.iconst 1, 1) := by decide +kernel
theorem dX2_emit_38 : decode cX2_emit 38 = .ok (.iadd, 1) := by decide +kernel
theorem dX2_emit_39 : decode cX2_emit 39 = .ok (.putfield 15, 3) := by decide +kernel
theorem dX2_emit_42 : decode cX2_emit 42 = .ok (.return_, 1) := by decide +kernel
theorem dX3_init_0 : decode cX3_init 0 = .ok (.aload_n 0, 1) := by decide +kernel
theorem dX3_init_1 : decode cX3_init 1 = .ok (.invokespecial 3, 3) := by decide +kernel
theorem dX3_init_4 : decode cX3_init 4 = .ok (.aload_n 0, 1) := by decide +kernel
theorem dX3_init_5 : decode cX3_init 5 = .ok (.bipush 16, 2) := by decide +kernel
theorem dX3_init_7 : decode cX3_init 7 = .ok (.newarray .int, 2) := by decide +kernel
theorem dX3_init_9 : decode cX3_init 9 = .ok (.putfield 9, 3) := by decide +kernel
theorem dX3_init_12 : decode cX3_init 12 = .ok (.aload_n 0, 1) := by decide +kernel
theorem dX3_init_13 : decode cX3_init 13 = .ok (.sipush 1500, 3) := by decide +kernel
theorem dX3_init_16 : decode cX3_init 16 = .ok (.newarray .int, 2) := by decide +kernel
theorem dX3_init_18 : decode cX3_init 18 = .ok (.putfield 15, 3) := by decide +kernel
theorem dX3_init_21 : decode cX3_init 21 = .ok (.aload_n 0, 1) := by decide +kernel
theorem dX3_init_22 : decode cX3_init 22 = .ok (.sipush 1500, 3) := by decide +kernel
theorem dX3_init_25 : decode cX3_init 25 = .ok (.newarray .long, 2) := by decide +kernel
theorem dX3_init_27 : decode cX3_init 27 = .ok (.putfield 18, 3) := by decide +kernel
theorem dX3_init_30 : decode cX3_init 30 = .ok (.aload_n 0, 1) := by decide +kernel
theorem dX3_init_31 : decode cX3_init 31 = .ok (.sipush 1500, 3) := by decide +kernel
theorem dX3_init_34 : decode cX3_init 34 = .ok (.newarray .long, 2) := by decide +kernel
theorem dX3_init_36 : decode cX3_init 36 = .ok (.putfield 22, 3) := by decide +kernel
theorem dX3_init_39 : decode cX3_init 39 = .ok (.aload_n 0, 1) := by decide +kernel
theorem dX3_init_40 : decode cX3_init 40 = .ok (.sipush 1500, 3) := by decide +kernel
theorem dX3_init_43 : decode cX3_init 43 = .ok (.newarray .int, 2) := by decide +kernel
theorem dX3_init_45 : decode cX3_init 45 = .ok (.putfield 25, 3) := by decide +kernel
theorem dX3_init_48 : decode cX3_init 48 = .ok (.aload_n 0, 1) := by decide +kernel
theorem dX3_init_49 : decode cX3_init 49 = .ok (.sipush 1500, 3) := by decide +kernel
theorem dX3_init_52 : decode cX3_init 52 = .ok (.newarray .int, 2) := by decide +kernel
theorem dX3_init_54 : decode cX3_init 54 = .ok (.putfield 28, 3) := by decide +kernel
theorem dX3_init_57 : decode cX3_init 57 = .ok (.aload_n 0, 1) := by decide +kernel
theorem dX3_init_58 : decode cX3_init 58 = .ok (.sipush 1500, 3) := by decide +kernel
theorem dX3_init_61 : decode cX3_init 61 = .ok (.newarray .int, 2) := by decide +kernel
theorem dX3_init_63 : decode cX3_init 63 = .ok (.putfield 31, 3) := by decide +kernel
theorem dX3_init_66 : decode cX3_init 66 = .ok (.aload_n 0, 1) := by decide +kernel
theorem dX3_init_67 : decode cX3_init 67 = .ok (.sipush 1500, 3) := by decide +kernel
theorem dX3_init_70 : decode cX3_init 70 = .ok (.newarray .int, 2) := by decide +kernel
theorem dX3_init_72 : decode cX3_init 72 = .ok (.putfield 34, 3) := by decide +kernel
theorem dX3_init_75 : decode cX3_init 75 = .ok (.aload_n 0, 1) := by decide +kernel
theorem dX3_init_76 : decode cX3_init 76 = .ok (.sipush 1500, 3) := by decide +kernel
theorem dX3_init_79 : decode cX3_init 79 = .ok (.newarray .int, 2) := by decide +kernel
theorem dX3_init_81 : decode cX3_init 81 = .ok (.putfield 37, 3) := by decide +kernel
theorem dX3_init_84 : decode cX3_init 84 = .ok (.aload_n 0, 1) := by decide +kernel
theorem dX3_init_85 : decode cX3_init 85 = .ok (.sipush 4096, 3) := by decide +kernel
theorem dX3_init_88 : decode cX3_init 88 = .ok (.newarray .int, 2) := by decide +kernel
theorem dX3_init_90 : decode cX3_init 90 = .ok (.putfield 40, 3) := by decide +kernel
theorem dX3_init_93 : decode cX3_init 93 = .ok (.aload_n 0, 1) := by decide +kernel
theorem dX3_init_94 : decode cX3_init 94 = .ok (.bipush 64, 2) := by decide +kernel
theorem dX3_init_96 : decode cX3_init 96 = .ok (.newarray .int, 2) := by decide +kernel
theorem dX3_init_98 : decode cX3_init 98 = .ok (.putfield 43, 3) := by decide +kernel
theorem dX3_init_101 : decode cX3_init 101 = .ok (.aload_n 0, 1) := by decide +kernel
theorem dX3_init_102 : decode cX3_init 102 = .ok (.iconst 0, 1) := by decide +kernel
theorem dX3_init_103 : decode cX3_init 103 = .ok (.putfield 46, 3) := by decide +kernel
theorem dX3_init_106 : decode cX3_init 106 = .ok (.aload_n 0, 1) := by decide +kernel
theorem dX3_init_107 : decode cX3_init 107 = .ok (.iconst 0, 1) := by decide +kernel
theorem dX3_init_108 : decode cX3_init 108 = .ok (.putfield 50, 3) := by decide +kernel
theorem dX3_init_111 : decode cX3_init 111 = .ok (.aload_n 0, 1) := by decide +kernel
theorem dX3_init_112 : decode cX3_init 112 = .ok (.iconst 0, 1) := by decide +kernel
theorem dX3_init_113 : decode cX3_init 113 = .ok (.putfield 53, 3) := by decide +kernel
theorem dX3_init_116 : decode cX3_init 116 = .ok (.aload_n 0, 1) := by decide +kernel
theorem dX3_init_117 : decode cX3_init 117 = .ok (.bipush (-2), 2) := by decide +kernel
theorem dX3_init_119 : decode cX3_init 119 = .ok (.putfield 57, 3) := by decide +kernel
theorem dX3_init_122 : decode cX3_init 122 = .ok (.aload_n 0, 1) := by decide +kernel
theorem dX3_init_123 : decode cX3_init 123 = .ok (.aload_n 1, 1) := by decide +kernel
theorem dX3_init_124 : decode cX3_init 124 = .ok (.putfield 60, 3) := by decide +kernel
theorem dX3_init_127 : decode cX3_init 127 = .ok (.return_, 1) := by decide +kernel
theorem dX3_forget_0 : decode cX3_forget 0 = .ok (.aload_n 0, 1) := by decide +kernel
theorem dX3_forget_1 : decode cX3_forget 1 = .ok (.bipush (-2), 2) := by decide +kernel
theorem dX3_forget_3 : decode cX3_forget 3 = .ok (.putfield 57, 3) := by decide +kernel
theorem dX3_forget_6 : decode cX3_forget 6 = .ok (.return_, 1) := by decide +kernel
theorem dX3_explore_0 : decode cX3_explore 0 = .ok (.iload_n 3, 1) := by decide +kernel
theorem dX3_explore_1 : decode cX3_explore 1 = .ok (.ifCond .eq 7, 3) := by decide +kernel
theorem dX3_explore_4 : decode cX3_explore 4 = .ok (.iconst (-1), 1) := by decide +kernel
theorem dX3_explore_5 : decode cX3_explore 5 = .ok (.goto 5, 3) := by decide +kernel
theorem dX3_explore_8 : decode cX3_explore 8 = .ok (.iload 4, 2) := by decide +kernel
theorem dX3_explore_10 : decode cX3_explore 10 = .ok (.istore 5, 2) := by decide +kernel
theorem dX3_explore_12 : decode cX3_explore 12 = .ok (.iload 5, 2) := by decide +kernel
theorem dX3_explore_14 : decode cX3_explore 14 = .ok (.aload_n 0, 1) := by decide +kernel
theorem dX3_explore_15 : decode cX3_explore 15 = .ok (.getfield 57, 3) := by decide +kernel
theorem dX3_explore_18 : decode cX3_explore 18 = .ok (.if_icmp .ne 4, 3) := by decide +kernel
theorem dX3_explore_21 : decode cX3_explore 21 = .ok (.return_, 1) := by decide +kernel
theorem dX3_explore_22 : decode cX3_explore 22 = .ok (.aload_n 0, 1) := by decide +kernel
theorem dX3_explore_23 : decode cX3_explore 23 = .ok (.iload 5, 2) := by decide +kernel
theorem dX3_explore_25 : decode cX3_explore 25 = .ok (.putfield 57, 3) := by decide +kernel
theorem dX3_explore_28 : decode cX3_explore 28 = .ok (.aload_n 0, 1) := by decide +kernel
theorem dX3_explore_29 : decode cX3_explore 29 = .ok (.aload_n 1, 1) := by decide +kernel
theorem dX3_explore_30 : decode cX3_explore 30 = .ok (.iload 4, 2) := by decide +kernel
theorem dX3_explore_32 : decode cX3_explore 32 = .ok (.invokevirtual 64, 3) := by decide +kernel
theorem dX3_explore_35 : decode cX3_explore 35 = .ok (.iconst 1, 1) := by decide +kernel
theorem dX3_explore_36 : decode cX3_explore 36 = .ok (.aload_n 1, 1) := by decide +kernel
theorem dX3_explore_37 : decode cX3_explore 37 = .ok (.getfield 68, 3) := by decide +kernel
theorem dX3_explore_40 : decode cX3_explore 40 = .ok (.ishl, 1) := by decide +kernel
theorem dX3_explore_41 : decode cX3_explore 41 = .ok (.iconst 1, 1) := by decide +kernel
theorem dX3_explore_42 : decode cX3_explore 42 = .ok (.isub, 1) := by decide +kernel
theorem dX3_explore_43 : decode cX3_explore 43 = .ok (.istore 6, 2) := by decide +kernel
theorem dX3_explore_45 : decode cX3_explore 45 = .ok (.iconst 0, 1) := by decide +kernel
theorem dX3_explore_46 : decode cX3_explore 46 = .ok (.istore 7, 2) := by decide +kernel
theorem dX3_explore_48 : decode cX3_explore 48 = .ok (.iload 7, 2) := by decide +kernel
theorem dX3_explore_50 : decode cX3_explore 50 = .ok (.sipush 1500, 3) := by decide +kernel
theorem dX3_explore_53 : decode cX3_explore 53 = .ok (.if_icmp .ge 70, 3) := by decide +kernel
theorem dX3_explore_56 : decode cX3_explore 56 = .ok (.aload_n 0, 1) := by decide +kernel
theorem dX3_explore_57 : decode cX3_explore 57 = .ok (.getfield 50, 3) := by decide +kernel
theorem dX3_explore_60 : decode cX3_explore 60 = .ok (.ifCond .le 63, 3) := by decide +kernel
theorem dX3_explore_63 : decode cX3_explore 63 = .ok (.aload_n 0, 1) := by decide +kernel
theorem dX3_explore_64 : decode cX3_explore 64 = .ok (.getfield 53, 3) := by decide +kernel
theorem dX3_explore_67 : decode cX3_explore 67 = .ok (.ifCond .ne 56, 3) := by decide +kernel
theorem dX3_explore_70 : decode cX3_explore 70 = .ok (.aload_n 0, 1) := by decide +kernel
theorem dX3_explore_71 : decode cX3_explore 71 = .ok (.invokevirtual 73, 3) := by decide +kernel
theorem dX3_explore_74 : decode cX3_explore 74 = .ok (.istore 8, 2) := by decide +kernel
theorem dX3_explore_76 : decode cX3_explore 76 = .ok (.aload_n 0, 1) := by decide +kernel
theorem dX3_explore_77 : decode cX3_explore 77 = .ok (.iload 8, 2) := by decide +kernel
theorem dX3_explore_79 : decode cX3_explore 79 = .ok (.invokevirtual 77, 3) := by decide +kernel
theorem dX3_explore_82 : decode cX3_explore 82 = .ok (.aload_n 0, 1) := by decide +kernel
theorem dX3_explore_83 : decode cX3_explore 83 = .ok (.iload 8, 2) := by decide +kernel
theorem dX3_explore_85 : decode cX3_explore 85 = .ok (.aload_n 0, 1) := by decide +kernel
theorem dX3_explore_86 : decode cX3_explore 86 = .ok (.getfield 60, 3) := by decide +kernel
theorem dX3_explore_89 : decode cX3_explore 89 = .ok (.invokevirtual 81, 3) := by decide +kernel
theorem dX3_explore_92 : decode cX3_explore 92 = .ok (.invokevirtual 84, 3) := by decide +kernel
theorem dX3_explore_95 : decode cX3_explore 95 = .ok (.aload_n 0, 1) := by decide +kernel
theorem dX3_explore_96 : decode cX3_explore 96 = .ok (.getfield 43, 3) := by decide +kernel
theorem dX3_explore_99 : decode cX3_explore 99 = .ok (.iload 6, 2) := by decide +kernel
theorem dX3_explore_101 : decode cX3_explore 101 = .ok (.iaload, 1) := by decide +kernel
theorem dX3_explore_102 : decode cX3_explore 102 = .ok (.iconst (-1), 1) := by decide +kernel
theorem dX3_explore_103 : decode cX3_explore 103 = .ok (.if_icmp .eq 6, 3) := by decide +kernel
theorem dX3_explore_106 : decode cX3_explore 106 = .ok (.goto 17, 3) := by decide +kernel
theorem dX3_explore_109 : decode cX3_explore 109 = .ok (.aload_n 0, 1) := by decide +kernel
theorem dX3_explore_110 : decode cX3_explore 110 = .ok (.iload 8, 2) := by decide +kernel
theorem dX3_explore_112 : decode cX3_explore 112 = .ok (.aload_n 2, 1) := by decide +kernel
theorem dX3_explore_113 : decode cX3_explore 113 = .ok (.iload_n 3, 1) := by decide +kernel
theorem dX3_explore_114 : decode cX3_explore 114 = .ok (.invokevirtual 88, 3) := by decide +kernel
theorem dX3_explore_117 : decode cX3_explore 117 = .ok (.iinc 7 1, 3) := by decide +kernel
theorem dX3_explore_120 : decode cX3_explore 120 = .ok (.goto (-72), 3) := by decide +kernel
theorem dX3_explore_123 : decode cX3_explore 123 = .ok (.return_, 1) := by decide +kernel
theorem dX3_costOf_0 : decode cX3_costOf 0 = .ok (.aload_n 0, 1) := by decide +kernel
theorem dX3_costOf_1 : decode cX3_costOf 1 = .ok (.iload_n 1, 1) := by decide +kernel
theorem dX3_costOf_2 : decode cX3_costOf 2 = .ok (.invokevirtual 92, 3) := by decide +kernel
theorem dX3_costOf_5 : decode cX3_costOf 5 = .ok (.istore_n 2, 1) := by decide +kernel
theorem dX3_costOf_6 : decode cX3_costOf 6 = .ok (.iload_n 2, 1) := by decide +kernel
theorem dX3_costOf_7 : decode cX3_costOf 7 = .ok (.ifCond .ge 7, 3) := by decide +kernel
theorem dX3_costOf_10 : decode cX3_costOf 10 = .ok (.iload_n 2, 1) := by decide +kernel
theorem dX3_costOf_11 : decode cX3_costOf 11 = .ok (.goto 9, 3) := by decide +kernel
theorem dX3_costOf_14 : decode cX3_costOf 14 = .ok (.aload_n 0, 1) := by decide +kernel
theorem dX3_costOf_15 : decode cX3_costOf 15 = .ok (.getfield 25, 3) := by decide +kernel
theorem dX3_costOf_18 : decode cX3_costOf 18 = .ok (.iload_n 2, 1) := by decide +kernel
theorem dX3_costOf_19 : decode cX3_costOf 19 = .ok (.iaload, 1) := by decide +kernel
theorem dX3_costOf_20 : decode cX3_costOf 20 = .ok (.ireturn, 1) := by decide +kernel
theorem dX3_tipOfRow_0 : decode cX3_tipOfRow 0 = .ok (.aload_n 0, 1) := by decide +kernel
theorem dX3_tipOfRow_1 : decode cX3_tipOfRow 1 = .ok (.iload_n 1, 1) := by decide +kernel
theorem dX3_tipOfRow_2 : decode cX3_tipOfRow 2 = .ok (.invokevirtual 92, 3) := by decide +kernel
theorem dX3_tipOfRow_5 : decode cX3_tipOfRow 5 = .ok (.istore_n 3, 1) := by decide +kernel
theorem dX3_tipOfRow_6 : decode cX3_tipOfRow 6 = .ok (.iload_n 3, 1) := by decide +kernel
theorem dX3_tipOfRow_7 : decode cX3_tipOfRow 7 = .ok (.ifCond .ge 5, 3) := by decide +kernel
theorem dX3_tipOfRow_10 : decode cX3_tipOfRow 10 = .ok (.iload_n 3, 1) := by decide +kernel
theorem dX3_tipOfRow_11 : decode cX3_tipOfRow 11 = .ok (.ireturn, 1) := by decide +kernel
theorem dX3_tipOfRow_12 : decode cX3_tipOfRow 12 = .ok (.iconst 0, 1) := by decide +kernel
theorem dX3_tipOfRow_13 : decode cX3_tipOfRow 13 = .ok (.istore 4, 2) := by decide +kernel
theorem dX3_tipOfRow_15 : decode cX3_tipOfRow 15 = .ok (.iload_n 3, 1) := by decide +kernel
theorem dX3_tipOfRow_16 : decode cX3_tipOfRow 16 = .ok (.istore 5, 2) := by decide +kernel
theorem dX3_tipOfRow_18 : decode cX3_tipOfRow 18 = .ok (.iload 5, 2) := by decide +kernel
theorem dX3_tipOfRow_20 : decode cX3_tipOfRow 20 = .ok (.ifCond .le 26, 3) := by decide +kernel
theorem dX3_tipOfRow_23 : decode cX3_tipOfRow 23 = .ok (.iload 4, 2) := by decide +kernel
theorem dX3_tipOfRow_25 : decode cX3_tipOfRow 25 = .ok (.sipush 1500, 3) := by decide +kernel
theorem dX3_tipOfRow_28 : decode cX3_tipOfRow 28 = .ok (.if_icmp .ge 18, 3) := by decide +kernel
theorem dX3_tipOfRow_31 : decode cX3_tipOfRow 31 = .ok (.iinc 4 1, 3) := by decide +kernel
theorem dX3_tipOfRow_34 : decode cX3_tipOfRow 34 = .ok (.aload_n 0, 1) := by decide +kernel
theorem dX3_tipOfRow_35 : decode cX3_tipOfRow 35 = .ok (.getfield 28, 3) := by decide +kernel
theorem dX3_tipOfRow_38 : decode cX3_tipOfRow 38 = .ok (.iload 5, 2) := by decide +kernel
theorem dX3_tipOfRow_40 : decode cX3_tipOfRow 40 = .ok (.iaload, 1) := by decide +kernel
theorem dX3_tipOfRow_41 : decode cX3_tipOfRow 41 = .ok (.istore 5, 2) := by decide +kernel
theorem dX3_tipOfRow_43 : decode cX3_tipOfRow 43 = .ok (.goto (-25), 3) := by decide +kernel
theorem dX3_tipOfRow_46 : decode cX3_tipOfRow 46 = .ok (.iload_n 2, 1) := by decide +kernel
theorem dX3_tipOfRow_47 : decode cX3_tipOfRow 47 = .ok (.iload 4, 2) := by decide +kernel
theorem dX3_tipOfRow_49 : decode cX3_tipOfRow 49 = .ok (.if_icmp .lt 6, 3) := by decide +kernel
theorem dX3_tipOfRow_52 : decode cX3_tipOfRow 52 = .ok (.bipush (-2), 2) := by decide +kernel
theorem dX3_tipOfRow_54 : decode cX3_tipOfRow 54 = .ok (.ireturn, 1) := by decide +kernel
theorem dX3_tipOfRow_55 : decode cX3_tipOfRow 55 = .ok (.iload_n 3, 1) := by decide +kernel
theorem dX3_tipOfRow_56 : decode cX3_tipOfRow 56 = .ok (.istore 5, 2) := by decide +kernel
theorem dX3_tipOfRow_58 : decode cX3_tipOfRow 58 = .ok (.iload 4, 2) := by decide +kernel
theorem dX3_tipOfRow_60 : decode cX3_tipOfRow 60 = .ok (.iconst 1, 1) := by decide +kernel
theorem dX3_tipOfRow_61 : decode cX3_tipOfRow 61 = .ok (.isub, 1) := by decide +kernel
theorem dX3_tipOfRow_62 : decode cX3_tipOfRow 62 = .ok (.istore 6, 2) := by decide +kernel
theorem dX3_tipOfRow_64 : decode cX3_tipOfRow 64 = .ok (.iload 6, 2) := by decide +kernel
theorem dX3_tipOfRow_66 : decode cX3_tipOfRow 66 = .ok (.iload_n 2, 1) := by decide +kernel
theorem dX3_tipOfRow_67 : decode cX3_tipOfRow 67 = .ok (.if_icmp .le 23, 3) := by decide +kernel
theorem dX3_tipOfRow_70 : decode cX3_tipOfRow 70 = .ok (.iload 5, 2) := by decide +kernel
theorem dX3_tipOfRow_72 : decode cX3_tipOfRow 72 = .ok (.ifCond .le 18, 3) := by decide +kernel
theorem dX3_tipOfRow_75 : decode cX3_tipOfRow 75 = .ok (.aload_n 0, 1) := by decide +kernel
theorem dX3_tipOfRow_76 : decode cX3_tipOfRow 76 = .ok (.getfield 28, 3) := by decide +kernel
theorem dX3_tipOfRow_79 : decode cX3_tipOfRow 79 = .ok (.iload 5, 2) := by decide +kernel
theorem dX3_tipOfRow_81 : decode cX3_tipOfRow 81 = .ok (.iaload, 1) := by decide +kernel
theorem dX3_tipOfRow_82 : decode cX3_tipOfRow 82 = .ok (.istore 5, 2) := by decide +kernel
theorem dX3_tipOfRow_84 : decode cX3_tipOfRow 84 = .ok (.iinc 6 (-1), 3) := by decide +kernel
theorem dX3_tipOfRow_87 : decode cX3_tipOfRow 87 = .ok (.goto (-23), 3) := by decide +kernel
theorem dX3_tipOfRow_90 : decode cX3_tipOfRow 90 = .ok (.aload_n 0, 1) := by decide +kernel
theorem dX3_tipOfRow_91 : decode cX3_tipOfRow 91 = .ok (.getfield 31, 3) := by decide +kernel
theorem dX3_tipOfRow_94 : decode cX3_tipOfRow 94 = .ok (.iload 5, 2) := by decide +kernel
theorem dX3_tipOfRow_96 : decode cX3_tipOfRow 96 = .ok (.iaload, 1) := by decide +kernel
theorem dX3_tipOfRow_97 : decode cX3_tipOfRow 97 = .ok (.ireturn, 1) := by decide +kernel
theorem dX3_endOf_0 : decode cX3_endOf 0 = .ok (.iload_n 1, 1) := by decide +kernel
theorem dX3_endOf_1 : decode cX3_endOf 1 = .ok (.ifCond .lt 9, 3) := by decide +kernel
theorem dX3_endOf_4 : decode cX3_endOf 4 = .ok (.iload_n 1, 1) := by decide +kernel
theorem dX3_endOf_5 : decode cX3_endOf 5 = .ok (.bipush 64, 2) := by decide +kernel
theorem dX3_endOf_7 : decode cX3_endOf 7 = .ok (.if_icmp .lt 7, 3) := by decide +kernel
theorem dX3_endOf_10 : decode cX3_endOf 10 = .ok (.iconst (-1), 1) := by decide +kernel
theorem dX3_endOf_11 : decode cX3_endOf 11 = .ok (.goto 9, 3) := by decide +kernel
theorem dX3_endOf_14 : decode cX3_endOf 14 = .ok (.aload_n 0, 1) := by decide +kernel
theorem dX3_endOf_15 : decode cX3_endOf 15 = .ok (.getfield 43, 3) := by decide +kernel
theorem dX3_endOf_18 : decode cX3_endOf 18 = .ok (.iload_n 1, 1) := by decide +kernel
theorem dX3_endOf_19 : decode cX3_endOf 19 = .ok (.iaload, 1) := by decide +kernel
theorem dX3_endOf_20 : decode cX3_endOf 20 = .ok (.istore_n 2, 1) := by decide +kernel
theorem dX3_endOf_21 : decode cX3_endOf 21 = .ok (.iload_n 2, 1) := by decide +kernel
theorem dX3_endOf_22 : decode cX3_endOf 22 = .ok (.iconst (-1), 1) := by decide +kernel
theorem dX3_endOf_23 : decode cX3_endOf 23 = .ok (.if_icmp .ne 18, 3) := by decide +kernel
theorem dX3_endOf_26 : decode cX3_endOf 26 = .ok (.aload_n 0, 1) := by decide +kernel
theorem dX3_endOf_27 : decode cX3_endOf 27 = .ok (.getfield 53, 3) := by decide +kernel
theorem dX3_endOf_30 : decode cX3_endOf 30 = .ok (.ifCond .eq 8, 3) := by decide +kernel
theorem dX3_endOf_33 : decode cX3_endOf 33 = .ok (.bipush (-3), 2) := by decide +kernel
theorem dX3_endOf_35 : decode cX3_endOf 35 = .ok (.goto 5, 3) := by decide +kernel
theorem dX3_endOf_38 : decode cX3_endOf 38 = .ok (.bipush (-2), 2) := by decide +kernel
theorem dX3_endOf_40 : decode cX3_endOf 40 = .ok (.ireturn, 1) := by decide +kernel
theorem dX3_endOf_41 : decode cX3_endOf 41 = .ok (.iload_n 2, 1) := by decide +kernel
theorem dX3_endOf_42 : decode cX3_endOf 42 = .ok (.ireturn, 1) := by decide +kernel
theorem dX3_begin_0 : decode cX3_begin 0 = .ok (.aload_n 0, 1) := by decide +kernel
theorem dX3_begin_1 : decode cX3_begin 1 = .ok (.getfield 60, 3) := by decide +kernel
theorem dX3_begin_4 : decode cX3_begin 4 = .ok (.aload_n 1, 1) := by decide +kernel
theorem dX3_begin_5 : decode cX3_begin 5 = .ok (.invokevirtual 96, 3) := by decide +kernel
theorem dX3_begin_8 : decode cX3_begin 8 = .ok (.aload_n 0, 1) := by decide +kernel
theorem dX3_begin_9 : decode cX3_begin 9 = .ok (.getfield 60, 3) := by decide +kernel
theorem dX3_begin_12 : decode cX3_begin 12 = .ok (.getfield 100, 3) := by decide +kernel
theorem dX3_begin_15 : decode cX3_begin 15 = .ok (.iconst 0, 1) := by decide +kernel
theorem dX3_begin_16 : decode cX3_begin 16 = .ok (.iload_n 2, 1) := by decide +kernel
theorem dX3_begin_17 : decode cX3_begin 17 = .ok (.iastore, 1) := by decide +kernel
theorem dX3_begin_18 : decode cX3_begin 18 = .ok (.aload_n 0, 1) := by decide +kernel
theorem dX3_begin_19 : decode cX3_begin 19 = .ok (.getfield 40, 3) := by decide +kernel
theorem dX3_begin_22 : decode cX3_begin 22 = .ok (.iconst 0, 1) := by decide +kernel
theorem dX3_begin_23 : decode cX3_begin 23 = .ok (.invokestatic 103, 3) := by decide +kernel
theorem dX3_begin_26 : decode cX3_begin 26 = .ok (.aload_n 0, 1) := by decide +kernel
theorem dX3_begin_27 : decode cX3_begin 27 = .ok (.getfield 43, 3) := by decide +kernel
theorem dX3_begin_30 : decode cX3_begin 30 = .ok (.iconst (-1), 1) := by decide +kernel
theorem dX3_begin_31 : decode cX3_begin 31 = .ok (.invokestatic 103, 3) := by decide +kernel
theorem dX3_begin_34 : decode cX3_begin 34 = .ok (.aload_n 0, 1) := by decide +kernel
theorem dX3_begin_35 : decode cX3_begin 35 = .ok (.iconst 0, 1) := by decide +kernel
theorem dX3_begin_36 : decode cX3_begin 36 = .ok (.putfield 46, 3) := by decide +kernel
theorem dX3_begin_39 : decode cX3_begin 39 = .ok (.aload_n 0, 1) := by decide +kernel
theorem dX3_begin_40 : decode cX3_begin 40 = .ok (.iconst 0, 1) := by decide +kernel
theorem dX3_begin_41 : decode cX3_begin 41 = .ok (.putfield 50, 3) := by decide +kernel
theorem dX3_begin_44 : decode cX3_begin 44 = .ok (.aload_n 0, 1) := by decide +kernel
theorem dX3_begin_45 : decode cX3_begin 45 = .ok (.iconst 0, 1) := by decide +kernel
theorem dX3_begin_46 : decode cX3_begin 46 = .ok (.putfield 53, 3) := by decide +kernel
theorem dX3_begin_49 : decode cX3_begin 49 = .ok (.aload_n 0, 1) := by decide +kernel
theorem dX3_begin_50 : decode cX3_begin 50 = .ok (.iconst 0, 1) := by decide +kernel
theorem dX3_begin_51 : decode cX3_begin 51 = .ok (.iconst 0, 1) := by decide +kernel
theorem dX3_begin_52 : decode cX3_begin 52 = .ok (.iconst 0, 1) := by decide +kernel
theorem dX3_begin_53 : decode cX3_begin 53 = .ok (.invokevirtual 109, 3) := by decide +kernel
theorem dX3_begin_56 : decode cX3_begin 56 = .ok (.return_, 1) := by decide +kernel
theorem dX3_load_0 : decode cX3_load 0 = .ok (.aload_n 0, 1) := by decide +kernel
theorem dX3_load_1 : decode cX3_load 1 = .ok (.getfield 60, 3) := by decide +kernel
theorem dX3_load_4 : decode cX3_load 4 = .ok (.aload_n 0, 1) := by decide +kernel
theorem dX3_load_5 : decode cX3_load 5 = .ok (.getfield 15, 3) := by decide +kernel
theorem dX3_load_8 : decode cX3_load 8 = .ok (.iload_n 1, 1) := by decide +kernel
theorem dX3_load_9 : decode cX3_load 9 = .ok (.iaload, 1) := by decide +kernel
theorem dX3_load_10 : decode cX3_load 10 = .ok (.invokevirtual 113, 3) := by decide +kernel
theorem dX3_load_13 : decode cX3_load 13 = .ok (.aload_n 0, 1) := by decide +kernel
theorem dX3_load_14 : decode cX3_load 14 = .ok (.getfield 60, 3) := by decide +kernel
theorem dX3_load_17 : decode cX3_load 17 = .ok (.iconst 0, 1) := by decide +kernel
theorem dX3_load_18 : decode cX3_load 18 = .ok (.aload_n 0, 1) := by decide +kernel
theorem dX3_load_19 : decode cX3_load 19 = .ok (.getfield 18, 3) := by decide +kernel
theorem dX3_load_22 : decode cX3_load 22 = .ok (.iload_n 1, 1) := by decide +kernel
theorem dX3_load_23 : decode cX3_load 23 = .ok (.laload, 1) := by decide +kernel
theorem dX3_load_24 : decode cX3_load 24 = .ok (.invokevirtual 116, 3) := by decide +kernel
theorem dX3_load_27 : decode cX3_load 27 = .ok (.aload_n 0, 1) := by decide +kernel
theorem dX3_load_28 : decode cX3_load 28 = .ok (.getfield 60, 3) := by decide +kernel
theorem dX3_load_31 : decode cX3_load 31 = .ok (.iconst 4, 1) := by decide +kernel
theorem dX3_load_32 : decode cX3_load 32 = .ok (.aload_n 0, 1) := by decide +kernel
theorem dX3_load_33 : decode cX3_load 33 = .ok (.getfield 22, 3) := by decide +kernel
theorem dX3_load_36 : decode cX3_load 36 = .ok (.iload_n 1, 1) := by decide +kernel
theorem dX3_load_37 : decode cX3_load 37 = .ok (.laload, 1) := by decide +kernel
theorem dX3_load_38 : decode cX3_load 38 = .ok (.invokevirtual 116, 3) := by decide +kernel
theorem dX3_load_41 : decode cX3_load 41 = .ok (.return_, 1) := by decide +kernel
theorem dX3_noteEnds_0 : decode cX3_noteEnds 0 = .ok (.aload_n 0, 1) := by decide +kernel
theorem dX3_noteEnds_1 : decode cX3_noteEnds 1 = .ok (.getfield 43, 3) := by decide +kernel
theorem dX3_noteEnds_4 : decode cX3_noteEnds 4 = .ok (.iload_n 2, 1) := by decide +kernel
theorem dX3_noteEnds_5 : decode cX3_noteEnds 5 = .ok (.iaload, 1) := by decide +kernel
theorem dX3_noteEnds_6 : decode cX3_noteEnds 6 = .ok (.iconst (-1), 1) := by decide +kernel
theorem dX3_noteEnds_7 : decode cX3_noteEnds 7 = .ok (.if_icmp .eq 4, 3) := by decide +kernel
theorem dX3_noteEnds_10 : decode cX3_noteEnds 10 = .ok (.return_, 1) := by decide +kernel
theorem dX3_noteEnds_11 : decode cX3_noteEnds 11 = .ok (.iconst 0, 1) := by decide +kernel
theorem dX3_noteEnds_12 : decode cX3_noteEnds 12 = .ok (.istore_n 3, 1) := by decide +kernel
theorem dX3_noteEnds_13 : decode cX3_noteEnds 13 = .ok (.iload_n 3, 1) := by decide +kernel
theorem dX3_noteEnds_14 : decode cX3_noteEnds 14 = .ok (.bipush 64, 2) := by decide +kernel
theorem dX3_noteEnds_16 : decode cX3_noteEnds 16 = .ok (.if_icmp .ge 33, 3) := by decide +kernel
theorem dX3_noteEnds_19 : decode cX3_noteEnds 19 = .ok (.iload_n 3, 1) := by decide +kernel
theorem dX3_noteEnds_20 : decode cX3_noteEnds 20 = .ok (.iload_n 2, 1) := by decide +kernel
theorem dX3_noteEnds_21 : decode cX3_noteEnds 21 = .ok (.iand, 1) := by decide +kernel
theorem dX3_noteEnds_22 : decode cX3_noteEnds 22 = .ok (.iload_n 3, 1) := by decide +kernel
theorem dX3_noteEnds_23 : decode cX3_noteEnds 23 = .ok (.if_icmp .ne 20, 3) := by decide +kernel
theorem dX3_noteEnds_26 : decode cX3_noteEnds 26 = .ok (.aload_n 0, 1) := by decide +kernel
theorem dX3_noteEnds_27 : decode cX3_noteEnds 27 = .ok (.getfield 43, 3) := by decide +kernel
theorem dX3_noteEnds_30 : decode cX3_noteEnds 30 = .ok (.iload_n 3, 1) := by decide +kernel
theorem dX3_noteEnds_31 : decode cX3_noteEnds 31 = .ok (.iaload, 1) := by decide +kernel
theorem dX3_noteEnds_32 : decode cX3_noteEnds 32 = .ok (.iconst (-1), 1) := by decide +kernel
theorem dX3_noteEnds_33 : decode cX3_noteEnds 33 = .ok (.if_icmp .ne 10, 3) := by decide +kernel
theorem dX3_noteEnds_36 : decode cX3_noteEnds 36 = .ok (.aload_n 0, 1) := by decide +kernel
theorem dX3_noteEnds_37 : decode cX3_noteEnds 37 = .ok (.getfield 43, 3) := by decide +kernel
theorem dX3_noteEnds_40 : decode cX3_noteEnds 40 = .ok (.iload_n 3, 1) := by decide +kernel
theorem dX3_noteEnds_41 : decode cX3_noteEnds 41 = .ok (.iload_n 1, 1) := by decide +kernel
theorem dX3_noteEnds_42 : decode cX3_noteEnds 42 = .ok (.iastore, 1) := by decide +kernel
theorem dX3_noteEnds_43 : decode cX3_noteEnds 43 = .ok (.iinc 3 1, 3) := by decide +kernel
theorem dX3_noteEnds_46 : decode cX3_noteEnds 46 = .ok (.goto (-33), 3) := by decide +kernel
theorem dX3_noteEnds_49 : decode cX3_noteEnds 49 = .ok (.return_, 1) := by decide +kernel
theorem dX3_spread_0 : decode cX3_spread 0 = .ok (.aload_n 0, 1) := by decide +kernel
theorem dX3_spread_1 : decode cX3_spread 1 = .ok (.getfield 60, 3) := by decide +kernel
theorem dX3_spread_4 : decode cX3_spread 4 = .ok (.aload_n 2, 1) := by decide +kernel
theorem dX3_spread_5 : decode cX3_spread 5 = .ok (.aload_n 0, 1) := by decide +kernel
theorem dX3_spread_6 : decode cX3_spread 6 = .ok (.getfield 9, 3) := by decide +kernel
theorem dX3_spread_9 : decode cX3_spread 9 = .ok (.aload_n 0, 1) := by decide +kernel
theorem dX3_spread_10 : decode cX3_spread 10 = .ok (.getfield 9, 3) := by decide +kernel
theorem dX3_spread_13 : decode cX3_spread 13 = .ok (.arraylength, 1) := by decide +kernel
theorem dX3_spread_14 : decode cX3_spread 14 = .ok (.invokevirtual 120, 3) := by decide +kernel
theorem dX3_spread_17 : decode cX3_spread 17 = .ok (.istore 4, 2) := by decide +kernel
theorem dX3_spread_19 : decode cX3_spread 19 = .ok (.iconst 0, 1) := by decide +kernel
theorem dX3_spread_20 : decode cX3_spread 20 = .ok (.istore 5, 2) := by decide +kernel
theorem dX3_spread_22 : decode cX3_spread 22 = .ok (.iload 5, 2) := by decide +kernel
theorem dX3_spread_24 : decode cX3_spread 24 = .ok (.iload 4, 2) := by decide +kernel
theorem dX3_spread_26 : decode cX3_spread 26 = .ok (.if_icmp .ge 104, 3) := by decide +kernel
theorem dX3_spread_29 : decode cX3_spread 29 = .ok (.aload_n 0, 1) := by decide +kernel
theorem dX3_spread_30 : decode cX3_spread 30 = .ok (.getfield 53, 3) := by decide +kernel
theorem dX3_spread_33 : decode cX3_spread 33 = .ok (.ifCond .ne 97, 3) := by decide +kernel
theorem dX3_spread_36 : decode cX3_spread 36 = .ok (.aload_n 0, 1) := by decide +kernel
theorem dX3_spread_37 : decode cX3_spread 37 = .ok (.getfield 9, 3) := by decide +kernel
theorem dX3_spread_40 : decode cX3_spread 40 = .ok (.iload 5, 2) := by decide +kernel
theorem dX3_spread_42 : decode cX3_spread 42 = .ok (.iaload, 1) := by decide +kernel
theorem dX3_spread_43 : decode cX3_spread 43 = .ok (.istore 6, 2) := by decide +kernel
theorem dX3_spread_45 : decode cX3_spread 45 = .ok (.iload 6, 2) := by decide +kernel
theorem dX3_spread_47 : decode cX3_spread 47 = .ok (.invokestatic 124, 3) := by decide +kernel
theorem dX3_spread_50 : decode cX3_spread 50 = .ok (.istore 7, 2) := by decide +kernel
theorem dX3_spread_52 : decode cX3_spread 52 = .ok (.iload 6, 2) := by decide +kernel
theorem dX3_spread_54 : decode cX3_spread 54 = .ok (.invokestatic 127, 3) := by decide +kernel
theorem dX3_spread_57 : decode cX3_spread 57 = .ok (.istore 8, 2) := by decide +kernel
theorem dX3_spread_59 : decode cX3_spread 59 = .ok (.iload_n 3, 1) := by decide +kernel
theorem dX3_spread_60 : decode cX3_spread 60 = .ok (.ifCond .eq 17, 3) := by decide +kernel
theorem dX3_spread_63 : decode cX3_spread 63 = .ok (.aload_n 0, 1) := by decide +kernel
theorem dX3_spread_64 : decode cX3_spread 64 = .ok (.getfield 60, 3) := by decide +kernel
theorem dX3_spread_67 : decode cX3_spread 67 = .ok (.iload 7, 2) := by decide +kernel
theorem dX3_spread_69 : decode cX3_spread 69 = .ok (.iload 8, 2) := by decide +kernel
theorem dX3_spread_71 : decode cX3_spread 71 = .ok (.invokevirtual 130, 3) := by decide +kernel
theorem dX3_spread_74 : decode cX3_spread 74 = .ok (.goto 14, 3) := by decide +kernel
theorem dX3_spread_77 : decode cX3_spread 77 = .ok (.aload_n 0, 1) := by decide +kernel
theorem dX3_spread_78 : decode cX3_spread 78 = .ok (.getfield 60, 3) := by decide +kernel
theorem dX3_spread_81 : decode cX3_spread 81 = .ok (.iload 7, 2) := by decide +kernel
theorem dX3_spread_83 : decode cX3_spread 83 = .ok (.iload 8, 2) := by decide +kernel
theorem dX3_spread_85 : decode cX3_spread 85 = .ok (.invokevirtual 134, 3) := by decide +kernel
theorem dX3_spread_88 : decode cX3_spread 88 = .ok (.istore 9, 2) := by decide +kernel
theorem dX3_spread_90 : decode cX3_spread 90 = .ok (.aload_n 0, 1) := by decide +kernel
theorem dX3_spread_91 : decode cX3_spread 91 = .ok (.getfield 60, 3) := by decide +kernel
theorem dX3_spread_94 : decode cX3_spread 94 = .ok (.iload 6, 2) := by decide +kernel
theorem dX3_spread_96 : decode cX3_spread 96 = .ok (.invokevirtual 137, 3) := by decide +kernel
theorem dX3_spread_99 : decode cX3_spread 99 = .ok (.aload_n 0, 1) := by decide +kernel
theorem dX3_spread_100 : decode cX3_spread 100 = .ok (.iload_n 1, 1) := by decide +kernel
theorem dX3_spread_101 : decode cX3_spread 101 = .ok (.iload 6, 2) := by decide +kernel
theorem dX3_spread_103 : decode cX3_spread 103 = .ok (.aload_n 0, 1) := by decide +kernel
theorem dX3_spread_104 : decode cX3_spread 104 = .ok (.getfield 25, 3) := by decide +kernel
theorem dX3_spread_107 : decode cX3_spread 107 = .ok (.iload_n 1, 1) := by decide +kernel
theorem dX3_spread_108 : decode cX3_spread 108 = .ok (.iaload, 1) := by decide +kernel
theorem dX3_spread_109 : decode cX3_spread 109 = .ok (.iload 9, 2) := by decide +kernel
theorem dX3_spread_111 : decode cX3_spread 111 = .ok (.iadd, 1) := by decide +kernel
theorem dX3_spread_112 : decode cX3_spread 112 = .ok (.invokevirtual 109, 3) := by decide +kernel
theorem dX3_spread_115 : decode cX3_spread 115 = .ok (.aload_n 0, 1) := by decide +kernel
theorem dX3_spread_116 : decode cX3_spread 116 = .ok (.getfield 60, 3) := by decide +kernel
theorem dX3_spread_119 : decode cX3_spread 119 = .ok (.iload 6, 2) := by decide +kernel
theorem dX3_spread_121 : decode cX3_spread 121 = .ok (.invokevirtual 140, 3) := by decide +kernel
theorem dX3_spread_124 : decode cX3_spread 124 = .ok (.iinc 5 1, 3) := by decide +kernel
theorem dX3_spread_127 : decode cX3_spread 127 = .ok (.goto (-105), 3) := by decide +kernel
theorem dX3_spread_130 : decode cX3_spread 130 = .ok (.return_, 1) := by decide +kernel
theorem dX3_reach_0 : decode cX3_reach 0 = .ok (.aload_n 0, 1) := by decide +kernel
theorem dX3_reach_1 : decode cX3_reach 1 = .ok (.invokevirtual 143, 3) := by decide +kernel
theorem dX3_reach_4 : decode cX3_reach 4 = .ok (.istore 4, 2) := by decide +kernel
theorem dX3_reach_6 : decode cX3_reach 6 = .ok (.aload_n 0, 1) := by decide +kernel
theorem dX3_reach_7 : decode cX3_reach 7 = .ok (.getfield 40, 3) := by decide +kernel
theorem dX3_reach_10 : decode cX3_reach 10 = .ok (.iload 4, 2) := by decide +kernel
theorem dX3_reach_12 : decode cX3_reach 12 = .ok (.iaload, 1) := by decide +kernel
theorem dX3_reach_13 : decode cX3_reach 13 = .ok (.iconst 1, 1) := by decide +kernel
theorem dX3_reach_14 : decode cX3_reach 14 = .ok (.isub, 1) := by decide +kernel
theorem dX3_reach_15 : decode cX3_reach 15 = .ok (.istore 5, 2) := by decide +kernel
theorem dX3_reach_17 : decode cX3_reach 17 = .ok (.iload 5, 2) := by decide +kernel
theorem dX3_reach_19 : decode cX3_reach 19 = .ok (.ifCond .ge 19, 3) := by decide +kernel
theorem dX3_reach_22 : decode cX3_reach 22 = .ok (.aload_n 0, 1) := by decide +kernel
theorem dX3_reach_23 : decode cX3_reach 23 = .ok (.getfield 46, 3) := by decide +kernel
theorem dX3_reach_26 : decode cX3_reach 26 = .ok (.sipush 1500, 3) := by decide +kernel
theorem dX3_reach_29 : decode cX3_reach 29 = .ok (.if_icmp .lt 9, 3) := by decide +kernel
theorem dX3_reach_32 : decode cX3_reach 32 = .ok (.aload_n 0, 1) := by decide +kernel
theorem dX3_reach_33 : decode cX3_reach 33 = .ok (.iconst 1, 1) := by decide +kernel
theorem dX3_reach_34 : decode cX3_reach 34 = .ok (.putfield 53, 3) := by decide +kernel
theorem dX3_reach_37 : decode cX3_reach 37 = .ok (.return_, 1) := by decide +kernel
theorem dX3_reach_38 : decode cX3_reach 38 = .ok (.iload 5, 2) := by decide +kernel
theorem dX3_reach_40 : decode cX3_reach 40 = .ok (.ifCond .ge 14, 3) := by decide +kernel
theorem dX3_reach_43 : decode cX3_reach 43 = .ok (.aload_n 0, 1) := by decide +kernel
theorem dX3_reach_44 : decode cX3_reach 44 = .ok (.iload 4, 2) := by decide +kernel
theorem dX3_reach_46 : decode cX3_reach 46 = .ok (.invokevirtual 146, 3) := by decide +kernel
theorem dX3_reach_49 : decode cX3_reach 49 = .ok (.istore 5, 2) := by decide +kernel
theorem dX3_reach_51 : decode cX3_reach 51 = .ok (.goto 26, 3) := by decide +kernel
theorem dX3_reach_54 : decode cX3_reach 54 = .ok (.aload_n 0, 1) := by decide +kernel
theorem dX3_reach_55 : decode cX3_reach 55 = .ok (.getfield 37, 3) := by decide +kernel
theorem dX3_reach_58 : decode cX3_reach 58 = .ok (.iload 5, 2) := by decide +kernel
theorem dX3_reach_60 : decode cX3_reach 60 = .ok (.iaload, 1) := by decide +kernel
theorem dX3_reach_61 : decode cX3_reach 61 = .ok (.iconst (-1), 1) := by decide +kernel
theorem dX3_reach_62 : decode cX3_reach 62 = .ok (.if_icmp .eq 14, 3) := by decide +kernel
theorem dX3_reach_65 : decode cX3_reach 65 = .ok (.iload_n 3, 1) := by decide +kernel
theorem dX3_reach_66 : decode cX3_reach 66 = .ok (.aload_n 0, 1) := by decide +kernel
theorem dX3_reach_67 : decode cX3_reach 67 = .ok (.getfield 25, 3) := by decide +kernel
theorem dX3_reach_70 : decode cX3_reach 70 = .ok (.iload 5, 2) := by decide +kernel
theorem dX3_reach_72 : decode cX3_reach 72 = .ok (.iaload, 1) := by decide +kernel
theorem dX3_reach_73 : decode cX3_reach 73 = .ok (.if_icmp .lt 4, 3) := by decide +kernel
theorem dX3_reach_76 : decode cX3_reach 76 = .ok (.return_, 1) := by decide +kernel
theorem dX3_reach_77 : decode cX3_reach 77 = .ok (.aload_n 0, 1) := by decide +kernel
theorem dX3_reach_78 : decode cX3_reach 78 = .ok (.getfield 25, 3) := by decide +kernel
theorem dX3_reach_81 : decode cX3_reach 81 = .ok (.iload 5, 2) := by decide +kernel
theorem dX3_reach_83 : decode cX3_reach 83 = .ok (.iload_n 3, 1) := by decide +kernel
theorem dX3_reach_84 : decode cX3_reach 84 = .ok (.iastore, 1) := by decide +kernel
theorem dX3_reach_85 : decode cX3_reach 85 = .ok (.aload_n 0, 1) := by decide +kernel
theorem dX3_reach_86 : decode cX3_reach 86 = .ok (.getfield 28, 3) := by decide +kernel
theorem dX3_reach_89 : decode cX3_reach 89 = .ok (.iload 5, 2) := by decide +kernel
theorem dX3_reach_91 : decode cX3_reach 91 = .ok (.iload_n 1, 1) := by decide +kernel
theorem dX3_reach_92 : decode cX3_reach 92 = .ok (.iastore, 1) := by decide +kernel
theorem dX3_reach_93 : decode cX3_reach 93 = .ok (.aload_n 0, 1) := by decide +kernel
theorem dX3_reach_94 : decode cX3_reach 94 = .ok (.getfield 31, 3) := by decide +kernel
theorem dX3_reach_97 : decode cX3_reach 97 = .ok (.iload 5, 2) := by decide +kernel
theorem dX3_reach_99 : decode cX3_reach 99 = .ok (.iload_n 2, 1) := by decide +kernel
theorem dX3_reach_100 : decode cX3_reach 100 = .ok (.iastore, 1) := by decide +kernel
theorem dX3_reach_101 : decode cX3_reach 101 = .ok (.aload_n 0, 1) := by decide +kernel
theorem dX3_reach_102 : decode cX3_reach 102 = .ok (.aload_n 0, 1) := by decide +kernel
theorem dX3_reach_103 : decode cX3_reach 103 = .ok (.getfield 37, 3) := by decide +kernel
theorem dX3_reach_106 : decode cX3_reach 106 = .ok (.iload 5, 2) := by decide +kernel
theorem dX3_reach_108 : decode cX3_reach 108 = .ok (.iaload, 1) := by decide +kernel
theorem dX3_reach_109 : decode cX3_reach 109 = .ok (.invokevirtual 149, 3) := by decide +kernel
theorem dX3_reach_112 : decode cX3_reach 112 = .ok (.return_, 1) := by decide +kernel
theorem dX3_addTrial_0 : decode cX3_addTrial 0 = .ok (.aload_n 0, 1) := by decide +kernel
theorem dX3_addTrial_1 : decode cX3_addTrial 1 = .ok (.getfield 46, 3) := by decide +kernel
theorem dX3_addTrial_4 : decode cX3_addTrial 4 = .ok (.istore_n 2, 1) := by decide +kernel
theorem dX3_addTrial_5 : decode cX3_addTrial 5 = .ok (.aload_n 0, 1) := by decide +kernel
theorem dX3_addTrial_6 : decode cX3_addTrial 6 = .ok (.dup, 1) := by decide +kernel
theorem dX3_addTrial_7 : decode cX3_addTrial 7 = .ok (.getfield 46, 3) := by decide +kernel
theorem dX3_addTrial_10 : decode cX3_addTrial 10 = .ok (.iconst 1, 1) := by decide +kernel
theorem dX3_addTrial_11 : decode cX3_addTrial 11 = .ok (.iadd, 1) := by decide +kernel
theorem dX3_addTrial_12 : decode cX3_addTrial 12 = .ok (.putfield 46, 3) := by decide +kernel
theorem dX3_addTrial_15 : decode cX3_addTrial 15 = .ok (.aload_n 0, 1) := by decide +kernel
theorem dX3_addTrial_16 : decode cX3_addTrial 16 = .ok (.getfield 40, 3) := by decide +kernel
theorem dX3_addTrial_19 : decode cX3_addTrial 19 = .ok (.iload_n 1, 1) := by decide +kernel
theorem dX3_addTrial_20 : decode cX3_addTrial 20 = .ok (.aload_n 0, 1) := by decide +kernel
theorem dX3_addTrial_21 : decode cX3_addTrial 21 = .ok (.getfield 46, 3) := by decide +kernel
theorem dX3_addTrial_24 : decode cX3_addTrial 24 = .ok (.iastore, 1) := by decide +kernel
theorem dX3_addTrial_25 : decode cX3_addTrial 25 = .ok (.aload_n 0, 1) := by decide +kernel
theorem dX3_addTrial_26 : decode cX3_addTrial 26 = .ok (.getfield 15, 3) := by decide +kernel
theorem dX3_addTrial_29 : decode cX3_addTrial 29 = .ok (.iload_n 2, 1) := by decide +kernel
theorem dX3_addTrial_30 : decode cX3_addTrial 30 = .ok (.aload_n 0, 1) := by decide +kernel
theorem dX3_addTrial_31 : decode cX3_addTrial 31 = .ok (.getfield 60, 3) := by decide +kernel
theorem dX3_addTrial_34 : decode cX3_addTrial 34 = .ok (.invokevirtual 152, 3) := by decide +kernel
theorem dX3_addTrial_37 : decode cX3_addTrial 37 = .ok (.iastore, 1) := by decide +kernel
theorem dX3_addTrial_38 : decode cX3_addTrial 38 = .ok (.aload_n 0, 1) := by decide +kernel
theorem dX3_addTrial_39 : decode cX3_addTrial 39 = .ok (.getfield 18, 3) := by decide +kernel
theorem dX3_addTrial_42 : decode cX3_addTrial 42 = .ok (.iload_n 2, 1) := by decide +kernel
theorem dX3_addTrial_43 : decode cX3_addTrial 43 = .ok (.aload_n 0, 1) := by decide +kernel
theorem dX3_addTrial_44 : decode cX3_addTrial 44 = .ok (.getfield 60, 3) := by decide +kernel
theorem dX3_addTrial_47 : decode cX3_addTrial 47 = .ok (.iconst 0, 1) := by decide +kernel
theorem dX3_addTrial_48 : decode cX3_addTrial 48 = .ok (.invokevirtual 155, 3) := by decide +kernel
theorem dX3_addTrial_51 : decode cX3_addTrial 51 = .ok (.lastore, 1) := by decide +kernel
theorem dX3_addTrial_52 : decode cX3_addTrial 52 = .ok (.aload_n 0, 1) := by decide +kernel
theorem dX3_addTrial_53 : decode cX3_addTrial 53 = .ok (.getfield 22, 3) := by decide +kernel
theorem dX3_addTrial_56 : decode cX3_addTrial 56 = .ok (.iload_n 2, 1) := by decide +kernel
theorem dX3_addTrial_57 : decode cX3_addTrial 57 = .ok (.aload_n 0, 1) := by decide +kernel
theorem dX3_addTrial_58 : decode cX3_addTrial 58 = .ok (.getfield 60, 3) := by decide +kernel
theorem dX3_addTrial_61 : decode cX3_addTrial 61 = .ok (.iconst 4, 1) := by decide +kernel
theorem dX3_addTrial_62 : decode cX3_addTrial 62 = .ok (.invokevirtual 155, 3) := by decide +kernel
theorem dX3_addTrial_65 : decode cX3_addTrial 65 = .ok (.lastore, 1) := by decide +kernel
theorem dX3_addTrial_66 : decode cX3_addTrial 66 = .ok (.aload_n 0, 1) := by decide +kernel
theorem dX3_addTrial_67 : decode cX3_addTrial 67 = .ok (.aload_n 0, 1) := by decide +kernel
theorem dX3_addTrial_68 : decode cX3_addTrial 68 = .ok (.getfield 50, 3) := by decide +kernel
theorem dX3_addTrial_71 : decode cX3_addTrial 71 = .ok (.iload_n 2, 1) := by decide +kernel
theorem dX3_addTrial_72 : decode cX3_addTrial 72 = .ok (.invokevirtual 159, 3) := by decide +kernel
theorem dX3_addTrial_75 : decode cX3_addTrial 75 = .ok (.aload_n 0, 1) := by decide +kernel
theorem dX3_addTrial_76 : decode cX3_addTrial 76 = .ok (.dup, 1) := by decide +kernel
theorem dX3_addTrial_77 : decode cX3_addTrial 77 = .ok (.getfield 50, 3) := by decide +kernel
theorem dX3_addTrial_80 : decode cX3_addTrial 80 = .ok (.iconst 1, 1) := by decide +kernel
theorem dX3_addTrial_81 : decode cX3_addTrial 81 = .ok (.iadd, 1) := by decide +kernel
theorem dX3_addTrial_82 : decode cX3_addTrial 82 = .ok (.putfield 50, 3) := by decide +kernel
theorem dX3_addTrial_85 : decode cX3_addTrial 85 = .ok (.iload_n 2, 1) := by decide +kernel
theorem dX3_addTrial_86 : decode cX3_addTrial 86 = .ok (.ireturn, 1) := by decide +kernel
theorem dX3_slotOfTrial_0 : decode cX3_slotOfTrial 0 = .ok (.aload_n 0, 1) := by decide +kernel
theorem dX3_slotOfTrial_1 : decode cX3_slotOfTrial 1 = .ok (.getfield 60, 3) := by decide +kernel
theorem dX3_slotOfTrial_4 : decode cX3_slotOfTrial 4 = .ok (.invokevirtual 152, 3) := by decide +kernel
theorem dX3_slotOfTrial_7 : decode cX3_slotOfTrial 7 = .ok (.istore_n 1, 1) := by decide +kernel
theorem dX3_slotOfTrial_8 : decode cX3_slotOfTrial 8 = .ok (.aload_n 0, 1) := by decide +kernel
theorem dX3_slotOfTrial_9 : decode cX3_slotOfTrial 9 = .ok (.getfield 60, 3) := by decide +kernel
theorem dX3_slotOfTrial_12 : decode cX3_slotOfTrial 12 = .ok (.iconst 0, 1) := by decide +kernel
theorem dX3_slotOfTrial_13 : decode cX3_slotOfTrial 13 = .ok (.invokevirtual 155, 3) := by decide +kernel
theorem dX3_slotOfTrial_16 : decode cX3_slotOfTrial 16 = .ok (.lstore_n 2, 1) := by decide +kernel
theorem dX3_slotOfTrial_17 : decode cX3_slotOfTrial 17 = .ok (.aload_n 0, 1) := by decide +kernel
theorem dX3_slotOfTrial_18 : decode cX3_slotOfTrial 18 = .ok (.getfield 60, 3) := by decide +kernel
theorem dX3_slotOfTrial_21 : decode cX3_slotOfTrial 21 = .ok (.iconst 4, 1) := by decide +kernel
theorem dX3_slotOfTrial_22 : decode cX3_slotOfTrial 22 = .ok (.invokevirtual 155, 3) := by decide +kernel
theorem dX3_slotOfTrial_25 : decode cX3_slotOfTrial 25 = .ok (.lstore 4, 2) := by decide +kernel
theorem dX3_slotOfTrial_27 : decode cX3_slotOfTrial 27 = .ok (.lload_n 2, 1) := by decide +kernel
theorem dX3_slotOfTrial_28 : decode cX3_slotOfTrial 28 = .ok (.ldc2_w 162, 3) := by decide +kernel
theorem dX3_slotOfTrial_31 : decode cX3_slotOfTrial 31 = .ok (.lmul, 1) := by decide +kernel
theorem dX3_slotOfTrial_32 : decode cX3_slotOfTrial 32 = .ok (.lload 4, 2) := by decide +kernel
theorem dX3_slotOfTrial_34 : decode cX3_slotOfTrial 34 = .ok (.ladd, 1) := by decide +kernel
theorem dX3_slotOfTrial_35 : decode cX3_slotOfTrial 35 = .ok (.ldc2_w 162, 3) := by decide +kernel
theorem dX3_slotOfTrial_38 : decode cX3_slotOfTrial 38 = .ok (.lmul, 1) := by decide +kernel
theorem dX3_slotOfTrial_39 : decode cX3_slotOfTrial 39 = .ok (.iload_n 1, 1) := by decide +kernel
theorem dX3_slotOfTrial_40 : decode cX3_slotOfTrial 40 = .ok (.i2l, 1) := by decide +kernel
theorem dX3_slotOfTrial_41 : decode cX3_slotOfTrial 41 = .ok (.ladd, 1) := by decide +kernel
theorem dX3_slotOfTrial_42 : decode cX3_slotOfTrial 42 = .ok (.ldc2_w 164, 3) := by decide +kernel
theorem dX3_slotOfTrial_45 : decode cX3_slotOfTrial 45 = .ok (.lmul, 1) := by decide +kernel
theorem dX3_slotOfTrial_46 : decode cX3_slotOfTrial 46 = .ok (.lstore 6, 2) := by decide +kernel
theorem dX3_slotOfTrial_48 : decode cX3_slotOfTrial 48 = .ok (.lload 6, 2) := by decide +kernel
theorem dX3_slotOfTrial_50 : decode cX3_slotOfTrial 50 = .ok (.bipush 52, 2) := by decide +kernel
theorem dX3_slotOfTrial_52 : decode cX3_slotOfTrial 52 = .ok (.lushr, 1) := by decide +kernel
theorem dX3_slotOfTrial_53 : decode cX3_slotOfTrial 53 = .ok (.l2i, 1) := by decide +kernel
theorem dX3_slotOfTrial_54 : decode cX3_slotOfTrial 54 = .ok (.istore 8, 2) := by decide +kernel
theorem dX3_slotOfTrial_56 : decode cX3_slotOfTrial 56 = .ok (.iconst 0, 1) := by decide +kernel
theorem dX3_slotOfTrial_57 : decode cX3_slotOfTrial 57 = .ok (.istore 9, 2) := by decide +kernel
theorem dX3_slotOfTrial_59 : decode cX3_slotOfTrial 59 = .ok (.iload 9, 2) := by decide +kernel
theorem dX3_slotOfTrial_61 : decode cX3_slotOfTrial 61 = .ok (.sipush 4096, 3) := by decide +kernel
theorem dX3_slotOfTrial_64 : decode cX3_slotOfTrial 64 = .ok (.if_icmp .ge 79, 3) := by decide +kernel
theorem dX3_slotOfTrial_67 : decode cX3_slotOfTrial 67 = .ok (.aload_n 0, 1) := by decide +kernel
theorem dX3_slotOfTrial_68 : decode cX3_slotOfTrial 68 = .ok (.getfield 40, 3) := by decide +kernel
theorem dX3_slotOfTrial_71 : decode cX3_slotOfTrial 71 = .ok (.iload 8, 2) := by decide +kernel
theorem dX3_slotOfTrial_73 : decode cX3_slotOfTrial 73 = .ok (.iaload, 1) := by decide +kernel
theorem dX3_slotOfTrial_74 : decode cX3_slotOfTrial 74 = .ok (.ifCond .eq 69, 3) := by decide +kernel
theorem dX3_slotOfTrial_77 : decode cX3_slotOfTrial 77 = .ok (.aload_n 0, 1) := by decide +kernel
theorem dX3_slotOfTrial_78 : decode cX3_slotOfTrial 78 = .ok (.getfield 40, 3) := by decide +kernel
theorem dX3_slotOfTrial_81 : decode cX3_slotOfTrial 81 = .ok (.iload 8, 2) := by decide +kernel
theorem dX3_slotOfTrial_83 : decode cX3_slotOfTrial 83 = .ok (.iaload, 1) := by decide +kernel
theorem dX3_slotOfTrial_84 : decode cX3_slotOfTrial 84 = .ok (.iconst 1, 1) := by decide +kernel
theorem dX3_slotOfTrial_85 : decode cX3_slotOfTrial 85 = .ok (.isub, 1) := by decide +kernel
theorem dX3_slotOfTrial_86 : decode cX3_slotOfTrial 86 = .ok (.istore 10, 2) := by decide +kernel
theorem dX3_slotOfTrial_88 : decode cX3_slotOfTrial 88 = .ok (.aload_n 0, 1) := by decide +kernel
theorem dX3_slotOfTrial_89 : decode cX3_slotOfTrial 89 = .ok (.getfield 15, 3) := by decide +kernel
theorem dX3_slotOfTrial_92 : decode cX3_slotOfTrial 92 = .ok (.iload 10, 2) := by decide +kernel
theorem dX3_slotOfTrial_94 : decode cX3_slotOfTrial 94 = .ok (.iaload, 1) := by decide +kernel
theorem dX3_slotOfTrial_95 : decode cX3_slotOfTrial 95 = .ok (.iload_n 1, 1) := by decide +kernel
theorem dX3_slotOfTrial_96 : decode cX3_slotOfTrial 96 = .ok (.if_icmp .ne 31, 3) := by decide +kernel
theorem dX3_slotOfTrial_99 : decode cX3_slotOfTrial 99 = .ok (.aload_n 0, 1) := by decide +kernel
theorem dX3_slotOfTrial_100 : decode cX3_slotOfTrial 100 = .ok (.getfield 18, 3) := by decide +kernel
theorem dX3_slotOfTrial_103 : decode cX3_slotOfTrial 103 = .ok (.iload 10, 2) := by decide +kernel
theorem dX3_slotOfTrial_105 : decode cX3_slotOfTrial 105 = .ok (.laload, 1) := by decide +kernel
theorem dX3_slotOfTrial_106 : decode cX3_slotOfTrial 106 = .ok (.lload_n 2, 1) := by decide +kernel
theorem dX3_slotOfTrial_107 : decode cX3_slotOfTrial 107 = .ok (.lcmp, 1) := by decide +kernel
theorem dX3_slotOfTrial_108 : decode cX3_slotOfTrial 108 = .ok (.ifCond .ne 19, 3) := by decide +kernel
theorem dX3_slotOfTrial_111 : decode cX3_slotOfTrial 111 = .ok (.aload_n 0, 1) := by decide +kernel
theorem dX3_slotOfTrial_112 : decode cX3_slotOfTrial 112 = .ok (.getfield 22, 3) := by decide +kernel
theorem dX3_slotOfTrial_115 : decode cX3_slotOfTrial 115 = .ok (.iload 10, 2) := by decide +kernel
theorem dX3_slotOfTrial_117 : decode cX3_slotOfTrial 117 = .ok (.laload, 1) := by decide +kernel
theorem dX3_slotOfTrial_118 : decode cX3_slotOfTrial 118 = .ok (.lload 4, 2) := by decide +kernel
theorem dX3_slotOfTrial_120 : decode cX3_slotOfTrial 120 = .ok (.lcmp, 1) := by decide +kernel
theorem dX3_slotOfTrial_121 : decode cX3_slotOfTrial 121 = .ok (.ifCond .ne 6, 3) := by decide +kernel
theorem dX3_slotOfTrial_124 : decode cX3_slotOfTrial 124 = .ok (.iload 8, 2) := by decide +kernel
theorem dX3_slotOfTrial_126 : decode cX3_slotOfTrial 126 = .ok (.ireturn, 1) := by decide +kernel
theorem dX3_slotOfTrial_127 : decode cX3_slotOfTrial 127 = .ok (.iload 8, 2) := by decide +kernel
theorem dX3_slotOfTrial_129 : decode cX3_slotOfTrial 129 = .ok (.iconst 1, 1) := by decide +kernel
theorem dX3_slotOfTrial_130 : decode cX3_slotOfTrial 130 = .ok (.iadd, 1) := by decide +kernel
theorem dX3_slotOfTrial_131 : decode cX3_slotOfTrial 131 = .ok (.sipush 4096, 3) := by decide +kernel
theorem dX3_slotOfTrial_134 : decode cX3_slotOfTrial 134 = .ok (.irem, 1) := by decide +kernel
theorem dX3_slotOfTrial_135 : decode cX3_slotOfTrial 135 = .ok (.istore 8, 2) := by decide +kernel
theorem dX3_slotOfTrial_137 : decode cX3_slotOfTrial 137 = .ok (.iinc 9 1, 3) := by decide +kernel
theorem dX3_slotOfTrial_140 : decode cX3_slotOfTrial 140 = .ok (.goto (-81), 3) := by decide +kernel
theorem dX3_slotOfTrial_143 : decode cX3_slotOfTrial 143 = .ok (.iload 8, 2) := by decide +kernel
theorem dX3_slotOfTrial_145 : decode cX3_slotOfTrial 145 = .ok (.ireturn, 1) := by decide +kernel
theorem dX3_takeLeast_0 : decode cX3_takeLeast 0 = .ok (.aload_n 0, 1) := by decide +kernel
theorem dX3_takeLeast_1 : decode cX3_takeLeast 1 = .ok (.getfield 34, 3) := by decide +kernel
theorem dX3_takeLeast_4 : decode cX3_takeLeast 4 = .ok (.iconst 0, 1) := by decide +kernel
theorem dX3_takeLeast_5 : decode cX3_takeLeast 5 = .ok (.iaload, 1) := by decide +kernel
theorem dX3_takeLeast_6 : decode cX3_takeLeast 6 = .ok (.istore_n 1, 1) := by decide +kernel
theorem dX3_takeLeast_7 : decode cX3_takeLeast 7 = .ok (.aload_n 0, 1) := by decide +kernel
theorem dX3_takeLeast_8 : decode cX3_takeLeast 8 = .ok (.getfield 37, 3) := by decide +kernel
theorem dX3_takeLeast_11 : decode cX3_takeLeast 11 = .ok (.iload_n 1, 1) := by decide +kernel
theorem dX3_takeLeast_12 : decode cX3_takeLeast 12 = .ok (.iconst (-1), 1) := by decide +kernel
theorem dX3_takeLeast_13 : decode cX3_takeLeast 13 = .ok (.iastore, 1) := by decide +kernel
theorem dX3_takeLeast_14 : decode cX3_takeLeast 14 = .ok (.aload_n 0, 1) := by decide +kernel
theorem dX3_takeLeast_15 : decode cX3_takeLeast 15 = .ok (.dup, 1) := by decide +kernel
theorem dX3_takeLeast_16 : decode cX3_takeLeast 16 = .ok (.getfield 50, 3) := by decide +kernel
theorem dX3_takeLeast_19 : decode cX3_takeLeast 19 = .ok (.iconst 1, 1) := by decide +kernel
theorem dX3_takeLeast_20 : decode cX3_takeLeast 20 = .ok (.isub, 1) := by decide +kernel
theorem dX3_takeLeast_21 : decode cX3_takeLeast 21 = .ok (.putfield 50, 3) := by decide +kernel
theorem dX3_takeLeast_24 : decode cX3_takeLeast 24 = .ok (.aload_n 0, 1) := by decide +kernel
theorem dX3_takeLeast_25 : decode cX3_takeLeast 25 = .ok (.getfield 50, 3) := by decide +kernel
theorem dX3_takeLeast_28 : decode cX3_takeLeast 28 = .ok (.ifCond .le 16, 3) := by decide +kernel
theorem dX3_takeLeast_31 : decode cX3_takeLeast 31 = .ok (.aload_n 0, 1) := by decide +kernel
theorem dX3_takeLeast_32 : decode cX3_takeLeast 32 = .ok (.aload_n 0, 1) := by decide +kernel
theorem dX3_takeLeast_33 : decode cX3_takeLeast 33 = .ok (.getfield 34, 3) := by decide +kernel
theorem dX3_takeLeast_36 : decode cX3_takeLeast 36 = .ok (.aload_n 0, 1) := by decide +kernel
theorem dX3_takeLeast_37 : decode cX3_takeLeast 37 = .ok (.getfield 50, 3) := by decide +kernel
theorem dX3_takeLeast_40 : decode cX3_takeLeast 40 = .ok (.iaload, 1) := by decide +kernel
theorem dX3_takeLeast_41 : decode cX3_takeLeast 41 = .ok (.invokevirtual 166, 3) := by decide +kernel
theorem dX3_takeLeast_44 : decode cX3_takeLeast 44 = .ok (.iload_n 1, 1) := by decide +kernel
theorem dX3_takeLeast_45 : decode cX3_takeLeast 45 = .ok (.ireturn, 1) := by decide +kernel
theorem dX3_isAhead_0 : decode cX3_isAhead 0 = .ok (.aload_n 0, 1) := by decide +kernel
theorem dX3_isAhead_1 : decode cX3_isAhead 1 = .ok (.getfield 25, 3) := by decide +kernel
theorem dX3_isAhead_4 : decode cX3_isAhead 4 = .ok (.iload_n 1, 1) := by decide +kernel
theorem dX3_isAhead_5 : decode cX3_isAhead 5 = .ok (.iaload, 1) := by decide +kernel
theorem dX3_isAhead_6 : decode cX3_isAhead 6 = .ok (.aload_n 0, 1) := by decide +kernel
theorem dX3_isAhead_7 : decode cX3_isAhead 7 = .ok (.getfield 25, 3) := by decide +kernel
theorem dX3_isAhead_10 : decode cX3_isAhead 10 = .ok (.iload_n 2, 1) := by decide +kernel
theorem dX3_isAhead_11 : decode cX3_isAhead 11 = .ok (.iaload, 1) := by decide +kernel
theorem dX3_isAhead_12 : decode cX3_isAhead 12 = .ok (.if_icmp .lt 23, 3) := by decide +kernel
theorem dX3_isAhead_15 : decode cX3_isAhead 15 = .ok (.aload_n 0, 1) := by decide +kernel
theorem dX3_isAhead_16 : decode cX3_isAhead 16 = .ok (.getfield 25, 3) := by decide +kernel
theorem dX3_isAhead_19 : decode cX3_isAhead 19 = .ok (.iload_n 1, 1) := by decide +kernel
theorem dX3_isAhead_20 : decode cX3_isAhead 20 = .ok (.iaload, 1) := by decide +kernel
theorem dX3_isAhead_21 : decode cX3_isAhead 21 = .ok (.aload_n 0, 1) := by decide +kernel
theorem dX3_isAhead_22 : decode cX3_isAhead 22 = .ok (.getfield 25, 3) := by decide +kernel
theorem dX3_isAhead_25 : decode cX3_isAhead 25 = .ok (.iload_n 2, 1) := by decide +kernel
theorem dX3_isAhead_26 : decode cX3_isAhead 26 = .ok (.iaload, 1) := by decide +kernel
theorem dX3_isAhead_27 : decode cX3_isAhead 27 = .ok (.if_icmp .ne 12, 3) := by decide +kernel
theorem dX3_isAhead_30 : decode cX3_isAhead 30 = .ok (.iload_n 1, 1) := by decide +kernel
theorem dX3_isAhead_31 : decode cX3_isAhead 31 = .ok (.iload_n 2, 1) := by decide +kernel
theorem dX3_isAhead_32 : decode cX3_isAhead 32 = .ok (.if_icmp .ge 7, 3) := by decide +kernel
theorem dX3_isAhead_35 : decode cX3_isAhead 35 = .ok (.iconst 1, 1) := by decide +kernel
theorem dX3_isAhead_36 : decode cX3_isAhead 36 = .ok (.goto 4, 3) := by decide +kernel
theorem dX3_isAhead_39 : decode cX3_isAhead 39 = .ok (.iconst 0, 1) := by decide +kernel
theorem dX3_isAhead_40 : decode cX3_isAhead 40 = .ok (.ireturn, 1) := by decide +kernel
theorem dX3_putInHeap_0 : decode cX3_putInHeap 0 = .ok (.aload_n 0, 1) := by decide +kernel
theorem dX3_putInHeap_1 : decode cX3_putInHeap 1 = .ok (.getfield 34, 3) := by decide +kernel
theorem dX3_putInHeap_4 : decode cX3_putInHeap 4 = .ok (.iload_n 1, 1) := by decide +kernel
theorem dX3_putInHeap_5 : decode cX3_putInHeap 5 = .ok (.iload_n 2, 1) := by decide +kernel
theorem dX3_putInHeap_6 : decode cX3_putInHeap 6 = .ok (.iastore, 1) := by decide +kernel
theorem dX3_putInHeap_7 : decode cX3_putInHeap 7 = .ok (.aload_n 0, 1) := by decide +kernel
theorem dX3_putInHeap_8 : decode cX3_putInHeap 8 = .ok (.getfield 37, 3) := by decide +kernel
theorem dX3_putInHeap_11 : decode cX3_putInHeap 11 = .ok (.iload_n 2, 1) := by decide +kernel
theorem dX3_putInHeap_12 : decode cX3_putInHeap 12 = .ok (.iload_n 1, 1) := by decide +kernel
theorem dX3_putInHeap_13 : decode cX3_putInHeap 13 = .ok (.iastore, 1) := by decide +kernel
theorem dX3_putInHeap_14 : decode cX3_putInHeap 14 = .ok (.return_, 1) := by decide +kernel
theorem dX3_rise_0 : decode cX3_rise 0 = .ok (.aload_n 0, 1) := by decide +kernel
theorem dX3_rise_1 : decode cX3_rise 1 = .ok (.getfield 34, 3) := by decide +kernel
theorem dX3_rise_4 : decode cX3_rise 4 = .ok (.iload_n 1, 1) := by decide +kernel
theorem dX3_rise_5 : decode cX3_rise 5 = .ok (.iaload, 1) := by decide +kernel
theorem dX3_rise_6 : decode cX3_rise 6 = .ok (.istore_n 2, 1) := by decide +kernel
theorem dX3_rise_7 : decode cX3_rise 7 = .ok (.iload_n 1, 1) := by decide +kernel
theorem dX3_rise_8 : decode cX3_rise 8 = .ok (.istore_n 3, 1) := by decide +kernel
theorem dX3_rise_9 : decode cX3_rise 9 = .ok (.iload_n 3, 1) := by decide +kernel
theorem dX3_rise_10 : decode cX3_rise 10 = .ok (.ifCond .le 45, 3) := by decide +kernel
theorem dX3_rise_13 : decode cX3_rise 13 = .ok (.aload_n 0, 1) := by decide +kernel
theorem dX3_rise_14 : decode cX3_rise 14 = .ok (.iload_n 2, 1) := by decide +kernel
theorem dX3_rise_15 : decode cX3_rise 15 = .ok (.aload_n 0, 1) := by decide +kernel
theorem dX3_rise_16 : decode cX3_rise 16 = .ok (.getfield 34, 3) := by decide +kernel
theorem dX3_rise_19 : decode cX3_rise 19 = .ok (.iload_n 3, 1) := by decide +kernel
theorem dX3_rise_20 : decode cX3_rise 20 = .ok (.iconst 1, 1) := by decide +kernel
theorem dX3_rise_21 : decode cX3_rise 21 = .ok (.isub, 1) := by decide +kernel
theorem dX3_rise_22 : decode cX3_rise 22 = .ok (.iconst 2, 1) := by decide +kernel
theorem dX3_rise_23 : decode cX3_rise 23 = .ok (.idiv, 1) := by decide +kernel
theorem dX3_rise_24 : decode cX3_rise 24 = .ok (.iaload, 1) := by decide +kernel
theorem dX3_rise_25 : decode cX3_rise 25 = .ok (.invokevirtual 169, 3) := by decide +kernel
theorem dX3_rise_28 : decode cX3_rise 28 = .ok (.ifCond .eq 27, 3) := by decide +kernel
theorem dX3_rise_31 : decode cX3_rise 31 = .ok (.aload_n 0, 1) := by decide +kernel
theorem dX3_rise_32 : decode cX3_rise 32 = .ok (.iload_n 3, 1) := by decide +kernel
theorem dX3_rise_33 : decode cX3_rise 33 = .ok (.aload_n 0, 1) := by decide +kernel
theorem dX3_rise_34 : decode cX3_rise 34 = .ok (.getfield 34, 3) := by decide +kernel
theorem dX3_rise_37 : decode cX3_rise 37 = .ok (.iload_n 3, 1) := by decide +kernel
theorem dX3_rise_38 : decode cX3_rise 38 = .ok (.iconst 1, 1) := by decide +kernel
theorem dX3_rise_39 : decode cX3_rise 39 = .ok (.isub, 1) := by decide +kernel
theorem dX3_rise_40 : decode cX3_rise 40 = .ok (.iconst 2, 1) := by decide +kernel
theorem dX3_rise_41 : decode cX3_rise 41 = .ok (.idiv, 1) := by decide +kernel
theorem dX3_rise_42 : decode cX3_rise 42 = .ok (.iaload, 1) := by decide +kernel
theorem dX3_rise_43 : decode cX3_rise 43 = .ok (.invokevirtual 159, 3) := by decide +kernel
theorem dX3_rise_46 : decode cX3_rise 46 = .ok (.iload_n 3, 1) := by decide +kernel
theorem dX3_rise_47 : decode cX3_rise 47 = .ok (.iconst 1, 1) := by decide +kernel
theorem dX3_rise_48 : decode cX3_rise 48 = .ok (.isub, 1) := by decide +kernel
theorem dX3_rise_49 : decode cX3_rise 49 = .ok (.iconst 2, 1) := by decide +kernel
theorem dX3_rise_50 : decode cX3_rise 50 = .ok (.idiv, 1) := by decide +kernel
theorem dX3_rise_51 : decode cX3_rise 51 = .ok (.istore_n 3, 1) := by decide +kernel
theorem dX3_rise_52 : decode cX3_rise 52 = .ok (.goto (-43), 3) := by decide +kernel
theorem dX3_rise_55 : decode cX3_rise 55 = .ok (.aload_n 0, 1) := by decide +kernel
theorem dX3_rise_56 : decode cX3_rise 56 = .ok (.iload_n 3, 1) := by decide +kernel
theorem dX3_rise_57 : decode cX3_rise 57 = .ok (.iload_n 2, 1) := by decide +kernel
theorem dX3_rise_58 : decode cX3_rise 58 = .ok (.invokevirtual 159, 3) := by decide +kernel
theorem dX3_rise_61 : decode cX3_rise 61 = .ok (.return_, 1) := by decide +kernel
theorem dX3_sink_0 : decode cX3_sink 0 = .ok (.iconst 0, 1) := by decide +kernel
theorem dX3_sink_1 : decode cX3_sink 1 = .ok (.istore_n 2, 1) := by decide +kernel
theorem dX3_sink_2 : decode cX3_sink 2 = .ok (.iconst 1, 1) := by decide +kernel
theorem dX3_sink_3 : decode cX3_sink 3 = .ok (.istore_n 3, 1) := by decide +kernel
theorem dX3_sink_4 : decode cX3_sink 4 = .ok (.iload_n 3, 1) := by decide +kernel
theorem dX3_sink_5 : decode cX3_sink 5 = .ok (.aload_n 0, 1) := by decide +kernel
theorem dX3_sink_6 : decode cX3_sink 6 = .ok (.getfield 50, 3) := by decide +kernel
theorem dX3_sink_9 : decode cX3_sink 9 = .ok (.if_icmp .ge 84, 3) := by decide +kernel
theorem dX3_sink_12 : decode cX3_sink 12 = .ok (.iload_n 3, 1) := by decide +kernel
theorem dX3_sink_13 : decode cX3_sink 13 = .ok (.istore 4, 2) := by decide +kernel
theorem dX3_sink_15 : decode cX3_sink 15 = .ok (.iload_n 3, 1) := by decide +kernel
theorem dX3_sink_16 : decode cX3_sink 16 = .ok (.iconst 1, 1) := by decide +kernel
theorem dX3_sink_17 : decode cX3_sink 17 = .ok (.iadd, 1) := by decide +kernel
theorem dX3_sink_18 : decode cX3_sink 18 = .ok (.aload_n 0, 1) := by decide +kernel
theorem dX3_sink_19 : decode cX3_sink 19 = .ok (.getfield 50, 3) := by decide +kernel
theorem dX3_sink_22 : decode cX3_sink 22 = .ok (.if_icmp .ge 29, 3) := by decide +kernel
theorem dX3_sink_25 : decode cX3_sink 25 = .ok (.aload_n 0, 1) := by decide +kernel
theorem dX3_sink_26 : decode cX3_sink 26 = .ok (.aload_n 0, 1) := by decide +kernel
theorem dX3_sink_27 : decode cX3_sink 27 = .ok (.getfield 34, 3) := by decide +kernel
theorem dX3_sink_30 : decode cX3_sink 30 = .ok (.iload_n 3, 1) := by decide +kernel
theorem dX3_sink_31 : decode cX3_sink 31 = .ok (.iconst 1, 1) := by decide +kernel
theorem dX3_sink_32 : decode cX3_sink 32 = .ok (.iadd, 1) := by decide +kernel
theorem dX3_sink_33 : decode cX3_sink 33 = .ok (.iaload, 1) := by decide +kernel
theorem dX3_sink_34 : decode cX3_sink 34 = .ok (.aload_n 0, 1) := by decide +kernel
theorem dX3_sink_35 : decode cX3_sink 35 = .ok (.getfield 34, 3) := by decide +kernel
theorem dX3_sink_38 : decode cX3_sink 38 = .ok (.iload_n 3, 1) := by decide +kernel
theorem dX3_sink_39 : decode cX3_sink 39 = .ok (.iaload, 1) := by decide +kernel
theorem dX3_sink_40 : decode cX3_sink 40 = .ok (.invokevirtual 169, 3) := by decide +kernel
theorem dX3_sink_43 : decode cX3_sink 43 = .ok (.ifCond .eq 8, 3) := by decide +kernel
theorem dX3_sink_46 : decode cX3_sink 46 = .ok (.iload_n 3, 1) := by decide +kernel
theorem dX3_sink_47 : decode cX3_sink 47 = .ok (.iconst 1, 1) := by decide +kernel
theorem dX3_sink_48 : decode cX3_sink 48 = .ok (.iadd, 1) := by decide +kernel
theorem dX3_sink_49 : decode cX3_sink 49 = .ok (.istore 4, 2) := by decide +kernel
theorem dX3_sink_51 : decode cX3_sink 51 = .ok (.aload_n 0, 1) := by decide +kernel
theorem dX3_sink_52 : decode cX3_sink 52 = .ok (.aload_n 0, 1) := by decide +kernel
theorem dX3_sink_53 : decode cX3_sink 53 = .ok (.getfield 34, 3) := by decide +kernel
theorem dX3_sink_56 : decode cX3_sink 56 = .ok (.iload 4, 2) := by decide +kernel
theorem dX3_sink_58 : decode cX3_sink 58 = .ok (.iaload, 1) := by decide +kernel
theorem dX3_sink_59 : decode cX3_sink 59 = .ok (.iload_n 1, 1) := by decide +kernel
theorem dX3_sink_60 : decode cX3_sink 60 = .ok (.invokevirtual 169, 3) := by decide +kernel
theorem dX3_sink_63 : decode cX3_sink 63 = .ok (.ifCond .ne 6, 3) := by decide +kernel
theorem dX3_sink_66 : decode cX3_sink 66 = .ok (.goto 27, 3) := by decide +kernel
theorem dX3_sink_69 : decode cX3_sink 69 = .ok (.aload_n 0, 1) := by decide +kernel
theorem dX3_sink_70 : decode cX3_sink 70 = .ok (.iload_n 2, 1) := by decide +kernel
theorem dX3_sink_71 : decode cX3_sink 71 = .ok (.aload_n 0, 1) := by decide +kernel
theorem dX3_sink_72 : decode cX3_sink 72 = .ok (.getfield 34, 3) := by decide +kernel
theorem dX3_sink_75 : decode cX3_sink 75 = .ok (.iload 4, 2) := by decide +kernel
theorem dX3_sink_77 : decode cX3_sink 77 = .ok (.iaload, 1) := by decide +kernel
theorem dX3_sink_78 : decode cX3_sink 78 = .ok (.invokevirtual 159, 3) := by decide +kernel
theorem dX3_sink_81 : decode cX3_sink 81 = .ok (.iload 4, 2) := by decide +kernel
theorem dX3_sink_83 : decode cX3_sink 83 = .ok (.istore_n 2, 1) := by decide +kernel
theorem dX3_sink_84 : decode cX3_sink 84 = .ok (.iconst 2, 1) := by decide +kernel
theorem dX3_sink_85 : decode cX3_sink 85 = .ok (.iload_n 2, 1) := by decide +kernel
theorem dX3_sink_86 : decode cX3_sink 86 = .ok (.imul, 1) := by decide +kernel
theorem dX3_sink_87 : decode cX3_sink 87 = .ok (.iconst 1, 1) := by decide +kernel
theorem dX3_sink_88 : decode cX3_sink 88 = .ok (.iadd, 1) := by decide +kernel
theorem dX3_sink_89 : decode cX3_sink 89 = .ok (.istore_n 3, 1) := by decide +kernel
theorem dX3_sink_90 : decode cX3_sink 90 = .ok (.goto (-86), 3) := by decide +kernel
theorem dX3_sink_93 : decode cX3_sink 93 = .ok (.aload_n 0, 1) := by decide +kernel
theorem dX3_sink_94 : decode cX3_sink 94 = .ok (.iload_n 2, 1) := by decide +kernel
theorem dX3_sink_95 : decode cX3_sink 95 = .ok (.iload_n 1, 1) := by decide +kernel
theorem dX3_sink_96 : decode cX3_sink 96 = .ok (.invokevirtual 159, 3) := by decide +kernel
theorem dX3_sink_99 : decode cX3_sink 99 = .ok (.return_, 1) := by decide +kernel
theorem dX4_init_0 : decode cX4_init 0 = .ok (.aload_n 0, 1) := by decide +kernel
theorem dX4_init_1 : decode cX4_init 1 = .ok (.invokespecial 3, 3) := by decide +kernel
theorem dX4_init_4 : decode cX4_init 4 = .ok (.aload_n 0, 1) := by decide +kernel
theorem dX4_init_5 : decode cX4_init 5 = .ok (.iconst 0, 1) := by decide +kernel
theorem dX4_init_6 : decode cX4_init 6 = .ok (.putfield 9, 3) := by decide +kernel
theorem dX4_init_9 : decode cX4_init 9 = .ok (.aload_n 0, 1) := by decide +kernel
theorem dX4_init_10 : decode cX4_init 10 = .ok (.iconst 0, 1) := by decide +kernel
theorem dX4_init_11 : decode cX4_init 11 = .ok (.putfield 15, 3) := by decide +kernel
theorem dX4_init_14 : decode cX4_init 14 = .ok (.aload_n 0, 1) := by decide +kernel
theorem dX4_init_15 : decode cX4_init 15 = .ok (.aload_n 1, 1) := by decide +kernel
theorem dX4_init_16 : decode cX4_init 16 = .ok (.putfield 18, 3) := by decide +kernel
theorem dX4_init_19 : decode cX4_init 19 = .ok (.aload_n 0, 1) := by decide +kernel
theorem dX4_init_20 : decode cX4_init 20 = .ok (.aload_n 2, 1) := by decide +kernel
theorem dX4_init_21 : decode cX4_init 21 = .ok (.putfield 22, 3) := by decide +kernel
theorem dX4_init_24 : decode cX4_init 24 = .ok (.return_, 1) := by decide +kernel
theorem dX4_readStair_0 : decode cX4_readStair 0 = .ok (.aload_n 0, 1) := by decide +kernel
theorem dX4_readStair_1 : decode cX4_readStair 1 = .ok (.getfield 22, 3) := by decide +kernel
theorem dX4_readStair_4 : decode cX4_readStair 4 = .ok (.invokevirtual 26, 3) := by decide +kernel
theorem dX4_readStair_7 : decode cX4_readStair 7 = .ok (.aload_n 0, 1) := by decide +kernel
theorem dX4_readStair_8 : decode cX4_readStair 8 = .ok (.iconst 0, 1) := by decide +kernel
theorem dX4_readStair_9 : decode cX4_readStair 9 = .ok (.putfield 9, 3) := by decide +kernel
theorem dX4_readStair_12 : decode cX4_readStair 12 = .ok (.aload_n 0, 1) := by decide +kernel
theorem dX4_readStair_13 : decode cX4_readStair 13 = .ok (.iconst 0, 1) := by decide +kernel
theorem dX4_readStair_14 : decode cX4_readStair 14 = .ok (.putfield 15, 3) := by decide +kernel
theorem dX4_readStair_17 : decode cX4_readStair 17 = .ok (.aload_n 0, 1) := by decide +kernel
theorem dX4_readStair_18 : decode cX4_readStair 18 = .ok (.getfield 18, 3) := by decide +kernel
theorem dX4_readStair_21 : decode cX4_readStair 21 = .ok (.invokevirtual 31, 3) := by decide +kernel
theorem dX4_readStair_24 : decode cX4_readStair 24 = .ok (.iconst 0, 1) := by decide +kernel
theorem dX4_readStair_25 : decode cX4_readStair 25 = .ok (.istore_n 1, 1) := by decide +kernel
theorem dX4_readStair_26 : decode cX4_readStair 26 = .ok (.iload_n 1, 1) := by decide +kernel
theorem dX4_readStair_27 : decode cX4_readStair 27 = .ok (.bipush 32, 2) := by decide +kernel
theorem dX4_readStair_29 : decode cX4_readStair 29 = .ok (.if_icmp .gt 77, 3) := by decide +kernel
theorem dX4_readStair_32 : decode cX4_readStair 32 = .ok (.aload_n 0, 1) := by decide +kernel
theorem dX4_readStair_33 : decode cX4_readStair 33 = .ok (.getfield 18, 3) := by decide +kernel
theorem dX4_readStair_36 : decode cX4_readStair 36 = .ok (.getfield 36, 3) := by decide +kernel
theorem dX4_readStair_39 : decode cX4_readStair 39 = .ok (.ifCond .ne 67, 3) := by decide +kernel
theorem dX4_readStair_42 : decode cX4_readStair 42 = .ok (.aload_n 0, 1) := by decide +kernel
theorem dX4_readStair_43 : decode cX4_readStair 43 = .ok (.iload_n 1, 1) := by decide +kernel
theorem dX4_readStair_44 : decode cX4_readStair 44 = .ok (.bipush 32, 2) := by decide +kernel
theorem dX4_readStair_46 : decode cX4_readStair 46 = .ok (.if_icmp .ge 7, 3) := by decide +kernel
theorem dX4_readStair_49 : decode cX4_readStair 49 = .ok (.iconst 1, 1) := by decide +kernel
theorem dX4_readStair_50 : decode cX4_readStair 50 = .ok (.goto 4, 3) := by decide +kernel
theorem dX4_readStair_53 : decode cX4_readStair 53 = .ok (.iconst 0, 1) := by decide +kernel
theorem dX4_readStair_54 : decode cX4_readStair 54 = .ok (.invokevirtual 40, 3) := by decide +kernel
theorem dX4_readStair_57 : decode cX4_readStair 57 = .ok (.aload_n 0, 1) := by decide +kernel
theorem dX4_readStair_58 : decode cX4_readStair 58 = .ok (.getfield 18, 3) := by decide +kernel
theorem dX4_readStair_61 : decode cX4_readStair 61 = .ok (.getfield 44, 3) := by decide +kernel
theorem dX4_readStair_64 : decode cX4_readStair 64 = .ok (.sipush 256, 3) := by decide +kernel
theorem dX4_readStair_67 : decode cX4_readStair 67 = .ok (.if_icmp .ne 6, 3) := by decide +kernel
theorem dX4_readStair_70 : decode cX4_readStair 70 = .ok (.goto 36, 3) := by decide +kernel
theorem dX4_readStair_73 : decode cX4_readStair 73 = .ok (.aload_n 0, 1) := by decide +kernel
theorem dX4_readStair_74 : decode cX4_readStair 74 = .ok (.getfield 18, 3) := by decide +kernel
theorem dX4_readStair_77 : decode cX4_readStair 77 = .ok (.getfield 44, 3) := by decide +kernel
theorem dX4_readStair_80 : decode cX4_readStair 80 = .ok (.bipush 59, 2) := by decide +kernel
theorem dX4_readStair_82 : decode cX4_readStair 82 = .ok (.if_icmp .eq 11, 3) := by decide +kernel
theorem dX4_readStair_85 : decode cX4_readStair 85 = .ok (.aload_n 0, 1) := by decide +kernel
theorem dX4_readStair_86 : decode cX4_readStair 86 = .ok (.getfield 18, 3) := by decide +kernel
theorem dX4_readStair_89 : decode cX4_readStair 89 = .ok (.iconst 0, 1) := by decide +kernel
theorem dX4_readStair_90 : decode cX4_readStair 90 = .ok (.invokevirtual 47, 3) := by decide +kernel
theorem dX4_readStair_93 : decode cX4_readStair 93 = .ok (.aload_n 0, 1) := by decide +kernel
theorem dX4_readStair_94 : decode cX4_readStair 94 = .ok (.getfield 18, 3) := by decide +kernel
theorem dX4_readStair_97 : decode cX4_readStair 97 = .ok (.invokevirtual 51, 3) := by decide +kernel
theorem dX4_readStair_100 : decode cX4_readStair 100 = .ok (.iinc 1 1, 3) := by decide +kernel
theorem dX4_readStair_103 : decode cX4_readStair 103 = .ok (.goto (-77), 3) := by decide +kernel
theorem dX4_readStair_106 : decode cX4_readStair 106 = .ok (.aload_n 0, 1) := by decide +kernel
theorem dX4_readStair_107 : decode cX4_readStair 107 = .ok (.getfield 22, 3) := by decide +kernel
theorem dX4_readStair_110 : decode cX4_readStair 110 = .ok (.getfield 54, 3) := by decide +kernel
theorem dX4_readStair_113 : decode cX4_readStair 113 = .ok (.iconst 2, 1) := by decide +kernel
theorem dX4_readStair_114 : decode cX4_readStair 114 = .ok (.if_icmp .ge 11, 3) := by decide +kernel
theorem dX4_readStair_117 : decode cX4_readStair 117 = .ok (.aload_n 0, 1) := by decide +kernel
theorem dX4_readStair_118 : decode cX4_readStair 118 = .ok (.getfield 18, 3) := by decide +kernel
theorem dX4_readStair_121 : decode cX4_readStair 121 = .ok (.iconst 0, 1) := by decide +kernel
theorem dX4_readStair_122 : decode cX4_readStair 122 = .ok (.invokevirtual 47, 3) := by decide +kernel
theorem dX4_readStair_125 : decode cX4_readStair 125 = .ok (.aload_n 0, 1) := by decide +kernel
theorem dX4_readStair_126 : decode cX4_readStair 126 = .ok (.getfield 18, 3) := by decide +kernel
theorem dX4_readStair_129 : decode cX4_readStair 129 = .ok (.getfield 36, 3) := by decide +kernel
theorem dX4_readStair_132 : decode cX4_readStair 132 = .ok (.ireturn, 1) := by decide +kernel
theorem dX4_readClause_0 : decode cX4_readClause 0 = .ok (.aload_n 0, 1) := by decide +kernel
theorem dX4_readClause_1 : decode cX4_readClause 1 = .ok (.getfield 22, 3) := by decide +kernel
theorem dX4_readClause_4 : decode cX4_readClause 4 = .ok (.getfield 54, 3) := by decide +kernel
theorem dX4_readClause_7 : decode cX4_readClause 7 = .ok (.iconst 2, 1) := by decide +kernel
theorem dX4_readClause_8 : decode cX4_readClause 8 = .ok (.if_icmp .lt 7, 3) := by decide +kernel
theorem dX4_readClause_11 : decode cX4_readClause 11 = .ok (.iconst 1, 1) := by decide +kernel
theorem dX4_readClause_12 : decode cX4_readClause 12 = .ok (.goto 4, 3) := by decide +kernel
theorem dX4_readClause_15 : decode cX4_readClause 15 = .ok (.iconst 0, 1) := by decide +kernel
theorem dX4_readClause_16 : decode cX4_readClause 16 = .ok (.istore_n 2, 1) := by decide +kernel
theorem dX4_readClause_17 : decode cX4_readClause 17 = .ok (.aload_n 0, 1) := by decide +kernel
theorem dX4_readClause_18 : decode cX4_readClause 18 = .ok (.getfield 18, 3) := by decide +kernel
theorem dX4_readClause_21 : decode cX4_readClause 21 = .ok (.ldc 57, 2) := by decide +kernel
theorem dX4_readClause_23 : decode cX4_readClause 23 = .ok (.invokevirtual 59, 3) := by decide +kernel
theorem dX4_readClause_26 : decode cX4_readClause 26 = .ok (.ifCond .eq 58, 3) := by decide +kernel
theorem dX4_readClause_29 : decode cX4_readClause 29 = .ok (.aload_n 0, 1) := by decide +kernel
theorem dX4_readClause_30 : decode cX4_readClause 30 = .ok (.getfield 22, 3) := by decide +kernel
theorem dX4_readClause_33 : decode cX4_readClause 33 = .ok (.getfield 63, 3) := by decide +kernel
theorem dX4_readClause_36 : decode cX4_readClause 36 = .ok (.ifCond .ne 14, 3) := by decide +kernel
theorem dX4_readClause_39 : decode cX4_readClause 39 = .ok (.aload_n 0, 1) := by decide +kernel
theorem dX4_readClause_40 : decode cX4_readClause 40 = .ok (.getfield 15, 3) := by decide +kernel
theorem dX4_readClause_43 : decode cX4_readClause 43 = .ok (.ifCond .ne 7, 3) := by decide +kernel
theorem dX4_readClause_46 : decode cX4_readClause 46 = .ok (.iconst 1, 1) := by decide +kernel
theorem dX4_readClause_47 : decode cX4_readClause 47 = .ok (.goto 4, 3) := by decide +kernel
theorem dX4_readClause_50 : decode cX4_readClause 50 = .ok (.iconst 0, 1) := by decide +kernel
theorem dX4_readClause_51 : decode cX4_readClause 51 = .ok (.istore_n 3, 1) := by decide +kernel
theorem dX4_readClause_52 : decode cX4_readClause 52 = .ok (.aload_n 0, 1) := by decide +kernel
theorem dX4_readClause_53 : decode cX4_readClause 53 = .ok (.iload_n 1, 1) := by decide +kernel
theorem dX4_readClause_54 : decode cX4_readClause 54 = .ok (.ifCond .eq 23, 3) := by decide +kernel
theorem dX4_readClause_57 : decode cX4_readClause 57 = .ok (.iload_n 3, 1) := by decide +kernel
theorem dX4_readClause_58 : decode cX4_readClause 58 = .ok (.ifCond .eq 19, 3) := by decide +kernel
theorem dX4_readClause_61 : decode cX4_readClause 61 = .ok (.aload_n 0, 1) := by decide +kernel
theorem dX4_readClause_62 : decode cX4_readClause 62 = .ok (.getfield 22, 3) := by decide +kernel
theorem dX4_readClause_65 : decode cX4_readClause 65 = .ok (.getfield 54, 3) := by decide +kernel
theorem dX4_readClause_68 : decode cX4_readClause 68 = .ok (.bipush 8, 2) := by decide +kernel
theorem dX4_readClause_70 : decode cX4_readClause 70 = .ok (.if_icmp .ge 7, 3) := by decide +kernel
theorem dX4_readClause_73 : decode cX4_readClause 73 = .ok (.iconst 1, 1) := by decide +kernel
theorem dX4_readClause_74 : decode cX4_readClause 74 = .ok (.goto 4, 3) := by decide +kernel
theorem dX4_readClause_77 : decode cX4_readClause 77 = .ok (.iconst 0, 1) := by decide +kernel
theorem dX4_readClause_78 : decode cX4_readClause 78 = .ok (.invokevirtual 66, 3) := by decide +kernel
theorem dX4_readClause_81 : decode cX4_readClause 81 = .ok (.goto 122, 3) := by decide +kernel
theorem dX4_readClause_84 : decode cX4_readClause 84 = .ok (.aload_n 0, 1) := by decide +kernel
theorem dX4_readClause_85 : decode cX4_readClause 85 = .ok (.getfield 18, 3) := by decide +kernel
theorem dX4_readClause_88 : decode cX4_readClause 88 = .ok (.ldc 69, 2) := by decide +kernel
theorem dX4_readClause_90 : decode cX4_readClause 90 = .ok (.invokevirtual 59, 3) := by decide +kernel
theorem dX4_readClause_93 : decode cX4_readClause 93 = .ok (.ifCond .eq 26, 3) := by decide +kernel
theorem dX4_readClause_96 : decode cX4_readClause 96 = .ok (.aload_n 0, 1) := by decide +kernel
theorem dX4_readClause_97 : decode cX4_readClause 97 = .ok (.iload_n 1, 1) := by decide +kernel
theorem dX4_readClause_98 : decode cX4_readClause 98 = .ok (.ifCond .eq 14, 3) := by decide +kernel
theorem dX4_readClause_101 : decode cX4_readClause 101 = .ok (.aload_n 0, 1) := by decide +kernel
theorem dX4_readClause_102 : decode cX4_readClause 102 = .ok (.getfield 9, 3) := by decide +kernel
theorem dX4_readClause_105 : decode cX4_readClause 105 = .ok (.ifCond .ne 7, 3) := by decide +kernel
theorem dX4_readClause_108 : decode cX4_readClause 108 = .ok (.iconst 1, 1) := by decide +kernel
theorem dX4_readClause_109 : decode cX4_readClause 109 = .ok (.goto 4, 3) := by decide +kernel
theorem dX4_readClause_112 : decode cX4_readClause 112 = .ok (.iconst 0, 1) := by decide +kernel
theorem dX4_readClause_113 : decode cX4_readClause 113 = .ok (.invokevirtual 71, 3) := by decide +kernel
theorem dX4_readClause_116 : decode cX4_readClause 116 = .ok (.goto 87, 3) := by decide +kernel
theorem dX4_readClause_119 : decode cX4_readClause 119 = .ok (.aload_n 0, 1) := by decide +kernel
theorem dX4_readClause_120 : decode cX4_readClause 120 = .ok (.getfield 18, 3) := by decide +kernel
theorem dX4_readClause_123 : decode cX4_readClause 123 = .ok (.ldc 74, 2) := by decide +kernel
theorem dX4_readClause_125 : decode cX4_readClause 125 = .ok (.invokevirtual 59, 3) := by decide +kernel
theorem dX4_readClause_128 : decode cX4_readClause 128 = .ok (.ifCond .eq 35, 3) := by decide +kernel
theorem dX4_readClause_131 : decode cX4_readClause 131 = .ok (.aload_n 0, 1) := by decide +kernel
theorem dX4_readClause_132 : decode cX4_readClause 132 = .ok (.iload_n 1, 1) := by decide +kernel
theorem dX4_readClause_133 : decode cX4_readClause 133 = .ok (.ifCond .eq 23, 3) := by decide +kernel
theorem dX4_readClause_136 : decode cX4_readClause 136 = .ok (.iload_n 2, 1) := by decide +kernel
theorem dX4_readClause_137 : decode cX4_readClause 137 = .ok (.ifCond .eq 19, 3) := by decide +kernel
theorem dX4_readClause_140 : decode cX4_readClause 140 = .ok (.aload_n 0, 1) := by decide +kernel
theorem dX4_readClause_141 : decode cX4_readClause 141 = .ok (.getfield 22, 3) := by decide +kernel
theorem dX4_readClause_144 : decode cX4_readClause 144 = .ok (.getfield 63, 3) := by decide +kernel
theorem dX4_readClause_147 : decode cX4_readClause 147 = .ok (.bipush 6, 2) := by decide +kernel
theorem dX4_readClause_149 : decode cX4_readClause 149 = .ok (.if_icmp .ge 7, 3) := by decide +kernel
theorem dX4_readClause_152 : decode cX4_readClause 152 = .ok (.iconst 1, 1) := by decide +kernel
theorem dX4_readClause_153 : decode cX4_readClause 153 = .ok (.goto 4, 3) := by decide +kernel
theorem dX4_readClause_156 : decode cX4_readClause 156 = .ok (.iconst 0, 1) := by decide +kernel
theorem dX4_readClause_157 : decode cX4_readClause 157 = .ok (.invokevirtual 76, 3) := by decide +kernel
theorem dX4_readClause_160 : decode cX4_readClause 160 = .ok (.goto 43, 3) := by decide +kernel
theorem dX4_readClause_163 : decode cX4_readClause 163 = .ok (.aload_n 0, 1) := by decide +kernel
theorem dX4_readClause_164 : decode cX4_readClause 164 = .ok (.getfield 18, 3) := by decide +kernel
theorem dX4_readClause_167 : decode cX4_readClause 167 = .ok (.ldc 79, 2) := by decide +kernel
theorem dX4_readClause_169 : decode cX4_readClause 169 = .ok (.invokevirtual 59, 3) := by decide +kernel
theorem dX4_readClause_172 : decode cX4_readClause 172 = .ok (.ifCond .eq 23, 3) := by decide +kernel
theorem dX4_readClause_175 : decode cX4_readClause 175 = .ok (.aload_n 0, 1) := by decide +kernel
theorem dX4_readClause_176 : decode cX4_readClause 176 = .ok (.iload_n 1, 1) := by decide +kernel
theorem dX4_readClause_177 : decode cX4_readClause 177 = .ok (.ifCond .eq 11, 3) := by decide +kernel
theorem dX4_readClause_180 : decode cX4_readClause 180 = .ok (.iload_n 2, 1) := by decide +kernel
theorem dX4_readClause_181 : decode cX4_readClause 181 = .ok (.ifCond .eq 7, 3) := by decide +kernel
theorem dX4_readClause_184 : decode cX4_readClause 184 = .ok (.iconst 1, 1) := by decide +kernel
theorem dX4_readClause_185 : decode cX4_readClause 185 = .ok (.goto 4, 3) := by decide +kernel
theorem dX4_readClause_188 : decode cX4_readClause 188 = .ok (.iconst 0, 1) := by decide +kernel
theorem dX4_readClause_189 : decode cX4_readClause 189 = .ok (.invokevirtual 81, 3) := by decide +kernel
theorem dX4_readClause_192 : decode cX4_readClause 192 = .ok (.goto 11, 3) := by decide +kernel
theorem dX4_readClause_195 : decode cX4_readClause 195 = .ok (.aload_n 0, 1) := by decide +kernel
theorem dX4_readClause_196 : decode cX4_readClause 196 = .ok (.getfield 18, 3) := by decide +kernel
theorem dX4_readClause_199 : decode cX4_readClause 199 = .ok (.iconst 0, 1) := by decide +kernel
theorem dX4_readClause_200 : decode cX4_readClause 200 = .ok (.invokevirtual 47, 3) := by decide +kernel
theorem dX4_readClause_203 : decode cX4_readClause 203 = .ok (.return_, 1) := by decide +kernel
theorem dX4_readLevel_0 : decode cX4_readLevel 0 = .ok (.iload_n 1, 1) := by decide +kernel
theorem dX4_readLevel_1 : decode cX4_readLevel 1 = .ok (.ifCond .ne 12, 3) := by decide +kernel
theorem dX4_readLevel_4 : decode cX4_readLevel 4 = .ok (.aload_n 0, 1) := by decide +kernel
theorem dX4_readLevel_5 : decode cX4_readLevel 5 = .ok (.getfield 18, 3) := by decide +kernel
theorem dX4_readLevel_8 : decode cX4_readLevel 8 = .ok (.iconst 4, 1) := by decide +kernel
theorem dX4_readLevel_9 : decode cX4_readLevel 9 = .ok (.invokevirtual 47, 3) := by decide +kernel
theorem dX4_readLevel_12 : decode cX4_readLevel 12 = .ok (.return_, 1) := by decide +kernel
theorem dX4_readLevel_13 : decode cX4_readLevel 13 = .ok (.aload_n 0, 1) := by decide +kernel
theorem dX4_readLevel_14 : decode cX4_readLevel 14 = .ok (.getfield 18, 3) := by decide +kernel
theorem dX4_readLevel_17 : decode cX4_readLevel 17 = .ok (.invokevirtual 51, 3) := by decide +kernel
theorem dX4_readLevel_20 : decode cX4_readLevel 20 = .ok (.aload_n 0, 1) := by decide +kernel
theorem dX4_readLevel_21 : decode cX4_readLevel 21 = .ok (.getfield 22, 3) := by decide +kernel
theorem dX4_readLevel_24 : decode cX4_readLevel 24 = .ok (.getfield 84, 3) := by decide +kernel
theorem dX4_readLevel_27 : decode cX4_readLevel 27 = .ok (.aload_n 0, 1) := by decide +kernel
theorem dX4_readLevel_28 : decode cX4_readLevel 28 = .ok (.getfield 22, 3) := by decide +kernel
theorem dX4_readLevel_31 : decode cX4_readLevel 31 = .ok (.getfield 54, 3) := by decide +kernel
theorem dX4_readLevel_34 : decode cX4_readLevel 34 = .ok (.aload_n 0, 1) := by decide +kernel
theorem dX4_readLevel_35 : decode cX4_readLevel 35 = .ok (.iconst 0, 1) := by decide +kernel
theorem dX4_readLevel_36 : decode cX4_readLevel 36 = .ok (.sipush 999, 3) := by decide +kernel
theorem dX4_readLevel_39 : decode cX4_readLevel 39 = .ok (.invokevirtual 88, 3) := by decide +kernel
theorem dX4_readLevel_42 : decode cX4_readLevel 42 = .ok (.iastore, 1) := by decide +kernel
theorem dX4_readLevel_43 : decode cX4_readLevel 43 = .ok (.aload_n 0, 1) := by decide +kernel
theorem dX4_readLevel_44 : decode cX4_readLevel 44 = .ok (.getfield 22, 3) := by decide +kernel
theorem dX4_readLevel_47 : decode cX4_readLevel 47 = .ok (.getfield 92, 3) := by decide +kernel
theorem dX4_readLevel_50 : decode cX4_readLevel 50 = .ok (.aload_n 0, 1) := by decide +kernel
theorem dX4_readLevel_51 : decode cX4_readLevel 51 = .ok (.getfield 22, 3) := by decide +kernel
theorem dX4_readLevel_54 : decode cX4_readLevel 54 = .ok (.getfield 54, 3) := by decide +kernel
theorem dX4_readLevel_57 : decode cX4_readLevel 57 = .ok (.aload_n 0, 1) := by decide +kernel
theorem dX4_readLevel_58 : decode cX4_readLevel 58 = .ok (.iconst 1, 1) := by decide +kernel
theorem dX4_readLevel_59 : decode cX4_readLevel 59 = .ok (.bipush 8, 2) := by decide +kernel
theorem dX4_readLevel_61 : decode cX4_readLevel 61 = .ok (.invokevirtual 88, 3) := by decide +kernel
theorem dX4_readLevel_64 : decode cX4_readLevel 64 = .ok (.iastore, 1) := by decide +kernel
theorem dX4_readLevel_65 : decode cX4_readLevel 65 = .ok (.aload_n 0, 1) := by decide +kernel
theorem dX4_readLevel_66 : decode cX4_readLevel 66 = .ok (.getfield 22, 3) := by decide +kernel
theorem dX4_readLevel_69 : decode cX4_readLevel 69 = .ok (.dup, 1) := by decide +kernel
theorem dX4_readLevel_70 : decode cX4_readLevel 70 = .ok (.getfield 54, 3) := by decide +kernel
theorem dX4_readLevel_73 : decode cX4_readLevel 73 = .ok (.iconst 1, 1) := by decide +kernel
theorem dX4_readLevel_74 : decode cX4_readLevel 74 = .ok (.iadd, 1) := by decide +kernel
theorem dX4_readLevel_75 : decode cX4_readLevel 75 = .ok (.putfield 54, 3) := by decide +kernel
theorem dX4_readLevel_78 : decode cX4_readLevel 78 = .ok (.return_, 1) := by decide +kernel
theorem dX4_readLag_0 : decode cX4_readLag 0 = .ok (.iload_n 1, 1) := by decide +kernel
theorem dX4_readLag_1 : decode cX4_readLag 1 = .ok (.ifCond .ne 12, 3) := by decide +kernel
theorem dX4_readLag_4 : decode cX4_readLag 4 = .ok (.aload_n 0, 1) := by decide +kernel
theorem dX4_readLag_5 : decode cX4_readLag 5 = .ok (.getfield 18, 3) := by decide +kernel
theorem dX4_readLag_8 : decode cX4_readLag 8 = .ok (.iconst 4, 1) := by decide +kernel
theorem dX4_readLag_9 : decode cX4_readLag 9 = .ok (.invokevirtual 47, 3) := by decide +kernel
theorem dX4_readLag_12 : decode cX4_readLag 12 = .ok (.return_, 1) := by decide +kernel
theorem dX4_readLag_13 : decode cX4_readLag 13 = .ok (.aload_n 0, 1) := by decide +kernel
theorem dX4_readLag_14 : decode cX4_readLag 14 = .ok (.getfield 18, 3) := by decide +kernel
theorem dX4_readLag_17 : decode cX4_readLag 17 = .ok (.invokevirtual 51, 3) := by decide +kernel
theorem dX4_readLag_20 : decode cX4_readLag 20 = .ok (.aload_n 0, 1) := by decide +kernel
theorem dX4_readLag_21 : decode cX4_readLag 21 = .ok (.iconst 1, 1) := by decide +kernel
theorem dX4_readLag_22 : decode cX4_readLag 22 = .ok (.putfield 9, 3) := by decide +kernel
theorem dX4_readLag_25 : decode cX4_readLag 25 = .ok (.aload_n 0, 1) := by decide +kernel
theorem dX4_readLag_26 : decode cX4_readLag 26 = .ok (.getfield 22, 3) := by decide +kernel
theorem dX4_readLag_29 : decode cX4_readLag 29 = .ok (.aload_n 0, 1) := by decide +kernel
theorem dX4_readLag_30 : decode cX4_readLag 30 = .ok (.iconst 0, 1) := by decide +kernel
theorem dX4_readLag_31 : decode cX4_readLag 31 = .ok (.bipush 20, 2) := by decide +kernel
theorem dX4_readLag_33 : decode cX4_readLag 33 = .ok (.invokevirtual 88, 3) := by decide +kernel
theorem dX4_readLag_36 : decode cX4_readLag 36 = .ok (.putfield 95, 3) := by decide +kernel
theorem dX4_readLag_39 : decode cX4_readLag 39 = .ok (.return_, 1) := by decide +kernel
theorem dX4_readBarge_0 : decode cX4_readBarge 0 = .ok (.iload_n 1, 1) := by decide +kernel
theorem dX4_readBarge_1 : decode cX4_readBarge 1 = .ok (.ifCond .ne 12, 3) := by decide +kernel
theorem dX4_readBarge_4 : decode cX4_readBarge 4 = .ok (.aload_n 0, 1) := by decide +kernel
theorem dX4_readBarge_5 : decode cX4_readBarge 5 = .ok (.getfield 18, 3) := by decide +kernel
theorem dX4_readBarge_8 : decode cX4_readBarge 8 = .ok (.iconst 4, 1) := by decide +kernel
theorem dX4_readBarge_9 : decode cX4_readBarge 9 = .ok (.invokevirtual 47, 3) := by decide +kernel
theorem dX4_readBarge_12 : decode cX4_readBarge 12 = .ok (.return_, 1) := by decide +kernel
theorem dX4_readBarge_13 : decode cX4_readBarge 13 = .ok (.aload_n 0, 1) := by decide +kernel
theorem dX4_readBarge_14 : decode cX4_readBarge 14 = .ok (.getfield 18, 3) := by decide +kernel
theorem dX4_readBarge_17 : decode cX4_readBarge 17 = .ok (.invokevirtual 51, 3) := by decide +kernel
theorem dX4_readBarge_20 : decode cX4_readBarge 20 = .ok (.aload_n 0, 1) := by decide +kernel
theorem dX4_readBarge_21 : decode cX4_readBarge 21 = .ok (.getfield 22, 3) := by decide +kernel
theorem dX4_readBarge_24 : decode cX4_readBarge 24 = .ok (.getfield 63, 3) := by decide +kernel
theorem dX4_readBarge_27 : decode cX4_readBarge 27 = .ok (.istore_n 2, 1) := by decide +kernel
theorem dX4_readBarge_28 : decode cX4_readBarge 28 = .ok (.aload_n 0, 1) := by decide +kernel
theorem dX4_readBarge_29 : decode cX4_readBarge 29 = .ok (.getfield 22, 3) := by decide +kernel
theorem dX4_readBarge_32 : decode cX4_readBarge 32 = .ok (.getfield 97, 3) := by decide +kernel
theorem dX4_readBarge_35 : decode cX4_readBarge 35 = .ok (.iload_n 2, 1) := by decide +kernel
theorem dX4_readBarge_36 : decode cX4_readBarge 36 = .ok (.aload_n 0, 1) := by decide +kernel
theorem dX4_readBarge_37 : decode cX4_readBarge 37 = .ok (.iconst 1, 1) := by decide +kernel
theorem dX4_readBarge_38 : decode cX4_readBarge 38 = .ok (.bipush 99, 2) := by decide +kernel
theorem dX4_readBarge_40 : decode cX4_readBarge 40 = .ok (.invokevirtual 88, 3) := by decide +kernel
theorem dX4_readBarge_43 : decode cX4_readBarge 43 = .ok (.iastore, 1) := by decide +kernel
theorem dX4_readBarge_44 : decode cX4_readBarge 44 = .ok (.aload_n 0, 1) := by decide +kernel
theorem dX4_readBarge_45 : decode cX4_readBarge 45 = .ok (.getfield 22, 3) := by decide +kernel
theorem dX4_readBarge_48 : decode cX4_readBarge 48 = .ok (.getfield 100, 3) := by decide +kernel
theorem dX4_readBarge_51 : decode cX4_readBarge 51 = .ok (.iload_n 2, 1) := by decide +kernel
theorem dX4_readBarge_52 : decode cX4_readBarge 52 = .ok (.aload_n 0, 1) := by decide +kernel
theorem dX4_readBarge_53 : decode cX4_readBarge 53 = .ok (.iconst 0, 1) := by decide +kernel
theorem dX4_readBarge_54 : decode cX4_readBarge 54 = .ok (.iconst 1, 1) := by decide +kernel
theorem dX4_readBarge_55 : decode cX4_readBarge 55 = .ok (.invokevirtual 88, 3) := by decide +kernel
theorem dX4_readBarge_58 : decode cX4_readBarge 58 = .ok (.iastore, 1) := by decide +kernel
theorem dX4_readBarge_59 : decode cX4_readBarge 59 = .ok (.aload_n 0, 1) := by decide +kernel
theorem dX4_readBarge_60 : decode cX4_readBarge 60 = .ok (.getfield 22, 3) := by decide +kernel
theorem dX4_readBarge_63 : decode cX4_readBarge 63 = .ok (.getfield 103, 3) := by decide +kernel
theorem dX4_readBarge_66 : decode cX4_readBarge 66 = .ok (.iload_n 2, 1) := by decide +kernel
theorem dX4_readBarge_67 : decode cX4_readBarge 67 = .ok (.aload_n 0, 1) := by decide +kernel
theorem dX4_readBarge_68 : decode cX4_readBarge 68 = .ok (.iconst 0, 1) := by decide +kernel
theorem dX4_readBarge_69 : decode cX4_readBarge 69 = .ok (.iconst 1, 1) := by decide +kernel
theorem dX4_readBarge_70 : decode cX4_readBarge 70 = .ok (.invokevirtual 88, 3) := by decide +kernel
theorem dX4_readBarge_73 : decode cX4_readBarge 73 = .ok (.iastore, 1) := by decide +kernel
theorem dX4_readBarge_74 : decode cX4_readBarge 74 = .ok (.aload_n 0, 1) := by decide +kernel
theorem dX4_readBarge_75 : decode cX4_readBarge 75 = .ok (.getfield 22, 3) := by decide +kernel
theorem dX4_readBarge_78 : decode cX4_readBarge 78 = .ok (.getfield 106, 3) := by decide +kernel
theorem dX4_readBarge_81 : decode cX4_readBarge 81 = .ok (.iload_n 2, 1) := by decide +kernel
theorem dX4_readBarge_82 : decode cX4_readBarge 82 = .ok (.aload_n 0, 1) := by decide +kernel
theorem dX4_readBarge_83 : decode cX4_readBarge 83 = .ok (.iconst 0, 1) := by decide +kernel
theorem dX4_readBarge_84 : decode cX4_readBarge 84 = .ok (.sipush 999, 3) := by decide +kernel
theorem dX4_readBarge_87 : decode cX4_readBarge 87 = .ok (.invokevirtual 88, 3) := by decide +kernel
theorem dX4_readBarge_90 : decode cX4_readBarge 90 = .ok (.iastore, 1) := by decide +kernel
theorem dX4_readBarge_91 : decode cX4_readBarge 91 = .ok (.aload_n 0, 1) := by decide +kernel
theorem dX4_readBarge_92 : decode cX4_readBarge 92 = .ok (.getfield 22, 3) := by decide +kernel
theorem dX4_readBarge_95 : decode cX4_readBarge 95 = .ok (.dup, 1) := by decide +kernel
theorem dX4_readBarge_96 : decode cX4_readBarge 96 = .ok (.getfield 63, 3) := by decide +kernel
theorem dX4_readBarge_99 : decode cX4_readBarge 99 = .ok (.iconst 1, 1) := by decide +kernel
theorem dX4_readBarge_100 : decode cX4_readBarge 100 = .ok (.iadd, 1) := by decide +kernel
theorem dX4_readBarge_101 : decode cX4_readBarge 101 = .ok (.putfield 63, 3) := by decide +kernel
theorem dX4_readBarge_104 : decode cX4_readBarge 104 = .ok (.aload_n 0, 1) := by decide +kernel
theorem dX4_readBarge_105 : decode cX4_readBarge 105 = .ok (.getfield 22, 3) := by decide +kernel
theorem dX4_readBarge_108 : decode cX4_readBarge 108 = .ok (.iload_n 2, 1) := by decide +kernel
theorem dX4_readBarge_109 : decode cX4_readBarge 109 = .ok (.invokevirtual 109, 3) := by decide +kernel
theorem dX4_readBarge_112 : decode cX4_readBarge 112 = .ok (.return_, 1) := by decide +kernel
theorem dX4_readBroken_0 : decode cX4_readBroken 0 = .ok (.iload_n 1, 1) := by decide +kernel
theorem dX4_readBroken_1 : decode cX4_readBroken 1 = .ok (.ifCond .ne 12, 3) := by decide +kernel
theorem dX4_readBroken_4 : decode cX4_readBroken 4 = .ok (.aload_n 0, 1) := by decide +kernel
theorem dX4_readBroken_5 : decode cX4_readBroken 5 = .ok (.getfield 18, 3) := by decide +kernel
theorem dX4_readBroken_8 : decode cX4_readBroken 8 = .ok (.iconst 4, 1) := by decide +kernel
theorem dX4_readBroken_9 : decode cX4_readBroken 9 = .ok (.invokevirtual 47, 3) := by decide +kernel
theorem dX4_readBroken_12 : decode cX4_readBroken 12 = .ok (.return_, 1) := by decide +kernel
theorem dX4_readBroken_13 : decode cX4_readBroken 13 = .ok (.aload_n 0, 1) := by decide +kernel
theorem dX4_readBroken_14 : decode cX4_readBroken 14 = .ok (.getfield 18, 3) := by decide +kernel
theorem dX4_readBroken_17 : decode cX4_readBroken 17 = .ok (.invokevirtual 51, 3) := by decide +kernel
theorem dX4_readBroken_20 : decode cX4_readBroken 20 = .ok (.aload_n 0, 1) := by decide +kernel
theorem dX4_readBroken_21 : decode cX4_readBroken 21 = .ok (.iconst 1, 1) := by decide +kernel
theorem dX4_readBroken_22 : decode cX4_readBroken 22 = .ok (.putfield 15, 3) := by decide +kernel
theorem dX4_readBroken_25 : decode cX4_readBroken 25 = .ok (.aload_n 0, 1) := by decide +kernel
theorem dX4_readBroken_26 : decode cX4_readBroken 26 = .ok (.iconst 0, 1) := by decide +kernel
theorem dX4_readBroken_27 : decode cX4_readBroken 27 = .ok (.aload_n 0, 1) := by decide +kernel
theorem dX4_readBroken_28 : decode cX4_readBroken 28 = .ok (.getfield 22, 3) := by decide +kernel
theorem dX4_readBroken_31 : decode cX4_readBroken 31 = .ok (.getfield 54, 3) := by decide +kernel
theorem dX4_readBroken_34 : decode cX4_readBroken 34 = .ok (.iconst 2, 1) := by decide +kernel
theorem dX4_readBroken_35 : decode cX4_readBroken 35 = .ok (.isub, 1) := by decide +kernel
theorem dX4_readBroken_36 : decode cX4_readBroken 36 = .ok (.invokevirtual 88, 3) := by decide +kernel
theorem dX4_readBroken_39 : decode cX4_readBroken 39 = .ok (.istore_n 2, 1) := by decide +kernel
theorem dX4_readBroken_40 : decode cX4_readBroken 40 = .ok (.aload_n 0, 1) := by decide +kernel
theorem dX4_readBroken_41 : decode cX4_readBroken 41 = .ok (.getfield 22, 3) := by decide +kernel
theorem dX4_readBroken_44 : decode cX4_readBroken 44 = .ok (.getfield 112, 3) := by decide +kernel
theorem dX4_readBroken_47 : decode cX4_readBroken 47 = .ok (.iload_n 2, 1) := by decide +kernel
theorem dX4_readBroken_48 : decode cX4_readBroken 48 = .ok (.iconst 0, 1) := by decide +kernel
theorem dX4_readBroken_49 : decode cX4_readBroken 49 = .ok (.iastore, 1) := by decide +kernel
theorem dX4_readBroken_50 : decode cX4_readBroken 50 = .ok (.return_, 1) := by decide +kernel
theorem dX4_readNumber_0 : decode cX4_readNumber 0 = .ok (.aload_n 0, 1) := by decide +kernel
theorem dX4_readNumber_1 : decode cX4_readNumber 1 = .ok (.getfield 18, 3) := by decide +kernel
theorem dX4_readNumber_4 : decode cX4_readNumber 4 = .ok (.getfield 44, 3) := by decide +kernel
theorem dX4_readNumber_7 : decode cX4_readNumber 7 = .ok (.sipush 257, 3) := by decide +kernel
theorem dX4_readNumber_10 : decode cX4_readNumber 10 = .ok (.if_icmp .eq 13, 3) := by decide +kernel
theorem dX4_readNumber_13 : decode cX4_readNumber 13 = .ok (.aload_n 0, 1) := by decide +kernel
theorem dX4_readNumber_14 : decode cX4_readNumber 14 = .ok (.getfield 18, 3) := by decide +kernel
theorem dX4_readNumber_17 : decode cX4_readNumber 17 = .ok (.iconst 0, 1) := by decide +kernel
theorem dX4_readNumber_18 : decode cX4_readNumber 18 = .ok (.invokevirtual 47, 3) := by decide +kernel
theorem dX4_readNumber_21 : decode cX4_readNumber 21 = .ok (.iload_n 1, 1) := by decide +kernel
theorem dX4_readNumber_22 : decode cX4_readNumber 22 = .ok (.ireturn, 1) := by decide +kernel
theorem dX4_readNumber_23 : decode cX4_readNumber 23 = .ok (.aload_n 0, 1) := by decide +kernel
theorem dX4_readNumber_24 : decode cX4_readNumber 24 = .ok (.getfield 18, 3) := by decide +kernel
theorem dX4_readNumber_27 : decode cX4_readNumber 27 = .ok (.getfield 115, 3) := by decide +kernel
theorem dX4_readNumber_30 : decode cX4_readNumber 30 = .ok (.istore_n 3, 1) := by decide +kernel
theorem dX4_readNumber_31 : decode cX4_readNumber 31 = .ok (.iload_n 3, 1) := by decide +kernel
theorem dX4_readNumber_32 : decode cX4_readNumber 32 = .ok (.iload_n 1, 1) := by decide +kernel
theorem dX4_readNumber_33 : decode cX4_readNumber 33 = .ok (.if_icmp .lt 8, 3) := by decide +kernel
theorem dX4_readNumber_36 : decode cX4_readNumber 36 = .ok (.iload_n 3, 1) := by decide +kernel
theorem dX4_readNumber_37 : decode cX4_readNumber 37 = .ok (.iload_n 2, 1) := by decide +kernel
theorem dX4_readNumber_38 : decode cX4_readNumber 38 = .ok (.if_icmp .le 13, 3) := by decide +kernel
theorem dX4_readNumber_41 : decode cX4_readNumber 41 = .ok (.aload_n 0, 1) := by decide +kernel
theorem dX4_readNumber_42 : decode cX4_readNumber 42 = .ok (.getfield 18, 3) := by decide +kernel
theorem dX4_readNumber_45 : decode cX4_readNumber 45 = .ok (.iconst 1, 1) := by decide +kernel
theorem dX4_readNumber_46 : decode cX4_readNumber 46 = .ok (.invokevirtual 47, 3) := by decide +kernel
theorem dX4_readNumber_49 : decode cX4_readNumber 49 = .ok (.iload_n 1, 1) := by decide +kernel
theorem dX4_readNumber_50 : decode cX4_readNumber 50 = .ok (.ireturn, 1) := by decide +kernel
theorem dX4_readNumber_51 : decode cX4_readNumber 51 = .ok (.aload_n 0, 1) := by decide +kernel
theorem dX4_readNumber_52 : decode cX4_readNumber 52 = .ok (.getfield 18, 3) := by decide +kernel
theorem dX4_readNumber_55 : decode cX4_readNumber 55 = .ok (.invokevirtual 51, 3) := by decide +kernel
theorem dX4_readNumber_58 : decode cX4_readNumber 58 = .ok (.iload_n 3, 1) := by decide +kernel
theorem dX4_readNumber_59 : decode cX4_readNumber 59 = .ok (.ireturn, 1) := by decide +kernel
