theorem dX5_init_0 : decode cX5_init 0 = .ok (.aload_n 0, 1) := by decide +kernel
theorem dX5_init_1 : decode cX5_init 1 = .ok (.invokespecial 3, 3) := by decide +kernel
theorem dX5_init_4 : decode cX5_init 4 = .ok (.aload_n 0, 1) := by decide +kernel
theorem dX5_init_5 : decode cX5_init 5 = .ok (.iconst 0, 1) := by decide +kernel
theorem dX5_init_6 : decode cX5_init 6 = .ok (.putfield 9, 3) := by decide +kernel
theorem dX5_init_9 : decode cX5_init 9 = .ok (.aload_n 0, 1) := by decide +kernel
theorem dX5_init_10 : decode cX5_init 10 = .ok (.iconst 0, 1) := by decide +kernel
theorem dX5_init_11 : decode cX5_init 11 = .ok (.putfield 15, 3) := by decide +kernel
theorem dX5_init_14 : decode cX5_init 14 = .ok (.aload_n 0, 1) := by decide +kernel
theorem dX5_init_15 : decode cX5_init 15 = .ok (.iconst 0, 1) := by decide +kernel
theorem dX5_init_16 : decode cX5_init 16 = .ok (.putfield 18, 3) := by decide +kernel
theorem dX5_init_19 : decode cX5_init 19 = .ok (.aload_n 0, 1) := by decide +kernel
theorem dX5_init_20 : decode cX5_init 20 = .ok (.iconst 0, 1) := by decide +kernel
theorem dX5_init_21 : decode cX5_init 21 = .ok (.putfield 21, 3) := by decide +kernel
theorem dX5_init_24 : decode cX5_init 24 = .ok (.aload_n 0, 1) := by decide +kernel
theorem dX5_init_25 : decode cX5_init 25 = .ok (.iconst 0, 1) := by decide +kernel
theorem dX5_init_26 : decode cX5_init 26 = .ok (.putfield 24, 3) := by decide +kernel
theorem dX5_init_29 : decode cX5_init 29 = .ok (.aload_n 0, 1) := by decide +kernel
theorem dX5_init_30 : decode cX5_init 30 = .ok (.iconst (-1), 1) := by decide +kernel
theorem dX5_init_31 : decode cX5_init 31 = .ok (.putfield 27, 3) := by decide +kernel
theorem dX5_init_34 : decode cX5_init 34 = .ok (.aload_n 0, 1) := by decide +kernel
theorem dX5_init_35 : decode cX5_init 35 = .ok (.iconst 0, 1) := by decide +kernel
theorem dX5_init_36 : decode cX5_init 36 = .ok (.putfield 30, 3) := by decide +kernel
theorem dX5_init_39 : decode cX5_init 39 = .ok (.aload_n 0, 1) := by decide +kernel
theorem dX5_init_40 : decode cX5_init 40 = .ok (.iconst 0, 1) := by decide +kernel
theorem dX5_init_41 : decode cX5_init 41 = .ok (.putfield 33, 3) := by decide +kernel
theorem dX5_init_44 : decode cX5_init 44 = .ok (.aload_n 0, 1) := by decide +kernel
theorem dX5_init_45 : decode cX5_init 45 = .ok (.bipush 8, 2) := by decide +kernel
theorem dX5_init_47 : decode cX5_init 47 = .ok (.newarray .int, 2) := by decide +kernel
theorem dX5_init_49 : decode cX5_init 49 = .ok (.putfield 36, 3) := by decide +kernel
theorem dX5_init_52 : decode cX5_init 52 = .ok (.aload_n 0, 1) := by decide +kernel
theorem dX5_init_53 : decode cX5_init 53 = .ok (.bipush 8, 2) := by decide +kernel
theorem dX5_init_55 : decode cX5_init 55 = .ok (.newarray .int, 2) := by decide +kernel
theorem dX5_init_57 : decode cX5_init 57 = .ok (.putfield 40, 3) := by decide +kernel
theorem dX5_init_60 : decode cX5_init 60 = .ok (.aload_n 0, 1) := by decide +kernel
theorem dX5_init_61 : decode cX5_init 61 = .ok (.bipush 8, 2) := by decide +kernel
theorem dX5_init_63 : decode cX5_init 63 = .ok (.newarray .int, 2) := by decide +kernel
theorem dX5_init_65 : decode cX5_init 65 = .ok (.putfield 43, 3) := by decide +kernel
theorem dX5_init_68 : decode cX5_init 68 = .ok (.aload_n 0, 1) := by decide +kernel
theorem dX5_init_69 : decode cX5_init 69 = .ok (.bipush 8, 2) := by decide +kernel
theorem dX5_init_71 : decode cX5_init 71 = .ok (.newarray .int, 2) := by decide +kernel
theorem dX5_init_73 : decode cX5_init 73 = .ok (.putfield 46, 3) := by decide +kernel
theorem dX5_init_76 : decode cX5_init 76 = .ok (.aload_n 0, 1) := by decide +kernel
theorem dX5_init_77 : decode cX5_init 77 = .ok (.bipush 6, 2) := by decide +kernel
theorem dX5_init_79 : decode cX5_init 79 = .ok (.newarray .int, 2) := by decide +kernel
theorem dX5_init_81 : decode cX5_init 81 = .ok (.putfield 49, 3) := by decide +kernel
theorem dX5_init_84 : decode cX5_init 84 = .ok (.aload_n 0, 1) := by decide +kernel
theorem dX5_init_85 : decode cX5_init 85 = .ok (.bipush 6, 2) := by decide +kernel
theorem dX5_init_87 : decode cX5_init 87 = .ok (.newarray .int, 2) := by decide +kernel
theorem dX5_init_89 : decode cX5_init 89 = .ok (.putfield 52, 3) := by decide +kernel
theorem dX5_init_92 : decode cX5_init 92 = .ok (.aload_n 0, 1) := by decide +kernel
theorem dX5_init_93 : decode cX5_init 93 = .ok (.bipush 6, 2) := by decide +kernel
theorem dX5_init_95 : decode cX5_init 95 = .ok (.newarray .int, 2) := by decide +kernel
theorem dX5_init_97 : decode cX5_init 97 = .ok (.putfield 55, 3) := by decide +kernel
theorem dX5_init_100 : decode cX5_init 100 = .ok (.aload_n 0, 1) := by decide +kernel
theorem dX5_init_101 : decode cX5_init 101 = .ok (.bipush 6, 2) := by decide +kernel
theorem dX5_init_103 : decode cX5_init 103 = .ok (.newarray .int, 2) := by decide +kernel
theorem dX5_init_105 : decode cX5_init 105 = .ok (.putfield 58, 3) := by decide +kernel
theorem dX5_init_108 : decode cX5_init 108 = .ok (.aload_n 0, 1) := by decide +kernel
theorem dX5_init_109 : decode cX5_init 109 = .ok (.bipush 6, 2) := by decide +kernel
theorem dX5_init_111 : decode cX5_init 111 = .ok (.newarray .int, 2) := by decide +kernel
theorem dX5_init_113 : decode cX5_init 113 = .ok (.putfield 61, 3) := by decide +kernel
theorem dX5_init_116 : decode cX5_init 116 = .ok (.aload_n 0, 1) := by decide +kernel
theorem dX5_init_117 : decode cX5_init 117 = .ok (.bipush 10, 2) := by decide +kernel
theorem dX5_init_119 : decode cX5_init 119 = .ok (.newarray .int, 2) := by decide +kernel
theorem dX5_init_121 : decode cX5_init 121 = .ok (.putfield 64, 3) := by decide +kernel
theorem dX5_init_124 : decode cX5_init 124 = .ok (.aload_n 0, 1) := by decide +kernel
theorem dX5_init_125 : decode cX5_init 125 = .ok (.bipush 16, 2) := by decide +kernel
theorem dX5_init_127 : decode cX5_init 127 = .ok (.newarray .int, 2) := by decide +kernel
theorem dX5_init_129 : decode cX5_init 129 = .ok (.putfield 67, 3) := by decide +kernel
theorem dX5_init_132 : decode cX5_init 132 = .ok (.return_, 1) := by decide +kernel
theorem dX5_tipOf_0 : decode cX5_tipOf 0 = .ok (.iload_n 0, 1) := by decide +kernel
theorem dX5_tipOf_1 : decode cX5_tipOf 1 = .ok (.bipush 49, 2) := by decide +kernel
theorem dX5_tipOf_3 : decode cX5_tipOf 3 = .ok (.imul, 1) := by decide +kernel
theorem dX5_tipOf_4 : decode cX5_tipOf 4 = .ok (.iload_n 1, 1) := by decide +kernel
theorem dX5_tipOf_5 : decode cX5_tipOf 5 = .ok (.iconst 1, 1) := by decide +kernel
theorem dX5_tipOf_6 : decode cX5_tipOf 6 = .ok (.iadd, 1) := by decide +kernel
theorem dX5_tipOf_7 : decode cX5_tipOf 7 = .ok (.bipush 7, 2) := by decide +kernel
theorem dX5_tipOf_9 : decode cX5_tipOf 9 = .ok (.imul, 1) := by decide +kernel
theorem dX5_tipOf_10 : decode cX5_tipOf 10 = .ok (.iadd, 1) := by decide +kernel
theorem dX5_tipOf_11 : decode cX5_tipOf 11 = .ok (.iload_n 2, 1) := by decide +kernel
theorem dX5_tipOf_12 : decode cX5_tipOf 12 = .ok (.iadd, 1) := by decide +kernel
theorem dX5_tipOf_13 : decode cX5_tipOf 13 = .ok (.iconst 1, 1) := by decide +kernel
theorem dX5_tipOf_14 : decode cX5_tipOf 14 = .ok (.iadd, 1) := by decide +kernel
theorem dX5_tipOf_15 : decode cX5_tipOf 15 = .ok (.ireturn, 1) := by decide +kernel
theorem dX5_stepOf_0 : decode cX5_stepOf 0 = .ok (.iload_n 0, 1) := by decide +kernel
theorem dX5_stepOf_1 : decode cX5_stepOf 1 = .ok (.bipush 49, 2) := by decide +kernel
theorem dX5_stepOf_3 : decode cX5_stepOf 3 = .ok (.idiv, 1) := by decide +kernel
theorem dX5_stepOf_4 : decode cX5_stepOf 4 = .ok (.ireturn, 1) := by decide +kernel
theorem dX5_downOf_0 : decode cX5_downOf 0 = .ok (.iload_n 0, 1) := by decide +kernel
theorem dX5_downOf_1 : decode cX5_downOf 1 = .ok (.bipush 49, 2) := by decide +kernel
theorem dX5_downOf_3 : decode cX5_downOf 3 = .ok (.irem, 1) := by decide +kernel
theorem dX5_downOf_4 : decode cX5_downOf 4 = .ok (.bipush 7, 2) := by decide +kernel
theorem dX5_downOf_6 : decode cX5_downOf 6 = .ok (.idiv, 1) := by decide +kernel
theorem dX5_downOf_7 : decode cX5_downOf 7 = .ok (.iconst 1, 1) := by decide +kernel
theorem dX5_downOf_8 : decode cX5_downOf 8 = .ok (.isub, 1) := by decide +kernel
theorem dX5_downOf_9 : decode cX5_downOf 9 = .ok (.ireturn, 1) := by decide +kernel
theorem dX5_upOf_0 : decode cX5_upOf 0 = .ok (.iload_n 0, 1) := by decide +kernel
theorem dX5_upOf_1 : decode cX5_upOf 1 = .ok (.bipush 7, 2) := by decide +kernel
theorem dX5_upOf_3 : decode cX5_upOf 3 = .ok (.irem, 1) := by decide +kernel
theorem dX5_upOf_4 : decode cX5_upOf 4 = .ok (.iconst 1, 1) := by decide +kernel
theorem dX5_upOf_5 : decode cX5_upOf 5 = .ok (.isub, 1) := by decide +kernel
theorem dX5_upOf_6 : decode cX5_upOf 6 = .ok (.ireturn, 1) := by decide +kernel
theorem dX5_partOf_0 : decode cX5_partOf 0 = .ok (.iload_n 1, 1) := by decide +kernel
theorem dX5_partOf_1 : decode cX5_partOf 1 = .ok (.ifCond .ne 8, 3) := by decide +kernel
theorem dX5_partOf_4 : decode cX5_partOf 4 = .ok (.iload_n 0, 1) := by decide +kernel
theorem dX5_partOf_5 : decode cX5_partOf 5 = .ok (.invokestatic 70, 3) := by decide +kernel
theorem dX5_partOf_8 : decode cX5_partOf 8 = .ok (.ireturn, 1) := by decide +kernel
theorem dX5_partOf_9 : decode cX5_partOf 9 = .ok (.iload_n 1, 1) := by decide +kernel
theorem dX5_partOf_10 : decode cX5_partOf 10 = .ok (.iconst 1, 1) := by decide +kernel
theorem dX5_partOf_11 : decode cX5_partOf 11 = .ok (.if_icmp .ne 10, 3) := by decide +kernel
theorem dX5_partOf_14 : decode cX5_partOf 14 = .ok (.iload_n 0, 1) := by decide +kernel
theorem dX5_partOf_15 : decode cX5_partOf 15 = .ok (.invokestatic 74, 3) := by decide +kernel
theorem dX5_partOf_18 : decode cX5_partOf 18 = .ok (.goto 7, 3) := by decide +kernel
theorem dX5_partOf_21 : decode cX5_partOf 21 = .ok (.iload_n 0, 1) := by decide +kernel
theorem dX5_partOf_22 : decode cX5_partOf 22 = .ok (.invokestatic 77, 3) := by decide +kernel
theorem dX5_partOf_25 : decode cX5_partOf 25 = .ok (.ireturn, 1) := by decide +kernel
theorem dX5_clear_0 : decode cX5_clear 0 = .ok (.aload_n 0, 1) := by decide +kernel
theorem dX5_clear_1 : decode cX5_clear 1 = .ok (.iconst 0, 1) := by decide +kernel
theorem dX5_clear_2 : decode cX5_clear 2 = .ok (.putfield 9, 3) := by decide +kernel
theorem dX5_clear_5 : decode cX5_clear 5 = .ok (.aload_n 0, 1) := by decide +kernel
theorem dX5_clear_6 : decode cX5_clear 6 = .ok (.iconst 0, 1) := by decide +kernel
theorem dX5_clear_7 : decode cX5_clear 7 = .ok (.putfield 15, 3) := by decide +kernel
theorem dX5_clear_10 : decode cX5_clear 10 = .ok (.aload_n 0, 1) := by decide +kernel
theorem dX5_clear_11 : decode cX5_clear 11 = .ok (.iconst 0, 1) := by decide +kernel
theorem dX5_clear_12 : decode cX5_clear 12 = .ok (.putfield 18, 3) := by decide +kernel
theorem dX5_clear_15 : decode cX5_clear 15 = .ok (.aload_n 0, 1) := by decide +kernel
theorem dX5_clear_16 : decode cX5_clear 16 = .ok (.iconst 0, 1) := by decide +kernel
theorem dX5_clear_17 : decode cX5_clear 17 = .ok (.putfield 21, 3) := by decide +kernel
theorem dX5_clear_20 : decode cX5_clear 20 = .ok (.aload_n 0, 1) := by decide +kernel
theorem dX5_clear_21 : decode cX5_clear 21 = .ok (.iconst 0, 1) := by decide +kernel
theorem dX5_clear_22 : decode cX5_clear 22 = .ok (.putfield 24, 3) := by decide +kernel
theorem dX5_clear_25 : decode cX5_clear 25 = .ok (.aload_n 0, 1) := by decide +kernel
theorem dX5_clear_26 : decode cX5_clear 26 = .ok (.iconst 0, 1) := by decide +kernel
theorem dX5_clear_27 : decode cX5_clear 27 = .ok (.putfield 33, 3) := by decide +kernel
theorem dX5_clear_30 : decode cX5_clear 30 = .ok (.aload_n 0, 1) := by decide +kernel
theorem dX5_clear_31 : decode cX5_clear 31 = .ok (.getfield 43, 3) := by decide +kernel
theorem dX5_clear_34 : decode cX5_clear 34 = .ok (.iconst 1, 1) := by decide +kernel
theorem dX5_clear_35 : decode cX5_clear 35 = .ok (.invokestatic 80, 3) := by decide +kernel
theorem dX5_clear_38 : decode cX5_clear 38 = .ok (.aload_n 0, 1) := by decide +kernel
theorem dX5_clear_39 : decode cX5_clear 39 = .ok (.getfield 46, 3) := by decide +kernel
theorem dX5_clear_42 : decode cX5_clear 42 = .ok (.iconst (-1), 1) := by decide +kernel
theorem dX5_clear_43 : decode cX5_clear 43 = .ok (.invokestatic 80, 3) := by decide +kernel
theorem dX5_clear_46 : decode cX5_clear 46 = .ok (.return_, 1) := by decide +kernel
theorem dX5_copyFrom_0 : decode cX5_copyFrom 0 = .ok (.aload_n 0, 1) := by decide +kernel
theorem dX5_copyFrom_1 : decode cX5_copyFrom 1 = .ok (.aload_n 1, 1) := by decide +kernel
theorem dX5_copyFrom_2 : decode cX5_copyFrom 2 = .ok (.getfield 9, 3) := by decide +kernel
theorem dX5_copyFrom_5 : decode cX5_copyFrom 5 = .ok (.putfield 9, 3) := by decide +kernel
theorem dX5_copyFrom_8 : decode cX5_copyFrom 8 = .ok (.aload_n 0, 1) := by decide +kernel
theorem dX5_copyFrom_9 : decode cX5_copyFrom 9 = .ok (.aload_n 1, 1) := by decide +kernel
theorem dX5_copyFrom_10 : decode cX5_copyFrom 10 = .ok (.getfield 15, 3) := by decide +kernel
theorem dX5_copyFrom_13 : decode cX5_copyFrom 13 = .ok (.putfield 15, 3) := by decide +kernel
theorem dX5_copyFrom_16 : decode cX5_copyFrom 16 = .ok (.aload_n 0, 1) := by decide +kernel
theorem dX5_copyFrom_17 : decode cX5_copyFrom 17 = .ok (.aload_n 1, 1) := by decide +kernel
theorem dX5_copyFrom_18 : decode cX5_copyFrom 18 = .ok (.getfield 18, 3) := by decide +kernel
theorem dX5_copyFrom_21 : decode cX5_copyFrom 21 = .ok (.putfield 18, 3) := by decide +kernel
theorem dX5_copyFrom_24 : decode cX5_copyFrom 24 = .ok (.aload_n 0, 1) := by decide +kernel
theorem dX5_copyFrom_25 : decode cX5_copyFrom 25 = .ok (.aload_n 1, 1) := by decide +kernel
theorem dX5_copyFrom_26 : decode cX5_copyFrom 26 = .ok (.getfield 21, 3) := by decide +kernel
theorem dX5_copyFrom_29 : decode cX5_copyFrom 29 = .ok (.putfield 21, 3) := by decide +kernel
theorem dX5_copyFrom_32 : decode cX5_copyFrom 32 = .ok (.aload_n 0, 1) := by decide +kernel
theorem dX5_copyFrom_33 : decode cX5_copyFrom 33 = .ok (.aload_n 1, 1) := by decide +kernel
theorem dX5_copyFrom_34 : decode cX5_copyFrom 34 = .ok (.getfield 24, 3) := by decide +kernel
theorem dX5_copyFrom_37 : decode cX5_copyFrom 37 = .ok (.putfield 24, 3) := by decide +kernel
theorem dX5_copyFrom_40 : decode cX5_copyFrom 40 = .ok (.aload_n 0, 1) := by decide +kernel
theorem dX5_copyFrom_41 : decode cX5_copyFrom 41 = .ok (.aload_n 1, 1) := by decide +kernel
theorem dX5_copyFrom_42 : decode cX5_copyFrom 42 = .ok (.getfield 27, 3) := by decide +kernel
theorem dX5_copyFrom_45 : decode cX5_copyFrom 45 = .ok (.putfield 27, 3) := by decide +kernel
theorem dX5_copyFrom_48 : decode cX5_copyFrom 48 = .ok (.aload_n 0, 1) := by decide +kernel
theorem dX5_copyFrom_49 : decode cX5_copyFrom 49 = .ok (.aload_n 1, 1) := by decide +kernel
theorem dX5_copyFrom_50 : decode cX5_copyFrom 50 = .ok (.getfield 30, 3) := by decide +kernel
theorem dX5_copyFrom_53 : decode cX5_copyFrom 53 = .ok (.putfield 30, 3) := by decide +kernel
theorem dX5_copyFrom_56 : decode cX5_copyFrom 56 = .ok (.aload_n 0, 1) := by decide +kernel
theorem dX5_copyFrom_57 : decode cX5_copyFrom 57 = .ok (.aload_n 1, 1) := by decide +kernel
theorem dX5_copyFrom_58 : decode cX5_copyFrom 58 = .ok (.getfield 33, 3) := by decide +kernel
theorem dX5_copyFrom_61 : decode cX5_copyFrom 61 = .ok (.putfield 33, 3) := by decide +kernel
theorem dX5_copyFrom_64 : decode cX5_copyFrom 64 = .ok (.aload_n 1, 1) := by decide +kernel
theorem dX5_copyFrom_65 : decode cX5_copyFrom 65 = .ok (.getfield 36, 3) := by decide +kernel
theorem dX5_copyFrom_68 : decode cX5_copyFrom 68 = .ok (.iconst 0, 1) := by decide +kernel
theorem dX5_copyFrom_69 : decode cX5_copyFrom 69 = .ok (.aload_n 0, 1) := by decide +kernel
theorem dX5_copyFrom_70 : decode cX5_copyFrom 70 = .ok (.getfield 36, 3) := by decide +kernel
theorem dX5_copyFrom_73 : decode cX5_copyFrom 73 = .ok (.iconst 0, 1) := by decide +kernel
theorem dX5_copyFrom_74 : decode cX5_copyFrom 74 = .ok (.bipush 8, 2) := by decide +kernel
theorem dX5_copyFrom_76 : decode cX5_copyFrom 76 = .ok (.invokestatic 86, 3) := by decide +kernel
theorem dX5_copyFrom_79 : decode cX5_copyFrom 79 = .ok (.aload_n 1, 1) := by decide +kernel
theorem dX5_copyFrom_80 : decode cX5_copyFrom 80 = .ok (.getfield 40, 3) := by decide +kernel
theorem dX5_copyFrom_83 : decode cX5_copyFrom 83 = .ok (.iconst 0, 1) := by decide +kernel
theorem dX5_copyFrom_84 : decode cX5_copyFrom 84 = .ok (.aload_n 0, 1) := by decide +kernel
theorem dX5_copyFrom_85 : decode cX5_copyFrom 85 = .ok (.getfield 40, 3) := by decide +kernel
theorem dX5_copyFrom_88 : decode cX5_copyFrom 88 = .ok (.iconst 0, 1) := by decide +kernel
theorem dX5_copyFrom_89 : decode cX5_copyFrom 89 = .ok (.bipush 8, 2) := by decide +kernel
theorem dX5_copyFrom_91 : decode cX5_copyFrom 91 = .ok (.invokestatic 86, 3) := by decide +kernel
theorem dX5_copyFrom_94 : decode cX5_copyFrom 94 = .ok (.aload_n 1, 1) := by decide +kernel
theorem dX5_copyFrom_95 : decode cX5_copyFrom 95 = .ok (.getfield 43, 3) := by decide +kernel
theorem dX5_copyFrom_98 : decode cX5_copyFrom 98 = .ok (.iconst 0, 1) := by decide +kernel
theorem dX5_copyFrom_99 : decode cX5_copyFrom 99 = .ok (.aload_n 0, 1) := by decide +kernel
theorem dX5_copyFrom_100 : decode cX5_copyFrom 100 = .ok (.getfield 43, 3) := by decide +kernel
theorem dX5_copyFrom_103 : decode cX5_copyFrom 103 = .ok (.iconst 0, 1) := by decide +kernel
theorem dX5_copyFrom_104 : decode cX5_copyFrom 104 = .ok (.bipush 8, 2) := by decide +kernel
theorem dX5_copyFrom_106 : decode cX5_copyFrom 106 = .ok (.invokestatic 86, 3) := by decide +kernel
theorem dX5_copyFrom_109 : decode cX5_copyFrom 109 = .ok (.aload_n 1, 1) := by decide +kernel
theorem dX5_copyFrom_110 : decode cX5_copyFrom 110 = .ok (.getfield 46, 3) := by decide +kernel
theorem dX5_copyFrom_113 : decode cX5_copyFrom 113 = .ok (.iconst 0, 1) := by decide +kernel
theorem dX5_copyFrom_114 : decode cX5_copyFrom 114 = .ok (.aload_n 0, 1) := by decide +kernel
theorem dX5_copyFrom_115 : decode cX5_copyFrom 115 = .ok (.getfield 46, 3) := by decide +kernel
theorem dX5_copyFrom_118 : decode cX5_copyFrom 118 = .ok (.iconst 0, 1) := by decide +kernel
theorem dX5_copyFrom_119 : decode cX5_copyFrom 119 = .ok (.bipush 8, 2) := by decide +kernel
theorem dX5_copyFrom_121 : decode cX5_copyFrom 121 = .ok (.invokestatic 86, 3) := by decide +kernel
theorem dX5_copyFrom_124 : decode cX5_copyFrom 124 = .ok (.aload_n 1, 1) := by decide +kernel
theorem dX5_copyFrom_125 : decode cX5_copyFrom 125 = .ok (.getfield 49, 3) := by decide +kernel
theorem dX5_copyFrom_128 : decode cX5_copyFrom 128 = .ok (.iconst 0, 1) := by decide +kernel
theorem dX5_copyFrom_129 : decode cX5_copyFrom 129 = .ok (.aload_n 0, 1) := by decide +kernel
theorem dX5_copyFrom_130 : decode cX5_copyFrom 130 = .ok (.getfield 49, 3) := by decide +kernel
theorem dX5_copyFrom_133 : decode cX5_copyFrom 133 = .ok (.iconst 0, 1) := by decide +kernel
theorem dX5_copyFrom_134 : decode cX5_copyFrom 134 = .ok (.bipush 6, 2) := by decide +kernel
theorem dX5_copyFrom_136 : decode cX5_copyFrom 136 = .ok (.invokestatic 86, 3) := by decide +kernel
theorem dX5_copyFrom_139 : decode cX5_copyFrom 139 = .ok (.aload_n 1, 1) := by decide +kernel
theorem dX5_copyFrom_140 : decode cX5_copyFrom 140 = .ok (.getfield 52, 3) := by decide +kernel
theorem dX5_copyFrom_143 : decode cX5_copyFrom 143 = .ok (.iconst 0, 1) := by decide +kernel
theorem dX5_copyFrom_144 : decode cX5_copyFrom 144 = .ok (.aload_n 0, 1) := by decide +kernel
theorem dX5_copyFrom_145 : decode cX5_copyFrom 145 = .ok (.getfield 52, 3) := by decide +kernel
theorem dX5_copyFrom_148 : decode cX5_copyFrom 148 = .ok (.iconst 0, 1) := by decide +kernel
theorem dX5_copyFrom_149 : decode cX5_copyFrom 149 = .ok (.bipush 6, 2) := by decide +kernel
theorem dX5_copyFrom_151 : decode cX5_copyFrom 151 = .ok (.invokestatic 86, 3) := by decide +kernel
theorem dX5_copyFrom_154 : decode cX5_copyFrom 154 = .ok (.aload_n 1, 1) := by decide +kernel
theorem dX5_copyFrom_155 : decode cX5_copyFrom 155 = .ok (.getfield 55, 3) := by decide +kernel
theorem dX5_copyFrom_158 : decode cX5_copyFrom 158 = .ok (.iconst 0, 1) := by decide +kernel
theorem dX5_copyFrom_159 : decode cX5_copyFrom 159 = .ok (.aload_n 0, 1) := by decide +kernel
theorem dX5_copyFrom_160 : decode cX5_copyFrom 160 = .ok (.getfield 55, 3) := by decide +kernel
theorem dX5_copyFrom_163 : decode cX5_copyFrom 163 = .ok (.iconst 0, 1) := by decide +kernel
theorem dX5_copyFrom_164 : decode cX5_copyFrom 164 = .ok (.bipush 6, 2) := by decide +kernel
theorem dX5_copyFrom_166 : decode cX5_copyFrom 166 = .ok (.invokestatic 86, 3) := by decide +kernel
theorem dX5_copyFrom_169 : decode cX5_copyFrom 169 = .ok (.aload_n 1, 1) := by decide +kernel
theorem dX5_copyFrom_170 : decode cX5_copyFrom 170 = .ok (.getfield 58, 3) := by decide +kernel
theorem dX5_copyFrom_173 : decode cX5_copyFrom 173 = .ok (.iconst 0, 1) := by decide +kernel
theorem dX5_copyFrom_174 : decode cX5_copyFrom 174 = .ok (.aload_n 0, 1) := by decide +kernel
theorem dX5_copyFrom_175 : decode cX5_copyFrom 175 = .ok (.getfield 58, 3) := by decide +kernel
theorem dX5_copyFrom_178 : decode cX5_copyFrom 178 = .ok (.iconst 0, 1) := by decide +kernel
theorem dX5_copyFrom_179 : decode cX5_copyFrom 179 = .ok (.bipush 6, 2) := by decide +kernel
theorem dX5_copyFrom_181 : decode cX5_copyFrom 181 = .ok (.invokestatic 86, 3) := by decide +kernel
theorem dX5_copyFrom_184 : decode cX5_copyFrom 184 = .ok (.aload_n 1, 1) := by decide +kernel
theorem dX5_copyFrom_185 : decode cX5_copyFrom 185 = .ok (.getfield 61, 3) := by decide +kernel
theorem dX5_copyFrom_188 : decode cX5_copyFrom 188 = .ok (.iconst 0, 1) := by decide +kernel
theorem dX5_copyFrom_189 : decode cX5_copyFrom 189 = .ok (.aload_n 0, 1) := by decide +kernel
theorem dX5_copyFrom_190 : decode cX5_copyFrom 190 = .ok (.getfield 61, 3) := by decide +kernel
theorem dX5_copyFrom_193 : decode cX5_copyFrom 193 = .ok (.iconst 0, 1) := by decide +kernel
theorem dX5_copyFrom_194 : decode cX5_copyFrom 194 = .ok (.bipush 6, 2) := by decide +kernel
theorem dX5_copyFrom_196 : decode cX5_copyFrom 196 = .ok (.invokestatic 86, 3) := by decide +kernel
theorem dX5_copyFrom_199 : decode cX5_copyFrom 199 = .ok (.aload_n 1, 1) := by decide +kernel
theorem dX5_copyFrom_200 : decode cX5_copyFrom 200 = .ok (.getfield 64, 3) := by decide +kernel
theorem dX5_copyFrom_203 : decode cX5_copyFrom 203 = .ok (.iconst 0, 1) := by decide +kernel
theorem dX5_copyFrom_204 : decode cX5_copyFrom 204 = .ok (.aload_n 0, 1) := by decide +kernel
theorem dX5_copyFrom_205 : decode cX5_copyFrom 205 = .ok (.getfield 64, 3) := by decide +kernel
theorem dX5_copyFrom_208 : decode cX5_copyFrom 208 = .ok (.iconst 0, 1) := by decide +kernel
theorem dX5_copyFrom_209 : decode cX5_copyFrom 209 = .ok (.bipush 10, 2) := by decide +kernel
theorem dX5_copyFrom_211 : decode cX5_copyFrom 211 = .ok (.invokestatic 86, 3) := by decide +kernel
theorem dX5_copyFrom_214 : decode cX5_copyFrom 214 = .ok (.return_, 1) := by decide +kernel
theorem dX5_hasLevel_0 : decode cX5_hasLevel 0 = .ok (.iload_n 1, 1) := by decide +kernel
theorem dX5_hasLevel_1 : decode cX5_hasLevel 1 = .ok (.ifCond .lt 15, 3) := by decide +kernel
theorem dX5_hasLevel_4 : decode cX5_hasLevel 4 = .ok (.iload_n 1, 1) := by decide +kernel
theorem dX5_hasLevel_5 : decode cX5_hasLevel 5 = .ok (.aload_n 0, 1) := by decide +kernel
theorem dX5_hasLevel_6 : decode cX5_hasLevel 6 = .ok (.getfield 9, 3) := by decide +kernel
theorem dX5_hasLevel_9 : decode cX5_hasLevel 9 = .ok (.if_icmp .ge 7, 3) := by decide +kernel
theorem dX5_hasLevel_12 : decode cX5_hasLevel 12 = .ok (.iconst 1, 1) := by decide +kernel
theorem dX5_hasLevel_13 : decode cX5_hasLevel 13 = .ok (.goto 4, 3) := by decide +kernel
theorem dX5_hasLevel_16 : decode cX5_hasLevel 16 = .ok (.iconst 0, 1) := by decide +kernel
theorem dX5_hasLevel_17 : decode cX5_hasLevel 17 = .ok (.ireturn, 1) := by decide +kernel
theorem dX5_hasStep_0 : decode cX5_hasStep 0 = .ok (.iload_n 1, 1) := by decide +kernel
theorem dX5_hasStep_1 : decode cX5_hasStep 1 = .ok (.ifCond .lt 17, 3) := by decide +kernel
theorem dX5_hasStep_4 : decode cX5_hasStep 4 = .ok (.iload_n 1, 1) := by decide +kernel
theorem dX5_hasStep_5 : decode cX5_hasStep 5 = .ok (.aload_n 0, 1) := by decide +kernel
theorem dX5_hasStep_6 : decode cX5_hasStep 6 = .ok (.getfield 9, 3) := by decide +kernel
theorem dX5_hasStep_9 : decode cX5_hasStep 9 = .ok (.iconst 1, 1) := by decide +kernel
theorem dX5_hasStep_10 : decode cX5_hasStep 10 = .ok (.isub, 1) := by decide +kernel
theorem dX5_hasStep_11 : decode cX5_hasStep 11 = .ok (.if_icmp .ge 7, 3) := by decide +kernel
theorem dX5_hasStep_14 : decode cX5_hasStep 14 = .ok (.iconst 1, 1) := by decide +kernel
theorem dX5_hasStep_15 : decode cX5_hasStep 15 = .ok (.goto 4, 3) := by decide +kernel
theorem dX5_hasStep_18 : decode cX5_hasStep 18 = .ok (.iconst 0, 1) := by decide +kernel
theorem dX5_hasStep_19 : decode cX5_hasStep 19 = .ok (.ireturn, 1) := by decide +kernel
theorem dX5_hasBarge_0 : decode cX5_hasBarge 0 = .ok (.iload_n 1, 1) := by decide +kernel
theorem dX5_hasBarge_1 : decode cX5_hasBarge 1 = .ok (.ifCond .lt 15, 3) := by decide +kernel
theorem dX5_hasBarge_4 : decode cX5_hasBarge 4 = .ok (.iload_n 1, 1) := by decide +kernel
theorem dX5_hasBarge_5 : decode cX5_hasBarge 5 = .ok (.aload_n 0, 1) := by decide +kernel
theorem dX5_hasBarge_6 : decode cX5_hasBarge 6 = .ok (.getfield 15, 3) := by decide +kernel
theorem dX5_hasBarge_9 : decode cX5_hasBarge 9 = .ok (.if_icmp .ge 7, 3) := by decide +kernel
theorem dX5_hasBarge_12 : decode cX5_hasBarge 12 = .ok (.iconst 1, 1) := by decide +kernel
theorem dX5_hasBarge_13 : decode cX5_hasBarge 13 = .ok (.goto 4, 3) := by decide +kernel
theorem dX5_hasBarge_16 : decode cX5_hasBarge 16 = .ok (.iconst 0, 1) := by decide +kernel
theorem dX5_hasBarge_17 : decode cX5_hasBarge 17 = .ok (.ireturn, 1) := by decide +kernel
theorem dX5_isSet_0 : decode cX5_isSet 0 = .ok (.aload_n 0, 1) := by decide +kernel
theorem dX5_isSet_1 : decode cX5_isSet 1 = .ok (.getfield 9, 3) := by decide +kernel
theorem dX5_isSet_4 : decode cX5_isSet 4 = .ok (.ifCond .le 21, 3) := by decide +kernel
theorem dX5_isSet_7 : decode cX5_isSet 7 = .ok (.iload_n 1, 1) := by decide +kernel
theorem dX5_isSet_8 : decode cX5_isSet 8 = .ok (.ifCond .lt 17, 3) := by decide +kernel
theorem dX5_isSet_11 : decode cX5_isSet 11 = .ok (.iload_n 1, 1) := by decide +kernel
theorem dX5_isSet_12 : decode cX5_isSet 12 = .ok (.iconst 1, 1) := by decide +kernel
theorem dX5_isSet_13 : decode cX5_isSet 13 = .ok (.aload_n 0, 1) := by decide +kernel
theorem dX5_isSet_14 : decode cX5_isSet 14 = .ok (.getfield 15, 3) := by decide +kernel
theorem dX5_isSet_17 : decode cX5_isSet 17 = .ok (.ishl, 1) := by decide +kernel
theorem dX5_isSet_18 : decode cX5_isSet 18 = .ok (.if_icmp .ge 7, 3) := by decide +kernel
theorem dX5_isSet_21 : decode cX5_isSet 21 = .ok (.iconst 1, 1) := by decide +kernel
theorem dX5_isSet_22 : decode cX5_isSet 22 = .ok (.goto 4, 3) := by decide +kernel
theorem dX5_isSet_25 : decode cX5_isSet 25 = .ok (.iconst 0, 1) := by decide +kernel
theorem dX5_isSet_26 : decode cX5_isSet 26 = .ok (.ireturn, 1) := by decide +kernel
theorem dX5_isTip_0 : decode cX5_isTip 0 = .ok (.iload_n 2, 1) := by decide +kernel
theorem dX5_isTip_1 : decode cX5_isTip 1 = .ok (.iconst (-1), 1) := by decide +kernel
theorem dX5_isTip_2 : decode cX5_isTip 2 = .ok (.if_icmp .eq 11, 3) := by decide +kernel
theorem dX5_isTip_5 : decode cX5_isTip 5 = .ok (.aload_n 0, 1) := by decide +kernel
theorem dX5_isTip_6 : decode cX5_isTip 6 = .ok (.iload_n 2, 1) := by decide +kernel
theorem dX5_isTip_7 : decode cX5_isTip 7 = .ok (.invokevirtual 92, 3) := by decide +kernel
theorem dX5_isTip_10 : decode cX5_isTip 10 = .ok (.ifCond .eq 7, 3) := by decide +kernel
theorem dX5_isTip_13 : decode cX5_isTip 13 = .ok (.iconst 1, 1) := by decide +kernel
theorem dX5_isTip_14 : decode cX5_isTip 14 = .ok (.goto 4, 3) := by decide +kernel
theorem dX5_isTip_17 : decode cX5_isTip 17 = .ok (.iconst 0, 1) := by decide +kernel
theorem dX5_isTip_18 : decode cX5_isTip 18 = .ok (.istore 4, 2) := by decide +kernel
theorem dX5_isTip_20 : decode cX5_isTip 20 = .ok (.iload_n 3, 1) := by decide +kernel
theorem dX5_isTip_21 : decode cX5_isTip 21 = .ok (.iconst (-1), 1) := by decide +kernel
theorem dX5_isTip_22 : decode cX5_isTip 22 = .ok (.if_icmp .eq 11, 3) := by decide +kernel
theorem dX5_isTip_25 : decode cX5_isTip 25 = .ok (.aload_n 0, 1) := by decide +kernel
theorem dX5_isTip_26 : decode cX5_isTip 26 = .ok (.iload_n 3, 1) := by decide +kernel
theorem dX5_isTip_27 : decode cX5_isTip 27 = .ok (.invokevirtual 92, 3) := by decide +kernel
theorem dX5_isTip_30 : decode cX5_isTip 30 = .ok (.ifCond .eq 7, 3) := by decide +kernel
theorem dX5_isTip_33 : decode cX5_isTip 33 = .ok (.iconst 1, 1) := by decide +kernel
theorem dX5_isTip_34 : decode cX5_isTip 34 = .ok (.goto 4, 3) := by decide +kernel
theorem dX5_isTip_37 : decode cX5_isTip 37 = .ok (.iconst 0, 1) := by decide +kernel
theorem dX5_isTip_38 : decode cX5_isTip 38 = .ok (.istore 5, 2) := by decide +kernel
theorem dX5_isTip_40 : decode cX5_isTip 40 = .ok (.aload_n 0, 1) := by decide +kernel
theorem dX5_isTip_41 : decode cX5_isTip 41 = .ok (.iload_n 1, 1) := by decide +kernel
theorem dX5_isTip_42 : decode cX5_isTip 42 = .ok (.invokevirtual 96, 3) := by decide +kernel
theorem dX5_isTip_45 : decode cX5_isTip 45 = .ok (.ifCond .eq 27, 3) := by decide +kernel
theorem dX5_isTip_48 : decode cX5_isTip 48 = .ok (.iload 4, 2) := by decide +kernel
theorem dX5_isTip_50 : decode cX5_isTip 50 = .ok (.ifCond .eq 22, 3) := by decide +kernel
theorem dX5_isTip_53 : decode cX5_isTip 53 = .ok (.iload 5, 2) := by decide +kernel
theorem dX5_isTip_55 : decode cX5_isTip 55 = .ok (.ifCond .eq 17, 3) := by decide +kernel
theorem dX5_isTip_58 : decode cX5_isTip 58 = .ok (.iload_n 2, 1) := by decide +kernel
theorem dX5_isTip_59 : decode cX5_isTip 59 = .ok (.iconst (-1), 1) := by decide +kernel
theorem dX5_isTip_60 : decode cX5_isTip 60 = .ok (.if_icmp .ne 8, 3) := by decide +kernel
theorem dX5_isTip_63 : decode cX5_isTip 63 = .ok (.iload_n 3, 1) := by decide +kernel
theorem dX5_isTip_64 : decode cX5_isTip 64 = .ok (.iconst (-1), 1) := by decide +kernel
theorem dX5_isTip_65 : decode cX5_isTip 65 = .ok (.if_icmp .eq 7, 3) := by decide +kernel
theorem dX5_isTip_68 : decode cX5_isTip 68 = .ok (.iconst 1, 1) := by decide +kernel
theorem dX5_isTip_69 : decode cX5_isTip 69 = .ok (.goto 4, 3) := by decide +kernel
theorem dX5_isTip_72 : decode cX5_isTip 72 = .ok (.iconst 0, 1) := by decide +kernel
theorem dX5_isTip_73 : decode cX5_isTip 73 = .ok (.ireturn, 1) := by decide +kernel
theorem dX5_putAtBegin_0 : decode cX5_putAtBegin 0 = .ok (.aload_n 0, 1) := by decide +kernel
theorem dX5_putAtBegin_1 : decode cX5_putAtBegin 1 = .ok (.iload_n 1, 1) := by decide +kernel
theorem dX5_putAtBegin_2 : decode cX5_putAtBegin 2 = .ok (.invokevirtual 92, 3) := by decide +kernel
theorem dX5_putAtBegin_5 : decode cX5_putAtBegin 5 = .ok (.ifCond .eq 28, 3) := by decide +kernel
theorem dX5_putAtBegin_8 : decode cX5_putAtBegin 8 = .ok (.aload_n 0, 1) := by decide +kernel
theorem dX5_putAtBegin_9 : decode cX5_putAtBegin 9 = .ok (.getfield 49, 3) := by decide +kernel
theorem dX5_putAtBegin_12 : decode cX5_putAtBegin 12 = .ok (.iload_n 1, 1) := by decide +kernel
theorem dX5_putAtBegin_13 : decode cX5_putAtBegin 13 = .ok (.aload_n 0, 1) := by decide +kernel
theorem dX5_putAtBegin_14 : decode cX5_putAtBegin 14 = .ok (.getfield 58, 3) := by decide +kernel
theorem dX5_putAtBegin_17 : decode cX5_putAtBegin 17 = .ok (.iload_n 1, 1) := by decide +kernel
theorem dX5_putAtBegin_18 : decode cX5_putAtBegin 18 = .ok (.iaload, 1) := by decide +kernel
theorem dX5_putAtBegin_19 : decode cX5_putAtBegin 19 = .ok (.ifCond .ne 7, 3) := by decide +kernel
theorem dX5_putAtBegin_22 : decode cX5_putAtBegin 22 = .ok (.iconst 0, 1) := by decide +kernel
theorem dX5_putAtBegin_23 : decode cX5_putAtBegin 23 = .ok (.goto 9, 3) := by decide +kernel
theorem dX5_putAtBegin_26 : decode cX5_putAtBegin 26 = .ok (.aload_n 0, 1) := by decide +kernel
theorem dX5_putAtBegin_27 : decode cX5_putAtBegin 27 = .ok (.getfield 9, 3) := by decide +kernel
theorem dX5_putAtBegin_30 : decode cX5_putAtBegin 30 = .ok (.iconst 1, 1) := by decide +kernel
theorem dX5_putAtBegin_31 : decode cX5_putAtBegin 31 = .ok (.isub, 1) := by decide +kernel
theorem dX5_putAtBegin_32 : decode cX5_putAtBegin 32 = .ok (.iastore, 1) := by decide +kernel
theorem dX5_putAtBegin_33 : decode cX5_putAtBegin 33 = .ok (.return_, 1) := by decide +kernel
theorem dX5_isHome_0 : decode cX5_isHome 0 = .ok (.aload_n 0, 1) := by decide +kernel
theorem dX5_isHome_1 : decode cX5_isHome 1 = .ok (.iload_n 1, 1) := by decide +kernel
theorem dX5_isHome_2 : decode cX5_isHome 2 = .ok (.invokevirtual 92, 3) := by decide +kernel
theorem dX5_isHome_5 : decode cX5_isHome 5 = .ok (.ifCond .eq 35, 3) := by decide +kernel
theorem dX5_isHome_8 : decode cX5_isHome 8 = .ok (.aload_n 0, 1) := by decide +kernel
theorem dX5_isHome_9 : decode cX5_isHome 9 = .ok (.getfield 49, 3) := by decide +kernel
theorem dX5_isHome_12 : decode cX5_isHome 12 = .ok (.iload_n 1, 1) := by decide +kernel
theorem dX5_isHome_13 : decode cX5_isHome 13 = .ok (.iaload, 1) := by decide +kernel
theorem dX5_isHome_14 : decode cX5_isHome 14 = .ok (.aload_n 0, 1) := by decide +kernel
theorem dX5_isHome_15 : decode cX5_isHome 15 = .ok (.getfield 58, 3) := by decide +kernel
theorem dX5_isHome_18 : decode cX5_isHome 18 = .ok (.iload_n 1, 1) := by decide +kernel
theorem dX5_isHome_19 : decode cX5_isHome 19 = .ok (.iaload, 1) := by decide +kernel
theorem dX5_isHome_20 : decode cX5_isHome 20 = .ok (.ifCond .ne 12, 3) := by decide +kernel
theorem dX5_isHome_23 : decode cX5_isHome 23 = .ok (.aload_n 0, 1) := by decide +kernel
theorem dX5_isHome_24 : decode cX5_isHome 24 = .ok (.getfield 9, 3) := by decide +kernel
theorem dX5_isHome_27 : decode cX5_isHome 27 = .ok (.iconst 1, 1) := by decide +kernel
theorem dX5_isHome_28 : decode cX5_isHome 28 = .ok (.isub, 1) := by decide +kernel
theorem dX5_isHome_29 : decode cX5_isHome 29 = .ok (.goto 4, 3) := by decide +kernel
theorem dX5_isHome_32 : decode cX5_isHome 32 = .ok (.iconst 0, 1) := by decide +kernel
theorem dX5_isHome_33 : decode cX5_isHome 33 = .ok (.if_icmp .ne 7, 3) := by decide +kernel
theorem dX5_isHome_36 : decode cX5_isHome 36 = .ok (.iconst 1, 1) := by decide +kernel
theorem dX5_isHome_37 : decode cX5_isHome 37 = .ok (.goto 4, 3) := by decide +kernel
theorem dX5_isHome_40 : decode cX5_isHome 40 = .ok (.iconst 0, 1) := by decide +kernel
theorem dX5_isHome_41 : decode cX5_isHome 41 = .ok (.ireturn, 1) := by decide +kernel
theorem dX5_homeBits_0 : decode cX5_homeBits 0 = .ok (.iconst 0, 1) := by decide +kernel
theorem dX5_homeBits_1 : decode cX5_homeBits 1 = .ok (.istore_n 1, 1) := by decide +kernel
theorem dX5_homeBits_2 : decode cX5_homeBits 2 = .ok (.iconst 0, 1) := by decide +kernel
theorem dX5_homeBits_3 : decode cX5_homeBits 3 = .ok (.istore_n 2, 1) := by decide +kernel
theorem dX5_homeBits_4 : decode cX5_homeBits 4 = .ok (.iload_n 2, 1) := by decide +kernel
theorem dX5_homeBits_5 : decode cX5_homeBits 5 = .ok (.aload_n 0, 1) := by decide +kernel
theorem dX5_homeBits_6 : decode cX5_homeBits 6 = .ok (.getfield 15, 3) := by decide +kernel
theorem dX5_homeBits_9 : decode cX5_homeBits 9 = .ok (.if_icmp .ge 23, 3) := by decide +kernel
theorem dX5_homeBits_12 : decode cX5_homeBits 12 = .ok (.aload_n 0, 1) := by decide +kernel
theorem dX5_homeBits_13 : decode cX5_homeBits 13 = .ok (.iload_n 2, 1) := by decide +kernel
theorem dX5_homeBits_14 : decode cX5_homeBits 14 = .ok (.invokevirtual 99, 3) := by decide +kernel
theorem dX5_homeBits_17 : decode cX5_homeBits 17 = .ok (.ifCond .eq 9, 3) := by decide +kernel
theorem dX5_homeBits_20 : decode cX5_homeBits 20 = .ok (.iload_n 1, 1) := by decide +kernel
theorem dX5_homeBits_21 : decode cX5_homeBits 21 = .ok (.iconst 1, 1) := by decide +kernel
theorem dX5_homeBits_22 : decode cX5_homeBits 22 = .ok (.iload_n 2, 1) := by decide +kernel
theorem dX5_homeBits_23 : decode cX5_homeBits 23 = .ok (.ishl, 1) := by decide +kernel
theorem dX5_homeBits_24 : decode cX5_homeBits 24 = .ok (.ior, 1) := by decide +kernel
theorem dX5_homeBits_25 : decode cX5_homeBits 25 = .ok (.istore_n 1, 1) := by decide +kernel
theorem dX5_homeBits_26 : decode cX5_homeBits 26 = .ok (.iinc 2 1, 3) := by decide +kernel
theorem dX5_homeBits_29 : decode cX5_homeBits 29 = .ok (.goto (-25), 3) := by decide +kernel
theorem dX5_homeBits_32 : decode cX5_homeBits 32 = .ok (.iload_n 1, 1) := by decide +kernel
theorem dX5_homeBits_33 : decode cX5_homeBits 33 = .ok (.ireturn, 1) := by decide +kernel
theorem dX5_bargeBitsAt_0 : decode cX5_bargeBitsAt 0 = .ok (.iconst 0, 1) := by decide +kernel
theorem dX5_bargeBitsAt_1 : decode cX5_bargeBitsAt 1 = .ok (.istore_n 2, 1) := by decide +kernel
theorem dX5_bargeBitsAt_2 : decode cX5_bargeBitsAt 2 = .ok (.iconst 0, 1) := by decide +kernel
theorem dX5_bargeBitsAt_3 : decode cX5_bargeBitsAt 3 = .ok (.istore_n 3, 1) := by decide +kernel
theorem dX5_bargeBitsAt_4 : decode cX5_bargeBitsAt 4 = .ok (.iload_n 3, 1) := by decide +kernel
theorem dX5_bargeBitsAt_5 : decode cX5_bargeBitsAt 5 = .ok (.aload_n 0, 1) := by decide +kernel
theorem dX5_bargeBitsAt_6 : decode cX5_bargeBitsAt 6 = .ok (.getfield 15, 3) := by decide +kernel
theorem dX5_bargeBitsAt_9 : decode cX5_bargeBitsAt 9 = .ok (.if_icmp .ge 25, 3) := by decide +kernel
theorem dX5_bargeBitsAt_12 : decode cX5_bargeBitsAt 12 = .ok (.aload_n 0, 1) := by decide +kernel
theorem dX5_bargeBitsAt_13 : decode cX5_bargeBitsAt 13 = .ok (.getfield 49, 3) := by decide +kernel
theorem dX5_bargeBitsAt_16 : decode cX5_bargeBitsAt 16 = .ok (.iload_n 3, 1) := by decide +kernel
theorem dX5_bargeBitsAt_17 : decode cX5_bargeBitsAt 17 = .ok (.iaload, 1) := by decide +kernel
theorem dX5_bargeBitsAt_18 : decode cX5_bargeBitsAt 18 = .ok (.iload_n 1, 1) := by decide +kernel
theorem dX5_bargeBitsAt_19 : decode cX5_bargeBitsAt 19 = .ok (.if_icmp .ne 9, 3) := by decide +kernel
theorem dX5_bargeBitsAt_22 : decode cX5_bargeBitsAt 22 = .ok (.iload_n 2, 1) := by decide +kernel
theorem dX5_bargeBitsAt_23 : decode cX5_bargeBitsAt 23 = .ok (.iconst 1, 1) := by decide +kernel
theorem dX5_bargeBitsAt_24 : decode cX5_bargeBitsAt 24 = .ok (.iload_n 3, 1) := by decide +kernel
theorem dX5_bargeBitsAt_25 : decode cX5_bargeBitsAt 25 = .ok (.ishl, 1) := by decide +kernel
theorem dX5_bargeBitsAt_26 : decode cX5_bargeBitsAt 26 = .ok (.ior, 1) := by decide +kernel
theorem dX5_bargeBitsAt_27 : decode cX5_bargeBitsAt 27 = .ok (.istore_n 2, 1) := by decide +kernel
theorem dX5_bargeBitsAt_28 : decode cX5_bargeBitsAt 28 = .ok (.iinc 3 1, 3) := by decide +kernel
theorem dX5_bargeBitsAt_31 : decode cX5_bargeBitsAt 31 = .ok (.goto (-27), 3) := by decide +kernel
theorem dX5_bargeBitsAt_34 : decode cX5_bargeBitsAt 34 = .ok (.iload_n 2, 1) := by decide +kernel
theorem dX5_bargeBitsAt_35 : decode cX5_bargeBitsAt 35 = .ok (.ireturn, 1) := by decide +kernel
theorem dX5_tollOf_0 : decode cX5_tollOf 0 = .ok (.iconst 0, 1) := by decide +kernel
theorem dX5_tollOf_1 : decode cX5_tollOf 1 = .ok (.istore_n 2, 1) := by decide +kernel
theorem dX5_tollOf_2 : decode cX5_tollOf 2 = .ok (.iconst 0, 1) := by decide +kernel
theorem dX5_tollOf_3 : decode cX5_tollOf 3 = .ok (.istore_n 3, 1) := by decide +kernel
theorem dX5_tollOf_4 : decode cX5_tollOf 4 = .ok (.iload_n 3, 1) := by decide +kernel
theorem dX5_tollOf_5 : decode cX5_tollOf 5 = .ok (.aload_n 0, 1) := by decide +kernel
theorem dX5_tollOf_6 : decode cX5_tollOf 6 = .ok (.getfield 15, 3) := by decide +kernel
theorem dX5_tollOf_9 : decode cX5_tollOf 9 = .ok (.if_icmp .ge 24, 3) := by decide +kernel
theorem dX5_tollOf_12 : decode cX5_tollOf 12 = .ok (.iload_n 2, 1) := by decide +kernel
theorem dX5_tollOf_13 : decode cX5_tollOf 13 = .ok (.iload_n 1, 1) := by decide +kernel
theorem dX5_tollOf_14 : decode cX5_tollOf 14 = .ok (.iload_n 3, 1) := by decide +kernel
theorem dX5_tollOf_15 : decode cX5_tollOf 15 = .ok (.ishr, 1) := by decide +kernel
theorem dX5_tollOf_16 : decode cX5_tollOf 16 = .ok (.iconst 1, 1) := by decide +kernel
theorem dX5_tollOf_17 : decode cX5_tollOf 17 = .ok (.iand, 1) := by decide +kernel
theorem dX5_tollOf_18 : decode cX5_tollOf 18 = .ok (.aload_n 0, 1) := by decide +kernel
theorem dX5_tollOf_19 : decode cX5_tollOf 19 = .ok (.getfield 61, 3) := by decide +kernel
theorem dX5_tollOf_22 : decode cX5_tollOf 22 = .ok (.iload_n 3, 1) := by decide +kernel
theorem dX5_tollOf_23 : decode cX5_tollOf 23 = .ok (.iaload, 1) := by decide +kernel
theorem dX5_tollOf_24 : decode cX5_tollOf 24 = .ok (.imul, 1) := by decide +kernel
theorem dX5_tollOf_25 : decode cX5_tollOf 25 = .ok (.iadd, 1) := by decide +kernel
theorem dX5_tollOf_26 : decode cX5_tollOf 26 = .ok (.istore_n 2, 1) := by decide +kernel
theorem dX5_tollOf_27 : decode cX5_tollOf 27 = .ok (.iinc 3 1, 3) := by decide +kernel
theorem dX5_tollOf_30 : decode cX5_tollOf 30 = .ok (.goto (-26), 3) := by decide +kernel
theorem dX5_tollOf_33 : decode cX5_tollOf 33 = .ok (.iload_n 2, 1) := by decide +kernel
theorem dX5_tollOf_34 : decode cX5_tollOf 34 = .ok (.ireturn, 1) := by decide +kernel
theorem dX5_isDearer_0 : decode cX5_isDearer 0 = .ok (.aload_n 0, 1) := by decide +kernel
theorem dX5_isDearer_1 : decode cX5_isDearer 1 = .ok (.iload_n 1, 1) := by decide +kernel
theorem dX5_isDearer_2 : decode cX5_isDearer 2 = .ok (.invokevirtual 102, 3) := by decide +kernel
theorem dX5_isDearer_5 : decode cX5_isDearer 5 = .ok (.aload_n 0, 1) := by decide +kernel
theorem dX5_isDearer_6 : decode cX5_isDearer 6 = .ok (.iload_n 2, 1) := by decide +kernel
theorem dX5_isDearer_7 : decode cX5_isDearer 7 = .ok (.invokevirtual 102, 3) := by decide +kernel
theorem dX5_isDearer_10 : decode cX5_isDearer 10 = .ok (.isub, 1) := by decide +kernel
theorem dX5_isDearer_11 : decode cX5_isDearer 11 = .ok (.istore_n 3, 1) := by decide +kernel
theorem dX5_isDearer_12 : decode cX5_isDearer 12 = .ok (.iload_n 3, 1) := by decide +kernel
theorem dX5_isDearer_13 : decode cX5_isDearer 13 = .ok (.ifCond .gt 18, 3) := by decide +kernel
theorem dX5_isDearer_16 : decode cX5_isDearer 16 = .ok (.iload_n 3, 1) := by decide +kernel
theorem dX5_isDearer_17 : decode cX5_isDearer 17 = .ok (.ifCond .ne 18, 3) := by decide +kernel
theorem dX5_isDearer_20 : decode cX5_isDearer 20 = .ok (.iload_n 1, 1) := by decide +kernel
theorem dX5_isDearer_21 : decode cX5_isDearer 21 = .ok (.invokestatic 105, 3) := by decide +kernel
theorem dX5_isDearer_24 : decode cX5_isDearer 24 = .ok (.iload_n 2, 1) := by decide +kernel
theorem dX5_isDearer_25 : decode cX5_isDearer 25 = .ok (.invokestatic 105, 3) := by decide +kernel
theorem dX5_isDearer_28 : decode cX5_isDearer 28 = .ok (.if_icmp .ge 7, 3) := by decide +kernel
theorem dX5_isDearer_31 : decode cX5_isDearer 31 = .ok (.iconst 1, 1) := by decide +kernel
theorem dX5_isDearer_32 : decode cX5_isDearer 32 = .ok (.goto 4, 3) := by decide +kernel
theorem dX5_isDearer_35 : decode cX5_isDearer 35 = .ok (.iconst 0, 1) := by decide +kernel
theorem dX5_isDearer_36 : decode cX5_isDearer 36 = .ok (.ireturn, 1) := by decide +kernel
theorem dX5_passersOf_0 : decode cX5_passersOf 0 = .ok (.iconst 0, 1) := by decide +kernel
theorem dX5_passersOf_1 : decode cX5_passersOf 1 = .ok (.istore_n 2, 1) := by decide +kernel
theorem dX5_passersOf_2 : decode cX5_passersOf 2 = .ok (.iconst 0, 1) := by decide +kernel
theorem dX5_passersOf_3 : decode cX5_passersOf 3 = .ok (.istore_n 3, 1) := by decide +kernel
theorem dX5_passersOf_4 : decode cX5_passersOf 4 = .ok (.iload_n 3, 1) := by decide +kernel
theorem dX5_passersOf_5 : decode cX5_passersOf 5 = .ok (.aload_n 0, 1) := by decide +kernel
theorem dX5_passersOf_6 : decode cX5_passersOf 6 = .ok (.getfield 15, 3) := by decide +kernel
theorem dX5_passersOf_9 : decode cX5_passersOf 9 = .ok (.if_icmp .ge 48, 3) := by decide +kernel
theorem dX5_passersOf_12 : decode cX5_passersOf 12 = .ok (.aload_n 0, 1) := by decide +kernel
theorem dX5_passersOf_13 : decode cX5_passersOf 13 = .ok (.getfield 49, 3) := by decide +kernel
theorem dX5_passersOf_16 : decode cX5_passersOf 16 = .ok (.iload_n 3, 1) := by decide +kernel
theorem dX5_passersOf_17 : decode cX5_passersOf 17 = .ok (.iaload, 1) := by decide +kernel
theorem dX5_passersOf_18 : decode cX5_passersOf 18 = .ok (.iload_n 1, 1) := by decide +kernel
theorem dX5_passersOf_19 : decode cX5_passersOf 19 = .ok (.if_icmp .gt 7, 3) := by decide +kernel
theorem dX5_passersOf_22 : decode cX5_passersOf 22 = .ok (.iconst 1, 1) := by decide +kernel
theorem dX5_passersOf_23 : decode cX5_passersOf 23 = .ok (.goto 4, 3) := by decide +kernel
theorem dX5_passersOf_26 : decode cX5_passersOf 26 = .ok (.iconst 0, 1) := by decide +kernel
theorem dX5_passersOf_27 : decode cX5_passersOf 27 = .ok (.istore 4, 2) := by decide +kernel
theorem dX5_passersOf_29 : decode cX5_passersOf 29 = .ok (.iload 4, 2) := by decide +kernel
theorem dX5_passersOf_31 : decode cX5_passersOf 31 = .ok (.aload_n 0, 1) := by decide +kernel
theorem dX5_passersOf_32 : decode cX5_passersOf 32 = .ok (.getfield 58, 3) := by decide +kernel
theorem dX5_passersOf_35 : decode cX5_passersOf 35 = .ok (.iload_n 3, 1) := by decide +kernel
theorem dX5_passersOf_36 : decode cX5_passersOf 36 = .ok (.iaload, 1) := by decide +kernel
theorem dX5_passersOf_37 : decode cX5_passersOf 37 = .ok (.ifCond .ne 7, 3) := by decide +kernel
theorem dX5_passersOf_40 : decode cX5_passersOf 40 = .ok (.iconst 1, 1) := by decide +kernel
theorem dX5_passersOf_41 : decode cX5_passersOf 41 = .ok (.goto 4, 3) := by decide +kernel
theorem dX5_passersOf_44 : decode cX5_passersOf 44 = .ok (.iconst 0, 1) := by decide +kernel
theorem dX5_passersOf_45 : decode cX5_passersOf 45 = .ok (.if_icmp .ne 6, 3) := by decide +kernel
theorem dX5_passersOf_48 : decode cX5_passersOf 48 = .ok (.iinc 2 1, 3) := by decide +kernel
theorem dX5_passersOf_51 : decode cX5_passersOf 51 = .ok (.iinc 3 1, 3) := by decide +kernel
theorem dX5_passersOf_54 : decode cX5_passersOf 54 = .ok (.goto (-50), 3) := by decide +kernel
theorem dX5_passersOf_57 : decode cX5_passersOf 57 = .ok (.iload_n 2, 1) := by decide +kernel
theorem dX5_passersOf_58 : decode cX5_passersOf 58 = .ok (.ireturn, 1) := by decide +kernel
theorem dX5_allWater_0 : decode cX5_allWater 0 = .ok (.iconst 0, 1) := by decide +kernel
theorem dX5_allWater_1 : decode cX5_allWater 1 = .ok (.istore_n 1, 1) := by decide +kernel
theorem dX5_allWater_2 : decode cX5_allWater 2 = .ok (.iconst 0, 1) := by decide +kernel
theorem dX5_allWater_3 : decode cX5_allWater 3 = .ok (.istore_n 2, 1) := by decide +kernel
theorem dX5_allWater_4 : decode cX5_allWater 4 = .ok (.iload_n 2, 1) := by decide +kernel
theorem dX5_allWater_5 : decode cX5_allWater 5 = .ok (.aload_n 0, 1) := by decide +kernel
theorem dX5_allWater_6 : decode cX5_allWater 6 = .ok (.getfield 9, 3) := by decide +kernel
theorem dX5_allWater_9 : decode cX5_allWater 9 = .ok (.if_icmp .ge 18, 3) := by decide +kernel
theorem dX5_allWater_12 : decode cX5_allWater 12 = .ok (.iload_n 1, 1) := by decide +kernel
theorem dX5_allWater_13 : decode cX5_allWater 13 = .ok (.aload_n 0, 1) := by decide +kernel
theorem dX5_allWater_14 : decode cX5_allWater 14 = .ok (.getfield 36, 3) := by decide +kernel
theorem dX5_allWater_17 : decode cX5_allWater 17 = .ok (.iload_n 2, 1) := by decide +kernel
theorem dX5_allWater_18 : decode cX5_allWater 18 = .ok (.iaload, 1) := by decide +kernel
theorem dX5_allWater_19 : decode cX5_allWater 19 = .ok (.iadd, 1) := by decide +kernel
theorem dX5_allWater_20 : decode cX5_allWater 20 = .ok (.istore_n 1, 1) := by decide +kernel
theorem dX5_allWater_21 : decode cX5_allWater 21 = .ok (.iinc 2 1, 3) := by decide +kernel
theorem dX5_allWater_24 : decode cX5_allWater 24 = .ok (.goto (-20), 3) := by decide +kernel
theorem dX5_allWater_27 : decode cX5_allWater 27 = .ok (.iload_n 1, 1) := by decide +kernel
theorem dX5_allWater_28 : decode cX5_allWater 28 = .ok (.ireturn, 1) := by decide +kernel
theorem dX5_levelsSeen_0 : decode cX5_levelsSeen 0 = .ok (.iconst 0, 1) := by decide +kernel
theorem dX5_levelsSeen_1 : decode cX5_levelsSeen 1 = .ok (.istore_n 1, 1) := by decide +kernel
theorem dX5_levelsSeen_2 : decode cX5_levelsSeen 2 = .ok (.iconst 0, 1) := by decide +kernel
theorem dX5_levelsSeen_3 : decode cX5_levelsSeen 3 = .ok (.istore_n 2, 1) := by decide +kernel
theorem dX5_levelsSeen_4 : decode cX5_levelsSeen 4 = .ok (.iload_n 2, 1) := by decide +kernel
theorem dX5_levelsSeen_5 : decode cX5_levelsSeen 5 = .ok (.aload_n 0, 1) := by decide +kernel
theorem dX5_levelsSeen_6 : decode cX5_levelsSeen 6 = .ok (.getfield 9, 3) := by decide +kernel
theorem dX5_levelsSeen_9 : decode cX5_levelsSeen 9 = .ok (.if_icmp .ge 27, 3) := by decide +kernel
theorem dX5_levelsSeen_12 : decode cX5_levelsSeen 12 = .ok (.iload_n 1, 1) := by decide +kernel
theorem dX5_levelsSeen_13 : decode cX5_levelsSeen 13 = .ok (.aload_n 0, 1) := by decide +kernel
theorem dX5_levelsSeen_14 : decode cX5_levelsSeen 14 = .ok (.getfield 46, 3) := by decide +kernel
theorem dX5_levelsSeen_17 : decode cX5_levelsSeen 17 = .ok (.iload_n 2, 1) := by decide +kernel
theorem dX5_levelsSeen_18 : decode cX5_levelsSeen 18 = .ok (.iaload, 1) := by decide +kernel
theorem dX5_levelsSeen_19 : decode cX5_levelsSeen 19 = .ok (.iconst (-1), 1) := by decide +kernel
theorem dX5_levelsSeen_20 : decode cX5_levelsSeen 20 = .ok (.if_icmp .ne 7, 3) := by decide +kernel
theorem dX5_levelsSeen_23 : decode cX5_levelsSeen 23 = .ok (.iconst 0, 1) := by decide +kernel
theorem dX5_levelsSeen_24 : decode cX5_levelsSeen 24 = .ok (.goto 4, 3) := by decide +kernel
theorem dX5_levelsSeen_27 : decode cX5_levelsSeen 27 = .ok (.iconst 1, 1) := by decide +kernel
theorem dX5_levelsSeen_28 : decode cX5_levelsSeen 28 = .ok (.iadd, 1) := by decide +kernel
theorem dX5_levelsSeen_29 : decode cX5_levelsSeen 29 = .ok (.istore_n 1, 1) := by decide +kernel
theorem dX5_levelsSeen_30 : decode cX5_levelsSeen 30 = .ok (.iinc 2 1, 3) := by decide +kernel
theorem dX5_levelsSeen_33 : decode cX5_levelsSeen 33 = .ok (.goto (-29), 3) := by decide +kernel
theorem dX5_levelsSeen_36 : decode cX5_levelsSeen 36 = .ok (.iload_n 1, 1) := by decide +kernel
theorem dX5_levelsSeen_37 : decode cX5_levelsSeen 37 = .ok (.ireturn, 1) := by decide +kernel
theorem dX5_isAsSeen_0 : decode cX5_isAsSeen 0 = .ok (.iconst 0, 1) := by decide +kernel
theorem dX5_isAsSeen_1 : decode cX5_isAsSeen 1 = .ok (.istore_n 1, 1) := by decide +kernel
theorem dX5_isAsSeen_2 : decode cX5_isAsSeen 2 = .ok (.iload_n 1, 1) := by decide +kernel
theorem dX5_isAsSeen_3 : decode cX5_isAsSeen 3 = .ok (.aload_n 0, 1) := by decide +kernel
theorem dX5_isAsSeen_4 : decode cX5_isAsSeen 4 = .ok (.getfield 9, 3) := by decide +kernel
theorem dX5_isAsSeen_7 : decode cX5_isAsSeen 7 = .ok (.if_icmp .ge 36, 3) := by decide +kernel
theorem dX5_isAsSeen_10 : decode cX5_isAsSeen 10 = .ok (.aload_n 0, 1) := by decide +kernel
theorem dX5_isAsSeen_11 : decode cX5_isAsSeen 11 = .ok (.getfield 46, 3) := by decide +kernel
theorem dX5_isAsSeen_14 : decode cX5_isAsSeen 14 = .ok (.iload_n 1, 1) := by decide +kernel
theorem dX5_isAsSeen_15 : decode cX5_isAsSeen 15 = .ok (.iaload, 1) := by decide +kernel
theorem dX5_isAsSeen_16 : decode cX5_isAsSeen 16 = .ok (.iconst (-1), 1) := by decide +kernel
theorem dX5_isAsSeen_17 : decode cX5_isAsSeen 17 = .ok (.if_icmp .eq 20, 3) := by decide +kernel
theorem dX5_isAsSeen_20 : decode cX5_isAsSeen 20 = .ok (.aload_n 0, 1) := by decide +kernel
theorem dX5_isAsSeen_21 : decode cX5_isAsSeen 21 = .ok (.getfield 46, 3) := by decide +kernel
theorem dX5_isAsSeen_24 : decode cX5_isAsSeen 24 = .ok (.iload_n 1, 1) := by decide +kernel
theorem dX5_isAsSeen_25 : decode cX5_isAsSeen 25 = .ok (.iaload, 1) := by decide +kernel
theorem dX5_isAsSeen_26 : decode cX5_isAsSeen 26 = .ok (.aload_n 0, 1) := by decide +kernel
theorem dX5_isAsSeen_27 : decode cX5_isAsSeen 27 = .ok (.getfield 36, 3) := by decide +kernel
theorem dX5_isAsSeen_30 : decode cX5_isAsSeen 30 = .ok (.iload_n 1, 1) := by decide +kernel
theorem dX5_isAsSeen_31 : decode cX5_isAsSeen 31 = .ok (.iaload, 1) := by decide +kernel
theorem dX5_isAsSeen_32 : decode cX5_isAsSeen 32 = .ok (.if_icmp .eq 5, 3) := by decide +kernel
theorem dX5_isAsSeen_35 : decode cX5_isAsSeen 35 = .ok (.iconst 0, 1) := by decide +kernel
theorem dX5_isAsSeen_36 : decode cX5_isAsSeen 36 = .ok (.ireturn, 1) := by decide +kernel
theorem dX5_isAsSeen_37 : decode cX5_isAsSeen 37 = .ok (.iinc 1 1, 3) := by decide +kernel
theorem dX5_isAsSeen_40 : decode cX5_isAsSeen 40 = .ok (.goto (-38), 3) := by decide +kernel
theorem dX5_isAsSeen_43 : decode cX5_isAsSeen 43 = .ok (.iconst 1, 1) := by decide +kernel
theorem dX5_isAsSeen_44 : decode cX5_isAsSeen 44 = .ok (.ireturn, 1) := by decide +kernel
theorem dX5_need_0 : decode cX5_need 0 = .ok (.iconst 0, 1) := by decide +kernel
theorem dX5_need_1 : decode cX5_need 1 = .ok (.aload_n 0, 1) := by decide +kernel
theorem dX5_need_2 : decode cX5_need 2 = .ok (.iload_n 2, 1) := by decide +kernel
theorem dX5_need_3 : decode cX5_need 3 = .ok (.invokevirtual 110, 3) := by decide +kernel
theorem dX5_need_6 : decode cX5_need 6 = .ok (.aload_n 0, 1) := by decide +kernel
theorem dX5_need_7 : decode cX5_need 7 = .ok (.getfield 18, 3) := by decide +kernel
theorem dX5_need_10 : decode cX5_need 10 = .ok (.iadd, 1) := by decide +kernel
theorem dX5_need_11 : decode cX5_need 11 = .ok (.aload_n 0, 1) := by decide +kernel
theorem dX5_need_12 : decode cX5_need 12 = .ok (.iload_n 1, 1) := by decide +kernel
theorem dX5_need_13 : decode cX5_need 13 = .ok (.invokevirtual 110, 3) := by decide +kernel
theorem dX5_need_16 : decode cX5_need 16 = .ok (.isub, 1) := by decide +kernel
theorem dX5_need_17 : decode cX5_need 17 = .ok (.invokestatic 113, 3) := by decide +kernel
theorem dX5_need_20 : decode cX5_need 20 = .ok (.istore_n 3, 1) := by decide +kernel
theorem dX5_need_21 : decode cX5_need 21 = .ok (.iload_n 3, 1) := by decide +kernel
theorem dX5_need_22 : decode cX5_need 22 = .ok (.aload_n 0, 1) := by decide +kernel
theorem dX5_need_23 : decode cX5_need 23 = .ok (.iload_n 1, 1) := by decide +kernel
theorem dX5_need_24 : decode cX5_need 24 = .ok (.iload_n 2, 1) := by decide +kernel
theorem dX5_need_25 : decode cX5_need 25 = .ok (.invokevirtual 119, 3) := by decide +kernel
theorem dX5_need_28 : decode cX5_need 28 = .ok (.imul, 1) := by decide +kernel
theorem dX5_need_29 : decode cX5_need 29 = .ok (.ireturn, 1) := by decide +kernel
theorem dX5_worth_0 : decode cX5_worth 0 = .ok (.aload_n 0, 1) := by decide +kernel
theorem dX5_worth_1 : decode cX5_worth 1 = .ok (.iload_n 1, 1) := by decide +kernel
theorem dX5_worth_2 : decode cX5_worth 2 = .ok (.invokevirtual 122, 3) := by decide +kernel
theorem dX5_worth_5 : decode cX5_worth 5 = .ok (.aload_n 0, 1) := by decide +kernel
theorem dX5_worth_6 : decode cX5_worth 6 = .ok (.iload_n 2, 1) := by decide +kernel
theorem dX5_worth_7 : decode cX5_worth 7 = .ok (.invokevirtual 122, 3) := by decide +kernel
theorem dX5_worth_10 : decode cX5_worth 10 = .ok (.iadd, 1) := by decide +kernel
theorem dX5_worth_11 : decode cX5_worth 11 = .ok (.ifCond .le 7, 3) := by decide +kernel
theorem dX5_worth_14 : decode cX5_worth 14 = .ok (.iconst 2, 1) := by decide +kernel
theorem dX5_worth_15 : decode cX5_worth 15 = .ok (.goto 4, 3) := by decide +kernel
theorem dX5_worth_18 : decode cX5_worth 18 = .ok (.iconst 1, 1) := by decide +kernel
theorem dX5_worth_19 : decode cX5_worth 19 = .ok (.ireturn, 1) := by decide +kernel
theorem dX5_weightOf_0 : decode cX5_weightOf 0 = .ok (.iload_n 1, 1) := by decide +kernel
theorem dX5_weightOf_1 : decode cX5_weightOf 1 = .ok (.ifCond .lt 11, 3) := by decide +kernel
theorem dX5_weightOf_4 : decode cX5_weightOf 4 = .ok (.iload_n 1, 1) := by decide +kernel
theorem dX5_weightOf_5 : decode cX5_weightOf 5 = .ok (.aload_n 0, 1) := by decide +kernel
theorem dX5_weightOf_6 : decode cX5_weightOf 6 = .ok (.getfield 15, 3) := by decide +kernel
theorem dX5_weightOf_9 : decode cX5_weightOf 9 = .ok (.if_icmp .lt 7, 3) := by decide +kernel
theorem dX5_weightOf_12 : decode cX5_weightOf 12 = .ok (.iconst 0, 1) := by decide +kernel
theorem dX5_weightOf_13 : decode cX5_weightOf 13 = .ok (.goto 9, 3) := by decide +kernel
theorem dX5_weightOf_16 : decode cX5_weightOf 16 = .ok (.aload_n 0, 1) := by decide +kernel
theorem dX5_weightOf_17 : decode cX5_weightOf 17 = .ok (.getfield 52, 3) := by decide +kernel
theorem dX5_weightOf_20 : decode cX5_weightOf 20 = .ok (.iload_n 1, 1) := by decide +kernel
theorem dX5_weightOf_21 : decode cX5_weightOf 21 = .ok (.iaload, 1) := by decide +kernel
theorem dX5_weightOf_22 : decode cX5_weightOf 22 = .ok (.ireturn, 1) := by decide +kernel
theorem dX5_wideOf_0 : decode cX5_wideOf 0 = .ok (.iload_n 1, 1) := by decide +kernel
theorem dX5_wideOf_1 : decode cX5_wideOf 1 = .ok (.ifCond .lt 11, 3) := by decide +kernel
theorem dX5_wideOf_4 : decode cX5_wideOf 4 = .ok (.iload_n 1, 1) := by decide +kernel
theorem dX5_wideOf_5 : decode cX5_wideOf 5 = .ok (.aload_n 0, 1) := by decide +kernel
theorem dX5_wideOf_6 : decode cX5_wideOf 6 = .ok (.getfield 15, 3) := by decide +kernel
theorem dX5_wideOf_9 : decode cX5_wideOf 9 = .ok (.if_icmp .lt 7, 3) := by decide +kernel
theorem dX5_wideOf_12 : decode cX5_wideOf 12 = .ok (.iconst 0, 1) := by decide +kernel
theorem dX5_wideOf_13 : decode cX5_wideOf 13 = .ok (.goto 9, 3) := by decide +kernel
theorem dX5_wideOf_16 : decode cX5_wideOf 16 = .ok (.aload_n 0, 1) := by decide +kernel
theorem dX5_wideOf_17 : decode cX5_wideOf 17 = .ok (.getfield 55, 3) := by decide +kernel
theorem dX5_wideOf_20 : decode cX5_wideOf 20 = .ok (.iload_n 1, 1) := by decide +kernel
theorem dX5_wideOf_21 : decode cX5_wideOf 21 = .ok (.iaload, 1) := by decide +kernel
theorem dX5_wideOf_22 : decode cX5_wideOf 22 = .ok (.ireturn, 1) := by decide +kernel
theorem dX5_brokenLaw_0 : decode cX5_brokenLaw 0 = .ok (.aload_n 0, 1) := by decide +kernel
theorem dX5_brokenLaw_1 : decode cX5_brokenLaw 1 = .ok (.iload_n 2, 1) := by decide +kernel
theorem dX5_brokenLaw_2 : decode cX5_brokenLaw 2 = .ok (.invokevirtual 96, 3) := by decide +kernel
theorem dX5_brokenLaw_5 : decode cX5_brokenLaw 5 = .ok (.ifCond .eq 12, 3) := by decide +kernel
theorem dX5_brokenLaw_8 : decode cX5_brokenLaw 8 = .ok (.aload_n 0, 1) := by decide +kernel
theorem dX5_brokenLaw_9 : decode cX5_brokenLaw 9 = .ok (.getfield 43, 3) := by decide +kernel
theorem dX5_brokenLaw_12 : decode cX5_brokenLaw 12 = .ok (.iload_n 2, 1) := by decide +kernel
theorem dX5_brokenLaw_13 : decode cX5_brokenLaw 13 = .ok (.iaload, 1) := by decide +kernel
theorem dX5_brokenLaw_14 : decode cX5_brokenLaw 14 = .ok (.ifCond .ne 5, 3) := by decide +kernel
theorem dX5_brokenLaw_17 : decode cX5_brokenLaw 17 = .ok (.iconst 1, 1) := by decide +kernel
theorem dX5_brokenLaw_18 : decode cX5_brokenLaw 18 = .ok (.ireturn, 1) := by decide +kernel
theorem dX5_brokenLaw_19 : decode cX5_brokenLaw 19 = .ok (.aload_n 0, 1) := by decide +kernel
theorem dX5_brokenLaw_20 : decode cX5_brokenLaw 20 = .ok (.iload_n 3, 1) := by decide +kernel
theorem dX5_brokenLaw_21 : decode cX5_brokenLaw 21 = .ok (.iload_n 2, 1) := by decide +kernel
theorem dX5_brokenLaw_22 : decode cX5_brokenLaw 22 = .ok (.iconst 0, 1) := by decide +kernel
theorem dX5_brokenLaw_23 : decode cX5_brokenLaw 23 = .ok (.invokevirtual 125, 3) := by decide +kernel
theorem dX5_brokenLaw_26 : decode cX5_brokenLaw 26 = .ok (.ifCond .eq 16, 3) := by decide +kernel
theorem dX5_brokenLaw_29 : decode cX5_brokenLaw 29 = .ok (.aload_n 0, 1) := by decide +kernel
theorem dX5_brokenLaw_30 : decode cX5_brokenLaw 30 = .ok (.iload 4, 2) := by decide +kernel
theorem dX5_brokenLaw_32 : decode cX5_brokenLaw 32 = .ok (.iload_n 2, 1) := by decide +kernel
theorem dX5_brokenLaw_33 : decode cX5_brokenLaw 33 = .ok (.iconst 1, 1) := by decide +kernel
theorem dX5_brokenLaw_34 : decode cX5_brokenLaw 34 = .ok (.iadd, 1) := by decide +kernel
theorem dX5_brokenLaw_35 : decode cX5_brokenLaw 35 = .ok (.iconst 1, 1) := by decide +kernel
theorem dX5_brokenLaw_36 : decode cX5_brokenLaw 36 = .ok (.invokevirtual 125, 3) := by decide +kernel
theorem dX5_brokenLaw_39 : decode cX5_brokenLaw 39 = .ok (.ifCond .ne 5, 3) := by decide +kernel
theorem dX5_brokenLaw_42 : decode cX5_brokenLaw 42 = .ok (.iconst 2, 1) := by decide +kernel
theorem dX5_brokenLaw_43 : decode cX5_brokenLaw 43 = .ok (.ireturn, 1) := by decide +kernel
theorem dX5_brokenLaw_44 : decode cX5_brokenLaw 44 = .ok (.iload 4, 2) := by decide +kernel
theorem dX5_brokenLaw_46 : decode cX5_brokenLaw 46 = .ok (.iconst (-1), 1) := by decide +kernel
theorem dX5_brokenLaw_47 : decode cX5_brokenLaw 47 = .ok (.if_icmp .ne 7, 3) := by decide +kernel
theorem dX5_brokenLaw_50 : decode cX5_brokenLaw 50 = .ok (.iconst 0, 1) := by decide +kernel
theorem dX5_brokenLaw_51 : decode cX5_brokenLaw 51 = .ok (.goto 4, 3) := by decide +kernel
theorem dX5_brokenLaw_54 : decode cX5_brokenLaw 54 = .ok (.iconst 1, 1) := by decide +kernel
theorem dX5_brokenLaw_55 : decode cX5_brokenLaw 55 = .ok (.iload_n 3, 1) := by decide +kernel
theorem dX5_brokenLaw_56 : decode cX5_brokenLaw 56 = .ok (.iconst (-1), 1) := by decide +kernel
theorem dX5_brokenLaw_57 : decode cX5_brokenLaw 57 = .ok (.if_icmp .ne 7, 3) := by decide +kernel
theorem dX5_brokenLaw_60 : decode cX5_brokenLaw 60 = .ok (.iconst 0, 1) := by decide +kernel
theorem dX5_brokenLaw_61 : decode cX5_brokenLaw 61 = .ok (.goto 4, 3) := by decide +kernel
theorem dX5_brokenLaw_64 : decode cX5_brokenLaw 64 = .ok (.iconst 1, 1) := by decide +kernel
theorem dX5_brokenLaw_65 : decode cX5_brokenLaw 65 = .ok (.isub, 1) := by decide +kernel
theorem dX5_brokenLaw_66 : decode cX5_brokenLaw 66 = .ok (.istore 5, 2) := by decide +kernel
theorem dX5_brokenLaw_68 : decode cX5_brokenLaw 68 = .ok (.aload_n 0, 1) := by decide +kernel
theorem dX5_brokenLaw_69 : decode cX5_brokenLaw 69 = .ok (.iload_n 2, 1) := by decide +kernel
theorem dX5_brokenLaw_70 : decode cX5_brokenLaw 70 = .ok (.iload 5, 2) := by decide +kernel
theorem dX5_brokenLaw_72 : decode cX5_brokenLaw 72 = .ok (.invokevirtual 129, 3) := by decide +kernel
theorem dX5_brokenLaw_75 : decode cX5_brokenLaw 75 = .ok (.ifCond .eq 16, 3) := by decide +kernel
theorem dX5_brokenLaw_78 : decode cX5_brokenLaw 78 = .ok (.aload_n 0, 1) := by decide +kernel
theorem dX5_brokenLaw_79 : decode cX5_brokenLaw 79 = .ok (.iload_n 2, 1) := by decide +kernel
theorem dX5_brokenLaw_80 : decode cX5_brokenLaw 80 = .ok (.iconst 1, 1) := by decide +kernel
theorem dX5_brokenLaw_81 : decode cX5_brokenLaw 81 = .ok (.iadd, 1) := by decide +kernel
theorem dX5_brokenLaw_82 : decode cX5_brokenLaw 82 = .ok (.iload 5, 2) := by decide +kernel
theorem dX5_brokenLaw_84 : decode cX5_brokenLaw 84 = .ok (.ineg, 1) := by decide +kernel
theorem dX5_brokenLaw_85 : decode cX5_brokenLaw 85 = .ok (.invokevirtual 129, 3) := by decide +kernel
theorem dX5_brokenLaw_88 : decode cX5_brokenLaw 88 = .ok (.ifCond .ne 5, 3) := by decide +kernel
theorem dX5_brokenLaw_91 : decode cX5_brokenLaw 91 = .ok (.iconst 3, 1) := by decide +kernel
theorem dX5_brokenLaw_92 : decode cX5_brokenLaw 92 = .ok (.ireturn, 1) := by decide +kernel
theorem dX5_brokenLaw_93 : decode cX5_brokenLaw 93 = .ok (.aload_n 0, 1) := by decide +kernel
theorem dX5_brokenLaw_94 : decode cX5_brokenLaw 94 = .ok (.iload_n 3, 1) := by decide +kernel
theorem dX5_brokenLaw_95 : decode cX5_brokenLaw 95 = .ok (.iload 4, 2) := by decide +kernel
theorem dX5_brokenLaw_97 : decode cX5_brokenLaw 97 = .ok (.invokevirtual 133, 3) := by decide +kernel
theorem dX5_brokenLaw_100 : decode cX5_brokenLaw 100 = .ok (.istore 6, 2) := by decide +kernel
theorem dX5_brokenLaw_102 : decode cX5_brokenLaw 102 = .ok (.aload_n 0, 1) := by decide +kernel
theorem dX5_brokenLaw_103 : decode cX5_brokenLaw 103 = .ok (.getfield 36, 3) := by decide +kernel
theorem dX5_brokenLaw_106 : decode cX5_brokenLaw 106 = .ok (.iload_n 2, 1) := by decide +kernel
theorem dX5_brokenLaw_107 : decode cX5_brokenLaw 107 = .ok (.iaload, 1) := by decide +kernel
theorem dX5_brokenLaw_108 : decode cX5_brokenLaw 108 = .ok (.iload 6, 2) := by decide +kernel
theorem dX5_brokenLaw_110 : decode cX5_brokenLaw 110 = .ok (.if_icmp .ge 5, 3) := by decide +kernel
theorem dX5_brokenLaw_113 : decode cX5_brokenLaw 113 = .ok (.iconst 4, 1) := by decide +kernel
theorem dX5_brokenLaw_114 : decode cX5_brokenLaw 114 = .ok (.ireturn, 1) := by decide +kernel
theorem dX5_brokenLaw_115 : decode cX5_brokenLaw 115 = .ok (.aload_n 1, 1) := by decide +kernel
theorem dX5_brokenLaw_116 : decode cX5_brokenLaw 116 = .ok (.ifnonnull 5, 3) := by decide +kernel
theorem dX5_brokenLaw_119 : decode cX5_brokenLaw 119 = .ok (.iconst 0, 1) := by decide +kernel
theorem dX5_brokenLaw_120 : decode cX5_brokenLaw 120 = .ok (.ireturn, 1) := by decide +kernel
theorem dX5_brokenLaw_121 : decode cX5_brokenLaw 121 = .ok (.aload_n 0, 1) := by decide +kernel
theorem dX5_brokenLaw_122 : decode cX5_brokenLaw 122 = .ok (.aload_n 1, 1) := by decide +kernel
theorem dX5_brokenLaw_123 : decode cX5_brokenLaw 123 = .ok (.getfield 136, 3) := by decide +kernel
theorem dX5_brokenLaw_126 : decode cX5_brokenLaw 126 = .ok (.iload_n 2, 1) := by decide +kernel
theorem dX5_brokenLaw_127 : decode cX5_brokenLaw 127 = .ok (.iload_n 3, 1) := by decide +kernel
theorem dX5_brokenLaw_128 : decode cX5_brokenLaw 128 = .ok (.iload 4, 2) := by decide +kernel
theorem dX5_brokenLaw_130 : decode cX5_brokenLaw 130 = .ok (.iload 6, 2) := by decide +kernel
theorem dX5_brokenLaw_132 : decode cX5_brokenLaw 132 = .ok (.invokevirtual 142, 3) := by decide +kernel
theorem dX5_brokenLaw_135 : decode cX5_brokenLaw 135 = .ok (.aload_n 1, 1) := by decide +kernel
theorem dX5_brokenLaw_136 : decode cX5_brokenLaw 136 = .ok (.invokevirtual 146, 3) := by decide +kernel
theorem dX5_brokenLaw_139 : decode cX5_brokenLaw 139 = .ok (.ifCond .eq 7, 3) := by decide +kernel
theorem dX5_brokenLaw_142 : decode cX5_brokenLaw 142 = .ok (.iconst 5, 1) := by decide +kernel
theorem dX5_brokenLaw_143 : decode cX5_brokenLaw 143 = .ok (.goto 4, 3) := by decide +kernel
theorem dX5_brokenLaw_146 : decode cX5_brokenLaw 146 = .ok (.iconst 0, 1) := by decide +kernel
theorem dX5_brokenLaw_147 : decode cX5_brokenLaw 147 = .ok (.ireturn, 1) := by decide +kernel
theorem dX5_isReady_0 : decode cX5_isReady 0 = .ok (.aload_n 0, 1) := by decide +kernel
theorem dX5_isReady_1 : decode cX5_isReady 1 = .ok (.iload_n 1, 1) := by decide +kernel
theorem dX5_isReady_2 : decode cX5_isReady 2 = .ok (.invokevirtual 92, 3) := by decide +kernel
theorem dX5_isReady_5 : decode cX5_isReady 5 = .ok (.ifCond .eq 23, 3) := by decide +kernel
theorem dX5_isReady_8 : decode cX5_isReady 8 = .ok (.aload_n 0, 1) := by decide +kernel
theorem dX5_isReady_9 : decode cX5_isReady 9 = .ok (.getfield 49, 3) := by decide +kernel
theorem dX5_isReady_12 : decode cX5_isReady 12 = .ok (.iload_n 1, 1) := by decide +kernel
theorem dX5_isReady_13 : decode cX5_isReady 13 = .ok (.iaload, 1) := by decide +kernel
theorem dX5_isReady_14 : decode cX5_isReady 14 = .ok (.iload_n 2, 1) := by decide +kernel
theorem dX5_isReady_15 : decode cX5_isReady 15 = .ok (.if_icmp .ne 17, 3) := by decide +kernel
theorem dX5_isReady_18 : decode cX5_isReady 18 = .ok (.aload_n 0, 1) := by decide +kernel
theorem dX5_isReady_19 : decode cX5_isReady 19 = .ok (.getfield 58, 3) := by decide +kernel
theorem dX5_isReady_22 : decode cX5_isReady 22 = .ok (.iload_n 1, 1) := by decide +kernel
theorem dX5_isReady_23 : decode cX5_isReady 23 = .ok (.iaload, 1) := by decide +kernel
theorem dX5_isReady_24 : decode cX5_isReady 24 = .ok (.iload_n 3, 1) := by decide +kernel
theorem dX5_isReady_25 : decode cX5_isReady 25 = .ok (.if_icmp .ne 7, 3) := by decide +kernel
theorem dX5_isReady_28 : decode cX5_isReady 28 = .ok (.iconst 1, 1) := by decide +kernel
theorem dX5_isReady_29 : decode cX5_isReady 29 = .ok (.goto 4, 3) := by decide +kernel
theorem dX5_isReady_32 : decode cX5_isReady 32 = .ok (.iconst 0, 1) := by decide +kernel
theorem dX5_isReady_33 : decode cX5_isReady 33 = .ok (.ireturn, 1) := by decide +kernel
theorem dX5_hasSeats_0 : decode cX5_hasSeats 0 = .ok (.iload_n 1, 1) := by decide +kernel
theorem dX5_hasSeats_1 : decode cX5_hasSeats 1 = .ok (.ifCond .le 13, 3) := by decide +kernel
theorem dX5_hasSeats_4 : decode cX5_hasSeats 4 = .ok (.iload_n 1, 1) := by decide +kernel
theorem dX5_hasSeats_5 : decode cX5_hasSeats 5 = .ok (.aload_n 0, 1) := by decide +kernel
theorem dX5_hasSeats_6 : decode cX5_hasSeats 6 = .ok (.getfield 9, 3) := by decide +kernel
theorem dX5_hasSeats_9 : decode cX5_hasSeats 9 = .ok (.iconst 1, 1) := by decide +kernel
theorem dX5_hasSeats_10 : decode cX5_hasSeats 10 = .ok (.isub, 1) := by decide +kernel
theorem dX5_hasSeats_11 : decode cX5_hasSeats 11 = .ok (.if_icmp .lt 7, 3) := by decide +kernel
theorem dX5_hasSeats_14 : decode cX5_hasSeats 14 = .ok (.iconst 1, 1) := by decide +kernel
theorem dX5_hasSeats_15 : decode cX5_hasSeats 15 = .ok (.goto 4, 3) := by decide +kernel
theorem dX5_hasSeats_18 : decode cX5_hasSeats 18 = .ok (.iconst 0, 1) := by decide +kernel
theorem dX5_hasSeats_19 : decode cX5_hasSeats 19 = .ok (.istore_n 3, 1) := by decide +kernel
theorem dX5_hasSeats_20 : decode cX5_hasSeats 20 = .ok (.iload_n 3, 1) := by decide +kernel
theorem dX5_hasSeats_21 : decode cX5_hasSeats 21 = .ok (.ifCond .ne 22, 3) := by decide +kernel
theorem dX5_hasSeats_24 : decode cX5_hasSeats 24 = .ok (.aload_n 0, 1) := by decide +kernel
theorem dX5_hasSeats_25 : decode cX5_hasSeats 25 = .ok (.iload_n 1, 1) := by decide +kernel
theorem dX5_hasSeats_26 : decode cX5_hasSeats 26 = .ok (.invokevirtual 150, 3) := by decide +kernel
theorem dX5_hasSeats_29 : decode cX5_hasSeats 29 = .ok (.invokestatic 105, 3) := by decide +kernel
theorem dX5_hasSeats_32 : decode cX5_hasSeats 32 = .ok (.iload_n 2, 1) := by decide +kernel
theorem dX5_hasSeats_33 : decode cX5_hasSeats 33 = .ok (.iadd, 1) := by decide +kernel
theorem dX5_hasSeats_34 : decode cX5_hasSeats 34 = .ok (.aload_n 0, 1) := by decide +kernel
theorem dX5_hasSeats_35 : decode cX5_hasSeats 35 = .ok (.getfield 40, 3) := by decide +kernel
theorem dX5_hasSeats_38 : decode cX5_hasSeats 38 = .ok (.iload_n 1, 1) := by decide +kernel
theorem dX5_hasSeats_39 : decode cX5_hasSeats 39 = .ok (.iaload, 1) := by decide +kernel
theorem dX5_hasSeats_40 : decode cX5_hasSeats 40 = .ok (.if_icmp .gt 7, 3) := by decide +kernel
theorem dX5_hasSeats_43 : decode cX5_hasSeats 43 = .ok (.iconst 1, 1) := by decide +kernel
theorem dX5_hasSeats_44 : decode cX5_hasSeats 44 = .ok (.goto 4, 3) := by decide +kernel
theorem dX5_hasSeats_47 : decode cX5_hasSeats 47 = .ok (.iconst 0, 1) := by decide +kernel
theorem dX5_hasSeats_48 : decode cX5_hasSeats 48 = .ok (.ireturn, 1) := by decide +kernel
theorem dX5_tellWords_0 : decode cX5_tellWords 0 = .ok (.aload_n 1, 1) := by decide +kernel
theorem dX5_tellWords_1 : decode cX5_tellWords 1 = .ok (.arraylength, 1) := by decide +kernel
theorem dX5_tellWords_2 : decode cX5_tellWords 2 = .ok (.bipush 10, 2) := by decide +kernel
theorem dX5_tellWords_4 : decode cX5_tellWords 4 = .ok (.if_icmp .lt 11, 3) := by decide +kernel
theorem dX5_tellWords_7 : decode cX5_tellWords 7 = .ok (.aload_n 0, 1) := by decide +kernel
theorem dX5_tellWords_8 : decode cX5_tellWords 8 = .ok (.iload_n 2, 1) := by decide +kernel
theorem dX5_tellWords_9 : decode cX5_tellWords 9 = .ok (.invokevirtual 96, 3) := by decide +kernel
theorem dX5_tellWords_12 : decode cX5_tellWords 12 = .ok (.ifCond .ne 4, 3) := by decide +kernel
theorem dX5_tellWords_15 : decode cX5_tellWords 15 = .ok (.return_, 1) := by decide +kernel
theorem dX5_tellWords_16 : decode cX5_tellWords 16 = .ok (.aload_n 1, 1) := by decide +kernel
theorem dX5_tellWords_17 : decode cX5_tellWords 17 = .ok (.iconst 0, 1) := by decide +kernel
theorem dX5_tellWords_18 : decode cX5_tellWords 18 = .ok (.iload_n 2, 1) := by decide +kernel
theorem dX5_tellWords_19 : decode cX5_tellWords 19 = .ok (.i2l, 1) := by decide +kernel
theorem dX5_tellWords_20 : decode cX5_tellWords 20 = .ok (.lastore, 1) := by decide +kernel
theorem dX5_tellWords_21 : decode cX5_tellWords 21 = .ok (.aload_n 1, 1) := by decide +kernel
theorem dX5_tellWords_22 : decode cX5_tellWords 22 = .ok (.iconst 1, 1) := by decide +kernel
theorem dX5_tellWords_23 : decode cX5_tellWords 23 = .ok (.aload_n 0, 1) := by decide +kernel
theorem dX5_tellWords_24 : decode cX5_tellWords 24 = .ok (.iload_n 3, 1) := by decide +kernel
theorem dX5_tellWords_25 : decode cX5_tellWords 25 = .ok (.invokevirtual 110, 3) := by decide +kernel
theorem dX5_tellWords_28 : decode cX5_tellWords 28 = .ok (.i2l, 1) := by decide +kernel
theorem dX5_tellWords_29 : decode cX5_tellWords 29 = .ok (.lastore, 1) := by decide +kernel
theorem dX5_tellWords_30 : decode cX5_tellWords 30 = .ok (.aload_n 1, 1) := by decide +kernel
theorem dX5_tellWords_31 : decode cX5_tellWords 31 = .ok (.iconst 2, 1) := by decide +kernel
theorem dX5_tellWords_32 : decode cX5_tellWords 32 = .ok (.aload_n 0, 1) := by decide +kernel
theorem dX5_tellWords_33 : decode cX5_tellWords 33 = .ok (.iload 4, 2) := by decide +kernel
theorem dX5_tellWords_35 : decode cX5_tellWords 35 = .ok (.invokevirtual 110, 3) := by decide +kernel
theorem dX5_tellWords_38 : decode cX5_tellWords 38 = .ok (.i2l, 1) := by decide +kernel
theorem dX5_tellWords_39 : decode cX5_tellWords 39 = .ok (.lastore, 1) := by decide +kernel
theorem dX5_tellWords_40 : decode cX5_tellWords 40 = .ok (.aload_n 1, 1) := by decide +kernel
theorem dX5_tellWords_41 : decode cX5_tellWords 41 = .ok (.iconst 3, 1) := by decide +kernel
theorem dX5_tellWords_42 : decode cX5_tellWords 42 = .ok (.iload 5, 2) := by decide +kernel
theorem dX5_tellWords_44 : decode cX5_tellWords 44 = .ok (.i2l, 1) := by decide +kernel
theorem dX5_tellWords_45 : decode cX5_tellWords 45 = .ok (.lastore, 1) := by decide +kernel
theorem dX5_tellWords_46 : decode cX5_tellWords 46 = .ok (.aload_n 1, 1) := by decide +kernel
theorem dX5_tellWords_47 : decode cX5_tellWords 47 = .ok (.iconst 4, 1) := by decide +kernel
theorem dX5_tellWords_48 : decode cX5_tellWords 48 = .ok (.aload_n 0, 1) := by decide +kernel
theorem dX5_tellWords_49 : decode cX5_tellWords 49 = .ok (.getfield 36, 3) := by decide +kernel
theorem dX5_tellWords_52 : decode cX5_tellWords 52 = .ok (.iload_n 2, 1) := by decide +kernel
theorem dX5_tellWords_53 : decode cX5_tellWords 53 = .ok (.iaload, 1) := by decide +kernel
theorem dX5_tellWords_54 : decode cX5_tellWords 54 = .ok (.i2l, 1) := by decide +kernel
theorem dX5_tellWords_55 : decode cX5_tellWords 55 = .ok (.lastore, 1) := by decide +kernel
theorem dX5_tellWords_56 : decode cX5_tellWords 56 = .ok (.aload_n 1, 1) := by decide +kernel
theorem dX5_tellWords_57 : decode cX5_tellWords 57 = .ok (.iconst 5, 1) := by decide +kernel
theorem dX5_tellWords_58 : decode cX5_tellWords 58 = .ok (.aload_n 0, 1) := by decide +kernel
theorem dX5_tellWords_59 : decode cX5_tellWords 59 = .ok (.getfield 36, 3) := by decide +kernel
theorem dX5_tellWords_62 : decode cX5_tellWords 62 = .ok (.iload_n 2, 1) := by decide +kernel
theorem dX5_tellWords_63 : decode cX5_tellWords 63 = .ok (.iconst 1, 1) := by decide +kernel
theorem dX5_tellWords_64 : decode cX5_tellWords 64 = .ok (.iadd, 1) := by decide +kernel
theorem dX5_tellWords_65 : decode cX5_tellWords 65 = .ok (.iaload, 1) := by decide +kernel
theorem dX5_tellWords_66 : decode cX5_tellWords 66 = .ok (.i2l, 1) := by decide +kernel
theorem dX5_tellWords_67 : decode cX5_tellWords 67 = .ok (.lastore, 1) := by decide +kernel
theorem dX5_tellWords_68 : decode cX5_tellWords 68 = .ok (.aload_n 1, 1) := by decide +kernel
theorem dX5_tellWords_69 : decode cX5_tellWords 69 = .ok (.bipush 6, 2) := by decide +kernel
theorem dX5_tellWords_71 : decode cX5_tellWords 71 = .ok (.aload_n 0, 1) := by decide +kernel
theorem dX5_tellWords_72 : decode cX5_tellWords 72 = .ok (.iload_n 2, 1) := by decide +kernel
theorem dX5_tellWords_73 : decode cX5_tellWords 73 = .ok (.invokevirtual 150, 3) := by decide +kernel
theorem dX5_tellWords_76 : decode cX5_tellWords 76 = .ok (.invokestatic 105, 3) := by decide +kernel
theorem dX5_tellWords_79 : decode cX5_tellWords 79 = .ok (.i2l, 1) := by decide +kernel
theorem dX5_tellWords_80 : decode cX5_tellWords 80 = .ok (.lastore, 1) := by decide +kernel
theorem dX5_tellWords_81 : decode cX5_tellWords 81 = .ok (.aload_n 1, 1) := by decide +kernel
theorem dX5_tellWords_82 : decode cX5_tellWords 82 = .ok (.bipush 7, 2) := by decide +kernel
theorem dX5_tellWords_84 : decode cX5_tellWords 84 = .ok (.aload_n 0, 1) := by decide +kernel
theorem dX5_tellWords_85 : decode cX5_tellWords 85 = .ok (.iload_n 2, 1) := by decide +kernel
theorem dX5_tellWords_86 : decode cX5_tellWords 86 = .ok (.iconst 1, 1) := by decide +kernel
theorem dX5_tellWords_87 : decode cX5_tellWords 87 = .ok (.iadd, 1) := by decide +kernel
theorem dX5_tellWords_88 : decode cX5_tellWords 88 = .ok (.invokevirtual 150, 3) := by decide +kernel
theorem dX5_tellWords_91 : decode cX5_tellWords 91 = .ok (.invokestatic 105, 3) := by decide +kernel
theorem dX5_tellWords_94 : decode cX5_tellWords 94 = .ok (.i2l, 1) := by decide +kernel
theorem dX5_tellWords_95 : decode cX5_tellWords 95 = .ok (.lastore, 1) := by decide +kernel
theorem dX5_tellWords_96 : decode cX5_tellWords 96 = .ok (.aload_n 1, 1) := by decide +kernel
theorem dX5_tellWords_97 : decode cX5_tellWords 97 = .ok (.bipush 8, 2) := by decide +kernel
theorem dX5_tellWords_99 : decode cX5_tellWords 99 = .ok (.aload_n 0, 1) := by decide +kernel
theorem dX5_tellWords_100 : decode cX5_tellWords 100 = .ok (.iload_n 3, 1) := by decide +kernel
theorem dX5_tellWords_101 : decode cX5_tellWords 101 = .ok (.invokevirtual 122, 3) := by decide +kernel
theorem dX5_tellWords_104 : decode cX5_tellWords 104 = .ok (.aload_n 0, 1) := by decide +kernel
theorem dX5_tellWords_105 : decode cX5_tellWords 105 = .ok (.iload 4, 2) := by decide +kernel
theorem dX5_tellWords_107 : decode cX5_tellWords 107 = .ok (.invokevirtual 122, 3) := by decide +kernel
theorem dX5_tellWords_110 : decode cX5_tellWords 110 = .ok (.iadd, 1) := by decide +kernel
theorem dX5_tellWords_111 : decode cX5_tellWords 111 = .ok (.i2l, 1) := by decide +kernel
theorem dX5_tellWords_112 : decode cX5_tellWords 112 = .ok (.lastore, 1) := by decide +kernel
theorem dX5_tellWords_113 : decode cX5_tellWords 113 = .ok (.aload_n 1, 1) := by decide +kernel
theorem dX5_tellWords_114 : decode cX5_tellWords 114 = .ok (.bipush 9, 2) := by decide +kernel
theorem dX5_tellWords_116 : decode cX5_tellWords 116 = .ok (.aload_n 0, 1) := by decide +kernel
theorem dX5_tellWords_117 : decode cX5_tellWords 117 = .ok (.getfield 21, 3) := by decide +kernel
theorem dX5_tellWords_120 : decode cX5_tellWords 120 = .ok (.i2l, 1) := by decide +kernel
theorem dX5_tellWords_121 : decode cX5_tellWords 121 = .ok (.lastore, 1) := by decide +kernel
theorem dX5_tellWords_122 : decode cX5_tellWords 122 = .ok (.return_, 1) := by decide +kernel
theorem dX5_gatherTips_0 : decode cX5_gatherTips 0 = .ok (.iload_n 3, 1) := by decide +kernel
theorem dX5_gatherTips_1 : decode cX5_gatherTips 1 = .ok (.aload_n 2, 1) := by decide +kernel
theorem dX5_gatherTips_2 : decode cX5_gatherTips 2 = .ok (.arraylength, 1) := by decide +kernel
theorem dX5_gatherTips_3 : decode cX5_gatherTips 3 = .ok (.invokestatic 153, 3) := by decide +kernel
theorem dX5_gatherTips_6 : decode cX5_gatherTips 6 = .ok (.istore 4, 2) := by decide +kernel
theorem dX5_gatherTips_8 : decode cX5_gatherTips 8 = .ok (.iconst 0, 1) := by decide +kernel
theorem dX5_gatherTips_9 : decode cX5_gatherTips 9 = .ok (.istore 5, 2) := by decide +kernel
theorem dX5_gatherTips_11 : decode cX5_gatherTips 11 = .ok (.iconst 0, 1) := by decide +kernel
theorem dX5_gatherTips_12 : decode cX5_gatherTips 12 = .ok (.istore 6, 2) := by decide +kernel
theorem dX5_gatherTips_14 : decode cX5_gatherTips 14 = .ok (.iload 6, 2) := by decide +kernel
theorem dX5_gatherTips_16 : decode cX5_gatherTips 16 = .ok (.aload_n 0, 1) := by decide +kernel
theorem dX5_gatherTips_17 : decode cX5_gatherTips 17 = .ok (.getfield 9, 3) := by decide +kernel
theorem dX5_gatherTips_20 : decode cX5_gatherTips 20 = .ok (.iconst 1, 1) := by decide +kernel
theorem dX5_gatherTips_21 : decode cX5_gatherTips 21 = .ok (.isub, 1) := by decide +kernel
theorem dX5_gatherTips_22 : decode cX5_gatherTips 22 = .ok (.if_icmp .ge 158, 3) := by decide +kernel
theorem dX5_gatherTips_25 : decode cX5_gatherTips 25 = .ok (.iload 5, 2) := by decide +kernel
theorem dX5_gatherTips_27 : decode cX5_gatherTips 27 = .ok (.iload 4, 2) := by decide +kernel
theorem dX5_gatherTips_29 : decode cX5_gatherTips 29 = .ok (.if_icmp .ge 151, 3) := by decide +kernel
theorem dX5_gatherTips_32 : decode cX5_gatherTips 32 = .ok (.iconst 0, 1) := by decide +kernel
theorem dX5_gatherTips_33 : decode cX5_gatherTips 33 = .ok (.istore 7, 2) := by decide +kernel
theorem dX5_gatherTips_35 : decode cX5_gatherTips 35 = .ok (.iload 7, 2) := by decide +kernel
theorem dX5_gatherTips_37 : decode cX5_gatherTips 37 = .ok (.aload_n 0, 1) := by decide +kernel
theorem dX5_gatherTips_38 : decode cX5_gatherTips 38 = .ok (.getfield 15, 3) := by decide +kernel
theorem dX5_gatherTips_41 : decode cX5_gatherTips 41 = .ok (.if_icmp .gt 133, 3) := by decide +kernel
theorem dX5_gatherTips_44 : decode cX5_gatherTips 44 = .ok (.iload 5, 2) := by decide +kernel
theorem dX5_gatherTips_46 : decode cX5_gatherTips 46 = .ok (.iload 4, 2) := by decide +kernel
theorem dX5_gatherTips_48 : decode cX5_gatherTips 48 = .ok (.if_icmp .ge 126, 3) := by decide +kernel
theorem dX5_gatherTips_51 : decode cX5_gatherTips 51 = .ok (.iload 7, 2) := by decide +kernel
theorem dX5_gatherTips_53 : decode cX5_gatherTips 53 = .ok (.aload_n 0, 1) := by decide +kernel
theorem dX5_gatherTips_54 : decode cX5_gatherTips 54 = .ok (.getfield 15, 3) := by decide +kernel
theorem dX5_gatherTips_57 : decode cX5_gatherTips 57 = .ok (.if_icmp .ge 8, 3) := by decide +kernel
theorem dX5_gatherTips_60 : decode cX5_gatherTips 60 = .ok (.iload 7, 2) := by decide +kernel
theorem dX5_gatherTips_62 : decode cX5_gatherTips 62 = .ok (.goto 4, 3) := by decide +kernel
theorem dX5_gatherTips_65 : decode cX5_gatherTips 65 = .ok (.iconst (-1), 1) := by decide +kernel
theorem dX5_gatherTips_66 : decode cX5_gatherTips 66 = .ok (.istore 8, 2) := by decide +kernel
theorem dX5_gatherTips_68 : decode cX5_gatherTips 68 = .ok (.aload_n 0, 1) := by decide +kernel
theorem dX5_gatherTips_69 : decode cX5_gatherTips 69 = .ok (.iload 8, 2) := by decide +kernel
theorem dX5_gatherTips_71 : decode cX5_gatherTips 71 = .ok (.iload 6, 2) := by decide +kernel
theorem dX5_gatherTips_73 : decode cX5_gatherTips 73 = .ok (.iconst 0, 1) := by decide +kernel
theorem dX5_gatherTips_74 : decode cX5_gatherTips 74 = .ok (.invokevirtual 125, 3) := by decide +kernel
theorem dX5_gatherTips_77 : decode cX5_gatherTips 77 = .ok (.ifCond .ne 6, 3) := by decide +kernel
theorem dX5_gatherTips_80 : decode cX5_gatherTips 80 = .ok (.goto 88, 3) := by decide +kernel
theorem dX5_gatherTips_83 : decode cX5_gatherTips 83 = .ok (.iconst 0, 1) := by decide +kernel
theorem dX5_gatherTips_84 : decode cX5_gatherTips 84 = .ok (.istore 9, 2) := by decide +kernel
theorem dX5_gatherTips_86 : decode cX5_gatherTips 86 = .ok (.iload 9, 2) := by decide +kernel
theorem dX5_gatherTips_88 : decode cX5_gatherTips 88 = .ok (.aload_n 0, 1) := by decide +kernel
theorem dX5_gatherTips_89 : decode cX5_gatherTips 89 = .ok (.getfield 15, 3) := by decide +kernel
theorem dX5_gatherTips_92 : decode cX5_gatherTips 92 = .ok (.if_icmp .gt 76, 3) := by decide +kernel
theorem dX5_gatherTips_95 : decode cX5_gatherTips 95 = .ok (.iload 5, 2) := by decide +kernel
theorem dX5_gatherTips_97 : decode cX5_gatherTips 97 = .ok (.iload 4, 2) := by decide +kernel
theorem dX5_gatherTips_99 : decode cX5_gatherTips 99 = .ok (.if_icmp .ge 69, 3) := by decide +kernel
theorem dX5_gatherTips_102 : decode cX5_gatherTips 102 = .ok (.iload 9, 2) := by decide +kernel
theorem dX5_gatherTips_104 : decode cX5_gatherTips 104 = .ok (.aload_n 0, 1) := by decide +kernel
theorem dX5_gatherTips_105 : decode cX5_gatherTips 105 = .ok (.getfield 15, 3) := by decide +kernel
theorem dX5_gatherTips_108 : decode cX5_gatherTips 108 = .ok (.if_icmp .ge 8, 3) := by decide +kernel
theorem dX5_gatherTips_111 : decode cX5_gatherTips 111 = .ok (.iload 9, 2) := by decide +kernel
theorem dX5_gatherTips_113 : decode cX5_gatherTips 113 = .ok (.goto 4, 3) := by decide +kernel
theorem dX5_gatherTips_116 : decode cX5_gatherTips 116 = .ok (.iconst (-1), 1) := by decide +kernel
theorem dX5_gatherTips_117 : decode cX5_gatherTips 117 = .ok (.istore 10, 2) := by decide +kernel
theorem dX5_gatherTips_119 : decode cX5_gatherTips 119 = .ok (.aload_n 0, 1) := by decide +kernel
theorem dX5_gatherTips_120 : decode cX5_gatherTips 120 = .ok (.iload 6, 2) := by decide +kernel
theorem dX5_gatherTips_122 : decode cX5_gatherTips 122 = .ok (.iload 8, 2) := by decide +kernel
theorem dX5_gatherTips_124 : decode cX5_gatherTips 124 = .ok (.iload 10, 2) := by decide +kernel
theorem dX5_gatherTips_126 : decode cX5_gatherTips 126 = .ok (.invokevirtual 156, 3) := by decide +kernel
theorem dX5_gatherTips_129 : decode cX5_gatherTips 129 = .ok (.ifCond .eq 33, 3) := by decide +kernel
theorem dX5_gatherTips_132 : decode cX5_gatherTips 132 = .ok (.aload_n 0, 1) := by decide +kernel
theorem dX5_gatherTips_133 : decode cX5_gatherTips 133 = .ok (.aload_n 1, 1) := by decide +kernel
theorem dX5_gatherTips_134 : decode cX5_gatherTips 134 = .ok (.iload 6, 2) := by decide +kernel
theorem dX5_gatherTips_136 : decode cX5_gatherTips 136 = .ok (.iload 8, 2) := by decide +kernel
theorem dX5_gatherTips_138 : decode cX5_gatherTips 138 = .ok (.iload 10, 2) := by decide +kernel
theorem dX5_gatherTips_140 : decode cX5_gatherTips 140 = .ok (.invokevirtual 159, 3) := by decide +kernel
theorem dX5_gatherTips_143 : decode cX5_gatherTips 143 = .ok (.ifCond .ne 19, 3) := by decide +kernel
theorem dX5_gatherTips_146 : decode cX5_gatherTips 146 = .ok (.aload_n 2, 1) := by decide +kernel
theorem dX5_gatherTips_147 : decode cX5_gatherTips 147 = .ok (.iload 5, 2) := by decide +kernel
theorem dX5_gatherTips_149 : decode cX5_gatherTips 149 = .ok (.iload 6, 2) := by decide +kernel
theorem dX5_gatherTips_151 : decode cX5_gatherTips 151 = .ok (.iload 8, 2) := by decide +kernel
theorem dX5_gatherTips_153 : decode cX5_gatherTips 153 = .ok (.iload 10, 2) := by decide +kernel
theorem dX5_gatherTips_155 : decode cX5_gatherTips 155 = .ok (.invokestatic 163, 3) := by decide +kernel
theorem dX5_gatherTips_158 : decode cX5_gatherTips 158 = .ok (.iastore, 1) := by decide +kernel
theorem dX5_gatherTips_159 : decode cX5_gatherTips 159 = .ok (.iinc 5 1, 3) := by decide +kernel
theorem dX5_gatherTips_162 : decode cX5_gatherTips 162 = .ok (.iinc 9 1, 3) := by decide +kernel
theorem dX5_gatherTips_165 : decode cX5_gatherTips 165 = .ok (.goto (-79), 3) := by decide +kernel
theorem dX5_gatherTips_168 : decode cX5_gatherTips 168 = .ok (.iinc 7 1, 3) := by decide +kernel
theorem dX5_gatherTips_171 : decode cX5_gatherTips 171 = .ok (.goto (-136), 3) := by decide +kernel
theorem dX5_gatherTips_174 : decode cX5_gatherTips 174 = .ok (.iinc 6 1, 3) := by decide +kernel
theorem dX5_gatherTips_177 : decode cX5_gatherTips 177 = .ok (.goto (-163), 3) := by decide +kernel
theorem dX5_gatherTips_180 : decode cX5_gatherTips 180 = .ok (.iload 5, 2) := by decide +kernel
theorem dX5_gatherTips_182 : decode cX5_gatherTips 182 = .ok (.ireturn, 1) := by decide +kernel
theorem dX5_doTip_0 : decode cX5_doTip 0 = .ok (.aload_n 0, 1) := by decide +kernel
theorem dX5_doTip_1 : decode cX5_doTip 1 = .ok (.iload_n 1, 1) := by decide +kernel
theorem dX5_doTip_2 : decode cX5_doTip 2 = .ok (.iconst 1, 1) := by decide +kernel
theorem dX5_doTip_3 : decode cX5_doTip 3 = .ok (.invokevirtual 167, 3) := by decide +kernel
theorem dX5_doTip_6 : decode cX5_doTip 6 = .ok (.aload_n 0, 1) := by decide +kernel
theorem dX5_doTip_7 : decode cX5_doTip 7 = .ok (.iload_n 1, 1) := by decide +kernel
theorem dX5_doTip_8 : decode cX5_doTip 8 = .ok (.iconst 1, 1) := by decide +kernel
theorem dX5_doTip_9 : decode cX5_doTip 9 = .ok (.invokevirtual 171, 3) := by decide +kernel
theorem dX5_doTip_12 : decode cX5_doTip 12 = .ok (.return_, 1) := by decide +kernel
theorem dX5_undoTip_0 : decode cX5_undoTip 0 = .ok (.aload_n 0, 1) := by decide +kernel
theorem dX5_undoTip_1 : decode cX5_undoTip 1 = .ok (.iload_n 1, 1) := by decide +kernel
theorem dX5_undoTip_2 : decode cX5_undoTip 2 = .ok (.iconst (-1), 1) := by decide +kernel
theorem dX5_undoTip_3 : decode cX5_undoTip 3 = .ok (.invokevirtual 167, 3) := by decide +kernel
theorem dX5_undoTip_6 : decode cX5_undoTip 6 = .ok (.aload_n 0, 1) := by decide +kernel
theorem dX5_undoTip_7 : decode cX5_undoTip 7 = .ok (.iload_n 1, 1) := by decide +kernel
theorem dX5_undoTip_8 : decode cX5_undoTip 8 = .ok (.iconst (-1), 1) := by decide +kernel
theorem dX5_undoTip_9 : decode cX5_undoTip 9 = .ok (.invokevirtual 171, 3) := by decide +kernel
theorem dX5_undoTip_12 : decode cX5_undoTip 12 = .ok (.return_, 1) := by decide +kernel
theorem dX5_moveBarges_0 : decode cX5_moveBarges 0 = .ok (.iload_n 1, 1) := by decide +kernel
theorem dX5_moveBarges_1 : decode cX5_moveBarges 1 = .ok (.invokestatic 74, 3) := by decide +kernel
theorem dX5_moveBarges_4 : decode cX5_moveBarges 4 = .ok (.istore_n 3, 1) := by decide +kernel
theorem dX5_moveBarges_5 : decode cX5_moveBarges 5 = .ok (.iload_n 1, 1) := by decide +kernel
theorem dX5_moveBarges_6 : decode cX5_moveBarges 6 = .ok (.invokestatic 77, 3) := by decide +kernel
theorem dX5_moveBarges_9 : decode cX5_moveBarges 9 = .ok (.istore 4, 2) := by decide +kernel
theorem dX5_moveBarges_11 : decode cX5_moveBarges 11 = .ok (.aload_n 0, 1) := by decide +kernel
theorem dX5_moveBarges_12 : decode cX5_moveBarges 12 = .ok (.iload_n 3, 1) := by decide +kernel
theorem dX5_moveBarges_13 : decode cX5_moveBarges 13 = .ok (.invokevirtual 92, 3) := by decide +kernel
theorem dX5_moveBarges_16 : decode cX5_moveBarges 16 = .ok (.ifCond .eq 13, 3) := by decide +kernel
theorem dX5_moveBarges_19 : decode cX5_moveBarges 19 = .ok (.aload_n 0, 1) := by decide +kernel
theorem dX5_moveBarges_20 : decode cX5_moveBarges 20 = .ok (.getfield 49, 3) := by decide +kernel
theorem dX5_moveBarges_23 : decode cX5_moveBarges 23 = .ok (.iload_n 3, 1) := by decide +kernel
theorem dX5_moveBarges_24 : decode cX5_moveBarges 24 = .ok (.dup2, 1) := by decide +kernel
theorem dX5_moveBarges_25 : decode cX5_moveBarges 25 = .ok (.iaload, 1) := by decide +kernel
theorem dX5_moveBarges_26 : decode cX5_moveBarges 26 = .ok (.iload_n 2, 1) := by decide +kernel
theorem dX5_moveBarges_27 : decode cX5_moveBarges 27 = .ok (.iadd, 1) := by decide +kernel
theorem dX5_moveBarges_28 : decode cX5_moveBarges 28 = .ok (.iastore, 1) := by decide +kernel
theorem dX5_moveBarges_29 : decode cX5_moveBarges 29 = .ok (.aload_n 0, 1) := by decide +kernel
theorem dX5_moveBarges_30 : decode cX5_moveBarges 30 = .ok (.iload 4, 2) := by decide +kernel
theorem dX5_moveBarges_32 : decode cX5_moveBarges 32 = .ok (.invokevirtual 92, 3) := by decide +kernel
theorem dX5_moveBarges_35 : decode cX5_moveBarges 35 = .ok (.ifCond .eq 14, 3) := by decide +kernel
theorem dX5_moveBarges_38 : decode cX5_moveBarges 38 = .ok (.aload_n 0, 1) := by decide +kernel
theorem dX5_moveBarges_39 : decode cX5_moveBarges 39 = .ok (.getfield 49, 3) := by decide +kernel
theorem dX5_moveBarges_42 : decode cX5_moveBarges 42 = .ok (.iload 4, 2) := by decide +kernel
theorem dX5_moveBarges_44 : decode cX5_moveBarges 44 = .ok (.dup2, 1) := by decide +kernel
theorem dX5_moveBarges_45 : decode cX5_moveBarges 45 = .ok (.iaload, 1) := by decide +kernel
theorem dX5_moveBarges_46 : decode cX5_moveBarges 46 = .ok (.iload_n 2, 1) := by decide +kernel
theorem dX5_moveBarges_47 : decode cX5_moveBarges 47 = .ok (.isub, 1) := by decide +kernel
theorem dX5_moveBarges_48 : decode cX5_moveBarges 48 = .ok (.iastore, 1) := by decide +kernel
theorem dX5_moveBarges_49 : decode cX5_moveBarges 49 = .ok (.return_, 1) := by decide +kernel
theorem dX5_pour_0 : decode cX5_pour 0 = .ok (.iload_n 1, 1) := by decide +kernel
theorem dX5_pour_1 : decode cX5_pour 1 = .ok (.invokestatic 70, 3) := by decide +kernel
theorem dX5_pour_4 : decode cX5_pour 4 = .ok (.istore_n 3, 1) := by decide +kernel
theorem dX5_pour_5 : decode cX5_pour 5 = .ok (.aload_n 0, 1) := by decide +kernel
theorem dX5_pour_6 : decode cX5_pour 6 = .ok (.iload_n 3, 1) := by decide +kernel
theorem dX5_pour_7 : decode cX5_pour 7 = .ok (.invokevirtual 96, 3) := by decide +kernel
theorem dX5_pour_10 : decode cX5_pour 10 = .ok (.ifCond .ne 4, 3) := by decide +kernel
theorem dX5_pour_13 : decode cX5_pour 13 = .ok (.return_, 1) := by decide +kernel
theorem dX5_pour_14 : decode cX5_pour 14 = .ok (.iload_n 2, 1) := by decide +kernel
theorem dX5_pour_15 : decode cX5_pour 15 = .ok (.aload_n 0, 1) := by decide +kernel
theorem dX5_pour_16 : decode cX5_pour 16 = .ok (.iload_n 1, 1) := by decide +kernel
theorem dX5_pour_17 : decode cX5_pour 17 = .ok (.invokestatic 74, 3) := by decide +kernel
theorem dX5_pour_20 : decode cX5_pour 20 = .ok (.iload_n 1, 1) := by decide +kernel
theorem dX5_pour_21 : decode cX5_pour 21 = .ok (.invokestatic 77, 3) := by decide +kernel
theorem dX5_pour_24 : decode cX5_pour 24 = .ok (.invokevirtual 133, 3) := by decide +kernel
theorem dX5_pour_27 : decode cX5_pour 27 = .ok (.imul, 1) := by decide +kernel
theorem dX5_pour_28 : decode cX5_pour 28 = .ok (.istore 4, 2) := by decide +kernel
theorem dX5_pour_30 : decode cX5_pour 30 = .ok (.aload_n 0, 1) := by decide +kernel
theorem dX5_pour_31 : decode cX5_pour 31 = .ok (.getfield 36, 3) := by decide +kernel
theorem dX5_pour_34 : decode cX5_pour 34 = .ok (.iload_n 3, 1) := by decide +kernel
theorem dX5_pour_35 : decode cX5_pour 35 = .ok (.dup2, 1) := by decide +kernel
theorem dX5_pour_36 : decode cX5_pour 36 = .ok (.iaload, 1) := by decide +kernel
theorem dX5_pour_37 : decode cX5_pour 37 = .ok (.iload 4, 2) := by decide +kernel
theorem dX5_pour_39 : decode cX5_pour 39 = .ok (.isub, 1) := by decide +kernel
theorem dX5_pour_40 : decode cX5_pour 40 = .ok (.iastore, 1) := by decide +kernel
theorem dX5_pour_41 : decode cX5_pour 41 = .ok (.aload_n 0, 1) := by decide +kernel
theorem dX5_pour_42 : decode cX5_pour 42 = .ok (.getfield 36, 3) := by decide +kernel
theorem dX5_pour_45 : decode cX5_pour 45 = .ok (.iload_n 3, 1) := by decide +kernel
theorem dX5_pour_46 : decode cX5_pour 46 = .ok (.iconst 1, 1) := by decide +kernel
theorem dX5_pour_47 : decode cX5_pour 47 = .ok (.iadd, 1) := by decide +kernel
theorem dX5_pour_48 : decode cX5_pour 48 = .ok (.dup2, 1) := by decide +kernel
theorem dX5_pour_49 : decode cX5_pour 49 = .ok (.iaload, 1) := by decide +kernel
theorem dX5_pour_50 : decode cX5_pour 50 = .ok (.iload 4, 2) := by decide +kernel
theorem dX5_pour_52 : decode cX5_pour 52 = .ok (.iadd, 1) := by decide +kernel
theorem dX5_pour_53 : decode cX5_pour 53 = .ok (.iastore, 1) := by decide +kernel
theorem dX5_pour_54 : decode cX5_pour 54 = .ok (.aload_n 0, 1) := by decide +kernel
theorem dX5_pour_55 : decode cX5_pour 55 = .ok (.dup, 1) := by decide +kernel
theorem dX5_pour_56 : decode cX5_pour 56 = .ok (.getfield 24, 3) := by decide +kernel
theorem dX5_pour_59 : decode cX5_pour 59 = .ok (.iload 4, 2) := by decide +kernel
theorem dX5_pour_61 : decode cX5_pour 61 = .ok (.iadd, 1) := by decide +kernel
theorem dX5_pour_62 : decode cX5_pour 62 = .ok (.putfield 24, 3) := by decide +kernel
theorem dX5_pour_65 : decode cX5_pour 65 = .ok (.aload_n 0, 1) := by decide +kernel
theorem dX5_pour_66 : decode cX5_pour 66 = .ok (.dup, 1) := by decide +kernel
theorem dX5_pour_67 : decode cX5_pour 67 = .ok (.getfield 21, 3) := by decide +kernel
theorem dX5_pour_70 : decode cX5_pour 70 = .ok (.iload_n 2, 1) := by decide +kernel
theorem dX5_pour_71 : decode cX5_pour 71 = .ok (.aload_n 0, 1) := by decide +kernel
theorem dX5_pour_72 : decode cX5_pour 72 = .ok (.iload_n 1, 1) := by decide +kernel
theorem dX5_pour_73 : decode cX5_pour 73 = .ok (.invokestatic 74, 3) := by decide +kernel
theorem dX5_pour_76 : decode cX5_pour 76 = .ok (.iload_n 1, 1) := by decide +kernel
theorem dX5_pour_77 : decode cX5_pour 77 = .ok (.invokestatic 77, 3) := by decide +kernel
theorem dX5_pour_80 : decode cX5_pour 80 = .ok (.invokevirtual 119, 3) := by decide +kernel
theorem dX5_pour_83 : decode cX5_pour 83 = .ok (.imul, 1) := by decide +kernel
theorem dX5_pour_84 : decode cX5_pour 84 = .ok (.iadd, 1) := by decide +kernel
theorem dX5_pour_85 : decode cX5_pour 85 = .ok (.putfield 21, 3) := by decide +kernel
theorem dX5_pour_88 : decode cX5_pour 88 = .ok (.return_, 1) := by decide +kernel
theorem dX5_runTips_0 : decode cX5_runTips 0 = .ok (.iconst 0, 1) := by decide +kernel
theorem dX5_runTips_1 : decode cX5_runTips 1 = .ok (.istore_n 3, 1) := by decide +kernel
theorem dX5_runTips_2 : decode cX5_runTips 2 = .ok (.iload_n 3, 1) := by decide +kernel
theorem dX5_runTips_3 : decode cX5_runTips 3 = .ok (.iload_n 2, 1) := by decide +kernel
theorem dX5_runTips_4 : decode cX5_runTips 4 = .ok (.if_icmp .ge 32, 3) := by decide +kernel
theorem dX5_runTips_7 : decode cX5_runTips 7 = .ok (.aload_n 0, 1) := by decide +kernel
theorem dX5_runTips_8 : decode cX5_runTips 8 = .ok (.aload_n 1, 1) := by decide +kernel
theorem dX5_runTips_9 : decode cX5_runTips 9 = .ok (.aload_n 0, 1) := by decide +kernel
theorem dX5_runTips_10 : decode cX5_runTips 10 = .ok (.getfield 67, 3) := by decide +kernel
theorem dX5_runTips_13 : decode cX5_runTips 13 = .ok (.iconst 1, 1) := by decide +kernel
theorem dX5_runTips_14 : decode cX5_runTips 14 = .ok (.invokevirtual 174, 3) := by decide +kernel
theorem dX5_runTips_17 : decode cX5_runTips 17 = .ok (.ifCond .le 19, 3) := by decide +kernel
theorem dX5_runTips_20 : decode cX5_runTips 20 = .ok (.aload_n 0, 1) := by decide +kernel
theorem dX5_runTips_21 : decode cX5_runTips 21 = .ok (.aload_n 0, 1) := by decide +kernel
theorem dX5_runTips_22 : decode cX5_runTips 22 = .ok (.getfield 67, 3) := by decide +kernel
theorem dX5_runTips_25 : decode cX5_runTips 25 = .ok (.iconst 0, 1) := by decide +kernel
theorem dX5_runTips_26 : decode cX5_runTips 26 = .ok (.iaload, 1) := by decide +kernel
theorem dX5_runTips_27 : decode cX5_runTips 27 = .ok (.invokevirtual 178, 3) := by decide +kernel
theorem dX5_runTips_30 : decode cX5_runTips 30 = .ok (.iinc 3 1, 3) := by decide +kernel
theorem dX5_runTips_33 : decode cX5_runTips 33 = .ok (.goto (-31), 3) := by decide +kernel
theorem dX5_runTips_36 : decode cX5_runTips 36 = .ok (.iload_n 3, 1) := by decide +kernel
theorem dX5_runTips_37 : decode cX5_runTips 37 = .ok (.ireturn, 1) := by decide +kernel
theorem dX5_isStuck_0 : decode cX5_isStuck 0 = .ok (.aload_n 0, 1) := by decide +kernel
theorem dX5_isStuck_1 : decode cX5_isStuck 1 = .ok (.invokevirtual 182, 3) := by decide +kernel
theorem dX5_isStuck_4 : decode cX5_isStuck 4 = .ok (.iconst 1, 1) := by decide +kernel
theorem dX5_isStuck_5 : decode cX5_isStuck 5 = .ok (.aload_n 0, 1) := by decide +kernel
theorem dX5_isStuck_6 : decode cX5_isStuck 6 = .ok (.getfield 15, 3) := by decide +kernel
theorem dX5_isStuck_9 : decode cX5_isStuck 9 = .ok (.ishl, 1) := by decide +kernel
theorem dX5_isStuck_10 : decode cX5_isStuck 10 = .ok (.iconst 1, 1) := by decide +kernel
theorem dX5_isStuck_11 : decode cX5_isStuck 11 = .ok (.isub, 1) := by decide +kernel
theorem dX5_isStuck_12 : decode cX5_isStuck 12 = .ok (.if_icmp .eq 20, 3) := by decide +kernel
theorem dX5_isStuck_15 : decode cX5_isStuck 15 = .ok (.aload_n 0, 1) := by decide +kernel
theorem dX5_isStuck_16 : decode cX5_isStuck 16 = .ok (.aload_n 1, 1) := by decide +kernel
theorem dX5_isStuck_17 : decode cX5_isStuck 17 = .ok (.aload_n 0, 1) := by decide +kernel
theorem dX5_isStuck_18 : decode cX5_isStuck 18 = .ok (.getfield 67, 3) := by decide +kernel
theorem dX5_isStuck_21 : decode cX5_isStuck 21 = .ok (.iconst 1, 1) := by decide +kernel
theorem dX5_isStuck_22 : decode cX5_isStuck 22 = .ok (.invokevirtual 174, 3) := by decide +kernel
theorem dX5_isStuck_25 : decode cX5_isStuck 25 = .ok (.ifCond .ne 7, 3) := by decide +kernel
theorem dX5_isStuck_28 : decode cX5_isStuck 28 = .ok (.iconst 1, 1) := by decide +kernel
theorem dX5_isStuck_29 : decode cX5_isStuck 29 = .ok (.goto 4, 3) := by decide +kernel
theorem dX5_isStuck_32 : decode cX5_isStuck 32 = .ok (.iconst 0, 1) := by decide +kernel
theorem dX5_isStuck_33 : decode cX5_isStuck 33 = .ok (.ireturn, 1) := by decide +kernel
theorem dX5_drawBarges_0 : decode cX5_drawBarges 0 = .ok (.iconst 0, 1) := by decide +kernel
theorem dX5_drawBarges_1 : decode cX5_drawBarges 1 = .ok (.istore_n 2, 1) := by decide +kernel
theorem dX5_drawBarges_2 : decode cX5_drawBarges 2 = .ok (.iload_n 2, 1) := by decide +kernel
theorem dX5_drawBarges_3 : decode cX5_drawBarges 3 = .ok (.aload_n 0, 1) := by decide +kernel
theorem dX5_drawBarges_4 : decode cX5_drawBarges 4 = .ok (.getfield 15, 3) := by decide +kernel
theorem dX5_drawBarges_7 : decode cX5_drawBarges 7 = .ok (.if_icmp .ge 49, 3) := by decide +kernel
theorem dX5_drawBarges_10 : decode cX5_drawBarges 10 = .ok (.aload_n 0, 1) := by decide +kernel
theorem dX5_drawBarges_11 : decode cX5_drawBarges 11 = .ok (.getfield 52, 3) := by decide +kernel
theorem dX5_drawBarges_14 : decode cX5_drawBarges 14 = .ok (.iload_n 2, 1) := by decide +kernel
theorem dX5_drawBarges_15 : decode cX5_drawBarges 15 = .ok (.iconst 1, 1) := by decide +kernel
theorem dX5_drawBarges_16 : decode cX5_drawBarges 16 = .ok (.iload_n 1, 1) := by decide +kernel
theorem dX5_drawBarges_17 : decode cX5_drawBarges 17 = .ok (.iconst 1, 1) := by decide +kernel
theorem dX5_drawBarges_18 : decode cX5_drawBarges 18 = .ok (.if_icmp .ge 7, 3) := by decide +kernel
theorem dX5_drawBarges_21 : decode cX5_drawBarges 21 = .ok (.iconst 0, 1) := by decide +kernel
theorem dX5_drawBarges_22 : decode cX5_drawBarges 22 = .ok (.goto 9, 3) := by decide +kernel
theorem dX5_drawBarges_25 : decode cX5_drawBarges 25 = .ok (.aload_n 0, 1) := by decide +kernel
theorem dX5_drawBarges_26 : decode cX5_drawBarges 26 = .ok (.invokevirtual 186, 3) := by decide +kernel
theorem dX5_drawBarges_29 : decode cX5_drawBarges 29 = .ok (.iload_n 1, 1) := by decide +kernel
theorem dX5_drawBarges_30 : decode cX5_drawBarges 30 = .ok (.irem, 1) := by decide +kernel
theorem dX5_drawBarges_31 : decode cX5_drawBarges 31 = .ok (.iadd, 1) := by decide +kernel
theorem dX5_drawBarges_32 : decode cX5_drawBarges 32 = .ok (.iastore, 1) := by decide +kernel
theorem dX5_drawBarges_33 : decode cX5_drawBarges 33 = .ok (.aload_n 0, 1) := by decide +kernel
theorem dX5_drawBarges_34 : decode cX5_drawBarges 34 = .ok (.getfield 58, 3) := by decide +kernel
theorem dX5_drawBarges_37 : decode cX5_drawBarges 37 = .ok (.iload_n 2, 1) := by decide +kernel
theorem dX5_drawBarges_38 : decode cX5_drawBarges 38 = .ok (.aload_n 0, 1) := by decide +kernel
theorem dX5_drawBarges_39 : decode cX5_drawBarges 39 = .ok (.invokevirtual 186, 3) := by decide +kernel
theorem dX5_drawBarges_42 : decode cX5_drawBarges 42 = .ok (.iconst 2, 1) := by decide +kernel
theorem dX5_drawBarges_43 : decode cX5_drawBarges 43 = .ok (.irem, 1) := by decide +kernel
theorem dX5_drawBarges_44 : decode cX5_drawBarges 44 = .ok (.iastore, 1) := by decide +kernel
theorem dX5_drawBarges_45 : decode cX5_drawBarges 45 = .ok (.aload_n 0, 1) := by decide +kernel
theorem dX5_drawBarges_46 : decode cX5_drawBarges 46 = .ok (.iload_n 2, 1) := by decide +kernel
theorem dX5_drawBarges_47 : decode cX5_drawBarges 47 = .ok (.invokevirtual 189, 3) := by decide +kernel
theorem dX5_drawBarges_50 : decode cX5_drawBarges 50 = .ok (.iinc 2 1, 3) := by decide +kernel
theorem dX5_drawBarges_53 : decode cX5_drawBarges 53 = .ok (.goto (-51), 3) := by decide +kernel
theorem dX5_drawBarges_56 : decode cX5_drawBarges 56 = .ok (.return_, 1) := by decide +kernel
theorem dX5_nextDraw_0 : decode cX5_nextDraw 0 = .ok (.aload_n 0, 1) := by decide +kernel
theorem dX5_nextDraw_1 : decode cX5_nextDraw 1 = .ok (.aload_n 0, 1) := by decide +kernel
theorem dX5_nextDraw_2 : decode cX5_nextDraw 2 = .ok (.getfield 30, 3) := by decide +kernel
theorem dX5_nextDraw_5 : decode cX5_nextDraw 5 = .ok (.i2l, 1) := by decide +kernel
theorem dX5_nextDraw_6 : decode cX5_nextDraw 6 = .ok (.ldc2_w 192, 3) := by decide +kernel
theorem dX5_nextDraw_9 : decode cX5_nextDraw 9 = .ok (.lmul, 1) := by decide +kernel
theorem dX5_nextDraw_10 : decode cX5_nextDraw 10 = .ok (.ldc2_w 194, 3) := by decide +kernel
theorem dX5_nextDraw_13 : decode cX5_nextDraw 13 = .ok (.ladd, 1) := by decide +kernel
theorem dX5_nextDraw_14 : decode cX5_nextDraw 14 = .ok (.ldc2_w 196, 3) := by decide +kernel
theorem dX5_nextDraw_17 : decode cX5_nextDraw 17 = .ok (.lrem, 1) := by decide +kernel
theorem dX5_nextDraw_18 : decode cX5_nextDraw 18 = .ok (.l2i, 1) := by decide +kernel
theorem dX5_nextDraw_19 : decode cX5_nextDraw 19 = .ok (.putfield 30, 3) := by decide +kernel
theorem dX5_nextDraw_22 : decode cX5_nextDraw 22 = .ok (.aload_n 0, 1) := by decide +kernel
theorem dX5_nextDraw_23 : decode cX5_nextDraw 23 = .ok (.getfield 30, 3) := by decide +kernel
theorem dX5_nextDraw_26 : decode cX5_nextDraw 26 = .ok (.ldc 198, 2) := by decide +kernel
theorem dX5_nextDraw_28 : decode cX5_nextDraw 28 = .ok (.idiv, 1) := by decide +kernel
theorem dX5_nextDraw_29 : decode cX5_nextDraw 29 = .ok (.ireturn, 1) := by decide +kernel
theorem dX5_packedPlaces_0 : decode cX5_packedPlaces 0 = .ok (.iconst 0, 1) := by decide +kernel
theorem dX5_packedPlaces_1 : decode cX5_packedPlaces 1 = .ok (.istore_n 1, 1) := by decide +kernel
theorem dX5_packedPlaces_2 : decode cX5_packedPlaces 2 = .ok (.iconst 0, 1) := by decide +kernel
theorem dX5_packedPlaces_3 : decode cX5_packedPlaces 3 = .ok (.istore_n 2, 1) := by decide +kernel
theorem dX5_packedPlaces_4 : decode cX5_packedPlaces 4 = .ok (.iload_n 2, 1) := by decide +kernel
theorem dX5_packedPlaces_5 : decode cX5_packedPlaces 5 = .ok (.aload_n 0, 1) := by decide +kernel
theorem dX5_packedPlaces_6 : decode cX5_packedPlaces 6 = .ok (.getfield 15, 3) := by decide +kernel
theorem dX5_packedPlaces_9 : decode cX5_packedPlaces 9 = .ok (.if_icmp .ge 22, 3) := by decide +kernel
theorem dX5_packedPlaces_12 : decode cX5_packedPlaces 12 = .ok (.iload_n 1, 1) := by decide +kernel
theorem dX5_packedPlaces_13 : decode cX5_packedPlaces 13 = .ok (.aload_n 0, 1) := by decide +kernel
theorem dX5_packedPlaces_14 : decode cX5_packedPlaces 14 = .ok (.getfield 49, 3) := by decide +kernel
theorem dX5_packedPlaces_17 : decode cX5_packedPlaces 17 = .ok (.iload_n 2, 1) := by decide +kernel
theorem dX5_packedPlaces_18 : decode cX5_packedPlaces 18 = .ok (.iaload, 1) := by decide +kernel
theorem dX5_packedPlaces_19 : decode cX5_packedPlaces 19 = .ok (.iconst 3, 1) := by decide +kernel
theorem dX5_packedPlaces_20 : decode cX5_packedPlaces 20 = .ok (.iload_n 2, 1) := by decide +kernel
theorem dX5_packedPlaces_21 : decode cX5_packedPlaces 21 = .ok (.imul, 1) := by decide +kernel
theorem dX5_packedPlaces_22 : decode cX5_packedPlaces 22 = .ok (.ishl, 1) := by decide +kernel
theorem dX5_packedPlaces_23 : decode cX5_packedPlaces 23 = .ok (.ior, 1) := by decide +kernel
theorem dX5_packedPlaces_24 : decode cX5_packedPlaces 24 = .ok (.istore_n 1, 1) := by decide +kernel
theorem dX5_packedPlaces_25 : decode cX5_packedPlaces 25 = .ok (.iinc 2 1, 3) := by decide +kernel
theorem dX5_packedPlaces_28 : decode cX5_packedPlaces 28 = .ok (.goto (-24), 3) := by decide +kernel
theorem dX5_packedPlaces_31 : decode cX5_packedPlaces 31 = .ok (.iload_n 1, 1) := by decide +kernel
theorem dX5_packedPlaces_32 : decode cX5_packedPlaces 32 = .ok (.ireturn, 1) := by decide +kernel
theorem dX5_unpackPlaces_0 : decode cX5_unpackPlaces 0 = .ok (.iconst 0, 1) := by decide +kernel
theorem dX5_unpackPlaces_1 : decode cX5_unpackPlaces 1 = .ok (.istore_n 2, 1) := by decide +kernel
theorem dX5_unpackPlaces_2 : decode cX5_unpackPlaces 2 = .ok (.iload_n 2, 1) := by decide +kernel
theorem dX5_unpackPlaces_3 : decode cX5_unpackPlaces 3 = .ok (.aload_n 0, 1) := by decide +kernel
theorem dX5_unpackPlaces_4 : decode cX5_unpackPlaces 4 = .ok (.getfield 15, 3) := by decide +kernel
theorem dX5_unpackPlaces_7 : decode cX5_unpackPlaces 7 = .ok (.if_icmp .ge 23, 3) := by decide +kernel
theorem dX5_unpackPlaces_10 : decode cX5_unpackPlaces 10 = .ok (.aload_n 0, 1) := by decide +kernel
theorem dX5_unpackPlaces_11 : decode cX5_unpackPlaces 11 = .ok (.getfield 49, 3) := by decide +kernel
theorem dX5_unpackPlaces_14 : decode cX5_unpackPlaces 14 = .ok (.iload_n 2, 1) := by decide +kernel
theorem dX5_unpackPlaces_15 : decode cX5_unpackPlaces 15 = .ok (.iload_n 1, 1) := by decide +kernel
theorem dX5_unpackPlaces_16 : decode cX5_unpackPlaces 16 = .ok (.iconst 3, 1) := by decide +kernel
theorem dX5_unpackPlaces_17 : decode cX5_unpackPlaces 17 = .ok (.iload_n 2, 1) := by decide +kernel
theorem dX5_unpackPlaces_18 : decode cX5_unpackPlaces 18 = .ok (.imul, 1) := by decide +kernel
theorem dX5_unpackPlaces_19 : decode cX5_unpackPlaces 19 = .ok (.ishr, 1) := by decide +kernel
theorem dX5_unpackPlaces_20 : decode cX5_unpackPlaces 20 = .ok (.bipush 7, 2) := by decide +kernel
theorem dX5_unpackPlaces_22 : decode cX5_unpackPlaces 22 = .ok (.iand, 1) := by decide +kernel
theorem dX5_unpackPlaces_23 : decode cX5_unpackPlaces 23 = .ok (.iastore, 1) := by decide +kernel
theorem dX5_unpackPlaces_24 : decode cX5_unpackPlaces 24 = .ok (.iinc 2 1, 3) := by decide +kernel
theorem dX5_unpackPlaces_27 : decode cX5_unpackPlaces 27 = .ok (.goto (-25), 3) := by decide +kernel
theorem dX5_unpackPlaces_30 : decode cX5_unpackPlaces 30 = .ok (.return_, 1) := by decide +kernel
theorem dX5_packedWater_0 : decode cX5_packedWater 0 = .ok (.lconst 0, 1) := by decide +kernel
theorem dX5_packedWater_1 : decode cX5_packedWater 1 = .ok (.lstore_n 2, 1) := by decide +kernel
theorem dX5_packedWater_2 : decode cX5_packedWater 2 = .ok (.iconst 0, 1) := by decide +kernel
theorem dX5_packedWater_3 : decode cX5_packedWater 3 = .ok (.istore 4, 2) := by decide +kernel
theorem dX5_packedWater_5 : decode cX5_packedWater 5 = .ok (.iload 4, 2) := by decide +kernel
theorem dX5_packedWater_7 : decode cX5_packedWater 7 = .ok (.iconst 4, 1) := by decide +kernel
theorem dX5_packedWater_8 : decode cX5_packedWater 8 = .ok (.if_icmp .ge 39, 3) := by decide +kernel
theorem dX5_packedWater_11 : decode cX5_packedWater 11 = .ok (.iload_n 1, 1) := by decide +kernel
theorem dX5_packedWater_12 : decode cX5_packedWater 12 = .ok (.iload 4, 2) := by decide +kernel
theorem dX5_packedWater_14 : decode cX5_packedWater 14 = .ok (.iadd, 1) := by decide +kernel
theorem dX5_packedWater_15 : decode cX5_packedWater 15 = .ok (.aload_n 0, 1) := by decide +kernel
theorem dX5_packedWater_16 : decode cX5_packedWater 16 = .ok (.getfield 9, 3) := by decide +kernel
theorem dX5_packedWater_19 : decode cX5_packedWater 19 = .ok (.if_icmp .ge 28, 3) := by decide +kernel
theorem dX5_packedWater_22 : decode cX5_packedWater 22 = .ok (.lload_n 2, 1) := by decide +kernel
theorem dX5_packedWater_23 : decode cX5_packedWater 23 = .ok (.aload_n 0, 1) := by decide +kernel
theorem dX5_packedWater_24 : decode cX5_packedWater 24 = .ok (.getfield 36, 3) := by decide +kernel
theorem dX5_packedWater_27 : decode cX5_packedWater 27 = .ok (.iload_n 1, 1) := by decide +kernel
theorem dX5_packedWater_28 : decode cX5_packedWater 28 = .ok (.iload 4, 2) := by decide +kernel
theorem dX5_packedWater_30 : decode cX5_packedWater 30 = .ok (.iadd, 1) := by decide +kernel
theorem dX5_packedWater_31 : decode cX5_packedWater 31 = .ok (.iaload, 1) := by decide +kernel
theorem dX5_packedWater_32 : decode cX5_packedWater 32 = .ok (.i2l, 1) := by decide +kernel
theorem dX5_packedWater_33 : decode cX5_packedWater 33 = .ok (.bipush 16, 2) := by decide +kernel
theorem dX5_packedWater_35 : decode cX5_packedWater 35 = .ok (.iload 4, 2) := by decide +kernel
theorem dX5_packedWater_37 : decode cX5_packedWater 37 = .ok (.imul, 1) := by decide +kernel
theorem dX5_packedWater_38 : decode cX5_packedWater 38 = .ok (.lshl, 1) := by decide +kernel
theorem dX5_packedWater_39 : decode cX5_packedWater 39 = .ok (.lor, 1) := by decide +kernel
theorem dX5_packedWater_40 : decode cX5_packedWater 40 = .ok (.lstore_n 2, 1) := by decide +kernel
theorem dX5_packedWater_41 : decode cX5_packedWater 41 = .ok (.iinc 4 1, 3) := by decide +kernel
theorem dX5_packedWater_44 : decode cX5_packedWater 44 = .ok (.goto (-39), 3) := by decide +kernel
theorem dX5_packedWater_47 : decode cX5_packedWater 47 = .ok (.lload_n 2, 1) := by decide +kernel
theorem dX5_packedWater_48 : decode cX5_packedWater 48 = .ok (.lreturn, 1) := by decide +kernel
theorem dX5_unpackWater_0 : decode cX5_unpackWater 0 = .ok (.iconst 0, 1) := by decide +kernel
theorem dX5_unpackWater_1 : decode cX5_unpackWater 1 = .ok (.istore 4, 2) := by decide +kernel
theorem dX5_unpackWater_3 : decode cX5_unpackWater 3 = .ok (.iload 4, 2) := by decide +kernel
theorem dX5_unpackWater_5 : decode cX5_unpackWater 5 = .ok (.iconst 4, 1) := by decide +kernel
theorem dX5_unpackWater_6 : decode cX5_unpackWater 6 = .ok (.if_icmp .ge 41, 3) := by decide +kernel
theorem dX5_unpackWater_9 : decode cX5_unpackWater 9 = .ok (.iload_n 1, 1) := by decide +kernel
theorem dX5_unpackWater_10 : decode cX5_unpackWater 10 = .ok (.iload 4, 2) := by decide +kernel
theorem dX5_unpackWater_12 : decode cX5_unpackWater 12 = .ok (.iadd, 1) := by decide +kernel
theorem dX5_unpackWater_13 : decode cX5_unpackWater 13 = .ok (.aload_n 0, 1) := by decide +kernel
theorem dX5_unpackWater_14 : decode cX5_unpackWater 14 = .ok (.getfield 9, 3) := by decide +kernel
theorem dX5_unpackWater_17 : decode cX5_unpackWater 17 = .ok (.if_icmp .ge 30, 3) := by decide +kernel
theorem dX5_unpackWater_20 : decode cX5_unpackWater 20 = .ok (.aload_n 0, 1) := by decide +kernel
theorem dX5_unpackWater_21 : decode cX5_unpackWater 21 = .ok (.getfield 36, 3) := by decide +kernel
theorem dX5_unpackWater_24 : decode cX5_unpackWater 24 = .ok (.iload_n 1, 1) := by decide +kernel
theorem dX5_unpackWater_25 : decode cX5_unpackWater 25 = .ok (.iload 4, 2) := by decide +kernel
theorem dX5_unpackWater_27 : decode cX5_unpackWater 27 = .ok (.iadd, 1) := by decide +kernel
theorem dX5_unpackWater_28 : decode cX5_unpackWater 28 = .ok (.lload_n 2, 1) := by decide +kernel
theorem dX5_unpackWater_29 : decode cX5_unpackWater 29 = .ok (.bipush 16, 2) := by decide +kernel
theorem dX5_unpackWater_31 : decode cX5_unpackWater 31 = .ok (.iload 4, 2) := by decide +kernel
theorem dX5_unpackWater_33 : decode cX5_unpackWater 33 = .ok (.imul, 1) := by decide +kernel
theorem dX5_unpackWater_34 : decode cX5_unpackWater 34 = .ok (.lshr, 1) := by decide +kernel
theorem dX5_unpackWater_35 : decode cX5_unpackWater 35 = .ok (.ldc2_w 199, 3) := by decide +kernel
theorem dX5_unpackWater_38 : decode cX5_unpackWater 38 = .ok (.land, 1) := by decide +kernel
theorem dX5_unpackWater_39 : decode cX5_unpackWater 39 = .ok (.l2i, 1) := by decide +kernel
theorem dX5_unpackWater_40 : decode cX5_unpackWater 40 = .ok (.iastore, 1) := by decide +kernel
theorem dX5_unpackWater_41 : decode cX5_unpackWater 41 = .ok (.iinc 4 1, 3) := by decide +kernel
theorem dX5_unpackWater_44 : decode cX5_unpackWater 44 = .ok (.goto (-41), 3) := by decide +kernel
theorem dX5_unpackWater_47 : decode cX5_unpackWater 47 = .ok (.return_, 1) := by decide +kernel
theorem dX6_init_0 : decode cX6_init 0 = .ok (.aload_n 0, 1) := by decide +kernel
theorem dX6_init_1 : decode cX6_init 1 = .ok (.invokespecial 3, 3) := by decide +kernel
theorem dX6_init_4 : decode cX6_init 4 = .ok (.aload_n 0, 1) := by decide +kernel
theorem dX6_init_5 : decode cX6_init 5 = .ok (.sipush 400, 3) := by decide +kernel
theorem dX6_init_8 : decode cX6_init 8 = .ok (.newarray .byte, 2) := by decide +kernel
theorem dX6_init_10 : decode cX6_init 10 = .ok (.putfield 9, 3) := by decide +kernel
theorem dX6_init_13 : decode cX6_init 13 = .ok (.aload_n 0, 1) := by decide +kernel
theorem dX6_init_14 : decode cX6_init 14 = .ok (.iconst 0, 1) := by decide +kernel
theorem dX6_init_15 : decode cX6_init 15 = .ok (.putfield 15, 3) := by decide +kernel
theorem dX6_init_18 : decode cX6_init 18 = .ok (.aload_n 0, 1) := by decide +kernel
theorem dX6_init_19 : decode cX6_init 19 = .ok (.sipush 256, 3) := by decide +kernel
theorem dX6_init_22 : decode cX6_init 22 = .ok (.putfield 19, 3) := by decide +kernel
theorem dX6_init_25 : decode cX6_init 25 = .ok (.aload_n 0, 1) := by decide +kernel
theorem dX6_init_26 : decode cX6_init 26 = .ok (.iconst 0, 1) := by decide +kernel
theorem dX6_init_27 : decode cX6_init 27 = .ok (.putfield 22, 3) := by decide +kernel
theorem dX6_init_30 : decode cX6_init 30 = .ok (.aload_n 0, 1) := by decide +kernel
theorem dX6_init_31 : decode cX6_init 31 = .ok (.iconst 0, 1) := by decide +kernel
theorem dX6_init_32 : decode cX6_init 32 = .ok (.putfield 25, 3) := by decide +kernel
theorem dX6_init_35 : decode cX6_init 35 = .ok (.aload_n 0, 1) := by decide +kernel
theorem dX6_init_36 : decode cX6_init 36 = .ok (.iconst 0, 1) := by decide +kernel
theorem dX6_init_37 : decode cX6_init 37 = .ok (.putfield 28, 3) := by decide +kernel
theorem dX6_init_40 : decode cX6_init 40 = .ok (.aload_n 0, 1) := by decide +kernel
theorem dX6_init_41 : decode cX6_init 41 = .ok (.iconst 0, 1) := by decide +kernel
theorem dX6_init_42 : decode cX6_init 42 = .ok (.putfield 31, 3) := by decide +kernel
theorem dX6_init_45 : decode cX6_init 45 = .ok (.return_, 1) := by decide +kernel
theorem dX6_append_0 : decode cX6_append 0 = .ok (.bipush 24, 2) := by decide +kernel
theorem dX6_append_2 : decode cX6_append 2 = .ok (.istore_n 2, 1) := by decide +kernel
theorem dX6_append_3 : decode cX6_append 3 = .ok (.iload_n 2, 1) := by decide +kernel
theorem dX6_append_4 : decode cX6_append 4 = .ok (.ifCond .lt 42, 3) := by decide +kernel
theorem dX6_append_7 : decode cX6_append 7 = .ok (.aload_n 0, 1) := by decide +kernel
theorem dX6_append_8 : decode cX6_append 8 = .ok (.getfield 15, 3) := by decide +kernel
theorem dX6_append_11 : decode cX6_append 11 = .ok (.sipush 400, 3) := by decide +kernel
theorem dX6_append_14 : decode cX6_append 14 = .ok (.if_icmp .ge 32, 3) := by decide +kernel
theorem dX6_append_17 : decode cX6_append 17 = .ok (.aload_n 0, 1) := by decide +kernel
theorem dX6_append_18 : decode cX6_append 18 = .ok (.getfield 9, 3) := by decide +kernel
theorem dX6_append_21 : decode cX6_append 21 = .ok (.aload_n 0, 1) := by decide +kernel
theorem dX6_append_22 : decode cX6_append 22 = .ok (.getfield 15, 3) := by decide +kernel
theorem dX6_append_25 : decode cX6_append 25 = .ok (.iload_n 1, 1) := by decide +kernel
theorem dX6_append_26 : decode cX6_append 26 = .ok (.iload_n 2, 1) := by decide +kernel
theorem dX6_append_27 : decode cX6_append 27 = .ok (.ishr, 1) := by decide +kernel
theorem dX6_append_28 : decode cX6_append 28 = .ok (.i2b, 1) := by decide +kernel
theorem dX6_append_29 : decode cX6_append 29 = .ok (.bastore, 1) := by decide +kernel
theorem dX6_append_30 : decode cX6_append 30 = .ok (.aload_n 0, 1) := by decide +kernel
theorem dX6_append_31 : decode cX6_append 31 = .ok (.dup, 1) := by decide +kernel
theorem dX6_append_32 : decode cX6_append 32 = .ok (.getfield 15, 3) := by decide +kernel
theorem dX6_append_35 : decode cX6_append 35 = .ok (.iconst 1, 1) := by decide +kernel
theorem dX6_append_36 : decode cX6_append 36 = .ok (.iadd, 1) := by decide +kernel
theorem dX6_append_37 : decode cX6_append 37 = .ok (.putfield 15, 3) := by decide +kernel
theorem dX6_append_40 : decode cX6_append 40 = .ok (.iinc 2 (-8), 3) := by decide +kernel
theorem dX6_append_43 : decode cX6_append 43 = .ok (.goto (-40), 3) := by decide +kernel
theorem dX6_append_46 : decode cX6_append 46 = .ok (.return_, 1) := by decide +kernel
theorem dX6_begin_0 : decode cX6_begin 0 = .ok (.aload_n 0, 1) := by decide +kernel
theorem dX6_begin_1 : decode cX6_begin 1 = .ok (.iconst 0, 1) := by decide +kernel
theorem dX6_begin_2 : decode cX6_begin 2 = .ok (.putfield 31, 3) := by decide +kernel
theorem dX6_begin_5 : decode cX6_begin 5 = .ok (.aload_n 0, 1) := by decide +kernel
theorem dX6_begin_6 : decode cX6_begin 6 = .ok (.iconst 0, 1) := by decide +kernel
theorem dX6_begin_7 : decode cX6_begin 7 = .ok (.putfield 28, 3) := by decide +kernel
theorem dX6_begin_10 : decode cX6_begin 10 = .ok (.aload_n 0, 1) := by decide +kernel
theorem dX6_begin_11 : decode cX6_begin 11 = .ok (.invokevirtual 34, 3) := by decide +kernel
theorem dX6_begin_14 : decode cX6_begin 14 = .ok (.return_, 1) := by decide +kernel
theorem dX6_advance_0 : decode cX6_advance 0 = .ok (.aload_n 0, 1) := by decide +kernel
theorem dX6_advance_1 : decode cX6_advance 1 = .ok (.getfield 31, 3) := by decide +kernel
theorem dX6_advance_4 : decode cX6_advance 4 = .ok (.ifCond .eq 4, 3) := by decide +kernel
theorem dX6_advance_7 : decode cX6_advance 7 = .ok (.return_, 1) := by decide +kernel
theorem dX6_advance_8 : decode cX6_advance 8 = .ok (.aload_n 0, 1) := by decide +kernel
theorem dX6_advance_9 : decode cX6_advance 9 = .ok (.aload_n 0, 1) := by decide +kernel
theorem dX6_advance_10 : decode cX6_advance 10 = .ok (.getfield 28, 3) := by decide +kernel
theorem dX6_advance_13 : decode cX6_advance 13 = .ok (.putfield 25, 3) := by decide +kernel
theorem dX6_advance_16 : decode cX6_advance 16 = .ok (.aload_n 0, 1) := by decide +kernel
theorem dX6_advance_17 : decode cX6_advance 17 = .ok (.getfield 25, 3) := by decide +kernel
theorem dX6_advance_20 : decode cX6_advance 20 = .ok (.aload_n 0, 1) := by decide +kernel
theorem dX6_advance_21 : decode cX6_advance 21 = .ok (.getfield 15, 3) := by decide +kernel
theorem dX6_advance_24 : decode cX6_advance 24 = .ok (.if_icmp .ge 40, 3) := by decide +kernel
theorem dX6_advance_27 : decode cX6_advance 27 = .ok (.aload_n 0, 1) := by decide +kernel
theorem dX6_advance_28 : decode cX6_advance 28 = .ok (.getfield 25, 3) := by decide +kernel
theorem dX6_advance_31 : decode cX6_advance 31 = .ok (.sipush 400, 3) := by decide +kernel
theorem dX6_advance_34 : decode cX6_advance 34 = .ok (.if_icmp .ge 30, 3) := by decide +kernel
theorem dX6_advance_37 : decode cX6_advance 37 = .ok (.aload_n 0, 1) := by decide +kernel
theorem dX6_advance_38 : decode cX6_advance 38 = .ok (.getfield 9, 3) := by decide +kernel
theorem dX6_advance_41 : decode cX6_advance 41 = .ok (.aload_n 0, 1) := by decide +kernel
theorem dX6_advance_42 : decode cX6_advance 42 = .ok (.getfield 25, 3) := by decide +kernel
theorem dX6_advance_45 : decode cX6_advance 45 = .ok (.baload, 1) := by decide +kernel
theorem dX6_advance_46 : decode cX6_advance 46 = .ok (.bipush 32, 2) := by decide +kernel
theorem dX6_advance_48 : decode cX6_advance 48 = .ok (.if_icmp .ne 16, 3) := by decide +kernel
theorem dX6_advance_51 : decode cX6_advance 51 = .ok (.aload_n 0, 1) := by decide +kernel
theorem dX6_advance_52 : decode cX6_advance 52 = .ok (.dup, 1) := by decide +kernel
theorem dX6_advance_53 : decode cX6_advance 53 = .ok (.getfield 25, 3) := by decide +kernel
theorem dX6_advance_56 : decode cX6_advance 56 = .ok (.iconst 1, 1) := by decide +kernel
theorem dX6_advance_57 : decode cX6_advance 57 = .ok (.iadd, 1) := by decide +kernel
theorem dX6_advance_58 : decode cX6_advance 58 = .ok (.putfield 25, 3) := by decide +kernel
theorem dX6_advance_61 : decode cX6_advance 61 = .ok (.goto (-45), 3) := by decide +kernel
theorem dX6_advance_64 : decode cX6_advance 64 = .ok (.aload_n 0, 1) := by decide +kernel
theorem dX6_advance_65 : decode cX6_advance 65 = .ok (.aload_n 0, 1) := by decide +kernel
theorem dX6_advance_66 : decode cX6_advance 66 = .ok (.getfield 25, 3) := by decide +kernel
theorem dX6_advance_69 : decode cX6_advance 69 = .ok (.putfield 28, 3) := by decide +kernel
theorem dX6_advance_72 : decode cX6_advance 72 = .ok (.aload_n 0, 1) := by decide +kernel
theorem dX6_advance_73 : decode cX6_advance 73 = .ok (.getfield 25, 3) := by decide +kernel
theorem dX6_advance_76 : decode cX6_advance 76 = .ok (.aload_n 0, 1) := by decide +kernel
theorem dX6_advance_77 : decode cX6_advance 77 = .ok (.getfield 15, 3) := by decide +kernel
theorem dX6_advance_80 : decode cX6_advance 80 = .ok (.if_icmp .ge 13, 3) := by decide +kernel
theorem dX6_advance_83 : decode cX6_advance 83 = .ok (.aload_n 0, 1) := by decide +kernel
theorem dX6_advance_84 : decode cX6_advance 84 = .ok (.getfield 25, 3) := by decide +kernel
theorem dX6_advance_87 : decode cX6_advance 87 = .ok (.sipush 400, 3) := by decide +kernel
theorem dX6_advance_90 : decode cX6_advance 90 = .ok (.if_icmp .lt 13, 3) := by decide +kernel
theorem dX6_advance_93 : decode cX6_advance 93 = .ok (.aload_n 0, 1) := by decide +kernel
theorem dX6_advance_94 : decode cX6_advance 94 = .ok (.sipush 256, 3) := by decide +kernel
theorem dX6_advance_97 : decode cX6_advance 97 = .ok (.putfield 19, 3) := by decide +kernel
theorem dX6_advance_100 : decode cX6_advance 100 = .ok (.goto 66, 3) := by decide +kernel
theorem dX6_advance_103 : decode cX6_advance 103 = .ok (.aload_n 0, 1) := by decide +kernel
theorem dX6_advance_104 : decode cX6_advance 104 = .ok (.bipush 48, 2) := by decide +kernel
theorem dX6_advance_106 : decode cX6_advance 106 = .ok (.bipush 57, 2) := by decide +kernel
theorem dX6_advance_108 : decode cX6_advance 108 = .ok (.invokevirtual 37, 3) := by decide +kernel
theorem dX6_advance_111 : decode cX6_advance 111 = .ok (.ifCond .eq 21, 3) := by decide +kernel
theorem dX6_advance_114 : decode cX6_advance 114 = .ok (.aload_n 0, 1) := by decide +kernel
theorem dX6_advance_115 : decode cX6_advance 115 = .ok (.sipush 257, 3) := by decide +kernel
theorem dX6_advance_118 : decode cX6_advance 118 = .ok (.putfield 19, 3) := by decide +kernel
theorem dX6_advance_121 : decode cX6_advance 121 = .ok (.aload_n 0, 1) := by decide +kernel
theorem dX6_advance_122 : decode cX6_advance 122 = .ok (.aload_n 0, 1) := by decide +kernel
theorem dX6_advance_123 : decode cX6_advance 123 = .ok (.invokevirtual 41, 3) := by decide +kernel
theorem dX6_advance_126 : decode cX6_advance 126 = .ok (.putfield 22, 3) := by decide +kernel
theorem dX6_advance_129 : decode cX6_advance 129 = .ok (.goto 37, 3) := by decide +kernel
theorem dX6_advance_132 : decode cX6_advance 132 = .ok (.aload_n 0, 1) := by decide +kernel
theorem dX6_advance_133 : decode cX6_advance 133 = .ok (.bipush 97, 2) := by decide +kernel
theorem dX6_advance_135 : decode cX6_advance 135 = .ok (.bipush 122, 2) := by decide +kernel
theorem dX6_advance_137 : decode cX6_advance 137 = .ok (.invokevirtual 37, 3) := by decide +kernel
theorem dX6_advance_140 : decode cX6_advance 140 = .ok (.ifCond .eq 13, 3) := by decide +kernel
theorem dX6_advance_143 : decode cX6_advance 143 = .ok (.aload_n 0, 1) := by decide +kernel
theorem dX6_advance_144 : decode cX6_advance 144 = .ok (.sipush 258, 3) := by decide +kernel
theorem dX6_advance_147 : decode cX6_advance 147 = .ok (.putfield 19, 3) := by decide +kernel
theorem dX6_advance_150 : decode cX6_advance 150 = .ok (.goto 16, 3) := by decide +kernel
theorem dX6_advance_153 : decode cX6_advance 153 = .ok (.aload_n 0, 1) := by decide +kernel
theorem dX6_advance_154 : decode cX6_advance 154 = .ok (.aload_n 0, 1) := by decide +kernel
theorem dX6_advance_155 : decode cX6_advance 155 = .ok (.getfield 9, 3) := by decide +kernel
theorem dX6_advance_158 : decode cX6_advance 158 = .ok (.aload_n 0, 1) := by decide +kernel
theorem dX6_advance_159 : decode cX6_advance 159 = .ok (.getfield 25, 3) := by decide +kernel
theorem dX6_advance_162 : decode cX6_advance 162 = .ok (.baload, 1) := by decide +kernel
theorem dX6_advance_163 : decode cX6_advance 163 = .ok (.invokevirtual 45, 3) := by decide +kernel
theorem dX6_advance_166 : decode cX6_advance 166 = .ok (.return_, 1) := by decide +kernel
theorem dX6_fail_0 : decode cX6_fail 0 = .ok (.aload_n 0, 1) := by decide +kernel
theorem dX6_fail_1 : decode cX6_fail 1 = .ok (.getfield 31, 3) := by decide +kernel
theorem dX6_fail_4 : decode cX6_fail 4 = .ok (.ifCond .ne 25, 3) := by decide +kernel
theorem dX6_fail_7 : decode cX6_fail 7 = .ok (.aload_n 0, 1) := by decide +kernel
theorem dX6_fail_8 : decode cX6_fail 8 = .ok (.iconst 1, 1) := by decide +kernel
theorem dX6_fail_9 : decode cX6_fail 9 = .ok (.bipush 8, 2) := by decide +kernel
theorem dX6_fail_11 : decode cX6_fail 11 = .ok (.aload_n 0, 1) := by decide +kernel
theorem dX6_fail_12 : decode cX6_fail 12 = .ok (.getfield 25, 3) := by decide +kernel
theorem dX6_fail_15 : decode cX6_fail 15 = .ok (.imul, 1) := by decide +kernel
theorem dX6_fail_16 : decode cX6_fail 16 = .ok (.iadd, 1) := by decide +kernel
theorem dX6_fail_17 : decode cX6_fail 17 = .ok (.iload_n 1, 1) := by decide +kernel
theorem dX6_fail_18 : decode cX6_fail 18 = .ok (.iadd, 1) := by decide +kernel
theorem dX6_fail_19 : decode cX6_fail 19 = .ok (.putfield 31, 3) := by decide +kernel
theorem dX6_fail_22 : decode cX6_fail 22 = .ok (.aload_n 0, 1) := by decide +kernel
theorem dX6_fail_23 : decode cX6_fail 23 = .ok (.sipush 261, 3) := by decide +kernel
theorem dX6_fail_26 : decode cX6_fail 26 = .ok (.putfield 19, 3) := by decide +kernel
theorem dX6_fail_29 : decode cX6_fail 29 = .ok (.return_, 1) := by decide +kernel
theorem dX6_isWord_0 : decode cX6_isWord 0 = .ok (.aload_n 0, 1) := by decide +kernel
theorem dX6_isWord_1 : decode cX6_isWord 1 = .ok (.aload_n 1, 1) := by decide +kernel
theorem dX6_isWord_2 : decode cX6_isWord 2 = .ok (.invokevirtual 49, 3) := by decide +kernel
theorem dX6_isWord_5 : decode cX6_isWord 5 = .ok (.ifCond .ne 7, 3) := by decide +kernel
theorem dX6_isWord_8 : decode cX6_isWord 8 = .ok (.iconst 1, 1) := by decide +kernel
theorem dX6_isWord_9 : decode cX6_isWord 9 = .ok (.goto 4, 3) := by decide +kernel
theorem dX6_isWord_12 : decode cX6_isWord 12 = .ok (.iconst 0, 1) := by decide +kernel
theorem dX6_isWord_13 : decode cX6_isWord 13 = .ok (.ireturn, 1) := by decide +kernel
theorem dX6_wordAmong_0 : decode cX6_wordAmong 0 = .ok (.iconst 0, 1) := by decide +kernel
theorem dX6_wordAmong_1 : decode cX6_wordAmong 1 = .ok (.istore_n 2, 1) := by decide +kernel
theorem dX6_wordAmong_2 : decode cX6_wordAmong 2 = .ok (.aload_n 0, 1) := by decide +kernel
theorem dX6_wordAmong_3 : decode cX6_wordAmong 3 = .ok (.getfield 25, 3) := by decide +kernel
theorem dX6_wordAmong_6 : decode cX6_wordAmong 6 = .ok (.istore_n 3, 1) := by decide +kernel
theorem dX6_wordAmong_7 : decode cX6_wordAmong 7 = .ok (.iconst 0, 1) := by decide +kernel
theorem dX6_wordAmong_8 : decode cX6_wordAmong 8 = .ok (.istore 4, 2) := by decide +kernel
theorem dX6_wordAmong_10 : decode cX6_wordAmong 10 = .ok (.iload 4, 2) := by decide +kernel
theorem dX6_wordAmong_12 : decode cX6_wordAmong 12 = .ok (.aload_n 1, 1) := by decide +kernel
theorem dX6_wordAmong_13 : decode cX6_wordAmong 13 = .ok (.invokevirtual 53, 3) := by decide +kernel
theorem dX6_wordAmong_16 : decode cX6_wordAmong 16 = .ok (.if_icmp .gt 119, 3) := by decide +kernel
theorem dX6_wordAmong_19 : decode cX6_wordAmong 19 = .ok (.aload_n 0, 1) := by decide +kernel
theorem dX6_wordAmong_20 : decode cX6_wordAmong 20 = .ok (.getfield 19, 3) := by decide +kernel
theorem dX6_wordAmong_23 : decode cX6_wordAmong 23 = .ok (.sipush 258, 3) := by decide +kernel
theorem dX6_wordAmong_26 : decode cX6_wordAmong 26 = .ok (.if_icmp .ne 109, 3) := by decide +kernel
theorem dX6_wordAmong_29 : decode cX6_wordAmong 29 = .ok (.iload 4, 2) := by decide +kernel
theorem dX6_wordAmong_31 : decode cX6_wordAmong 31 = .ok (.aload_n 1, 1) := by decide +kernel
theorem dX6_wordAmong_32 : decode cX6_wordAmong 32 = .ok (.invokevirtual 53, 3) := by decide +kernel
theorem dX6_wordAmong_35 : decode cX6_wordAmong 35 = .ok (.if_icmp .eq 14, 3) := by decide +kernel
theorem dX6_wordAmong_38 : decode cX6_wordAmong 38 = .ok (.aload_n 1, 1) := by decide +kernel
theorem dX6_wordAmong_39 : decode cX6_wordAmong 39 = .ok (.iload 4, 2) := by decide +kernel
theorem dX6_wordAmong_41 : decode cX6_wordAmong 41 = .ok (.invokevirtual 57, 3) := by decide +kernel
theorem dX6_wordAmong_44 : decode cX6_wordAmong 44 = .ok (.bipush 32, 2) := by decide +kernel
theorem dX6_wordAmong_46 : decode cX6_wordAmong 46 = .ok (.if_icmp .ne 7, 3) := by decide +kernel
theorem dX6_wordAmong_49 : decode cX6_wordAmong 49 = .ok (.iconst 1, 1) := by decide +kernel
theorem dX6_wordAmong_50 : decode cX6_wordAmong 50 = .ok (.goto 4, 3) := by decide +kernel
theorem dX6_wordAmong_53 : decode cX6_wordAmong 53 = .ok (.iconst 0, 1) := by decide +kernel
theorem dX6_wordAmong_54 : decode cX6_wordAmong 54 = .ok (.istore 5, 2) := by decide +kernel
theorem dX6_wordAmong_56 : decode cX6_wordAmong 56 = .ok (.iload 5, 2) := by decide +kernel
theorem dX6_wordAmong_58 : decode cX6_wordAmong 58 = .ok (.ifCond .eq 13, 3) := by decide +kernel
theorem dX6_wordAmong_61 : decode cX6_wordAmong 61 = .ok (.iload_n 3, 1) := by decide +kernel
theorem dX6_wordAmong_62 : decode cX6_wordAmong 62 = .ok (.aload_n 0, 1) := by decide +kernel
theorem dX6_wordAmong_63 : decode cX6_wordAmong 63 = .ok (.getfield 28, 3) := by decide +kernel
theorem dX6_wordAmong_66 : decode cX6_wordAmong 66 = .ok (.if_icmp .ne 5, 3) := by decide +kernel
theorem dX6_wordAmong_69 : decode cX6_wordAmong 69 = .ok (.iload_n 2, 1) := by decide +kernel
theorem dX6_wordAmong_70 : decode cX6_wordAmong 70 = .ok (.ireturn, 1) := by decide +kernel
theorem dX6_wordAmong_71 : decode cX6_wordAmong 71 = .ok (.iload 5, 2) := by decide +kernel
theorem dX6_wordAmong_73 : decode cX6_wordAmong 73 = .ok (.ifCond .eq 14, 3) := by decide +kernel
theorem dX6_wordAmong_76 : decode cX6_wordAmong 76 = .ok (.iinc 2 1, 3) := by decide +kernel
theorem dX6_wordAmong_79 : decode cX6_wordAmong 79 = .ok (.aload_n 0, 1) := by decide +kernel
theorem dX6_wordAmong_80 : decode cX6_wordAmong 80 = .ok (.getfield 25, 3) := by decide +kernel
theorem dX6_wordAmong_83 : decode cX6_wordAmong 83 = .ok (.istore_n 3, 1) := by decide +kernel
theorem dX6_wordAmong_84 : decode cX6_wordAmong 84 = .ok (.goto 45, 3) := by decide +kernel
theorem dX6_wordAmong_87 : decode cX6_wordAmong 87 = .ok (.iload_n 3, 1) := by decide +kernel
theorem dX6_wordAmong_88 : decode cX6_wordAmong 88 = .ok (.ifCond .lt 39, 3) := by decide +kernel
theorem dX6_wordAmong_91 : decode cX6_wordAmong 91 = .ok (.iload_n 3, 1) := by decide +kernel
theorem dX6_wordAmong_92 : decode cX6_wordAmong 92 = .ok (.aload_n 0, 1) := by decide +kernel
theorem dX6_wordAmong_93 : decode cX6_wordAmong 93 = .ok (.getfield 28, 3) := by decide +kernel
theorem dX6_wordAmong_96 : decode cX6_wordAmong 96 = .ok (.if_icmp .ge 31, 3) := by decide +kernel
theorem dX6_wordAmong_99 : decode cX6_wordAmong 99 = .ok (.iload_n 3, 1) := by decide +kernel
theorem dX6_wordAmong_100 : decode cX6_wordAmong 100 = .ok (.sipush 400, 3) := by decide +kernel
theorem dX6_wordAmong_103 : decode cX6_wordAmong 103 = .ok (.if_icmp .ge 24, 3) := by decide +kernel
theorem dX6_wordAmong_106 : decode cX6_wordAmong 106 = .ok (.aload_n 0, 1) := by decide +kernel
theorem dX6_wordAmong_107 : decode cX6_wordAmong 107 = .ok (.getfield 9, 3) := by decide +kernel
theorem dX6_wordAmong_110 : decode cX6_wordAmong 110 = .ok (.iload_n 3, 1) := by decide +kernel
theorem dX6_wordAmong_111 : decode cX6_wordAmong 111 = .ok (.baload, 1) := by decide +kernel
theorem dX6_wordAmong_112 : decode cX6_wordAmong 112 = .ok (.aload_n 1, 1) := by decide +kernel
theorem dX6_wordAmong_113 : decode cX6_wordAmong 113 = .ok (.iload 4, 2) := by decide +kernel
theorem dX6_wordAmong_115 : decode cX6_wordAmong 115 = .ok (.invokevirtual 57, 3) := by decide +kernel
theorem dX6_wordAmong_118 : decode cX6_wordAmong 118 = .ok (.if_icmp .ne 9, 3) := by decide +kernel
theorem dX6_wordAmong_121 : decode cX6_wordAmong 121 = .ok (.iinc 3 1, 3) := by decide +kernel
theorem dX6_wordAmong_124 : decode cX6_wordAmong 124 = .ok (.goto 5, 3) := by decide +kernel
theorem dX6_wordAmong_127 : decode cX6_wordAmong 127 = .ok (.iconst (-1), 1) := by decide +kernel
theorem dX6_wordAmong_128 : decode cX6_wordAmong 128 = .ok (.istore_n 3, 1) := by decide +kernel
theorem dX6_wordAmong_129 : decode cX6_wordAmong 129 = .ok (.iinc 4 1, 3) := by decide +kernel
theorem dX6_wordAmong_132 : decode cX6_wordAmong 132 = .ok (.goto (-122), 3) := by decide +kernel
theorem dX6_wordAmong_135 : decode cX6_wordAmong 135 = .ok (.iconst (-1), 1) := by decide +kernel
theorem dX6_wordAmong_136 : decode cX6_wordAmong 136 = .ok (.ireturn, 1) := by decide +kernel
theorem dX6_hasTaken_0 : decode cX6_hasTaken 0 = .ok (.aload_n 0, 1) := by decide +kernel
theorem dX6_hasTaken_1 : decode cX6_hasTaken 1 = .ok (.getfield 28, 3) := by decide +kernel
theorem dX6_hasTaken_4 : decode cX6_hasTaken 4 = .ok (.aload_n 0, 1) := by decide +kernel
theorem dX6_hasTaken_5 : decode cX6_hasTaken 5 = .ok (.getfield 15, 3) := by decide +kernel
theorem dX6_hasTaken_8 : decode cX6_hasTaken 8 = .ok (.if_icmp .ge 52, 3) := by decide +kernel
theorem dX6_hasTaken_11 : decode cX6_hasTaken 11 = .ok (.aload_n 0, 1) := by decide +kernel
theorem dX6_hasTaken_12 : decode cX6_hasTaken 12 = .ok (.getfield 28, 3) := by decide +kernel
theorem dX6_hasTaken_15 : decode cX6_hasTaken 15 = .ok (.sipush 400, 3) := by decide +kernel
theorem dX6_hasTaken_18 : decode cX6_hasTaken 18 = .ok (.if_icmp .ge 42, 3) := by decide +kernel
theorem dX6_hasTaken_21 : decode cX6_hasTaken 21 = .ok (.aload_n 0, 1) := by decide +kernel
theorem dX6_hasTaken_22 : decode cX6_hasTaken 22 = .ok (.getfield 9, 3) := by decide +kernel
theorem dX6_hasTaken_25 : decode cX6_hasTaken 25 = .ok (.aload_n 0, 1) := by decide +kernel
theorem dX6_hasTaken_26 : decode cX6_hasTaken 26 = .ok (.getfield 28, 3) := by decide +kernel
theorem dX6_hasTaken_29 : decode cX6_hasTaken 29 = .ok (.baload, 1) := by decide +kernel
theorem dX6_hasTaken_30 : decode cX6_hasTaken 30 = .ok (.iload_n 1, 1) := by decide +kernel
theorem dX6_hasTaken_31 : decode cX6_hasTaken 31 = .ok (.if_icmp .lt 29, 3) := by decide +kernel
theorem dX6_hasTaken_34 : decode cX6_hasTaken 34 = .ok (.aload_n 0, 1) := by decide +kernel
theorem dX6_hasTaken_35 : decode cX6_hasTaken 35 = .ok (.getfield 9, 3) := by decide +kernel
theorem dX6_hasTaken_38 : decode cX6_hasTaken 38 = .ok (.aload_n 0, 1) := by decide +kernel
theorem dX6_hasTaken_39 : decode cX6_hasTaken 39 = .ok (.getfield 28, 3) := by decide +kernel
theorem dX6_hasTaken_42 : decode cX6_hasTaken 42 = .ok (.baload, 1) := by decide +kernel
theorem dX6_hasTaken_43 : decode cX6_hasTaken 43 = .ok (.iload_n 2, 1) := by decide +kernel
theorem dX6_hasTaken_44 : decode cX6_hasTaken 44 = .ok (.if_icmp .gt 16, 3) := by decide +kernel
theorem dX6_hasTaken_47 : decode cX6_hasTaken 47 = .ok (.aload_n 0, 1) := by decide +kernel
theorem dX6_hasTaken_48 : decode cX6_hasTaken 48 = .ok (.dup, 1) := by decide +kernel
theorem dX6_hasTaken_49 : decode cX6_hasTaken 49 = .ok (.getfield 28, 3) := by decide +kernel
theorem dX6_hasTaken_52 : decode cX6_hasTaken 52 = .ok (.iconst 1, 1) := by decide +kernel
theorem dX6_hasTaken_53 : decode cX6_hasTaken 53 = .ok (.iadd, 1) := by decide +kernel
theorem dX6_hasTaken_54 : decode cX6_hasTaken 54 = .ok (.putfield 28, 3) := by decide +kernel
theorem dX6_hasTaken_57 : decode cX6_hasTaken 57 = .ok (.goto (-57), 3) := by decide +kernel
theorem dX6_hasTaken_60 : decode cX6_hasTaken 60 = .ok (.aload_n 0, 1) := by decide +kernel
theorem dX6_hasTaken_61 : decode cX6_hasTaken 61 = .ok (.getfield 28, 3) := by decide +kernel
theorem dX6_hasTaken_64 : decode cX6_hasTaken 64 = .ok (.aload_n 0, 1) := by decide +kernel
theorem dX6_hasTaken_65 : decode cX6_hasTaken 65 = .ok (.getfield 25, 3) := by decide +kernel
theorem dX6_hasTaken_68 : decode cX6_hasTaken 68 = .ok (.if_icmp .le 7, 3) := by decide +kernel
theorem dX6_hasTaken_71 : decode cX6_hasTaken 71 = .ok (.iconst 1, 1) := by decide +kernel
theorem dX6_hasTaken_72 : decode cX6_hasTaken 72 = .ok (.goto 4, 3) := by decide +kernel
theorem dX6_hasTaken_75 : decode cX6_hasTaken 75 = .ok (.iconst 0, 1) := by decide +kernel
theorem dX6_hasTaken_76 : decode cX6_hasTaken 76 = .ok (.ireturn, 1) := by decide +kernel
theorem dX6_numberTaken_0 : decode cX6_numberTaken 0 = .ok (.aload_n 0, 1) := by decide +kernel
theorem dX6_numberTaken_1 : decode cX6_numberTaken 1 = .ok (.getfield 28, 3) := by decide +kernel
theorem dX6_numberTaken_4 : decode cX6_numberTaken 4 = .ok (.aload_n 0, 1) := by decide +kernel
theorem dX6_numberTaken_5 : decode cX6_numberTaken 5 = .ok (.getfield 25, 3) := by decide +kernel
theorem dX6_numberTaken_8 : decode cX6_numberTaken 8 = .ok (.isub, 1) := by decide +kernel
theorem dX6_numberTaken_9 : decode cX6_numberTaken 9 = .ok (.iconst 5, 1) := by decide +kernel
theorem dX6_numberTaken_10 : decode cX6_numberTaken 10 = .ok (.if_icmp .le 5, 3) := by decide +kernel
theorem dX6_numberTaken_13 : decode cX6_numberTaken 13 = .ok (.iconst (-1), 1) := by decide +kernel
theorem dX6_numberTaken_14 : decode cX6_numberTaken 14 = .ok (.ireturn, 1) := by decide +kernel
theorem dX6_numberTaken_15 : decode cX6_numberTaken 15 = .ok (.iconst 0, 1) := by decide +kernel
theorem dX6_numberTaken_16 : decode cX6_numberTaken 16 = .ok (.istore_n 1, 1) := by decide +kernel
theorem dX6_numberTaken_17 : decode cX6_numberTaken 17 = .ok (.aload_n 0, 1) := by decide +kernel
theorem dX6_numberTaken_18 : decode cX6_numberTaken 18 = .ok (.getfield 25, 3) := by decide +kernel
theorem dX6_numberTaken_21 : decode cX6_numberTaken 21 = .ok (.istore_n 2, 1) := by decide +kernel
theorem dX6_numberTaken_22 : decode cX6_numberTaken 22 = .ok (.iload_n 2, 1) := by decide +kernel
theorem dX6_numberTaken_23 : decode cX6_numberTaken 23 = .ok (.aload_n 0, 1) := by decide +kernel
theorem dX6_numberTaken_24 : decode cX6_numberTaken 24 = .ok (.getfield 28, 3) := by decide +kernel
theorem dX6_numberTaken_27 : decode cX6_numberTaken 27 = .ok (.if_icmp .ge 31, 3) := by decide +kernel
theorem dX6_numberTaken_30 : decode cX6_numberTaken 30 = .ok (.iload_n 2, 1) := by decide +kernel
theorem dX6_numberTaken_31 : decode cX6_numberTaken 31 = .ok (.sipush 400, 3) := by decide +kernel
theorem dX6_numberTaken_34 : decode cX6_numberTaken 34 = .ok (.if_icmp .ge 24, 3) := by decide +kernel
theorem dX6_numberTaken_37 : decode cX6_numberTaken 37 = .ok (.iload_n 1, 1) := by decide +kernel
theorem dX6_numberTaken_38 : decode cX6_numberTaken 38 = .ok (.bipush 10, 2) := by decide +kernel
theorem dX6_numberTaken_40 : decode cX6_numberTaken 40 = .ok (.imul, 1) := by decide +kernel
theorem dX6_numberTaken_41 : decode cX6_numberTaken 41 = .ok (.aload_n 0, 1) := by decide +kernel
theorem dX6_numberTaken_42 : decode cX6_numberTaken 42 = .ok (.getfield 9, 3) := by decide +kernel
theorem dX6_numberTaken_45 : decode cX6_numberTaken 45 = .ok (.iload_n 2, 1) := by decide +kernel
theorem dX6_numberTaken_46 : decode cX6_numberTaken 46 = .ok (.baload, 1) := by decide +kernel
theorem dX6_numberTaken_47 : decode cX6_numberTaken 47 = .ok (.iadd, 1) := by decide +kernel
theorem dX6_numberTaken_48 : decode cX6_numberTaken 48 = .ok (.bipush 48, 2) := by decide +kernel
theorem dX6_numberTaken_50 : decode cX6_numberTaken 50 = .ok (.isub, 1) := by decide +kernel
theorem dX6_numberTaken_51 : decode cX6_numberTaken 51 = .ok (.istore_n 1, 1) := by decide +kernel
theorem dX6_numberTaken_52 : decode cX6_numberTaken 52 = .ok (.iinc 2 1, 3) := by decide +kernel
theorem dX6_numberTaken_55 : decode cX6_numberTaken 55 = .ok (.goto (-33), 3) := by decide +kernel
theorem dX6_numberTaken_58 : decode cX6_numberTaken 58 = .ok (.iload_n 1, 1) := by decide +kernel
theorem dX6_numberTaken_59 : decode cX6_numberTaken 59 = .ok (.ireturn, 1) := by decide +kernel
theorem dX6_takeSign_0 : decode cX6_takeSign 0 = .ok (.aload_n 0, 1) := by decide +kernel
theorem dX6_takeSign_1 : decode cX6_takeSign 1 = .ok (.iload_n 1, 1) := by decide +kernel
theorem dX6_takeSign_2 : decode cX6_takeSign 2 = .ok (.sipush 255, 3) := by decide +kernel
theorem dX6_takeSign_5 : decode cX6_takeSign 5 = .ok (.iand, 1) := by decide +kernel
theorem dX6_takeSign_6 : decode cX6_takeSign 6 = .ok (.putfield 19, 3) := by decide +kernel
theorem dX6_takeSign_9 : decode cX6_takeSign 9 = .ok (.aload_n 0, 1) := by decide +kernel
theorem dX6_takeSign_10 : decode cX6_takeSign 10 = .ok (.aload_n 0, 1) := by decide +kernel
theorem dX6_takeSign_11 : decode cX6_takeSign 11 = .ok (.getfield 25, 3) := by decide +kernel
theorem dX6_takeSign_14 : decode cX6_takeSign 14 = .ok (.iconst 1, 1) := by decide +kernel
theorem dX6_takeSign_15 : decode cX6_takeSign 15 = .ok (.iadd, 1) := by decide +kernel
theorem dX6_takeSign_16 : decode cX6_takeSign 16 = .ok (.putfield 28, 3) := by decide +kernel
theorem dX6_takeSign_19 : decode cX6_takeSign 19 = .ok (.aload_n 0, 1) := by decide +kernel
theorem dX6_takeSign_20 : decode cX6_takeSign 20 = .ok (.getfield 28, 3) := by decide +kernel
theorem dX6_takeSign_23 : decode cX6_takeSign 23 = .ok (.aload_n 0, 1) := by decide +kernel
theorem dX6_takeSign_24 : decode cX6_takeSign 24 = .ok (.getfield 15, 3) := by decide +kernel
theorem dX6_takeSign_27 : decode cX6_takeSign 27 = .ok (.if_icmp .ge 31, 3) := by decide +kernel
theorem dX6_takeSign_30 : decode cX6_takeSign 30 = .ok (.aload_n 0, 1) := by decide +kernel
theorem dX6_takeSign_31 : decode cX6_takeSign 31 = .ok (.getfield 28, 3) := by decide +kernel
theorem dX6_takeSign_34 : decode cX6_takeSign 34 = .ok (.sipush 400, 3) := by decide +kernel
theorem dX6_takeSign_37 : decode cX6_takeSign 37 = .ok (.if_icmp .ge 21, 3) := by decide +kernel
theorem dX6_takeSign_40 : decode cX6_takeSign 40 = .ok (.aload_n 0, 1) := by decide +kernel
theorem dX6_takeSign_41 : decode cX6_takeSign 41 = .ok (.getfield 9, 3) := by decide +kernel
theorem dX6_takeSign_44 : decode cX6_takeSign 44 = .ok (.aload_n 0, 1) := by decide +kernel
theorem dX6_takeSign_45 : decode cX6_takeSign 45 = .ok (.getfield 28, 3) := by decide +kernel
theorem dX6_takeSign_48 : decode cX6_takeSign 48 = .ok (.baload, 1) := by decide +kernel
theorem dX6_takeSign_49 : decode cX6_takeSign 49 = .ok (.bipush 61, 2) := by decide +kernel
theorem dX6_takeSign_51 : decode cX6_takeSign 51 = .ok (.if_icmp .ne 7, 3) := by decide +kernel
theorem dX6_takeSign_54 : decode cX6_takeSign 54 = .ok (.iconst 1, 1) := by decide +kernel
theorem dX6_takeSign_55 : decode cX6_takeSign 55 = .ok (.goto 4, 3) := by decide +kernel
theorem dX6_takeSign_58 : decode cX6_takeSign 58 = .ok (.iconst 0, 1) := by decide +kernel
theorem dX6_takeSign_59 : decode cX6_takeSign 59 = .ok (.istore_n 2, 1) := by decide +kernel
theorem dX6_takeSign_60 : decode cX6_takeSign 60 = .ok (.iload_n 2, 1) := by decide +kernel
theorem dX6_takeSign_61 : decode cX6_takeSign 61 = .ok (.ifCond .eq 44, 3) := by decide +kernel
theorem dX6_takeSign_64 : decode cX6_takeSign 64 = .ok (.iload_n 1, 1) := by decide +kernel
theorem dX6_takeSign_65 : decode cX6_takeSign 65 = .ok (.bipush 60, 2) := by decide +kernel
theorem dX6_takeSign_67 : decode cX6_takeSign 67 = .ok (.if_icmp .eq 9, 3) := by decide +kernel
theorem dX6_takeSign_70 : decode cX6_takeSign 70 = .ok (.iload_n 1, 1) := by decide +kernel
theorem dX6_takeSign_71 : decode cX6_takeSign 71 = .ok (.bipush 62, 2) := by decide +kernel
theorem dX6_takeSign_73 : decode cX6_takeSign 73 = .ok (.if_icmp .ne 32, 3) := by decide +kernel
theorem dX6_takeSign_76 : decode cX6_takeSign 76 = .ok (.aload_n 0, 1) := by decide +kernel
theorem dX6_takeSign_77 : decode cX6_takeSign 77 = .ok (.iload_n 1, 1) := by decide +kernel
theorem dX6_takeSign_78 : decode cX6_takeSign 78 = .ok (.bipush 60, 2) := by decide +kernel
theorem dX6_takeSign_80 : decode cX6_takeSign 80 = .ok (.if_icmp .ne 9, 3) := by decide +kernel
theorem dX6_takeSign_83 : decode cX6_takeSign 83 = .ok (.sipush 259, 3) := by decide +kernel
theorem dX6_takeSign_86 : decode cX6_takeSign 86 = .ok (.goto 6, 3) := by decide +kernel
theorem dX6_takeSign_89 : decode cX6_takeSign 89 = .ok (.sipush 260, 3) := by decide +kernel
theorem dX6_takeSign_92 : decode cX6_takeSign 92 = .ok (.putfield 19, 3) := by decide +kernel
theorem dX6_takeSign_95 : decode cX6_takeSign 95 = .ok (.aload_n 0, 1) := by decide +kernel
theorem dX6_takeSign_96 : decode cX6_takeSign 96 = .ok (.dup, 1) := by decide +kernel
theorem dX6_takeSign_97 : decode cX6_takeSign 97 = .ok (.getfield 28, 3) := by decide +kernel
theorem dX6_takeSign_100 : decode cX6_takeSign 100 = .ok (.iconst 1, 1) := by decide +kernel
theorem dX6_takeSign_101 : decode cX6_takeSign 101 = .ok (.iadd, 1) := by decide +kernel
theorem dX6_takeSign_102 : decode cX6_takeSign 102 = .ok (.putfield 28, 3) := by decide +kernel
theorem dX6_takeSign_105 : decode cX6_takeSign 105 = .ok (.return_, 1) := by decide +kernel
theorem dJ6_bitCount_0f7a4_0 : decode cJ6_bitCount_0f7a4 0 = .ok (.iload_n 0, 1) := by decide +kernel
theorem dJ6_bitCount_0f7a4_1 : decode cJ6_bitCount_0f7a4 1 = .ok (.iload_n 0, 1) := by decide +kernel
theorem dJ6_bitCount_0f7a4_2 : decode cJ6_bitCount_0f7a4 2 = .ok (.iconst 1, 1) := by decide +kernel
theorem dJ6_bitCount_0f7a4_3 : decode cJ6_bitCount_0f7a4 3 = .ok (.iushr, 1) := by decide +kernel
theorem dJ6_bitCount_0f7a4_4 : decode cJ6_bitCount_0f7a4 4 = .ok (.ldc_w 265, 3) := by decide +kernel
theorem dJ6_bitCount_0f7a4_7 : decode cJ6_bitCount_0f7a4 7 = .ok (.iand, 1) := by decide +kernel
theorem dJ6_bitCount_0f7a4_8 : decode cJ6_bitCount_0f7a4 8 = .ok (.isub, 1) := by decide +kernel
theorem dJ6_bitCount_0f7a4_9 : decode cJ6_bitCount_0f7a4 9 = .ok (.istore_n 0, 1) := by decide +kernel
theorem dJ6_bitCount_0f7a4_10 : decode cJ6_bitCount_0f7a4 10 = .ok (.iload_n 0, 1) := by decide +kernel
theorem dJ6_bitCount_0f7a4_11 : decode cJ6_bitCount_0f7a4 11 = .ok (.ldc_w 266, 3) := by decide +kernel
theorem dJ6_bitCount_0f7a4_14 : decode cJ6_bitCount_0f7a4 14 = .ok (.iand, 1) := by decide +kernel
theorem dJ6_bitCount_0f7a4_15 : decode cJ6_bitCount_0f7a4 15 = .ok (.iload_n 0, 1) := by decide +kernel
theorem dJ6_bitCount_0f7a4_16 : decode cJ6_bitCount_0f7a4 16 = .ok (.iconst 2, 1) := by decide +kernel
theorem dJ6_bitCount_0f7a4_17 : decode cJ6_bitCount_0f7a4 17 = .ok (.iushr, 1) := by decide +kernel
theorem dJ6_bitCount_0f7a4_18 : decode cJ6_bitCount_0f7a4 18 = .ok (.ldc_w 266, 3) := by decide +kernel
theorem dJ6_bitCount_0f7a4_21 : decode cJ6_bitCount_0f7a4 21 = .ok (.iand, 1) := by decide +kernel
theorem dJ6_bitCount_0f7a4_22 : decode cJ6_bitCount_0f7a4 22 = .ok (.iadd, 1) := by decide +kernel
theorem dJ6_bitCount_0f7a4_23 : decode cJ6_bitCount_0f7a4 23 = .ok (.istore_n 0, 1) := by decide +kernel
theorem dJ6_bitCount_0f7a4_24 : decode cJ6_bitCount_0f7a4 24 = .ok (.iload_n 0, 1) := by decide +kernel
theorem dJ6_bitCount_0f7a4_25 : decode cJ6_bitCount_0f7a4 25 = .ok (.iload_n 0, 1) := by decide +kernel
theorem dJ6_bitCount_0f7a4_26 : decode cJ6_bitCount_0f7a4 26 = .ok (.iconst 4, 1) := by decide +kernel
theorem dJ6_bitCount_0f7a4_27 : decode cJ6_bitCount_0f7a4 27 = .ok (.iushr, 1) := by decide +kernel
theorem dJ6_bitCount_0f7a4_28 : decode cJ6_bitCount_0f7a4 28 = .ok (.iadd, 1) := by decide +kernel
theorem dJ6_bitCount_0f7a4_29 : decode cJ6_bitCount_0f7a4 29 = .ok (.ldc_w 267, 3) := by decide +kernel
theorem dJ6_bitCount_0f7a4_32 : decode cJ6_bitCount_0f7a4 32 = .ok (.iand, 1) := by decide +kernel
theorem dJ6_bitCount_0f7a4_33 : decode cJ6_bitCount_0f7a4 33 = .ok (.istore_n 0, 1) := by decide +kernel
theorem dJ6_bitCount_0f7a4_34 : decode cJ6_bitCount_0f7a4 34 = .ok (.iload_n 0, 1) := by decide +kernel
theorem dJ6_bitCount_0f7a4_35 : decode cJ6_bitCount_0f7a4 35 = .ok (.iload_n 0, 1) := by decide +kernel
theorem dJ6_bitCount_0f7a4_36 : decode cJ6_bitCount_0f7a4 36 = .ok (.bipush 8, 2) := by decide +kernel
theorem dJ6_bitCount_0f7a4_38 : decode cJ6_bitCount_0f7a4 38 = .ok (.iushr, 1) := by decide +kernel
theorem dJ6_bitCount_0f7a4_39 : decode cJ6_bitCount_0f7a4 39 = .ok (.iadd, 1) := by decide +kernel
theorem dJ6_bitCount_0f7a4_40 : decode cJ6_bitCount_0f7a4 40 = .ok (.istore_n 0, 1) := by decide +kernel
theorem dJ6_bitCount_0f7a4_41 : decode cJ6_bitCount_0f7a4 41 = .ok (.iload_n 0, 1) := by decide +kernel
theorem dJ6_bitCount_0f7a4_42 : decode cJ6_bitCount_0f7a4 42 = .ok (.iload_n 0, 1) := by decide +kernel
theorem dJ6_bitCount_0f7a4_43 : decode cJ6_bitCount_0f7a4 43 = .ok (.bipush 16, 2) := by decide +kernel
theorem dJ6_bitCount_0f7a4_45 : decode cJ6_bitCount_0f7a4 45 = .ok (.iushr, 1) := by decide +kernel
theorem dJ6_bitCount_0f7a4_46 : decode cJ6_bitCount_0f7a4 46 = .ok (.iadd, 1) := by decide +kernel
theorem dJ6_bitCount_0f7a4_47 : decode cJ6_bitCount_0f7a4 47 = .ok (.istore_n 0, 1) := by decide +kernel
theorem dJ6_bitCount_0f7a4_48 : decode cJ6_bitCount_0f7a4 48 = .ok (.iload_n 0, 1) := by decide +kernel
theorem dJ6_bitCount_0f7a4_49 : decode cJ6_bitCount_0f7a4 49 = .ok (.bipush 63, 2) := by decide +kernel
theorem dJ6_bitCount_0f7a4_51 : decode cJ6_bitCount_0f7a4 51 = .ok (.iand, 1) := by decide +kernel
theorem dJ6_bitCount_0f7a4_52 : decode cJ6_bitCount_0f7a4 52 = .ok (.ireturn, 1) := by decide +kernel
theorem dJ9_max_7cf53_0 : decode cJ9_max_7cf53 0 = .ok (.iload_n 0, 1) := by decide +kernel
theorem dJ9_max_7cf53_1 : decode cJ9_max_7cf53 1 = .ok (.iload_n 1, 1) := by decide +kernel
theorem dJ9_max_7cf53_2 : decode cJ9_max_7cf53 2 = .ok (.if_icmp .lt 7, 3) := by decide +kernel
theorem dJ9_max_7cf53_5 : decode cJ9_max_7cf53 5 = .ok (.iload_n 0, 1) := by decide +kernel
theorem dJ9_max_7cf53_6 : decode cJ9_max_7cf53 6 = .ok (.goto 4, 3) := by decide +kernel
theorem dJ9_max_7cf53_9 : decode cJ9_max_7cf53 9 = .ok (.iload_n 1, 1) := by decide +kernel
theorem dJ9_max_7cf53_10 : decode cJ9_max_7cf53 10 = .ok (.ireturn, 1) := by decide +kernel
theorem dJ9_min_7cf53_0 : decode cJ9_min_7cf53 0 = .ok (.iload_n 0, 1) := by decide +kernel
theorem dJ9_min_7cf53_1 : decode cJ9_min_7cf53 1 = .ok (.iload_n 1, 1) := by decide +kernel
theorem dJ9_min_7cf53_2 : decode cJ9_min_7cf53 2 = .ok (.if_icmp .gt 7, 3) := by decide +kernel
theorem dJ9_min_7cf53_5 : decode cJ9_min_7cf53 5 = .ok (.iload_n 0, 1) := by decide +kernel
theorem dJ9_min_7cf53_6 : decode cJ9_min_7cf53 6 = .ok (.goto 4, 3) := by decide +kernel
theorem dJ9_min_7cf53_9 : decode cJ9_min_7cf53 9 = .ok (.iload_n 1, 1) := by decide +kernel
theorem dJ9_min_7cf53_10 : decode cJ9_min_7cf53 10 = .ok (.ireturn, 1) := by decide +kernel
theorem dJ0_length_8abf5_0 : decode cJ0_length_8abf5 0 = .ok (.aload_n 0, 1) := by decide +kernel
theorem dJ0_length_8abf5_1 : decode cJ0_length_8abf5 1 = .ok (.getfield 9, 3) := by decide +kernel
theorem dJ0_length_8abf5_4 : decode cJ0_length_8abf5 4 = .ok (.arraylength, 1) := by decide +kernel
theorem dJ0_length_8abf5_5 : decode cJ0_length_8abf5 5 = .ok (.aload_n 0, 1) := by decide +kernel
theorem dJ0_length_8abf5_6 : decode cJ0_length_8abf5 6 = .ok (.invokevirtual 335, 3) := by decide +kernel
theorem dJ0_length_8abf5_9 : decode cJ0_length_8abf5 9 = .ok (.ishr, 1) := by decide +kernel
theorem dJ0_length_8abf5_10 : decode cJ0_length_8abf5 10 = .ok (.ireturn, 1) := by decide +kernel
theorem dJ0_charAt_5068e_0 : decode cJ0_charAt_5068e 0 = .ok (.aload_n 0, 1) := by decide +kernel
theorem dJ0_charAt_5068e_1 : decode cJ0_charAt_5068e 1 = .ok (.invokevirtual 492, 3) := by decide +kernel
theorem dJ0_charAt_5068e_4 : decode cJ0_charAt_5068e 4 = .ok (.ifCond .eq 12, 3) := by decide +kernel
theorem dJ0_charAt_5068e_7 : decode cJ0_charAt_5068e 7 = .ok (.aload_n 0, 1) := by decide +kernel
theorem dJ0_charAt_5068e_8 : decode cJ0_charAt_5068e 8 = .ok (.getfield 9, 3) := by decide +kernel
theorem dJ0_charAt_5068e_11 : decode cJ0_charAt_5068e 11 = .ok (.iload_n 1, 1) := by decide +kernel
theorem dJ0_charAt_5068e_12 : decode cJ0_charAt_5068e 12 = .ok (.invokestatic 495, 3) := by decide +kernel
theorem dJ0_charAt_5068e_15 : decode cJ0_charAt_5068e 15 = .ok (.ireturn, 1) := by decide +kernel
theorem dJ0_charAt_5068e_16 : decode cJ0_charAt_5068e 16 = .ok (.aload_n 0, 1) := by decide +kernel
theorem dJ0_charAt_5068e_17 : decode cJ0_charAt_5068e 17 = .ok (.getfield 9, 3) := by decide +kernel
theorem dJ0_charAt_5068e_20 : decode cJ0_charAt_5068e 20 = .ok (.iload_n 1, 1) := by decide +kernel
theorem dJ0_charAt_5068e_21 : decode cJ0_charAt_5068e 21 = .ok (.invokestatic 498, 3) := by decide +kernel
theorem dJ0_charAt_5068e_24 : decode cJ0_charAt_5068e 24 = .ok (.ireturn, 1) := by decide +kernel
theorem dJ0_coder_7d493_0 : decode cJ0_coder_7d493 0 = .ok (.getstatic 38, 3) := by decide +kernel
theorem dJ0_coder_7d493_3 : decode cJ0_coder_7d493 3 = .ok (.ifCond .eq 10, 3) := by decide +kernel
theorem dJ0_coder_7d493_6 : decode cJ0_coder_7d493 6 = .ok (.aload_n 0, 1) := by decide +kernel
theorem dJ0_coder_7d493_7 : decode cJ0_coder_7d493 7 = .ok (.getfield 15, 3) := by decide +kernel
theorem dJ0_coder_7d493_10 : decode cJ0_coder_7d493 10 = .ok (.goto 4, 3) := by decide +kernel
theorem dJ0_coder_7d493_13 : decode cJ0_coder_7d493 13 = .ok (.iconst 1, 1) := by decide +kernel
theorem dJ0_coder_7d493_14 : decode cJ0_coder_7d493 14 = .ok (.ireturn, 1) := by decide +kernel
theorem dJ0_isLatin1_aae02_0 : decode cJ0_isLatin1_aae02 0 = .ok (.getstatic 38, 3) := by decide +kernel
theorem dJ0_isLatin1_aae02_3 : decode cJ0_isLatin1_aae02 3 = .ok (.ifCond .eq 14, 3) := by decide +kernel
theorem dJ0_isLatin1_aae02_6 : decode cJ0_isLatin1_aae02 6 = .ok (.aload_n 0, 1) := by decide +kernel
theorem dJ0_isLatin1_aae02_7 : decode cJ0_isLatin1_aae02 7 = .ok (.getfield 15, 3) := by decide +kernel
theorem dJ0_isLatin1_aae02_10 : decode cJ0_isLatin1_aae02 10 = .ok (.ifCond .ne 7, 3) := by decide +kernel
theorem dJ0_isLatin1_aae02_13 : decode cJ0_isLatin1_aae02 13 = .ok (.iconst 1, 1) := by decide +kernel
theorem dJ0_isLatin1_aae02_14 : decode cJ0_isLatin1_aae02 14 = .ok (.goto 4, 3) := by decide +kernel
theorem dJ0_isLatin1_aae02_17 : decode cJ0_isLatin1_aae02 17 = .ok (.iconst 0, 1) := by decide +kernel
theorem dJ0_isLatin1_aae02_18 : decode cJ0_isLatin1_aae02 18 = .ok (.ireturn, 1) := by decide +kernel
theorem dJ0_checkIndex_df160_0 : decode cJ0_checkIndex_df160 0 = .ok (.iload_n 0, 1) := by decide +kernel
theorem dJ0_checkIndex_df160_1 : decode cJ0_checkIndex_df160 1 = .ok (.iload_n 1, 1) := by decide +kernel
theorem dJ0_checkIndex_df160_2 : decode cJ0_checkIndex_df160 2 = .ok (.getstatic 1053, 3) := by decide +kernel
theorem dJ0_checkIndex_df160_5 : decode cJ0_checkIndex_df160 5 = .ok (.invokestatic 1059, 3) := by decide +kernel
theorem dJ0_checkIndex_df160_8 : decode cJ0_checkIndex_df160 8 = .ok (.pop, 1) := by decide +kernel
theorem dJ0_checkIndex_df160_9 : decode cJ0_checkIndex_df160 9 = .ok (.return_, 1) := by decide +kernel
theorem dJ1_charAt_3b067_0 : decode cJ1_charAt_3b067 0 = .ok (.iload_n 1, 1) := by decide +kernel
theorem dJ1_charAt_3b067_1 : decode cJ1_charAt_3b067 1 = .ok (.aload_n 0, 1) := by decide +kernel
theorem dJ1_charAt_3b067_2 : decode cJ1_charAt_3b067 2 = .ok (.arraylength, 1) := by decide +kernel
theorem dJ1_charAt_3b067_3 : decode cJ1_charAt_3b067 3 = .ok (.invokestatic 9, 3) := by decide +kernel
theorem dJ1_charAt_3b067_6 : decode cJ1_charAt_3b067 6 = .ok (.aload_n 0, 1) := by decide +kernel
theorem dJ1_charAt_3b067_7 : decode cJ1_charAt_3b067 7 = .ok (.iload_n 1, 1) := by decide +kernel
theorem dJ1_charAt_3b067_8 : decode cJ1_charAt_3b067 8 = .ok (.baload, 1) := by decide +kernel
theorem dJ1_charAt_3b067_9 : decode cJ1_charAt_3b067 9 = .ok (.sipush 255, 3) := by decide +kernel
theorem dJ1_charAt_3b067_12 : decode cJ1_charAt_3b067 12 = .ok (.iand, 1) := by decide +kernel
theorem dJ1_charAt_3b067_13 : decode cJ1_charAt_3b067 13 = .ok (.i2c, 1) := by decide +kernel
theorem dJ1_charAt_3b067_14 : decode cJ1_charAt_3b067 14 = .ok (.ireturn, 1) := by decide +kernel
theorem dJ2_getChar_3b067_0 : decode cJ2_getChar_3b067 0 = .ok (.getstatic 44, 3) := by decide +kernel
theorem dJ2_getChar_3b067_3 : decode cJ2_getChar_3b067 3 = .ok (.ifCond .ne 25, 3) := by decide +kernel
theorem dJ2_getChar_3b067_6 : decode cJ2_getChar_3b067 6 = .ok (.iload_n 1, 1) := by decide +kernel
theorem dJ2_getChar_3b067_7 : decode cJ2_getChar_3b067 7 = .ok (.ifCond .lt 11, 3) := by decide +kernel
theorem dJ2_getChar_3b067_10 : decode cJ2_getChar_3b067 10 = .ok (.iload_n 1, 1) := by decide +kernel
theorem dJ2_getChar_3b067_11 : decode cJ2_getChar_3b067 11 = .ok (.aload_n 0, 1) := by decide +kernel
theorem dJ2_getChar_3b067_12 : decode cJ2_getChar_3b067 12 = .ok (.invokestatic 48, 3) := by decide +kernel
theorem dJ2_getChar_3b067_15 : decode cJ2_getChar_3b067 15 = .ok (.if_icmp .lt 13, 3) := by decide +kernel
theorem dJ2_getChar_3b067_18 : decode cJ2_getChar_3b067 18 = .ok (.new 52, 3) := by decide +kernel
theorem dJ2_getChar_3b067_21 : decode cJ2_getChar_3b067 21 = .ok (.dup, 1) := by decide +kernel
theorem dJ2_getChar_3b067_22 : decode cJ2_getChar_3b067 22 = .ok (.ldc 54, 2) := by decide +kernel
theorem dJ2_getChar_3b067_24 : decode cJ2_getChar_3b067 24 = .ok (.invokespecial 56, 3) := by decide +kernel
theorem dJ2_getChar_3b067_27 : decode cJ2_getChar_3b067 27 = .ok (.athrow, 1) := by decide +kernel
theorem dJ2_getChar_3b067_28 : decode cJ2_getChar_3b067 28 = .ok (.iload_n 1, 1) := by decide +kernel
theorem dJ2_getChar_3b067_29 : decode cJ2_getChar_3b067 29 = .ok (.iconst 1, 1) := by decide +kernel
theorem dJ2_getChar_3b067_30 : decode cJ2_getChar_3b067 30 = .ok (.ishl, 1) := by decide +kernel
theorem dJ2_getChar_3b067_31 : decode cJ2_getChar_3b067 31 = .ok (.istore_n 1, 1) := by decide +kernel
theorem dJ2_getChar_3b067_32 : decode cJ2_getChar_3b067 32 = .ok (.aload_n 0, 1) := by decide +kernel
theorem dJ2_getChar_3b067_33 : decode cJ2_getChar_3b067 33 = .ok (.iload_n 1, 1) := by decide +kernel
theorem dJ2_getChar_3b067_34 : decode cJ2_getChar_3b067 34 = .ok (.iinc 1 1, 3) := by decide +kernel
theorem dJ2_getChar_3b067_37 : decode cJ2_getChar_3b067 37 = .ok (.baload, 1) := by decide +kernel
theorem dJ2_getChar_3b067_38 : decode cJ2_getChar_3b067 38 = .ok (.sipush 255, 3) := by decide +kernel
theorem dJ2_getChar_3b067_41 : decode cJ2_getChar_3b067 41 = .ok (.iand, 1) := by decide +kernel
theorem dJ2_getChar_3b067_42 : decode cJ2_getChar_3b067 42 = .ok (.getstatic 59, 3) := by decide +kernel
theorem dJ2_getChar_3b067_45 : decode cJ2_getChar_3b067 45 = .ok (.ishl, 1) := by decide +kernel
theorem dJ2_getChar_3b067_46 : decode cJ2_getChar_3b067 46 = .ok (.aload_n 0, 1) := by decide +kernel
theorem dJ2_getChar_3b067_47 : decode cJ2_getChar_3b067 47 = .ok (.iload_n 1, 1) := by decide +kernel
theorem dJ2_getChar_3b067_48 : decode cJ2_getChar_3b067 48 = .ok (.baload, 1) := by decide +kernel
theorem dJ2_getChar_3b067_49 : decode cJ2_getChar_3b067 49 = .ok (.sipush 255, 3) := by decide +kernel
theorem dJ2_getChar_3b067_52 : decode cJ2_getChar_3b067 52 = .ok (.iand, 1) := by decide +kernel
theorem dJ2_getChar_3b067_53 : decode cJ2_getChar_3b067 53 = .ok (.getstatic 63, 3) := by decide +kernel
theorem dJ2_getChar_3b067_56 : decode cJ2_getChar_3b067 56 = .ok (.ishl, 1) := by decide +kernel
theorem dJ2_getChar_3b067_57 : decode cJ2_getChar_3b067 57 = .ok (.ior, 1) := by decide +kernel
theorem dJ2_getChar_3b067_58 : decode cJ2_getChar_3b067 58 = .ok (.i2c, 1) := by decide +kernel
theorem dJ2_getChar_3b067_59 : decode cJ2_getChar_3b067 59 = .ok (.ireturn, 1) := by decide +kernel
theorem dJ2_length_9d52b_0 : decode cJ2_length_9d52b 0 = .ok (.aload_n 0, 1) := by decide +kernel
theorem dJ2_length_9d52b_1 : decode cJ2_length_9d52b 1 = .ok (.arraylength, 1) := by decide +kernel
theorem dJ2_length_9d52b_2 : decode cJ2_length_9d52b 2 = .ok (.iconst 1, 1) := by decide +kernel
theorem dJ2_length_9d52b_3 : decode cJ2_length_9d52b 3 = .ok (.ishr, 1) := by decide +kernel
theorem dJ2_length_9d52b_4 : decode cJ2_length_9d52b 4 = .ok (.ireturn, 1) := by decide +kernel
theorem dJ2_charAt_3b067_0 : decode cJ2_charAt_3b067 0 = .ok (.iload_n 1, 1) := by decide +kernel
theorem dJ2_charAt_3b067_1 : decode cJ2_charAt_3b067 1 = .ok (.aload_n 0, 1) := by decide +kernel
theorem dJ2_charAt_3b067_2 : decode cJ2_charAt_3b067 2 = .ok (.invokestatic 67, 3) := by decide +kernel
theorem dJ2_charAt_3b067_5 : decode cJ2_charAt_3b067 5 = .ok (.aload_n 0, 1) := by decide +kernel
theorem dJ2_charAt_3b067_6 : decode cJ2_charAt_3b067 6 = .ok (.iload_n 1, 1) := by decide +kernel
theorem dJ2_charAt_3b067_7 : decode cJ2_charAt_3b067 7 = .ok (.invokestatic 71, 3) := by decide +kernel
theorem dJ2_charAt_3b067_10 : decode cJ2_charAt_3b067 10 = .ok (.ireturn, 1) := by decide +kernel
theorem dJ2_checkIndex_2214a_0 : decode cJ2_checkIndex_2214a 0 = .ok (.iload_n 0, 1) := by decide +kernel
theorem dJ2_checkIndex_2214a_1 : decode cJ2_checkIndex_2214a 1 = .ok (.aload_n 1, 1) := by decide +kernel
theorem dJ2_checkIndex_2214a_2 : decode cJ2_checkIndex_2214a 2 = .ok (.invokestatic 48, 3) := by decide +kernel
theorem dJ2_checkIndex_2214a_5 : decode cJ2_checkIndex_2214a 5 = .ok (.invokestatic 414, 3) := by decide +kernel
theorem dJ2_checkIndex_2214a_8 : decode cJ2_checkIndex_2214a 8 = .ok (.return_, 1) := by decide +kernel
theorem dJ7_fill_53178_0 : decode cJ7_fill_53178 0 = .ok (.iconst 0, 1) := by decide +kernel
theorem dJ7_fill_53178_1 : decode cJ7_fill_53178 1 = .ok (.istore_n 2, 1) := by decide +kernel
theorem dJ7_fill_53178_2 : decode cJ7_fill_53178 2 = .ok (.aload_n 0, 1) := by decide +kernel
theorem dJ7_fill_53178_3 : decode cJ7_fill_53178 3 = .ok (.arraylength, 1) := by decide +kernel
theorem dJ7_fill_53178_4 : decode cJ7_fill_53178 4 = .ok (.istore_n 3, 1) := by decide +kernel
theorem dJ7_fill_53178_5 : decode cJ7_fill_53178 5 = .ok (.iload_n 2, 1) := by decide +kernel
theorem dJ7_fill_53178_6 : decode cJ7_fill_53178 6 = .ok (.iload_n 3, 1) := by decide +kernel
theorem dJ7_fill_53178_7 : decode cJ7_fill_53178 7 = .ok (.if_icmp .ge 13, 3) := by decide +kernel
theorem dJ7_fill_53178_10 : decode cJ7_fill_53178 10 = .ok (.aload_n 0, 1) := by decide +kernel
theorem dJ7_fill_53178_11 : decode cJ7_fill_53178 11 = .ok (.iload_n 2, 1) := by decide +kernel
theorem dJ7_fill_53178_12 : decode cJ7_fill_53178 12 = .ok (.iload_n 1, 1) := by decide +kernel
theorem dJ7_fill_53178_13 : decode cJ7_fill_53178 13 = .ok (.iastore, 1) := by decide +kernel
theorem dJ7_fill_53178_14 : decode cJ7_fill_53178 14 = .ok (.iinc 2 1, 3) := by decide +kernel
theorem dJ7_fill_53178_17 : decode cJ7_fill_53178 17 = .ok (.goto (-12), 3) := by decide +kernel
theorem dJ7_fill_53178_20 : decode cJ7_fill_53178 20 = .ok (.return_, 1) := by decide +kernel
theorem dJ7_copyOf_59c91_0 : decode cJ7_copyOf_59c91 0 = .ok (.iload_n 1, 1) := by decide +kernel
theorem dJ7_copyOf_59c91_1 : decode cJ7_copyOf_59c91 1 = .ok (.aload_n 0, 1) := by decide +kernel
theorem dJ7_copyOf_59c91_2 : decode cJ7_copyOf_59c91 2 = .ok (.arraylength, 1) := by decide +kernel
theorem dJ7_copyOf_59c91_3 : decode cJ7_copyOf_59c91 3 = .ok (.if_icmp .ne 11, 3) := by decide +kernel
theorem dJ7_copyOf_59c91_6 : decode cJ7_copyOf_59c91 6 = .ok (.aload_n 0, 1) := by decide +kernel
theorem dJ7_copyOf_59c91_7 : decode cJ7_copyOf_59c91 7 = .ok (.invokevirtual 316, 3) := by decide +kernel
theorem dJ7_copyOf_59c91_10 : decode cJ7_copyOf_59c91 10 = .ok (.checkcast 317, 3) := by decide +kernel
theorem dJ7_copyOf_59c91_13 : decode cJ7_copyOf_59c91 13 = .ok (.areturn, 1) := by decide +kernel
theorem dJ7_copyOf_59c91_14 : decode cJ7_copyOf_59c91 14 = .ok (.iload_n 1, 1) := by decide +kernel
theorem dJ7_copyOf_59c91_15 : decode cJ7_copyOf_59c91 15 = .ok (.newarray .int, 2) := by decide +kernel
theorem dJ7_copyOf_59c91_17 : decode cJ7_copyOf_59c91 17 = .ok (.astore_n 2, 1) := by decide +kernel
theorem dJ7_copyOf_59c91_18 : decode cJ7_copyOf_59c91 18 = .ok (.aload_n 0, 1) := by decide +kernel
theorem dJ7_copyOf_59c91_19 : decode cJ7_copyOf_59c91 19 = .ok (.iconst 0, 1) := by decide +kernel
theorem dJ7_copyOf_59c91_20 : decode cJ7_copyOf_59c91 20 = .ok (.aload_n 2, 1) := by decide +kernel
theorem dJ7_copyOf_59c91_21 : decode cJ7_copyOf_59c91 21 = .ok (.iconst 0, 1) := by decide +kernel
theorem dJ7_copyOf_59c91_22 : decode cJ7_copyOf_59c91 22 = .ok (.aload_n 0, 1) := by decide +kernel
theorem dJ7_copyOf_59c91_23 : decode cJ7_copyOf_59c91 23 = .ok (.arraylength, 1) := by decide +kernel
theorem dJ7_copyOf_59c91_24 : decode cJ7_copyOf_59c91 24 = .ok (.iload_n 1, 1) := by decide +kernel
theorem dJ7_copyOf_59c91_25 : decode cJ7_copyOf_59c91 25 = .ok (.invokestatic 304, 3) := by decide +kernel
theorem dJ7_copyOf_59c91_28 : decode cJ7_copyOf_59c91 28 = .ok (.invokestatic 150, 3) := by decide +kernel
theorem dJ7_copyOf_59c91_31 : decode cJ7_copyOf_59c91 31 = .ok (.aload_n 2, 1) := by decide +kernel
theorem dJ7_copyOf_59c91_32 : decode cJ7_copyOf_59c91 32 = .ok (.areturn, 1) := by decide +kernel
theorem dJ3_checkIndex_8e157_0 : decode cJ3_checkIndex_8e157 0 = .ok (.iload_n 0, 1) := by decide +kernel
theorem dJ3_checkIndex_8e157_1 : decode cJ3_checkIndex_8e157 1 = .ok (.ifCond .lt 8, 3) := by decide +kernel
theorem dJ3_checkIndex_8e157_4 : decode cJ3_checkIndex_8e157 4 = .ok (.iload_n 0, 1) := by decide +kernel
theorem dJ3_checkIndex_8e157_5 : decode cJ3_checkIndex_8e157 5 = .ok (.iload_n 1, 1) := by decide +kernel
theorem dJ3_checkIndex_8e157_6 : decode cJ3_checkIndex_8e157 6 = .ok (.if_icmp .lt 10, 3) := by decide +kernel
theorem dJ3_checkIndex_8e157_9 : decode cJ3_checkIndex_8e157 9 = .ok (.aload_n 2, 1) := by decide +kernel
theorem dJ3_checkIndex_8e157_10 : decode cJ3_checkIndex_8e157 10 = .ok (.iload_n 0, 1) := by decide +kernel
theorem dJ3_checkIndex_8e157_11 : decode cJ3_checkIndex_8e157 11 = .ok (.iload_n 1, 1) := by decide +kernel
theorem dJ3_checkIndex_8e157_12 : decode cJ3_checkIndex_8e157 12 = .ok (.invokestatic 95, 3) := by decide +kernel
theorem dJ3_checkIndex_8e157_15 : decode cJ3_checkIndex_8e157 15 = .ok (.athrow, 1) := by decide +kernel
theorem dJ3_checkIndex_8e157_16 : decode cJ3_checkIndex_8e157 16 = .ok (.iload_n 0, 1) := by decide +kernel
theorem dJ3_checkIndex_8e157_17 : decode cJ3_checkIndex_8e157 17 = .ok (.ireturn, 1) := by decide +kernel
