theorem dX7_least_8 : decode cX7_least 8 = .ok (.if_icmp .ge 78, 3) := by decide +kernel
theorem dX7_least_11 : decode cX7_least 11 = .ok (.aload_n 0, 1) := by decide +kernel
theorem dX7_least_12 : decode cX7_least 12 = .ok (.iload_n 1, 1) := by decide +kernel
theorem dX7_least_13 : decode cX7_least 13 = .ok (.iload_n 3, 1) := by decide +kernel
theorem dX7_least_14 : decode cX7_least 14 = .ok (.invokevirtual 43, 3) := by decide +kernel
theorem dX7_least_17 : decode cX7_least 17 = .ok (.ifCond .eq 63, 3) := by decide +kernel
theorem dX7_least_20 : decode cX7_least 20 = .ok (.iload_n 2, 1) := by decide +kernel
theorem dX7_least_21 : decode cX7_least 21 = .ok (.bipush (-5), 2) := by decide +kernel
theorem dX7_least_23 : decode cX7_least 23 = .ok (.if_icmp .ne 7, 3) := by decide +kernel
theorem dX7_least_26 : decode cX7_least 26 = .ok (.iconst 1, 1) := by decide +kernel
theorem dX7_least_27 : decode cX7_least 27 = .ok (.goto 18, 3) := by decide +kernel
theorem dX7_least_30 : decode cX7_least 30 = .ok (.aload_n 0, 1) := by decide +kernel
theorem dX7_least_31 : decode cX7_least 31 = .ok (.iload_n 1, 1) := by decide +kernel
theorem dX7_least_32 : decode cX7_least 32 = .ok (.iload_n 2, 1) := by decide +kernel
theorem dX7_least_33 : decode cX7_least 33 = .ok (.iconst 1, 1) := by decide +kernel
theorem dX7_least_34 : decode cX7_least 34 = .ok (.invokevirtual 31, 3) := by decide +kernel
theorem dX7_least_37 : decode cX7_least 37 = .ok (.aload_n 0, 1) := by decide +kernel
theorem dX7_least_38 : decode cX7_least 38 = .ok (.iload_n 1, 1) := by decide +kernel
theorem dX7_least_39 : decode cX7_least 39 = .ok (.iload_n 3, 1) := by decide +kernel
theorem dX7_least_40 : decode cX7_least 40 = .ok (.iconst 1, 1) := by decide +kernel
theorem dX7_least_41 : decode cX7_least 41 = .ok (.invokevirtual 31, 3) := by decide +kernel
theorem dX7_least_44 : decode cX7_least 44 = .ok (.isub, 1) := by decide +kernel
theorem dX7_least_45 : decode cX7_least 45 = .ok (.istore 4, 2) := by decide +kernel
theorem dX7_least_47 : decode cX7_least 47 = .ok (.iload 4, 2) := by decide +kernel
theorem dX7_least_49 : decode cX7_least 49 = .ok (.ifCond .gt 25, 3) := by decide +kernel
theorem dX7_least_52 : decode cX7_least 52 = .ok (.iload 4, 2) := by decide +kernel
theorem dX7_least_54 : decode cX7_least 54 = .ok (.ifCond .ne 24, 3) := by decide +kernel
theorem dX7_least_57 : decode cX7_least 57 = .ok (.aload_n 0, 1) := by decide +kernel
theorem dX7_least_58 : decode cX7_least 58 = .ok (.iload_n 1, 1) := by decide +kernel
theorem dX7_least_59 : decode cX7_least 59 = .ok (.iload_n 3, 1) := by decide +kernel
theorem dX7_least_60 : decode cX7_least 60 = .ok (.iconst 3, 1) := by decide +kernel
theorem dX7_least_61 : decode cX7_least 61 = .ok (.invokevirtual 31, 3) := by decide +kernel
theorem dX7_least_64 : decode cX7_least 64 = .ok (.aload_n 0, 1) := by decide +kernel
theorem dX7_least_65 : decode cX7_least 65 = .ok (.iload_n 1, 1) := by decide +kernel
theorem dX7_least_66 : decode cX7_least 66 = .ok (.iload_n 2, 1) := by decide +kernel
theorem dX7_least_67 : decode cX7_least 67 = .ok (.iconst 3, 1) := by decide +kernel
theorem dX7_least_68 : decode cX7_least 68 = .ok (.invokevirtual 31, 3) := by decide +kernel
theorem dX7_least_71 : decode cX7_least 71 = .ok (.if_icmp .ge 7, 3) := by decide +kernel
theorem dX7_least_74 : decode cX7_least 74 = .ok (.iload_n 3, 1) := by decide +kernel
theorem dX7_least_75 : decode cX7_least 75 = .ok (.goto 4, 3) := by decide +kernel
theorem dX7_least_78 : decode cX7_least 78 = .ok (.iload_n 2, 1) := by decide +kernel
theorem dX7_least_79 : decode cX7_least 79 = .ok (.istore_n 2, 1) := by decide +kernel
theorem dX7_least_80 : decode cX7_least 80 = .ok (.iinc 3 1, 3) := by decide +kernel
theorem dX7_least_83 : decode cX7_least 83 = .ok (.goto (-78), 3) := by decide +kernel
theorem dX7_least_86 : decode cX7_least 86 = .ok (.iload_n 2, 1) := by decide +kernel
theorem dX7_least_87 : decode cX7_least 87 = .ok (.ireturn, 1) := by decide +kernel
theorem dX7_drops_0 : decode cX7_drops 0 = .ok (.aload_n 0, 1) := by decide +kernel
theorem dX7_drops_1 : decode cX7_drops 1 = .ok (.iload_n 1, 1) := by decide +kernel
theorem dX7_drops_2 : decode cX7_drops 2 = .ok (.iload_n 2, 1) := by decide +kernel
theorem dX7_drops_3 : decode cX7_drops 3 = .ok (.iconst 1, 1) := by decide +kernel
theorem dX7_drops_4 : decode cX7_drops 4 = .ok (.invokevirtual 31, 3) := by decide +kernel
theorem dX7_drops_7 : decode cX7_drops 7 = .ok (.istore_n 3, 1) := by decide +kernel
theorem dX7_drops_8 : decode cX7_drops 8 = .ok (.aload_n 0, 1) := by decide +kernel
theorem dX7_drops_9 : decode cX7_drops 9 = .ok (.iload_n 1, 1) := by decide +kernel
theorem dX7_drops_10 : decode cX7_drops 10 = .ok (.iconst 1, 1) := by decide +kernel
theorem dX7_drops_11 : decode cX7_drops 11 = .ok (.iload_n 3, 1) := by decide +kernel
theorem dX7_drops_12 : decode cX7_drops 12 = .ok (.aload_n 0, 1) := by decide +kernel
theorem dX7_drops_13 : decode cX7_drops 13 = .ok (.iload_n 1, 1) := by decide +kernel
theorem dX7_drops_14 : decode cX7_drops 14 = .ok (.iconst 1, 1) := by decide +kernel
theorem dX7_drops_15 : decode cX7_drops 15 = .ok (.invokevirtual 47, 3) := by decide +kernel
theorem dX7_drops_18 : decode cX7_drops 18 = .ok (.if_icmp .le 7, 3) := by decide +kernel
theorem dX7_drops_21 : decode cX7_drops 21 = .ok (.iload_n 3, 1) := by decide +kernel
theorem dX7_drops_22 : decode cX7_drops 22 = .ok (.goto 9, 3) := by decide +kernel
theorem dX7_drops_25 : decode cX7_drops 25 = .ok (.aload_n 0, 1) := by decide +kernel
theorem dX7_drops_26 : decode cX7_drops 26 = .ok (.iload_n 1, 1) := by decide +kernel
theorem dX7_drops_27 : decode cX7_drops 27 = .ok (.iconst 1, 1) := by decide +kernel
theorem dX7_drops_28 : decode cX7_drops 28 = .ok (.invokevirtual 47, 3) := by decide +kernel
theorem dX7_drops_31 : decode cX7_drops 31 = .ok (.invokevirtual 23, 3) := by decide +kernel
theorem dX7_drops_34 : decode cX7_drops 34 = .ok (.aload_n 0, 1) := by decide +kernel
theorem dX7_drops_35 : decode cX7_drops 35 = .ok (.iload_n 1, 1) := by decide +kernel
theorem dX7_drops_36 : decode cX7_drops 36 = .ok (.iload_n 2, 1) := by decide +kernel
theorem dX7_drops_37 : decode cX7_drops 37 = .ok (.iconst 0, 1) := by decide +kernel
theorem dX7_drops_38 : decode cX7_drops 38 = .ok (.iconst 0, 1) := by decide +kernel
theorem dX7_drops_39 : decode cX7_drops 39 = .ok (.invokevirtual 51, 3) := by decide +kernel
theorem dX7_drops_42 : decode cX7_drops 42 = .ok (.return_, 1) := by decide +kernel
theorem dX7_evicts_0 : decode cX7_evicts 0 = .ok (.aload_n 0, 1) := by decide +kernel
theorem dX7_evicts_1 : decode cX7_evicts 1 = .ok (.iload_n 1, 1) := by decide +kernel
theorem dX7_evicts_2 : decode cX7_evicts 2 = .ok (.invokevirtual 55, 3) := by decide +kernel
theorem dX7_evicts_5 : decode cX7_evicts 5 = .ok (.istore_n 2, 1) := by decide +kernel
theorem dX7_evicts_6 : decode cX7_evicts 6 = .ok (.aload_n 0, 1) := by decide +kernel
theorem dX7_evicts_7 : decode cX7_evicts 7 = .ok (.iload_n 1, 1) := by decide +kernel
theorem dX7_evicts_8 : decode cX7_evicts 8 = .ok (.iload_n 2, 1) := by decide +kernel
theorem dX7_evicts_9 : decode cX7_evicts 9 = .ok (.invokevirtual 58, 3) := by decide +kernel
theorem dX7_evicts_12 : decode cX7_evicts 12 = .ok (.aload_n 0, 1) := by decide +kernel
theorem dX7_evicts_13 : decode cX7_evicts 13 = .ok (.getfield 7, 3) := by decide +kernel
theorem dX7_evicts_16 : decode cX7_evicts 16 = .ok (.sipush 1073, 3) := by decide +kernel
theorem dX7_evicts_19 : decode cX7_evicts 19 = .ok (.dup2, 1) := by decide +kernel
theorem dX7_evicts_20 : decode cX7_evicts 20 = .ok (.iaload, 1) := by decide +kernel
theorem dX7_evicts_21 : decode cX7_evicts 21 = .ok (.iconst 1, 1) := by decide +kernel
theorem dX7_evicts_22 : decode cX7_evicts 22 = .ok (.iadd, 1) := by decide +kernel
theorem dX7_evicts_23 : decode cX7_evicts 23 = .ok (.iastore, 1) := by decide +kernel
theorem dX7_evicts_24 : decode cX7_evicts 24 = .ok (.aload_n 0, 1) := by decide +kernel
theorem dX7_evicts_25 : decode cX7_evicts 25 = .ok (.iconst 0, 1) := by decide +kernel
theorem dX7_evicts_26 : decode cX7_evicts 26 = .ok (.iload_n 1, 1) := by decide +kernel
theorem dX7_evicts_27 : decode cX7_evicts 27 = .ok (.bipush 97, 2) := by decide +kernel
theorem dX7_evicts_29 : decode cX7_evicts 29 = .ok (.iload_n 2, 1) := by decide +kernel
theorem dX7_evicts_30 : decode cX7_evicts 30 = .ok (.iadd, 1) := by decide +kernel
theorem dX7_evicts_31 : decode cX7_evicts 31 = .ok (.invokevirtual 62, 3) := by decide +kernel
theorem dX7_evicts_34 : decode cX7_evicts 34 = .ok (.return_, 1) := by decide +kernel
theorem dX7_comes_0 : decode cX7_comes 0 = .ok (.aload_n 0, 1) := by decide +kernel
theorem dX7_comes_1 : decode cX7_comes 1 = .ok (.getfield 7, 3) := by decide +kernel
theorem dX7_comes_4 : decode cX7_comes 4 = .ok (.sipush 1072, 3) := by decide +kernel
theorem dX7_comes_7 : decode cX7_comes 7 = .ok (.dup2, 1) := by decide +kernel
theorem dX7_comes_8 : decode cX7_comes 8 = .ok (.iaload, 1) := by decide +kernel
theorem dX7_comes_9 : decode cX7_comes 9 = .ok (.iconst 1, 1) := by decide +kernel
theorem dX7_comes_10 : decode cX7_comes 10 = .ok (.iadd, 1) := by decide +kernel
theorem dX7_comes_11 : decode cX7_comes 11 = .ok (.iastore, 1) := by decide +kernel
theorem dX7_comes_12 : decode cX7_comes 12 = .ok (.aload_n 0, 1) := by decide +kernel
theorem dX7_comes_13 : decode cX7_comes 13 = .ok (.iload_n 1, 1) := by decide +kernel
theorem dX7_comes_14 : decode cX7_comes 14 = .ok (.iconst 2, 1) := by decide +kernel
theorem dX7_comes_15 : decode cX7_comes 15 = .ok (.aload_n 0, 1) := by decide +kernel
theorem dX7_comes_16 : decode cX7_comes 16 = .ok (.iload_n 1, 1) := by decide +kernel
theorem dX7_comes_17 : decode cX7_comes 17 = .ok (.iconst 2, 1) := by decide +kernel
theorem dX7_comes_18 : decode cX7_comes 18 = .ok (.invokevirtual 47, 3) := by decide +kernel
theorem dX7_comes_21 : decode cX7_comes 21 = .ok (.iload_n 3, 1) := by decide +kernel
theorem dX7_comes_22 : decode cX7_comes 22 = .ok (.iadd, 1) := by decide +kernel
theorem dX7_comes_23 : decode cX7_comes 23 = .ok (.invokevirtual 23, 3) := by decide +kernel
theorem dX7_comes_26 : decode cX7_comes 26 = .ok (.aload_n 0, 1) := by decide +kernel
theorem dX7_comes_27 : decode cX7_comes 27 = .ok (.iload_n 1, 1) := by decide +kernel
theorem dX7_comes_28 : decode cX7_comes 28 = .ok (.iconst 3, 1) := by decide +kernel
theorem dX7_comes_29 : decode cX7_comes 29 = .ok (.aload_n 0, 1) := by decide +kernel
theorem dX7_comes_30 : decode cX7_comes 30 = .ok (.iload_n 1, 1) := by decide +kernel
theorem dX7_comes_31 : decode cX7_comes 31 = .ok (.iconst 3, 1) := by decide +kernel
theorem dX7_comes_32 : decode cX7_comes 32 = .ok (.invokevirtual 47, 3) := by decide +kernel
theorem dX7_comes_35 : decode cX7_comes 35 = .ok (.iconst 1, 1) := by decide +kernel
theorem dX7_comes_36 : decode cX7_comes 36 = .ok (.iadd, 1) := by decide +kernel
theorem dX7_comes_37 : decode cX7_comes 37 = .ok (.invokevirtual 23, 3) := by decide +kernel
theorem dX7_comes_40 : decode cX7_comes 40 = .ok (.aload_n 0, 1) := by decide +kernel
theorem dX7_comes_41 : decode cX7_comes 41 = .ok (.iload_n 1, 1) := by decide +kernel
theorem dX7_comes_42 : decode cX7_comes 42 = .ok (.iload_n 2, 1) := by decide +kernel
theorem dX7_comes_43 : decode cX7_comes 43 = .ok (.iconst 4, 1) := by decide +kernel
theorem dX7_comes_44 : decode cX7_comes 44 = .ok (.aload_n 0, 1) := by decide +kernel
theorem dX7_comes_45 : decode cX7_comes 45 = .ok (.iload_n 1, 1) := by decide +kernel
theorem dX7_comes_46 : decode cX7_comes 46 = .ok (.iload_n 2, 1) := by decide +kernel
theorem dX7_comes_47 : decode cX7_comes 47 = .ok (.iconst 4, 1) := by decide +kernel
theorem dX7_comes_48 : decode cX7_comes 48 = .ok (.invokevirtual 31, 3) := by decide +kernel
theorem dX7_comes_51 : decode cX7_comes 51 = .ok (.iload_n 3, 1) := by decide +kernel
theorem dX7_comes_52 : decode cX7_comes 52 = .ok (.iadd, 1) := by decide +kernel
theorem dX7_comes_53 : decode cX7_comes 53 = .ok (.invokevirtual 51, 3) := by decide +kernel
theorem dX7_comes_56 : decode cX7_comes 56 = .ok (.aload_n 0, 1) := by decide +kernel
theorem dX7_comes_57 : decode cX7_comes 57 = .ok (.iload_n 1, 1) := by decide +kernel
theorem dX7_comes_58 : decode cX7_comes 58 = .ok (.iload_n 2, 1) := by decide +kernel
theorem dX7_comes_59 : decode cX7_comes 59 = .ok (.invokevirtual 43, 3) := by decide +kernel
theorem dX7_comes_62 : decode cX7_comes 62 = .ok (.ifCond .eq 22, 3) := by decide +kernel
theorem dX7_comes_65 : decode cX7_comes 65 = .ok (.aload_n 0, 1) := by decide +kernel
theorem dX7_comes_66 : decode cX7_comes 66 = .ok (.iload_n 1, 1) := by decide +kernel
theorem dX7_comes_67 : decode cX7_comes 67 = .ok (.iload_n 2, 1) := by decide +kernel
theorem dX7_comes_68 : decode cX7_comes 68 = .ok (.iconst 1, 1) := by decide +kernel
theorem dX7_comes_69 : decode cX7_comes 69 = .ok (.aload_n 0, 1) := by decide +kernel
theorem dX7_comes_70 : decode cX7_comes 70 = .ok (.iload_n 1, 1) := by decide +kernel
theorem dX7_comes_71 : decode cX7_comes 71 = .ok (.iload_n 2, 1) := by decide +kernel
theorem dX7_comes_72 : decode cX7_comes 72 = .ok (.iconst 1, 1) := by decide +kernel
theorem dX7_comes_73 : decode cX7_comes 73 = .ok (.invokevirtual 31, 3) := by decide +kernel
theorem dX7_comes_76 : decode cX7_comes 76 = .ok (.iload_n 3, 1) := by decide +kernel
theorem dX7_comes_77 : decode cX7_comes 77 = .ok (.iadd, 1) := by decide +kernel
theorem dX7_comes_78 : decode cX7_comes 78 = .ok (.invokevirtual 51, 3) := by decide +kernel
theorem dX7_comes_81 : decode cX7_comes 81 = .ok (.goto 58, 3) := by decide +kernel
theorem dX7_comes_84 : decode cX7_comes 84 = .ok (.aload_n 0, 1) := by decide +kernel
theorem dX7_comes_85 : decode cX7_comes 85 = .ok (.iload_n 1, 1) := by decide +kernel
theorem dX7_comes_86 : decode cX7_comes 86 = .ok (.invokevirtual 65, 3) := by decide +kernel
theorem dX7_comes_89 : decode cX7_comes 89 = .ok (.aload_n 0, 1) := by decide +kernel
theorem dX7_comes_90 : decode cX7_comes 90 = .ok (.iload_n 1, 1) := by decide +kernel
theorem dX7_comes_91 : decode cX7_comes 91 = .ok (.iconst 0, 1) := by decide +kernel
theorem dX7_comes_92 : decode cX7_comes 92 = .ok (.invokevirtual 47, 3) := by decide +kernel
theorem dX7_comes_95 : decode cX7_comes 95 = .ok (.if_icmp .ne 8, 3) := by decide +kernel
theorem dX7_comes_98 : decode cX7_comes 98 = .ok (.aload_n 0, 1) := by decide +kernel
theorem dX7_comes_99 : decode cX7_comes 99 = .ok (.iload_n 1, 1) := by decide +kernel
theorem dX7_comes_100 : decode cX7_comes 100 = .ok (.invokevirtual 68, 3) := by decide +kernel
theorem dX7_comes_103 : decode cX7_comes 103 = .ok (.aload_n 0, 1) := by decide +kernel
theorem dX7_comes_104 : decode cX7_comes 104 = .ok (.iload_n 1, 1) := by decide +kernel
theorem dX7_comes_105 : decode cX7_comes 105 = .ok (.iload_n 2, 1) := by decide +kernel
theorem dX7_comes_106 : decode cX7_comes 106 = .ok (.iconst 0, 1) := by decide +kernel
theorem dX7_comes_107 : decode cX7_comes 107 = .ok (.iconst 1, 1) := by decide +kernel
theorem dX7_comes_108 : decode cX7_comes 108 = .ok (.invokevirtual 51, 3) := by decide +kernel
theorem dX7_comes_111 : decode cX7_comes 111 = .ok (.aload_n 0, 1) := by decide +kernel
theorem dX7_comes_112 : decode cX7_comes 112 = .ok (.iload_n 1, 1) := by decide +kernel
theorem dX7_comes_113 : decode cX7_comes 113 = .ok (.iload_n 2, 1) := by decide +kernel
theorem dX7_comes_114 : decode cX7_comes 114 = .ok (.iconst 1, 1) := by decide +kernel
theorem dX7_comes_115 : decode cX7_comes 115 = .ok (.aload_n 0, 1) := by decide +kernel
theorem dX7_comes_116 : decode cX7_comes 116 = .ok (.iload_n 1, 1) := by decide +kernel
theorem dX7_comes_117 : decode cX7_comes 117 = .ok (.iconst 1, 1) := by decide +kernel
theorem dX7_comes_118 : decode cX7_comes 118 = .ok (.invokevirtual 47, 3) := by decide +kernel
theorem dX7_comes_121 : decode cX7_comes 121 = .ok (.iload_n 3, 1) := by decide +kernel
theorem dX7_comes_122 : decode cX7_comes 122 = .ok (.iadd, 1) := by decide +kernel
theorem dX7_comes_123 : decode cX7_comes 123 = .ok (.invokevirtual 51, 3) := by decide +kernel
theorem dX7_comes_126 : decode cX7_comes 126 = .ok (.aload_n 0, 1) := by decide +kernel
theorem dX7_comes_127 : decode cX7_comes 127 = .ok (.iload_n 1, 1) := by decide +kernel
theorem dX7_comes_128 : decode cX7_comes 128 = .ok (.iload_n 2, 1) := by decide +kernel
theorem dX7_comes_129 : decode cX7_comes 129 = .ok (.iconst 2, 1) := by decide +kernel
theorem dX7_comes_130 : decode cX7_comes 130 = .ok (.aload_n 0, 1) := by decide +kernel
theorem dX7_comes_131 : decode cX7_comes 131 = .ok (.iload_n 1, 1) := by decide +kernel
theorem dX7_comes_132 : decode cX7_comes 132 = .ok (.iconst 1, 1) := by decide +kernel
theorem dX7_comes_133 : decode cX7_comes 133 = .ok (.invokevirtual 47, 3) := by decide +kernel
theorem dX7_comes_136 : decode cX7_comes 136 = .ok (.invokevirtual 51, 3) := by decide +kernel
theorem dX7_comes_139 : decode cX7_comes 139 = .ok (.aload_n 0, 1) := by decide +kernel
theorem dX7_comes_140 : decode cX7_comes 140 = .ok (.iload_n 1, 1) := by decide +kernel
theorem dX7_comes_141 : decode cX7_comes 141 = .ok (.iload_n 2, 1) := by decide +kernel
theorem dX7_comes_142 : decode cX7_comes 142 = .ok (.iconst 3, 1) := by decide +kernel
theorem dX7_comes_143 : decode cX7_comes 143 = .ok (.aload_n 0, 1) := by decide +kernel
theorem dX7_comes_144 : decode cX7_comes 144 = .ok (.getfield 7, 3) := by decide +kernel
theorem dX7_comes_147 : decode cX7_comes 147 = .ok (.sipush 1072, 3) := by decide +kernel
theorem dX7_comes_150 : decode cX7_comes 150 = .ok (.iaload, 1) := by decide +kernel
theorem dX7_comes_151 : decode cX7_comes 151 = .ok (.invokevirtual 51, 3) := by decide +kernel
theorem dX7_comes_154 : decode cX7_comes 154 = .ok (.return_, 1) := by decide +kernel
theorem dX7_empties_0 : decode cX7_empties 0 = .ok (.iconst 1, 1) := by decide +kernel
theorem dX7_empties_1 : decode cX7_empties 1 = .ok (.istore_n 2, 1) := by decide +kernel
theorem dX7_empties_2 : decode cX7_empties 2 = .ok (.iload_n 2, 1) := by decide +kernel
theorem dX7_empties_3 : decode cX7_empties 3 = .ok (.sipush 134, 3) := by decide +kernel
theorem dX7_empties_6 : decode cX7_empties 6 = .ok (.if_icmp .ge 16, 3) := by decide +kernel
theorem dX7_empties_9 : decode cX7_empties 9 = .ok (.aload_n 0, 1) := by decide +kernel
theorem dX7_empties_10 : decode cX7_empties 10 = .ok (.iload_n 1, 1) := by decide +kernel
theorem dX7_empties_11 : decode cX7_empties 11 = .ok (.iload_n 2, 1) := by decide +kernel
theorem dX7_empties_12 : decode cX7_empties 12 = .ok (.iconst 0, 1) := by decide +kernel
theorem dX7_empties_13 : decode cX7_empties 13 = .ok (.invokevirtual 23, 3) := by decide +kernel
theorem dX7_empties_16 : decode cX7_empties 16 = .ok (.iinc 2 1, 3) := by decide +kernel
theorem dX7_empties_19 : decode cX7_empties 19 = .ok (.goto (-17), 3) := by decide +kernel
theorem dX7_empties_22 : decode cX7_empties 22 = .ok (.return_, 1) := by decide +kernel
theorem dX7_copies_0 : decode cX7_copies 0 = .ok (.iconst 0, 1) := by decide +kernel
theorem dX7_copies_1 : decode cX7_copies 1 = .ok (.istore_n 3, 1) := by decide +kernel
theorem dX7_copies_2 : decode cX7_copies 2 = .ok (.iload_n 3, 1) := by decide +kernel
theorem dX7_copies_3 : decode cX7_copies 3 = .ok (.sipush 134, 3) := by decide +kernel
theorem dX7_copies_6 : decode cX7_copies 6 = .ok (.if_icmp .ge 21, 3) := by decide +kernel
theorem dX7_copies_9 : decode cX7_copies 9 = .ok (.aload_n 0, 1) := by decide +kernel
theorem dX7_copies_10 : decode cX7_copies 10 = .ok (.iload_n 2, 1) := by decide +kernel
theorem dX7_copies_11 : decode cX7_copies 11 = .ok (.iload_n 3, 1) := by decide +kernel
theorem dX7_copies_12 : decode cX7_copies 12 = .ok (.aload_n 0, 1) := by decide +kernel
theorem dX7_copies_13 : decode cX7_copies 13 = .ok (.iload_n 1, 1) := by decide +kernel
theorem dX7_copies_14 : decode cX7_copies 14 = .ok (.iload_n 3, 1) := by decide +kernel
theorem dX7_copies_15 : decode cX7_copies 15 = .ok (.invokevirtual 47, 3) := by decide +kernel
theorem dX7_copies_18 : decode cX7_copies 18 = .ok (.invokevirtual 23, 3) := by decide +kernel
theorem dX7_copies_21 : decode cX7_copies 21 = .ok (.iinc 3 1, 3) := by decide +kernel
theorem dX7_copies_24 : decode cX7_copies 24 = .ok (.goto (-22), 3) := by decide +kernel
theorem dX7_copies_27 : decode cX7_copies 27 = .ok (.return_, 1) := by decide +kernel
theorem dX7_joins_0 : decode cX7_joins 0 = .ok (.iconst 0, 1) := by decide +kernel
theorem dX7_joins_1 : decode cX7_joins 1 = .ok (.istore_n 3, 1) := by decide +kernel
theorem dX7_joins_2 : decode cX7_joins 2 = .ok (.iload_n 3, 1) := by decide +kernel
theorem dX7_joins_3 : decode cX7_joins 3 = .ok (.bipush 26, 2) := by decide +kernel
theorem dX7_joins_5 : decode cX7_joins 5 = .ok (.if_icmp .ge 192, 3) := by decide +kernel
theorem dX7_joins_8 : decode cX7_joins 8 = .ok (.aload_n 0, 1) := by decide +kernel
theorem dX7_joins_9 : decode cX7_joins 9 = .ok (.iload_n 1, 1) := by decide +kernel
theorem dX7_joins_10 : decode cX7_joins 10 = .ok (.iload_n 3, 1) := by decide +kernel
theorem dX7_joins_11 : decode cX7_joins 11 = .ok (.invokevirtual 43, 3) := by decide +kernel
theorem dX7_joins_14 : decode cX7_joins 14 = .ok (.istore 4, 2) := by decide +kernel
theorem dX7_joins_16 : decode cX7_joins 16 = .ok (.aload_n 0, 1) := by decide +kernel
theorem dX7_joins_17 : decode cX7_joins 17 = .ok (.iload_n 2, 1) := by decide +kernel
theorem dX7_joins_18 : decode cX7_joins 18 = .ok (.iload_n 3, 1) := by decide +kernel
theorem dX7_joins_19 : decode cX7_joins 19 = .ok (.invokevirtual 43, 3) := by decide +kernel
theorem dX7_joins_22 : decode cX7_joins 22 = .ok (.istore 5, 2) := by decide +kernel
theorem dX7_joins_24 : decode cX7_joins 24 = .ok (.iload 4, 2) := by decide +kernel
theorem dX7_joins_26 : decode cX7_joins 26 = .ok (.ifCond .eq 13, 3) := by decide +kernel
theorem dX7_joins_29 : decode cX7_joins 29 = .ok (.aload_n 0, 1) := by decide +kernel
theorem dX7_joins_30 : decode cX7_joins 30 = .ok (.iload_n 1, 1) := by decide +kernel
theorem dX7_joins_31 : decode cX7_joins 31 = .ok (.iload_n 3, 1) := by decide +kernel
theorem dX7_joins_32 : decode cX7_joins 32 = .ok (.iconst 1, 1) := by decide +kernel
theorem dX7_joins_33 : decode cX7_joins 33 = .ok (.invokevirtual 31, 3) := by decide +kernel
theorem dX7_joins_36 : decode cX7_joins 36 = .ok (.goto 9, 3) := by decide +kernel
theorem dX7_joins_39 : decode cX7_joins 39 = .ok (.aload_n 0, 1) := by decide +kernel
theorem dX7_joins_40 : decode cX7_joins 40 = .ok (.iload_n 1, 1) := by decide +kernel
theorem dX7_joins_41 : decode cX7_joins 41 = .ok (.iconst 1, 1) := by decide +kernel
theorem dX7_joins_42 : decode cX7_joins 42 = .ok (.invokevirtual 47, 3) := by decide +kernel
theorem dX7_joins_45 : decode cX7_joins 45 = .ok (.iload 5, 2) := by decide +kernel
theorem dX7_joins_47 : decode cX7_joins 47 = .ok (.ifCond .eq 13, 3) := by decide +kernel
theorem dX7_joins_50 : decode cX7_joins 50 = .ok (.aload_n 0, 1) := by decide +kernel
theorem dX7_joins_51 : decode cX7_joins 51 = .ok (.iload_n 2, 1) := by decide +kernel
theorem dX7_joins_52 : decode cX7_joins 52 = .ok (.iload_n 3, 1) := by decide +kernel
theorem dX7_joins_53 : decode cX7_joins 53 = .ok (.iconst 1, 1) := by decide +kernel
theorem dX7_joins_54 : decode cX7_joins 54 = .ok (.invokevirtual 31, 3) := by decide +kernel
theorem dX7_joins_57 : decode cX7_joins 57 = .ok (.goto 9, 3) := by decide +kernel
theorem dX7_joins_60 : decode cX7_joins 60 = .ok (.aload_n 0, 1) := by decide +kernel
theorem dX7_joins_61 : decode cX7_joins 61 = .ok (.iload_n 2, 1) := by decide +kernel
theorem dX7_joins_62 : decode cX7_joins 62 = .ok (.iconst 1, 1) := by decide +kernel
theorem dX7_joins_63 : decode cX7_joins 63 = .ok (.invokevirtual 47, 3) := by decide +kernel
theorem dX7_joins_66 : decode cX7_joins 66 = .ok (.iadd, 1) := by decide +kernel
theorem dX7_joins_67 : decode cX7_joins 67 = .ok (.istore 6, 2) := by decide +kernel
theorem dX7_joins_69 : decode cX7_joins 69 = .ok (.iload 4, 2) := by decide +kernel
theorem dX7_joins_71 : decode cX7_joins 71 = .ok (.ifCond .eq 13, 3) := by decide +kernel
theorem dX7_joins_74 : decode cX7_joins 74 = .ok (.aload_n 0, 1) := by decide +kernel
theorem dX7_joins_75 : decode cX7_joins 75 = .ok (.iload_n 1, 1) := by decide +kernel
theorem dX7_joins_76 : decode cX7_joins 76 = .ok (.iload_n 3, 1) := by decide +kernel
theorem dX7_joins_77 : decode cX7_joins 77 = .ok (.iconst 2, 1) := by decide +kernel
theorem dX7_joins_78 : decode cX7_joins 78 = .ok (.invokevirtual 31, 3) := by decide +kernel
theorem dX7_joins_81 : decode cX7_joins 81 = .ok (.goto 9, 3) := by decide +kernel
theorem dX7_joins_84 : decode cX7_joins 84 = .ok (.aload_n 0, 1) := by decide +kernel
theorem dX7_joins_85 : decode cX7_joins 85 = .ok (.iload_n 1, 1) := by decide +kernel
theorem dX7_joins_86 : decode cX7_joins 86 = .ok (.iconst 1, 1) := by decide +kernel
theorem dX7_joins_87 : decode cX7_joins 87 = .ok (.invokevirtual 47, 3) := by decide +kernel
theorem dX7_joins_90 : decode cX7_joins 90 = .ok (.iload 5, 2) := by decide +kernel
theorem dX7_joins_92 : decode cX7_joins 92 = .ok (.ifCond .eq 13, 3) := by decide +kernel
theorem dX7_joins_95 : decode cX7_joins 95 = .ok (.aload_n 0, 1) := by decide +kernel
theorem dX7_joins_96 : decode cX7_joins 96 = .ok (.iload_n 2, 1) := by decide +kernel
theorem dX7_joins_97 : decode cX7_joins 97 = .ok (.iload_n 3, 1) := by decide +kernel
theorem dX7_joins_98 : decode cX7_joins 98 = .ok (.iconst 2, 1) := by decide +kernel
theorem dX7_joins_99 : decode cX7_joins 99 = .ok (.invokevirtual 31, 3) := by decide +kernel
theorem dX7_joins_102 : decode cX7_joins 102 = .ok (.goto 9, 3) := by decide +kernel
theorem dX7_joins_105 : decode cX7_joins 105 = .ok (.aload_n 0, 1) := by decide +kernel
theorem dX7_joins_106 : decode cX7_joins 106 = .ok (.iload_n 2, 1) := by decide +kernel
theorem dX7_joins_107 : decode cX7_joins 107 = .ok (.iconst 1, 1) := by decide +kernel
theorem dX7_joins_108 : decode cX7_joins 108 = .ok (.invokevirtual 47, 3) := by decide +kernel
theorem dX7_joins_111 : decode cX7_joins 111 = .ok (.iadd, 1) := by decide +kernel
theorem dX7_joins_112 : decode cX7_joins 112 = .ok (.istore 7, 2) := by decide +kernel
theorem dX7_joins_114 : decode cX7_joins 114 = .ok (.aload_n 0, 1) := by decide +kernel
theorem dX7_joins_115 : decode cX7_joins 115 = .ok (.iload_n 1, 1) := by decide +kernel
theorem dX7_joins_116 : decode cX7_joins 116 = .ok (.iload_n 3, 1) := by decide +kernel
theorem dX7_joins_117 : decode cX7_joins 117 = .ok (.iconst 0, 1) := by decide +kernel
theorem dX7_joins_118 : decode cX7_joins 118 = .ok (.iload 4, 2) := by decide +kernel
theorem dX7_joins_120 : decode cX7_joins 120 = .ok (.ifCond .ne 8, 3) := by decide +kernel
theorem dX7_joins_123 : decode cX7_joins 123 = .ok (.iload 5, 2) := by decide +kernel
theorem dX7_joins_125 : decode cX7_joins 125 = .ok (.ifCond .eq 7, 3) := by decide +kernel
theorem dX7_joins_128 : decode cX7_joins 128 = .ok (.iconst 1, 1) := by decide +kernel
theorem dX7_joins_129 : decode cX7_joins 129 = .ok (.goto 4, 3) := by decide +kernel
theorem dX7_joins_132 : decode cX7_joins 132 = .ok (.iconst 0, 1) := by decide +kernel
theorem dX7_joins_133 : decode cX7_joins 133 = .ok (.invokevirtual 51, 3) := by decide +kernel
theorem dX7_joins_136 : decode cX7_joins 136 = .ok (.aload_n 0, 1) := by decide +kernel
theorem dX7_joins_137 : decode cX7_joins 137 = .ok (.iload_n 1, 1) := by decide +kernel
theorem dX7_joins_138 : decode cX7_joins 138 = .ok (.iload_n 3, 1) := by decide +kernel
theorem dX7_joins_139 : decode cX7_joins 139 = .ok (.iconst 1, 1) := by decide +kernel
theorem dX7_joins_140 : decode cX7_joins 140 = .ok (.iload 6, 2) := by decide +kernel
theorem dX7_joins_142 : decode cX7_joins 142 = .ok (.invokevirtual 51, 3) := by decide +kernel
theorem dX7_joins_145 : decode cX7_joins 145 = .ok (.aload_n 0, 1) := by decide +kernel
theorem dX7_joins_146 : decode cX7_joins 146 = .ok (.iload_n 1, 1) := by decide +kernel
theorem dX7_joins_147 : decode cX7_joins 147 = .ok (.iload_n 3, 1) := by decide +kernel
theorem dX7_joins_148 : decode cX7_joins 148 = .ok (.iconst 2, 1) := by decide +kernel
theorem dX7_joins_149 : decode cX7_joins 149 = .ok (.iload 7, 2) := by decide +kernel
theorem dX7_joins_151 : decode cX7_joins 151 = .ok (.invokevirtual 51, 3) := by decide +kernel
theorem dX7_joins_154 : decode cX7_joins 154 = .ok (.aload_n 0, 1) := by decide +kernel
theorem dX7_joins_155 : decode cX7_joins 155 = .ok (.iload_n 1, 1) := by decide +kernel
theorem dX7_joins_156 : decode cX7_joins 156 = .ok (.iload_n 3, 1) := by decide +kernel
theorem dX7_joins_157 : decode cX7_joins 157 = .ok (.iconst 3, 1) := by decide +kernel
theorem dX7_joins_158 : decode cX7_joins 158 = .ok (.aload_n 0, 1) := by decide +kernel
theorem dX7_joins_159 : decode cX7_joins 159 = .ok (.getfield 7, 3) := by decide +kernel
theorem dX7_joins_162 : decode cX7_joins 162 = .ok (.sipush 1072, 3) := by decide +kernel
theorem dX7_joins_165 : decode cX7_joins 165 = .ok (.iaload, 1) := by decide +kernel
theorem dX7_joins_166 : decode cX7_joins 166 = .ok (.invokevirtual 51, 3) := by decide +kernel
theorem dX7_joins_169 : decode cX7_joins 169 = .ok (.aload_n 0, 1) := by decide +kernel
theorem dX7_joins_170 : decode cX7_joins 170 = .ok (.iload_n 1, 1) := by decide +kernel
theorem dX7_joins_171 : decode cX7_joins 171 = .ok (.iload_n 3, 1) := by decide +kernel
theorem dX7_joins_172 : decode cX7_joins 172 = .ok (.iconst 4, 1) := by decide +kernel
theorem dX7_joins_173 : decode cX7_joins 173 = .ok (.aload_n 0, 1) := by decide +kernel
theorem dX7_joins_174 : decode cX7_joins 174 = .ok (.iload_n 1, 1) := by decide +kernel
theorem dX7_joins_175 : decode cX7_joins 175 = .ok (.iload_n 3, 1) := by decide +kernel
theorem dX7_joins_176 : decode cX7_joins 176 = .ok (.iconst 4, 1) := by decide +kernel
theorem dX7_joins_177 : decode cX7_joins 177 = .ok (.invokevirtual 31, 3) := by decide +kernel
theorem dX7_joins_180 : decode cX7_joins 180 = .ok (.aload_n 0, 1) := by decide +kernel
theorem dX7_joins_181 : decode cX7_joins 181 = .ok (.iload_n 2, 1) := by decide +kernel
theorem dX7_joins_182 : decode cX7_joins 182 = .ok (.iload_n 3, 1) := by decide +kernel
theorem dX7_joins_183 : decode cX7_joins 183 = .ok (.iconst 4, 1) := by decide +kernel
theorem dX7_joins_184 : decode cX7_joins 184 = .ok (.invokevirtual 31, 3) := by decide +kernel
theorem dX7_joins_187 : decode cX7_joins 187 = .ok (.iadd, 1) := by decide +kernel
theorem dX7_joins_188 : decode cX7_joins 188 = .ok (.invokevirtual 51, 3) := by decide +kernel
theorem dX7_joins_191 : decode cX7_joins 191 = .ok (.iinc 3 1, 3) := by decide +kernel
theorem dX7_joins_194 : decode cX7_joins 194 = .ok (.goto (-192), 3) := by decide +kernel
theorem dX7_joins_197 : decode cX7_joins 197 = .ok (.aload_n 0, 1) := by decide +kernel
theorem dX7_joins_198 : decode cX7_joins 198 = .ok (.iload_n 1, 1) := by decide +kernel
theorem dX7_joins_199 : decode cX7_joins 199 = .ok (.iconst 1, 1) := by decide +kernel
theorem dX7_joins_200 : decode cX7_joins 200 = .ok (.aload_n 0, 1) := by decide +kernel
theorem dX7_joins_201 : decode cX7_joins 201 = .ok (.iload_n 1, 1) := by decide +kernel
theorem dX7_joins_202 : decode cX7_joins 202 = .ok (.iconst 1, 1) := by decide +kernel
theorem dX7_joins_203 : decode cX7_joins 203 = .ok (.invokevirtual 47, 3) := by decide +kernel
theorem dX7_joins_206 : decode cX7_joins 206 = .ok (.aload_n 0, 1) := by decide +kernel
theorem dX7_joins_207 : decode cX7_joins 207 = .ok (.iload_n 2, 1) := by decide +kernel
theorem dX7_joins_208 : decode cX7_joins 208 = .ok (.iconst 1, 1) := by decide +kernel
theorem dX7_joins_209 : decode cX7_joins 209 = .ok (.invokevirtual 47, 3) := by decide +kernel
theorem dX7_joins_212 : decode cX7_joins 212 = .ok (.iadd, 1) := by decide +kernel
theorem dX7_joins_213 : decode cX7_joins 213 = .ok (.invokevirtual 23, 3) := by decide +kernel
theorem dX7_joins_216 : decode cX7_joins 216 = .ok (.aload_n 0, 1) := by decide +kernel
theorem dX7_joins_217 : decode cX7_joins 217 = .ok (.iload_n 1, 1) := by decide +kernel
theorem dX7_joins_218 : decode cX7_joins 218 = .ok (.iconst 2, 1) := by decide +kernel
theorem dX7_joins_219 : decode cX7_joins 219 = .ok (.aload_n 0, 1) := by decide +kernel
theorem dX7_joins_220 : decode cX7_joins 220 = .ok (.iload_n 1, 1) := by decide +kernel
theorem dX7_joins_221 : decode cX7_joins 221 = .ok (.iconst 2, 1) := by decide +kernel
theorem dX7_joins_222 : decode cX7_joins 222 = .ok (.invokevirtual 47, 3) := by decide +kernel
theorem dX7_joins_225 : decode cX7_joins 225 = .ok (.aload_n 0, 1) := by decide +kernel
theorem dX7_joins_226 : decode cX7_joins 226 = .ok (.iload_n 2, 1) := by decide +kernel
theorem dX7_joins_227 : decode cX7_joins 227 = .ok (.iconst 2, 1) := by decide +kernel
theorem dX7_joins_228 : decode cX7_joins 228 = .ok (.invokevirtual 47, 3) := by decide +kernel
theorem dX7_joins_231 : decode cX7_joins 231 = .ok (.iadd, 1) := by decide +kernel
theorem dX7_joins_232 : decode cX7_joins 232 = .ok (.invokevirtual 23, 3) := by decide +kernel
theorem dX7_joins_235 : decode cX7_joins 235 = .ok (.iconst 0, 1) := by decide +kernel
theorem dX7_joins_236 : decode cX7_joins 236 = .ok (.istore_n 3, 1) := by decide +kernel
theorem dX7_joins_237 : decode cX7_joins 237 = .ok (.aload_n 0, 1) := by decide +kernel
theorem dX7_joins_238 : decode cX7_joins 238 = .ok (.iload_n 1, 1) := by decide +kernel
theorem dX7_joins_239 : decode cX7_joins 239 = .ok (.invokevirtual 65, 3) := by decide +kernel
theorem dX7_joins_242 : decode cX7_joins 242 = .ok (.aload_n 0, 1) := by decide +kernel
theorem dX7_joins_243 : decode cX7_joins 243 = .ok (.iload_n 1, 1) := by decide +kernel
theorem dX7_joins_244 : decode cX7_joins 244 = .ok (.iconst 0, 1) := by decide +kernel
theorem dX7_joins_245 : decode cX7_joins 245 = .ok (.invokevirtual 47, 3) := by decide +kernel
theorem dX7_joins_248 : decode cX7_joins 248 = .ok (.if_icmp .le 76, 3) := by decide +kernel
theorem dX7_joins_251 : decode cX7_joins 251 = .ok (.bipush (-5), 2) := by decide +kernel
theorem dX7_joins_253 : decode cX7_joins 253 = .ok (.istore 4, 2) := by decide +kernel
theorem dX7_joins_255 : decode cX7_joins 255 = .ok (.iconst 0, 1) := by decide +kernel
theorem dX7_joins_256 : decode cX7_joins 256 = .ok (.istore 5, 2) := by decide +kernel
theorem dX7_joins_258 : decode cX7_joins 258 = .ok (.iload 5, 2) := by decide +kernel
theorem dX7_joins_260 : decode cX7_joins 260 = .ok (.bipush 26, 2) := by decide +kernel
theorem dX7_joins_262 : decode cX7_joins 262 = .ok (.if_icmp .ge 49, 3) := by decide +kernel
theorem dX7_joins_265 : decode cX7_joins 265 = .ok (.aload_n 0, 1) := by decide +kernel
theorem dX7_joins_266 : decode cX7_joins 266 = .ok (.iload_n 1, 1) := by decide +kernel
theorem dX7_joins_267 : decode cX7_joins 267 = .ok (.iload 5, 2) := by decide +kernel
theorem dX7_joins_269 : decode cX7_joins 269 = .ok (.invokevirtual 43, 3) := by decide +kernel
theorem dX7_joins_272 : decode cX7_joins 272 = .ok (.ifCond .eq 33, 3) := by decide +kernel
theorem dX7_joins_275 : decode cX7_joins 275 = .ok (.iload 4, 2) := by decide +kernel
theorem dX7_joins_277 : decode cX7_joins 277 = .ok (.bipush (-5), 2) := by decide +kernel
theorem dX7_joins_279 : decode cX7_joins 279 = .ok (.if_icmp .eq 22, 3) := by decide +kernel
theorem dX7_joins_282 : decode cX7_joins 282 = .ok (.aload_n 0, 1) := by decide +kernel
theorem dX7_joins_283 : decode cX7_joins 283 = .ok (.iload_n 1, 1) := by decide +kernel
theorem dX7_joins_284 : decode cX7_joins 284 = .ok (.iload 5, 2) := by decide +kernel
theorem dX7_joins_286 : decode cX7_joins 286 = .ok (.iconst 1, 1) := by decide +kernel
theorem dX7_joins_287 : decode cX7_joins 287 = .ok (.invokevirtual 31, 3) := by decide +kernel
theorem dX7_joins_290 : decode cX7_joins 290 = .ok (.aload_n 0, 1) := by decide +kernel
theorem dX7_joins_291 : decode cX7_joins 291 = .ok (.iload_n 1, 1) := by decide +kernel
theorem dX7_joins_292 : decode cX7_joins 292 = .ok (.iload 4, 2) := by decide +kernel
theorem dX7_joins_294 : decode cX7_joins 294 = .ok (.iconst 1, 1) := by decide +kernel
theorem dX7_joins_295 : decode cX7_joins 295 = .ok (.invokevirtual 31, 3) := by decide +kernel
theorem dX7_joins_298 : decode cX7_joins 298 = .ok (.if_icmp .gt 7, 3) := by decide +kernel
theorem dX7_joins_301 : decode cX7_joins 301 = .ok (.iload 5, 2) := by decide +kernel
theorem dX7_joins_303 : decode cX7_joins 303 = .ok (.istore 4, 2) := by decide +kernel
theorem dX7_joins_305 : decode cX7_joins 305 = .ok (.iinc 5 1, 3) := by decide +kernel
theorem dX7_joins_308 : decode cX7_joins 308 = .ok (.goto (-50), 3) := by decide +kernel
theorem dX7_joins_311 : decode cX7_joins 311 = .ok (.aload_n 0, 1) := by decide +kernel
theorem dX7_joins_312 : decode cX7_joins 312 = .ok (.iload_n 1, 1) := by decide +kernel
theorem dX7_joins_313 : decode cX7_joins 313 = .ok (.iload 4, 2) := by decide +kernel
theorem dX7_joins_315 : decode cX7_joins 315 = .ok (.invokevirtual 58, 3) := by decide +kernel
theorem dX7_joins_318 : decode cX7_joins 318 = .ok (.iinc 3 1, 3) := by decide +kernel
theorem dX7_joins_321 : decode cX7_joins 321 = .ok (.goto (-84), 3) := by decide +kernel
theorem dX7_joins_324 : decode cX7_joins 324 = .ok (.iload_n 3, 1) := by decide +kernel
theorem dX7_joins_325 : decode cX7_joins 325 = .ok (.ireturn, 1) := by decide +kernel
theorem dX7_arrive_0 : decode cX7_arrive 0 = .ok (.iload_n 1, 1) := by decide +kernel
theorem dX7_arrive_1 : decode cX7_arrive 1 = .ok (.invokestatic 72, 3) := by decide +kernel
theorem dX7_arrive_4 : decode cX7_arrive 4 = .ok (.ifCond .eq 10, 3) := by decide +kernel
theorem dX7_arrive_7 : decode cX7_arrive 7 = .ok (.iload_n 2, 1) := by decide +kernel
theorem dX7_arrive_8 : decode cX7_arrive 8 = .ok (.invokestatic 76, 3) := by decide +kernel
theorem dX7_arrive_11 : decode cX7_arrive 11 = .ok (.ifCond .ne 5, 3) := by decide +kernel
theorem dX7_arrive_14 : decode cX7_arrive 14 = .ok (.iconst (-1), 1) := by decide +kernel
theorem dX7_arrive_15 : decode cX7_arrive 15 = .ok (.ireturn, 1) := by decide +kernel
theorem dX7_arrive_16 : decode cX7_arrive 16 = .ok (.iload_n 3, 1) := by decide +kernel
theorem dX7_arrive_17 : decode cX7_arrive 17 = .ok (.iconst 1, 1) := by decide +kernel
theorem dX7_arrive_18 : decode cX7_arrive 18 = .ok (.bipush 99, 2) := by decide +kernel
theorem dX7_arrive_20 : decode cX7_arrive 20 = .ok (.invokestatic 35, 3) := by decide +kernel
theorem dX7_arrive_23 : decode cX7_arrive 23 = .ok (.ifCond .ne 6, 3) := by decide +kernel
theorem dX7_arrive_26 : decode cX7_arrive 26 = .ok (.bipush (-2), 2) := by decide +kernel
theorem dX7_arrive_28 : decode cX7_arrive 28 = .ok (.ireturn, 1) := by decide +kernel
theorem dX7_arrive_29 : decode cX7_arrive 29 = .ok (.aload_n 0, 1) := by decide +kernel
theorem dX7_arrive_30 : decode cX7_arrive 30 = .ok (.iload_n 1, 1) := by decide +kernel
theorem dX7_arrive_31 : decode cX7_arrive 31 = .ok (.iconst 2, 1) := by decide +kernel
theorem dX7_arrive_32 : decode cX7_arrive 32 = .ok (.invokevirtual 47, 3) := by decide +kernel
theorem dX7_arrive_35 : decode cX7_arrive 35 = .ok (.iload_n 3, 1) := by decide +kernel
theorem dX7_arrive_36 : decode cX7_arrive 36 = .ok (.iadd, 1) := by decide +kernel
theorem dX7_arrive_37 : decode cX7_arrive 37 = .ok (.ldc 80, 2) := by decide +kernel
theorem dX7_arrive_39 : decode cX7_arrive 39 = .ok (.if_icmp .le 6, 3) := by decide +kernel
theorem dX7_arrive_42 : decode cX7_arrive 42 = .ok (.bipush (-3), 2) := by decide +kernel
theorem dX7_arrive_44 : decode cX7_arrive 44 = .ok (.ireturn, 1) := by decide +kernel
theorem dX7_arrive_45 : decode cX7_arrive 45 = .ok (.aload_n 0, 1) := by decide +kernel
theorem dX7_arrive_46 : decode cX7_arrive 46 = .ok (.invokevirtual 81, 3) := by decide +kernel
theorem dX7_arrive_49 : decode cX7_arrive 49 = .ok (.aload_n 0, 1) := by decide +kernel
theorem dX7_arrive_50 : decode cX7_arrive 50 = .ok (.iload_n 1, 1) := by decide +kernel
theorem dX7_arrive_51 : decode cX7_arrive 51 = .ok (.iload_n 2, 1) := by decide +kernel
theorem dX7_arrive_52 : decode cX7_arrive 52 = .ok (.bipush 97, 2) := by decide +kernel
theorem dX7_arrive_54 : decode cX7_arrive 54 = .ok (.isub, 1) := by decide +kernel
theorem dX7_arrive_55 : decode cX7_arrive 55 = .ok (.iload_n 3, 1) := by decide +kernel
theorem dX7_arrive_56 : decode cX7_arrive 56 = .ok (.invokevirtual 84, 3) := by decide +kernel
theorem dX7_arrive_59 : decode cX7_arrive 59 = .ok (.aload_n 0, 1) := by decide +kernel
theorem dX7_arrive_60 : decode cX7_arrive 60 = .ok (.iload_n 1, 1) := by decide +kernel
theorem dX7_arrive_61 : decode cX7_arrive 61 = .ok (.iload_n 2, 1) := by decide +kernel
theorem dX7_arrive_62 : decode cX7_arrive 62 = .ok (.bipush 97, 2) := by decide +kernel
theorem dX7_arrive_64 : decode cX7_arrive 64 = .ok (.isub, 1) := by decide +kernel
theorem dX7_arrive_65 : decode cX7_arrive 65 = .ok (.iconst 1, 1) := by decide +kernel
theorem dX7_arrive_66 : decode cX7_arrive 66 = .ok (.invokevirtual 31, 3) := by decide +kernel
theorem dX7_arrive_69 : decode cX7_arrive 69 = .ok (.ireturn, 1) := by decide +kernel
theorem dX7_present_0 : decode cX7_present 0 = .ok (.iconst 4, 1) := by decide +kernel
theorem dX7_present_1 : decode cX7_present 1 = .ok (.aload_n 0, 1) := by decide +kernel
theorem dX7_present_2 : decode cX7_present 2 = .ok (.getfield 7, 3) := by decide +kernel
theorem dX7_present_5 : decode cX7_present 5 = .ok (.sipush 1076, 3) := by decide +kernel
theorem dX7_present_8 : decode cX7_present 8 = .ok (.iaload, 1) := by decide +kernel
theorem dX7_present_9 : decode cX7_present 9 = .ok (.iadd, 1) := by decide +kernel
theorem dX7_present_10 : decode cX7_present 10 = .ok (.iconst 1, 1) := by decide +kernel
theorem dX7_present_11 : decode cX7_present 11 = .ok (.isub, 1) := by decide +kernel
theorem dX7_present_12 : decode cX7_present 12 = .ok (.ireturn, 1) := by decide +kernel
theorem dX7_flows_0 : decode cX7_flows 0 = .ok (.aload_n 0, 1) := by decide +kernel
theorem dX7_flows_1 : decode cX7_flows 1 = .ok (.aload_n 0, 1) := by decide +kernel
theorem dX7_flows_2 : decode cX7_flows 2 = .ok (.invokevirtual 87, 3) := by decide +kernel
theorem dX7_flows_5 : decode cX7_flows 5 = .ok (.iconst 3, 1) := by decide +kernel
theorem dX7_flows_6 : decode cX7_flows 6 = .ok (.invokevirtual 47, 3) := by decide +kernel
theorem dX7_flows_9 : decode cX7_flows 9 = .ok (.bipush 8, 2) := by decide +kernel
theorem dX7_flows_11 : decode cX7_flows 11 = .ok (.if_icmp .ne 89, 3) := by decide +kernel
theorem dX7_flows_14 : decode cX7_flows 14 = .ok (.aload_n 0, 1) := by decide +kernel
theorem dX7_flows_15 : decode cX7_flows 15 = .ok (.getfield 7, 3) := by decide +kernel
theorem dX7_flows_18 : decode cX7_flows 18 = .ok (.sipush 1076, 3) := by decide +kernel
theorem dX7_flows_21 : decode cX7_flows 21 = .ok (.iaload, 1) := by decide +kernel
theorem dX7_flows_22 : decode cX7_flows 22 = .ok (.iconst 4, 1) := by decide +kernel
theorem dX7_flows_23 : decode cX7_flows 23 = .ok (.if_icmp .ne 31, 3) := by decide +kernel
theorem dX7_flows_26 : decode cX7_flows 26 = .ok (.iconst 0, 1) := by decide +kernel
theorem dX7_flows_27 : decode cX7_flows 27 = .ok (.istore_n 3, 1) := by decide +kernel
theorem dX7_flows_28 : decode cX7_flows 28 = .ok (.iload_n 3, 1) := by decide +kernel
theorem dX7_flows_29 : decode cX7_flows 29 = .ok (.iconst 3, 1) := by decide +kernel
theorem dX7_flows_30 : decode cX7_flows 30 = .ok (.if_icmp .ge 21, 3) := by decide +kernel
theorem dX7_flows_33 : decode cX7_flows 33 = .ok (.aload_n 0, 1) := by decide +kernel
theorem dX7_flows_34 : decode cX7_flows 34 = .ok (.iconst 4, 1) := by decide +kernel
theorem dX7_flows_35 : decode cX7_flows 35 = .ok (.iload_n 3, 1) := by decide +kernel
theorem dX7_flows_36 : decode cX7_flows 36 = .ok (.iadd, 1) := by decide +kernel
theorem dX7_flows_37 : decode cX7_flows 37 = .ok (.iconst 1, 1) := by decide +kernel
theorem dX7_flows_38 : decode cX7_flows 38 = .ok (.iadd, 1) := by decide +kernel
theorem dX7_flows_39 : decode cX7_flows 39 = .ok (.iconst 4, 1) := by decide +kernel
theorem dX7_flows_40 : decode cX7_flows 40 = .ok (.iload_n 3, 1) := by decide +kernel
theorem dX7_flows_41 : decode cX7_flows 41 = .ok (.iadd, 1) := by decide +kernel
theorem dX7_flows_42 : decode cX7_flows 42 = .ok (.invokevirtual 91, 3) := by decide +kernel
theorem dX7_flows_45 : decode cX7_flows 45 = .ok (.iinc 3 1, 3) := by decide +kernel
theorem dX7_flows_48 : decode cX7_flows 48 = .ok (.goto (-20), 3) := by decide +kernel
theorem dX7_flows_51 : decode cX7_flows 51 = .ok (.goto 15, 3) := by decide +kernel
theorem dX7_flows_54 : decode cX7_flows 54 = .ok (.aload_n 0, 1) := by decide +kernel
theorem dX7_flows_55 : decode cX7_flows 55 = .ok (.getfield 7, 3) := by decide +kernel
theorem dX7_flows_58 : decode cX7_flows 58 = .ok (.sipush 1076, 3) := by decide +kernel
theorem dX7_flows_61 : decode cX7_flows 61 = .ok (.dup2, 1) := by decide +kernel
theorem dX7_flows_62 : decode cX7_flows 62 = .ok (.iaload, 1) := by decide +kernel
theorem dX7_flows_63 : decode cX7_flows 63 = .ok (.iconst 1, 1) := by decide +kernel
theorem dX7_flows_64 : decode cX7_flows 64 = .ok (.iadd, 1) := by decide +kernel
theorem dX7_flows_65 : decode cX7_flows 65 = .ok (.iastore, 1) := by decide +kernel
theorem dX7_flows_66 : decode cX7_flows 66 = .ok (.aload_n 0, 1) := by decide +kernel
theorem dX7_flows_67 : decode cX7_flows 67 = .ok (.aload_n 0, 1) := by decide +kernel
theorem dX7_flows_68 : decode cX7_flows 68 = .ok (.invokevirtual 87, 3) := by decide +kernel
theorem dX7_flows_71 : decode cX7_flows 71 = .ok (.invokevirtual 94, 3) := by decide +kernel
theorem dX7_flows_74 : decode cX7_flows 74 = .ok (.aload_n 0, 1) := by decide +kernel
theorem dX7_flows_75 : decode cX7_flows 75 = .ok (.getfield 7, 3) := by decide +kernel
theorem dX7_flows_78 : decode cX7_flows 78 = .ok (.sipush 1075, 3) := by decide +kernel
theorem dX7_flows_81 : decode cX7_flows 81 = .ok (.dup2, 1) := by decide +kernel
theorem dX7_flows_82 : decode cX7_flows 82 = .ok (.iaload, 1) := by decide +kernel
theorem dX7_flows_83 : decode cX7_flows 83 = .ok (.iconst 1, 1) := by decide +kernel
theorem dX7_flows_84 : decode cX7_flows 84 = .ok (.iadd, 1) := by decide +kernel
theorem dX7_flows_85 : decode cX7_flows 85 = .ok (.iastore, 1) := by decide +kernel
theorem dX7_flows_86 : decode cX7_flows 86 = .ok (.aload_n 0, 1) := by decide +kernel
theorem dX7_flows_87 : decode cX7_flows 87 = .ok (.iconst 2, 1) := by decide +kernel
theorem dX7_flows_88 : decode cX7_flows 88 = .ok (.iconst 4, 1) := by decide +kernel
theorem dX7_flows_89 : decode cX7_flows 89 = .ok (.aload_n 0, 1) := by decide +kernel
theorem dX7_flows_90 : decode cX7_flows 90 = .ok (.getfield 7, 3) := by decide +kernel
theorem dX7_flows_93 : decode cX7_flows 93 = .ok (.sipush 1075, 3) := by decide +kernel
theorem dX7_flows_96 : decode cX7_flows 96 = .ok (.iaload, 1) := by decide +kernel
theorem dX7_flows_97 : decode cX7_flows 97 = .ok (.invokevirtual 62, 3) := by decide +kernel
theorem dX7_flows_100 : decode cX7_flows 100 = .ok (.aload_n 0, 1) := by decide +kernel
theorem dX7_flows_101 : decode cX7_flows 101 = .ok (.aload_n 0, 1) := by decide +kernel
theorem dX7_flows_102 : decode cX7_flows 102 = .ok (.invokevirtual 87, 3) := by decide +kernel
theorem dX7_flows_105 : decode cX7_flows 105 = .ok (.iload_n 1, 1) := by decide +kernel
theorem dX7_flows_106 : decode cX7_flows 106 = .ok (.iload_n 2, 1) := by decide +kernel
theorem dX7_flows_107 : decode cX7_flows 107 = .ok (.invokevirtual 84, 3) := by decide +kernel
theorem dX7_flows_110 : decode cX7_flows 110 = .ok (.return_, 1) := by decide +kernel
theorem dX7_flow_0 : decode cX7_flow 0 = .ok (.iload_n 1, 1) := by decide +kernel
theorem dX7_flow_1 : decode cX7_flow 1 = .ok (.invokestatic 76, 3) := by decide +kernel
theorem dX7_flow_4 : decode cX7_flow 4 = .ok (.ifCond .ne 5, 3) := by decide +kernel
theorem dX7_flow_7 : decode cX7_flow 7 = .ok (.iconst (-1), 1) := by decide +kernel
theorem dX7_flow_8 : decode cX7_flow 8 = .ok (.ireturn, 1) := by decide +kernel
theorem dX7_flow_9 : decode cX7_flow 9 = .ok (.iload_n 2, 1) := by decide +kernel
theorem dX7_flow_10 : decode cX7_flow 10 = .ok (.iconst 1, 1) := by decide +kernel
theorem dX7_flow_11 : decode cX7_flow 11 = .ok (.bipush 99, 2) := by decide +kernel
theorem dX7_flow_13 : decode cX7_flow 13 = .ok (.invokestatic 35, 3) := by decide +kernel
theorem dX7_flow_16 : decode cX7_flow 16 = .ok (.ifCond .ne 6, 3) := by decide +kernel
theorem dX7_flow_19 : decode cX7_flow 19 = .ok (.bipush (-2), 2) := by decide +kernel
theorem dX7_flow_21 : decode cX7_flow 21 = .ok (.ireturn, 1) := by decide +kernel
theorem dX7_flow_22 : decode cX7_flow 22 = .ok (.aload_n 0, 1) := by decide +kernel
theorem dX7_flow_23 : decode cX7_flow 23 = .ok (.invokevirtual 81, 3) := by decide +kernel
theorem dX7_flow_26 : decode cX7_flow 26 = .ok (.aload_n 0, 1) := by decide +kernel
theorem dX7_flow_27 : decode cX7_flow 27 = .ok (.iload_n 1, 1) := by decide +kernel
theorem dX7_flow_28 : decode cX7_flow 28 = .ok (.bipush 97, 2) := by decide +kernel
theorem dX7_flow_30 : decode cX7_flow 30 = .ok (.isub, 1) := by decide +kernel
theorem dX7_flow_31 : decode cX7_flow 31 = .ok (.iload_n 2, 1) := by decide +kernel
theorem dX7_flow_32 : decode cX7_flow 32 = .ok (.invokevirtual 97, 3) := by decide +kernel
theorem dX7_flow_35 : decode cX7_flow 35 = .ok (.aload_n 0, 1) := by decide +kernel
theorem dX7_flow_36 : decode cX7_flow 36 = .ok (.aload_n 0, 1) := by decide +kernel
theorem dX7_flow_37 : decode cX7_flow 37 = .ok (.invokevirtual 87, 3) := by decide +kernel
theorem dX7_flow_40 : decode cX7_flow 40 = .ok (.iconst 3, 1) := by decide +kernel
theorem dX7_flow_41 : decode cX7_flow 41 = .ok (.invokevirtual 47, 3) := by decide +kernel
theorem dX7_flow_44 : decode cX7_flow 44 = .ok (.ireturn, 1) := by decide +kernel
theorem dX7_merge_0 : decode cX7_merge 0 = .ok (.iload_n 1, 1) := by decide +kernel
theorem dX7_merge_1 : decode cX7_merge 1 = .ok (.invokestatic 72, 3) := by decide +kernel
theorem dX7_merge_4 : decode cX7_merge 4 = .ok (.ifCond .eq 10, 3) := by decide +kernel
theorem dX7_merge_7 : decode cX7_merge 7 = .ok (.iload_n 2, 1) := by decide +kernel
theorem dX7_merge_8 : decode cX7_merge 8 = .ok (.invokestatic 72, 3) := by decide +kernel
theorem dX7_merge_11 : decode cX7_merge 11 = .ok (.ifCond .ne 5, 3) := by decide +kernel
theorem dX7_merge_14 : decode cX7_merge 14 = .ok (.iconst (-1), 1) := by decide +kernel
theorem dX7_merge_15 : decode cX7_merge 15 = .ok (.ireturn, 1) := by decide +kernel
theorem dX7_merge_16 : decode cX7_merge 16 = .ok (.iload_n 1, 1) := by decide +kernel
theorem dX7_merge_17 : decode cX7_merge 17 = .ok (.iload_n 2, 1) := by decide +kernel
theorem dX7_merge_18 : decode cX7_merge 18 = .ok (.if_icmp .ne 6, 3) := by decide +kernel
theorem dX7_merge_21 : decode cX7_merge 21 = .ok (.bipush (-2), 2) := by decide +kernel
theorem dX7_merge_23 : decode cX7_merge 23 = .ok (.ireturn, 1) := by decide +kernel
theorem dX7_merge_24 : decode cX7_merge 24 = .ok (.aload_n 0, 1) := by decide +kernel
theorem dX7_merge_25 : decode cX7_merge 25 = .ok (.iload_n 1, 1) := by decide +kernel
theorem dX7_merge_26 : decode cX7_merge 26 = .ok (.iconst 2, 1) := by decide +kernel
theorem dX7_merge_27 : decode cX7_merge 27 = .ok (.invokevirtual 47, 3) := by decide +kernel
theorem dX7_merge_30 : decode cX7_merge 30 = .ok (.aload_n 0, 1) := by decide +kernel
theorem dX7_merge_31 : decode cX7_merge 31 = .ok (.iload_n 2, 1) := by decide +kernel
theorem dX7_merge_32 : decode cX7_merge 32 = .ok (.iconst 2, 1) := by decide +kernel
theorem dX7_merge_33 : decode cX7_merge 33 = .ok (.invokevirtual 47, 3) := by decide +kernel
theorem dX7_merge_36 : decode cX7_merge 36 = .ok (.iadd, 1) := by decide +kernel
theorem dX7_merge_37 : decode cX7_merge 37 = .ok (.ldc 80, 2) := by decide +kernel
theorem dX7_merge_39 : decode cX7_merge 39 = .ok (.if_icmp .le 6, 3) := by decide +kernel
theorem dX7_merge_42 : decode cX7_merge 42 = .ok (.bipush (-3), 2) := by decide +kernel
theorem dX7_merge_44 : decode cX7_merge 44 = .ok (.ireturn, 1) := by decide +kernel
theorem dX7_merge_45 : decode cX7_merge 45 = .ok (.aload_n 0, 1) := by decide +kernel
theorem dX7_merge_46 : decode cX7_merge 46 = .ok (.invokevirtual 81, 3) := by decide +kernel
theorem dX7_merge_49 : decode cX7_merge 49 = .ok (.aload_n 0, 1) := by decide +kernel
theorem dX7_merge_50 : decode cX7_merge 50 = .ok (.iload_n 1, 1) := by decide +kernel
theorem dX7_merge_51 : decode cX7_merge 51 = .ok (.iload_n 2, 1) := by decide +kernel
theorem dX7_merge_52 : decode cX7_merge 52 = .ok (.invokevirtual 100, 3) := by decide +kernel
theorem dX7_merge_55 : decode cX7_merge 55 = .ok (.istore_n 3, 1) := by decide +kernel
theorem dX7_merge_56 : decode cX7_merge 56 = .ok (.aload_n 0, 1) := by decide +kernel
theorem dX7_merge_57 : decode cX7_merge 57 = .ok (.iload_n 2, 1) := by decide +kernel
theorem dX7_merge_58 : decode cX7_merge 58 = .ok (.invokevirtual 94, 3) := by decide +kernel
theorem dX7_merge_61 : decode cX7_merge 61 = .ok (.aload_n 0, 1) := by decide +kernel
theorem dX7_merge_62 : decode cX7_merge 62 = .ok (.getfield 7, 3) := by decide +kernel
theorem dX7_merge_65 : decode cX7_merge 65 = .ok (.sipush 1074, 3) := by decide +kernel
theorem dX7_merge_68 : decode cX7_merge 68 = .ok (.dup2, 1) := by decide +kernel
theorem dX7_merge_69 : decode cX7_merge 69 = .ok (.iaload, 1) := by decide +kernel
theorem dX7_merge_70 : decode cX7_merge 70 = .ok (.iconst 1, 1) := by decide +kernel
theorem dX7_merge_71 : decode cX7_merge 71 = .ok (.iadd, 1) := by decide +kernel
theorem dX7_merge_72 : decode cX7_merge 72 = .ok (.iastore, 1) := by decide +kernel
theorem dX7_merge_73 : decode cX7_merge 73 = .ok (.aload_n 0, 1) := by decide +kernel
theorem dX7_merge_74 : decode cX7_merge 74 = .ok (.iconst 1, 1) := by decide +kernel
theorem dX7_merge_75 : decode cX7_merge 75 = .ok (.iload_n 1, 1) := by decide +kernel
theorem dX7_merge_76 : decode cX7_merge 76 = .ok (.iload_n 3, 1) := by decide +kernel
theorem dX7_merge_77 : decode cX7_merge 77 = .ok (.invokevirtual 62, 3) := by decide +kernel
theorem dX7_merge_80 : decode cX7_merge 80 = .ok (.iload_n 3, 1) := by decide +kernel
theorem dX7_merge_81 : decode cX7_merge 81 = .ok (.ireturn, 1) := by decide +kernel
theorem dX7_copy_0 : decode cX7_copy 0 = .ok (.iload_n 1, 1) := by decide +kernel
theorem dX7_copy_1 : decode cX7_copy 1 = .ok (.invokestatic 72, 3) := by decide +kernel
theorem dX7_copy_4 : decode cX7_copy 4 = .ok (.ifCond .eq 10, 3) := by decide +kernel
theorem dX7_copy_7 : decode cX7_copy 7 = .ok (.iload_n 2, 1) := by decide +kernel
theorem dX7_copy_8 : decode cX7_copy 8 = .ok (.invokestatic 72, 3) := by decide +kernel
theorem dX7_copy_11 : decode cX7_copy 11 = .ok (.ifCond .ne 5, 3) := by decide +kernel
theorem dX7_copy_14 : decode cX7_copy 14 = .ok (.iconst (-1), 1) := by decide +kernel
theorem dX7_copy_15 : decode cX7_copy 15 = .ok (.ireturn, 1) := by decide +kernel
theorem dX7_copy_16 : decode cX7_copy 16 = .ok (.iload_n 1, 1) := by decide +kernel
theorem dX7_copy_17 : decode cX7_copy 17 = .ok (.iload_n 2, 1) := by decide +kernel
theorem dX7_copy_18 : decode cX7_copy 18 = .ok (.if_icmp .ne 6, 3) := by decide +kernel
theorem dX7_copy_21 : decode cX7_copy 21 = .ok (.bipush (-2), 2) := by decide +kernel
theorem dX7_copy_23 : decode cX7_copy 23 = .ok (.ireturn, 1) := by decide +kernel
theorem dX7_copy_24 : decode cX7_copy 24 = .ok (.aload_n 0, 1) := by decide +kernel
theorem dX7_copy_25 : decode cX7_copy 25 = .ok (.invokevirtual 81, 3) := by decide +kernel
theorem dX7_copy_28 : decode cX7_copy 28 = .ok (.aload_n 0, 1) := by decide +kernel
theorem dX7_copy_29 : decode cX7_copy 29 = .ok (.iload_n 2, 1) := by decide +kernel
theorem dX7_copy_30 : decode cX7_copy 30 = .ok (.iload_n 1, 1) := by decide +kernel
theorem dX7_copy_31 : decode cX7_copy 31 = .ok (.invokevirtual 91, 3) := by decide +kernel
theorem dX7_copy_34 : decode cX7_copy 34 = .ok (.aload_n 0, 1) := by decide +kernel
theorem dX7_copy_35 : decode cX7_copy 35 = .ok (.iload_n 1, 1) := by decide +kernel
theorem dX7_copy_36 : decode cX7_copy 36 = .ok (.invokevirtual 65, 3) := by decide +kernel
theorem dX7_copy_39 : decode cX7_copy 39 = .ok (.ireturn, 1) := by decide +kernel
theorem dX7_setSize_0 : decode cX7_setSize 0 = .ok (.iload_n 1, 1) := by decide +kernel
theorem dX7_setSize_1 : decode cX7_setSize 1 = .ok (.invokestatic 72, 3) := by decide +kernel
theorem dX7_setSize_4 : decode cX7_setSize 4 = .ok (.ifCond .ne 5, 3) := by decide +kernel
theorem dX7_setSize_7 : decode cX7_setSize 7 = .ok (.iconst (-1), 1) := by decide +kernel
theorem dX7_setSize_8 : decode cX7_setSize 8 = .ok (.ireturn, 1) := by decide +kernel
theorem dX7_setSize_9 : decode cX7_setSize 9 = .ok (.iload_n 2, 1) := by decide +kernel
theorem dX7_setSize_10 : decode cX7_setSize 10 = .ok (.iconst 2, 1) := by decide +kernel
theorem dX7_setSize_11 : decode cX7_setSize 11 = .ok (.bipush 10, 2) := by decide +kernel
theorem dX7_setSize_13 : decode cX7_setSize 13 = .ok (.invokestatic 35, 3) := by decide +kernel
theorem dX7_setSize_16 : decode cX7_setSize 16 = .ok (.ifCond .ne 6, 3) := by decide +kernel
theorem dX7_setSize_19 : decode cX7_setSize 19 = .ok (.bipush (-2), 2) := by decide +kernel
theorem dX7_setSize_21 : decode cX7_setSize 21 = .ok (.ireturn, 1) := by decide +kernel
theorem dX7_setSize_22 : decode cX7_setSize 22 = .ok (.aload_n 0, 1) := by decide +kernel
theorem dX7_setSize_23 : decode cX7_setSize 23 = .ok (.iload_n 1, 1) := by decide +kernel
theorem dX7_setSize_24 : decode cX7_setSize 24 = .ok (.iconst 0, 1) := by decide +kernel
theorem dX7_setSize_25 : decode cX7_setSize 25 = .ok (.invokevirtual 47, 3) := by decide +kernel
theorem dX7_setSize_28 : decode cX7_setSize 28 = .ok (.iload_n 2, 1) := by decide +kernel
theorem dX7_setSize_29 : decode cX7_setSize 29 = .ok (.if_icmp .ne 6, 3) := by decide +kernel
theorem dX7_setSize_32 : decode cX7_setSize 32 = .ok (.bipush (-5), 2) := by decide +kernel
theorem dX7_setSize_34 : decode cX7_setSize 34 = .ok (.ireturn, 1) := by decide +kernel
theorem dX7_setSize_35 : decode cX7_setSize 35 = .ok (.aload_n 0, 1) := by decide +kernel
theorem dX7_setSize_36 : decode cX7_setSize 36 = .ok (.invokevirtual 81, 3) := by decide +kernel
theorem dX7_setSize_39 : decode cX7_setSize 39 = .ok (.aload_n 0, 1) := by decide +kernel
theorem dX7_setSize_40 : decode cX7_setSize 40 = .ok (.iload_n 1, 1) := by decide +kernel
theorem dX7_setSize_41 : decode cX7_setSize 41 = .ok (.iconst 0, 1) := by decide +kernel
theorem dX7_setSize_42 : decode cX7_setSize 42 = .ok (.iload_n 2, 1) := by decide +kernel
theorem dX7_setSize_43 : decode cX7_setSize 43 = .ok (.invokevirtual 23, 3) := by decide +kernel
theorem dX7_setSize_46 : decode cX7_setSize 46 = .ok (.iconst 0, 1) := by decide +kernel
theorem dX7_setSize_47 : decode cX7_setSize 47 = .ok (.istore_n 3, 1) := by decide +kernel
theorem dX7_setSize_48 : decode cX7_setSize 48 = .ok (.aload_n 0, 1) := by decide +kernel
theorem dX7_setSize_49 : decode cX7_setSize 49 = .ok (.iload_n 1, 1) := by decide +kernel
theorem dX7_setSize_50 : decode cX7_setSize 50 = .ok (.invokevirtual 65, 3) := by decide +kernel
theorem dX7_setSize_53 : decode cX7_setSize 53 = .ok (.iload_n 2, 1) := by decide +kernel
theorem dX7_setSize_54 : decode cX7_setSize 54 = .ok (.if_icmp .le 14, 3) := by decide +kernel
theorem dX7_setSize_57 : decode cX7_setSize 57 = .ok (.aload_n 0, 1) := by decide +kernel
theorem dX7_setSize_58 : decode cX7_setSize 58 = .ok (.iload_n 1, 1) := by decide +kernel
theorem dX7_setSize_59 : decode cX7_setSize 59 = .ok (.invokevirtual 68, 3) := by decide +kernel
theorem dX7_setSize_62 : decode cX7_setSize 62 = .ok (.iinc 3 1, 3) := by decide +kernel
theorem dX7_setSize_65 : decode cX7_setSize 65 = .ok (.goto (-17), 3) := by decide +kernel
theorem dX7_setSize_68 : decode cX7_setSize 68 = .ok (.iload_n 3, 1) := by decide +kernel
theorem dX7_setSize_69 : decode cX7_setSize 69 = .ok (.ireturn, 1) := by decide +kernel
theorem dX7_clear_0 : decode cX7_clear 0 = .ok (.iload_n 1, 1) := by decide +kernel
theorem dX7_clear_1 : decode cX7_clear 1 = .ok (.invokestatic 72, 3) := by decide +kernel
theorem dX7_clear_4 : decode cX7_clear 4 = .ok (.ifCond .ne 5, 3) := by decide +kernel
theorem dX7_clear_7 : decode cX7_clear 7 = .ok (.iconst (-1), 1) := by decide +kernel
theorem dX7_clear_8 : decode cX7_clear 8 = .ok (.ireturn, 1) := by decide +kernel
theorem dX7_clear_9 : decode cX7_clear 9 = .ok (.aload_n 0, 1) := by decide +kernel
theorem dX7_clear_10 : decode cX7_clear 10 = .ok (.iload_n 1, 1) := by decide +kernel
theorem dX7_clear_11 : decode cX7_clear 11 = .ok (.iconst 2, 1) := by decide +kernel
theorem dX7_clear_12 : decode cX7_clear 12 = .ok (.invokevirtual 47, 3) := by decide +kernel
theorem dX7_clear_15 : decode cX7_clear 15 = .ok (.istore_n 2, 1) := by decide +kernel
theorem dX7_clear_16 : decode cX7_clear 16 = .ok (.iload_n 2, 1) := by decide +kernel
theorem dX7_clear_17 : decode cX7_clear 17 = .ok (.ifCond .ne 6, 3) := by decide +kernel
theorem dX7_clear_20 : decode cX7_clear 20 = .ok (.bipush (-5), 2) := by decide +kernel
theorem dX7_clear_22 : decode cX7_clear 22 = .ok (.ireturn, 1) := by decide +kernel
theorem dX7_clear_23 : decode cX7_clear 23 = .ok (.aload_n 0, 1) := by decide +kernel
theorem dX7_clear_24 : decode cX7_clear 24 = .ok (.invokevirtual 81, 3) := by decide +kernel
theorem dX7_clear_27 : decode cX7_clear 27 = .ok (.aload_n 0, 1) := by decide +kernel
theorem dX7_clear_28 : decode cX7_clear 28 = .ok (.iload_n 1, 1) := by decide +kernel
theorem dX7_clear_29 : decode cX7_clear 29 = .ok (.invokevirtual 94, 3) := by decide +kernel
theorem dX7_clear_32 : decode cX7_clear 32 = .ok (.iload_n 2, 1) := by decide +kernel
theorem dX7_clear_33 : decode cX7_clear 33 = .ok (.ireturn, 1) := by decide +kernel
theorem dX7_type_0 : decode cX7_type 0 = .ok (.aload_n 0, 1) := by decide +kernel
theorem dX7_type_1 : decode cX7_type 1 = .ok (.getfield 103, 3) := by decide +kernel
theorem dX7_type_4 : decode cX7_type 4 = .ok (.bipush 60, 2) := by decide +kernel
theorem dX7_type_6 : decode cX7_type 6 = .ok (.if_icmp .ne 6, 3) := by decide +kernel
theorem dX7_type_9 : decode cX7_type 9 = .ok (.bipush (-3), 2) := by decide +kernel
theorem dX7_type_11 : decode cX7_type 11 = .ok (.ireturn, 1) := by decide +kernel
theorem dX7_type_12 : decode cX7_type 12 = .ok (.aload_n 0, 1) := by decide +kernel
theorem dX7_type_13 : decode cX7_type 13 = .ok (.getfield 19, 3) := by decide +kernel
theorem dX7_type_16 : decode cX7_type 16 = .ok (.aload_n 0, 1) := by decide +kernel
theorem dX7_type_17 : decode cX7_type 17 = .ok (.getfield 103, 3) := by decide +kernel
theorem dX7_type_20 : decode cX7_type 20 = .ok (.iload_n 1, 1) := by decide +kernel
theorem dX7_type_21 : decode cX7_type 21 = .ok (.castore, 1) := by decide +kernel
theorem dX7_type_22 : decode cX7_type 22 = .ok (.aload_n 0, 1) := by decide +kernel
theorem dX7_type_23 : decode cX7_type 23 = .ok (.dup, 1) := by decide +kernel
theorem dX7_type_24 : decode cX7_type 24 = .ok (.getfield 103, 3) := by decide +kernel
theorem dX7_type_27 : decode cX7_type 27 = .ok (.iconst 1, 1) := by decide +kernel
theorem dX7_type_28 : decode cX7_type 28 = .ok (.iadd, 1) := by decide +kernel
theorem dX7_type_29 : decode cX7_type 29 = .ok (.putfield 103, 3) := by decide +kernel
theorem dX7_type_32 : decode cX7_type 32 = .ok (.aload_n 0, 1) := by decide +kernel
theorem dX7_type_33 : decode cX7_type 33 = .ok (.getfield 103, 3) := by decide +kernel
theorem dX7_type_36 : decode cX7_type 36 = .ok (.ireturn, 1) := by decide +kernel
theorem dX7_clearText_0 : decode cX7_clearText 0 = .ok (.aload_n 0, 1) := by decide +kernel
theorem dX7_clearText_1 : decode cX7_clearText 1 = .ok (.getfield 103, 3) := by decide +kernel
theorem dX7_clearText_4 : decode cX7_clearText 4 = .ok (.istore_n 1, 1) := by decide +kernel
theorem dX7_clearText_5 : decode cX7_clearText 5 = .ok (.aload_n 0, 1) := by decide +kernel
theorem dX7_clearText_6 : decode cX7_clearText 6 = .ok (.iconst 0, 1) := by decide +kernel
theorem dX7_clearText_7 : decode cX7_clearText 7 = .ok (.putfield 103, 3) := by decide +kernel
theorem dX7_clearText_10 : decode cX7_clearText 10 = .ok (.iload_n 1, 1) := by decide +kernel
theorem dX7_clearText_11 : decode cX7_clearText 11 = .ok (.ireturn, 1) := by decide +kernel
theorem dX7_isBetween_0 : decode cX7_isBetween 0 = .ok (.aload_n 0, 1) := by decide +kernel
theorem dX7_isBetween_1 : decode cX7_isBetween 1 = .ok (.getfield 106, 3) := by decide +kernel
theorem dX7_isBetween_4 : decode cX7_isBetween 4 = .ok (.aload_n 0, 1) := by decide +kernel
theorem dX7_isBetween_5 : decode cX7_isBetween 5 = .ok (.getfield 103, 3) := by decide +kernel
theorem dX7_isBetween_8 : decode cX7_isBetween 8 = .ok (.if_icmp .ge 24, 3) := by decide +kernel
theorem dX7_isBetween_11 : decode cX7_isBetween 11 = .ok (.aload_n 0, 1) := by decide +kernel
theorem dX7_isBetween_12 : decode cX7_isBetween 12 = .ok (.getfield 19, 3) := by decide +kernel
theorem dX7_isBetween_15 : decode cX7_isBetween 15 = .ok (.aload_n 0, 1) := by decide +kernel
theorem dX7_isBetween_16 : decode cX7_isBetween 16 = .ok (.getfield 106, 3) := by decide +kernel
theorem dX7_isBetween_19 : decode cX7_isBetween 19 = .ok (.caload, 1) := by decide +kernel
theorem dX7_isBetween_20 : decode cX7_isBetween 20 = .ok (.iload_n 1, 1) := by decide +kernel
theorem dX7_isBetween_21 : decode cX7_isBetween 21 = .ok (.iload_n 2, 1) := by decide +kernel
theorem dX7_isBetween_22 : decode cX7_isBetween 22 = .ok (.invokestatic 35, 3) := by decide +kernel
theorem dX7_isBetween_25 : decode cX7_isBetween 25 = .ok (.ifCond .eq 7, 3) := by decide +kernel
theorem dX7_isBetween_28 : decode cX7_isBetween 28 = .ok (.iconst 1, 1) := by decide +kernel
theorem dX7_isBetween_29 : decode cX7_isBetween 29 = .ok (.goto 4, 3) := by decide +kernel
theorem dX7_isBetween_32 : decode cX7_isBetween 32 = .ok (.iconst 0, 1) := by decide +kernel
theorem dX7_isBetween_33 : decode cX7_isBetween 33 = .ok (.ireturn, 1) := by decide +kernel
theorem dX7_takes_0 : decode cX7_takes 0 = .ok (.aload_n 0, 1) := by decide +kernel
theorem dX7_takes_1 : decode cX7_takes 1 = .ok (.iload_n 1, 1) := by decide +kernel
theorem dX7_takes_2 : decode cX7_takes 2 = .ok (.iload_n 1, 1) := by decide +kernel
theorem dX7_takes_3 : decode cX7_takes 3 = .ok (.invokevirtual 109, 3) := by decide +kernel
theorem dX7_takes_6 : decode cX7_takes 6 = .ok (.istore_n 2, 1) := by decide +kernel
theorem dX7_takes_7 : decode cX7_takes 7 = .ok (.aload_n 0, 1) := by decide +kernel
theorem dX7_takes_8 : decode cX7_takes 8 = .ok (.dup, 1) := by decide +kernel
theorem dX7_takes_9 : decode cX7_takes 9 = .ok (.getfield 106, 3) := by decide +kernel
theorem dX7_takes_12 : decode cX7_takes 12 = .ok (.iload_n 2, 1) := by decide +kernel
theorem dX7_takes_13 : decode cX7_takes 13 = .ok (.ifCond .eq 7, 3) := by decide +kernel
theorem dX7_takes_16 : decode cX7_takes 16 = .ok (.iconst 1, 1) := by decide +kernel
theorem dX7_takes_17 : decode cX7_takes 17 = .ok (.goto 4, 3) := by decide +kernel
theorem dX7_takes_20 : decode cX7_takes 20 = .ok (.iconst 0, 1) := by decide +kernel
theorem dX7_takes_21 : decode cX7_takes 21 = .ok (.iadd, 1) := by decide +kernel
theorem dX7_takes_22 : decode cX7_takes 22 = .ok (.putfield 106, 3) := by decide +kernel
theorem dX7_takes_25 : decode cX7_takes 25 = .ok (.iload_n 2, 1) := by decide +kernel
theorem dX7_takes_26 : decode cX7_takes 26 = .ok (.ireturn, 1) := by decide +kernel
theorem dX7_takesArrival_0 : decode cX7_takesArrival 0 = .ok (.aload_n 0, 1) := by decide +kernel
theorem dX7_takesArrival_1 : decode cX7_takesArrival 1 = .ok (.bipush 97, 2) := by decide +kernel
theorem dX7_takesArrival_3 : decode cX7_takesArrival 3 = .ok (.bipush 122, 2) := by decide +kernel
theorem dX7_takesArrival_5 : decode cX7_takesArrival 5 = .ok (.invokevirtual 109, 3) := by decide +kernel
theorem dX7_takesArrival_8 : decode cX7_takesArrival 8 = .ok (.ifCond .ne 5, 3) := by decide +kernel
theorem dX7_takesArrival_11 : decode cX7_takesArrival 11 = .ok (.iconst 0, 1) := by decide +kernel
theorem dX7_takesArrival_12 : decode cX7_takesArrival 12 = .ok (.ireturn, 1) := by decide +kernel
theorem dX7_takesArrival_13 : decode cX7_takesArrival 13 = .ok (.aload_n 0, 1) := by decide +kernel
theorem dX7_takesArrival_14 : decode cX7_takesArrival 14 = .ok (.aload_n 0, 1) := by decide +kernel
theorem dX7_takesArrival_15 : decode cX7_takesArrival 15 = .ok (.getfield 19, 3) := by decide +kernel
theorem dX7_takesArrival_18 : decode cX7_takesArrival 18 = .ok (.aload_n 0, 1) := by decide +kernel
theorem dX7_takesArrival_19 : decode cX7_takesArrival 19 = .ok (.getfield 106, 3) := by decide +kernel
theorem dX7_takesArrival_22 : decode cX7_takesArrival 22 = .ok (.caload, 1) := by decide +kernel
theorem dX7_takesArrival_23 : decode cX7_takesArrival 23 = .ok (.bipush 97, 2) := by decide +kernel
theorem dX7_takesArrival_25 : decode cX7_takesArrival 25 = .ok (.isub, 1) := by decide +kernel
theorem dX7_takesArrival_26 : decode cX7_takesArrival 26 = .ok (.putfield 112, 3) := by decide +kernel
theorem dX7_takesArrival_29 : decode cX7_takesArrival 29 = .ok (.aload_n 0, 1) := by decide +kernel
theorem dX7_takesArrival_30 : decode cX7_takesArrival 30 = .ok (.dup, 1) := by decide +kernel
theorem dX7_takesArrival_31 : decode cX7_takesArrival 31 = .ok (.getfield 106, 3) := by decide +kernel
theorem dX7_takesArrival_34 : decode cX7_takesArrival 34 = .ok (.iconst 1, 1) := by decide +kernel
theorem dX7_takesArrival_35 : decode cX7_takesArrival 35 = .ok (.iadd, 1) := by decide +kernel
theorem dX7_takesArrival_36 : decode cX7_takesArrival 36 = .ok (.putfield 106, 3) := by decide +kernel
theorem dX7_takesArrival_39 : decode cX7_takesArrival 39 = .ok (.aload_n 0, 1) := by decide +kernel
theorem dX7_takesArrival_40 : decode cX7_takesArrival 40 = .ok (.iconst 1, 1) := by decide +kernel
theorem dX7_takesArrival_41 : decode cX7_takesArrival 41 = .ok (.putfield 115, 3) := by decide +kernel
theorem dX7_takesArrival_44 : decode cX7_takesArrival 44 = .ok (.aload_n 0, 1) := by decide +kernel
theorem dX7_takesArrival_45 : decode cX7_takesArrival 45 = .ok (.bipush 49, 2) := by decide +kernel
theorem dX7_takesArrival_47 : decode cX7_takesArrival 47 = .ok (.bipush 57, 2) := by decide +kernel
theorem dX7_takesArrival_49 : decode cX7_takesArrival 49 = .ok (.invokevirtual 109, 3) := by decide +kernel
theorem dX7_takesArrival_52 : decode cX7_takesArrival 52 = .ok (.ifCond .eq 74, 3) := by decide +kernel
theorem dX7_takesArrival_55 : decode cX7_takesArrival 55 = .ok (.aload_n 0, 1) := by decide +kernel
theorem dX7_takesArrival_56 : decode cX7_takesArrival 56 = .ok (.aload_n 0, 1) := by decide +kernel
theorem dX7_takesArrival_57 : decode cX7_takesArrival 57 = .ok (.getfield 19, 3) := by decide +kernel
theorem dX7_takesArrival_60 : decode cX7_takesArrival 60 = .ok (.aload_n 0, 1) := by decide +kernel
theorem dX7_takesArrival_61 : decode cX7_takesArrival 61 = .ok (.getfield 106, 3) := by decide +kernel
theorem dX7_takesArrival_64 : decode cX7_takesArrival 64 = .ok (.caload, 1) := by decide +kernel
theorem dX7_takesArrival_65 : decode cX7_takesArrival 65 = .ok (.bipush 48, 2) := by decide +kernel
theorem dX7_takesArrival_67 : decode cX7_takesArrival 67 = .ok (.isub, 1) := by decide +kernel
theorem dX7_takesArrival_68 : decode cX7_takesArrival 68 = .ok (.putfield 115, 3) := by decide +kernel
theorem dX7_takesArrival_71 : decode cX7_takesArrival 71 = .ok (.aload_n 0, 1) := by decide +kernel
theorem dX7_takesArrival_72 : decode cX7_takesArrival 72 = .ok (.dup, 1) := by decide +kernel
theorem dX7_takesArrival_73 : decode cX7_takesArrival 73 = .ok (.getfield 106, 3) := by decide +kernel
theorem dX7_takesArrival_76 : decode cX7_takesArrival 76 = .ok (.iconst 1, 1) := by decide +kernel
theorem dX7_takesArrival_77 : decode cX7_takesArrival 77 = .ok (.iadd, 1) := by decide +kernel
theorem dX7_takesArrival_78 : decode cX7_takesArrival 78 = .ok (.putfield 106, 3) := by decide +kernel
theorem dX7_takesArrival_81 : decode cX7_takesArrival 81 = .ok (.aload_n 0, 1) := by decide +kernel
theorem dX7_takesArrival_82 : decode cX7_takesArrival 82 = .ok (.bipush 48, 2) := by decide +kernel
theorem dX7_takesArrival_84 : decode cX7_takesArrival 84 = .ok (.bipush 57, 2) := by decide +kernel
theorem dX7_takesArrival_86 : decode cX7_takesArrival 86 = .ok (.invokevirtual 109, 3) := by decide +kernel
theorem dX7_takesArrival_89 : decode cX7_takesArrival 89 = .ok (.ifCond .eq 37, 3) := by decide +kernel
theorem dX7_takesArrival_92 : decode cX7_takesArrival 92 = .ok (.aload_n 0, 1) := by decide +kernel
theorem dX7_takesArrival_93 : decode cX7_takesArrival 93 = .ok (.bipush 10, 2) := by decide +kernel
theorem dX7_takesArrival_95 : decode cX7_takesArrival 95 = .ok (.aload_n 0, 1) := by decide +kernel
theorem dX7_takesArrival_96 : decode cX7_takesArrival 96 = .ok (.getfield 115, 3) := by decide +kernel
theorem dX7_takesArrival_99 : decode cX7_takesArrival 99 = .ok (.imul, 1) := by decide +kernel
theorem dX7_takesArrival_100 : decode cX7_takesArrival 100 = .ok (.aload_n 0, 1) := by decide +kernel
theorem dX7_takesArrival_101 : decode cX7_takesArrival 101 = .ok (.getfield 19, 3) := by decide +kernel
theorem dX7_takesArrival_104 : decode cX7_takesArrival 104 = .ok (.aload_n 0, 1) := by decide +kernel
theorem dX7_takesArrival_105 : decode cX7_takesArrival 105 = .ok (.getfield 106, 3) := by decide +kernel
theorem dX7_takesArrival_108 : decode cX7_takesArrival 108 = .ok (.caload, 1) := by decide +kernel
theorem dX7_takesArrival_109 : decode cX7_takesArrival 109 = .ok (.iadd, 1) := by decide +kernel
theorem dX7_takesArrival_110 : decode cX7_takesArrival 110 = .ok (.bipush 48, 2) := by decide +kernel
theorem dX7_takesArrival_112 : decode cX7_takesArrival 112 = .ok (.isub, 1) := by decide +kernel
theorem dX7_takesArrival_113 : decode cX7_takesArrival 113 = .ok (.putfield 115, 3) := by decide +kernel
theorem dX7_takesArrival_116 : decode cX7_takesArrival 116 = .ok (.aload_n 0, 1) := by decide +kernel
theorem dX7_takesArrival_117 : decode cX7_takesArrival 117 = .ok (.dup, 1) := by decide +kernel
theorem dX7_takesArrival_118 : decode cX7_takesArrival 118 = .ok (.getfield 106, 3) := by decide +kernel
theorem dX7_takesArrival_121 : decode cX7_takesArrival 121 = .ok (.iconst 1, 1) := by decide +kernel
theorem dX7_takesArrival_122 : decode cX7_takesArrival 122 = .ok (.iadd, 1) := by decide +kernel
theorem dX7_takesArrival_123 : decode cX7_takesArrival 123 = .ok (.putfield 106, 3) := by decide +kernel
theorem dX7_takesArrival_126 : decode cX7_takesArrival 126 = .ok (.iconst 1, 1) := by decide +kernel
theorem dX7_takesArrival_127 : decode cX7_takesArrival 127 = .ok (.ireturn, 1) := by decide +kernel
theorem dX7_arrivals_0 : decode cX7_arrivals 0 = .ok (.aload_n 0, 1) := by decide +kernel
theorem dX7_arrivals_1 : decode cX7_arrivals 1 = .ok (.iconst 0, 1) := by decide +kernel
theorem dX7_arrivals_2 : decode cX7_arrivals 2 = .ok (.putfield 106, 3) := by decide +kernel
theorem dX7_arrivals_5 : decode cX7_arrivals 5 = .ok (.aload_n 0, 1) := by decide +kernel
theorem dX7_arrivals_6 : decode cX7_arrivals 6 = .ok (.iconst 0, 1) := by decide +kernel
theorem dX7_arrivals_7 : decode cX7_arrivals 7 = .ok (.putfield 118, 3) := by decide +kernel
theorem dX7_arrivals_10 : decode cX7_arrivals 10 = .ok (.iconst 0, 1) := by decide +kernel
theorem dX7_arrivals_11 : decode cX7_arrivals 11 = .ok (.istore_n 1, 1) := by decide +kernel
theorem dX7_arrivals_12 : decode cX7_arrivals 12 = .ok (.iconst 1, 1) := by decide +kernel
theorem dX7_arrivals_13 : decode cX7_arrivals 13 = .ok (.istore_n 2, 1) := by decide +kernel
theorem dX7_arrivals_14 : decode cX7_arrivals 14 = .ok (.iload_n 2, 1) := by decide +kernel
theorem dX7_arrivals_15 : decode cX7_arrivals 15 = .ok (.ifCond .eq 62, 3) := by decide +kernel
theorem dX7_arrivals_18 : decode cX7_arrivals 18 = .ok (.aload_n 0, 1) := by decide +kernel
theorem dX7_arrivals_19 : decode cX7_arrivals 19 = .ok (.invokevirtual 121, 3) := by decide +kernel
theorem dX7_arrivals_22 : decode cX7_arrivals 22 = .ok (.ifCond .ne 6, 3) := by decide +kernel
theorem dX7_arrivals_25 : decode cX7_arrivals 25 = .ok (.bipush (-5), 2) := by decide +kernel
theorem dX7_arrivals_27 : decode cX7_arrivals 27 = .ok (.ireturn, 1) := by decide +kernel
theorem dX7_arrivals_28 : decode cX7_arrivals 28 = .ok (.aload_n 0, 1) := by decide +kernel
theorem dX7_arrivals_29 : decode cX7_arrivals 29 = .ok (.dup, 1) := by decide +kernel
theorem dX7_arrivals_30 : decode cX7_arrivals 30 = .ok (.getfield 118, 3) := by decide +kernel
theorem dX7_arrivals_33 : decode cX7_arrivals 33 = .ok (.aload_n 0, 1) := by decide +kernel
theorem dX7_arrivals_34 : decode cX7_arrivals 34 = .ok (.getfield 115, 3) := by decide +kernel
theorem dX7_arrivals_37 : decode cX7_arrivals 37 = .ok (.iadd, 1) := by decide +kernel
theorem dX7_arrivals_38 : decode cX7_arrivals 38 = .ok (.putfield 118, 3) := by decide +kernel
theorem dX7_arrivals_41 : decode cX7_arrivals 41 = .ok (.iinc 1 1, 3) := by decide +kernel
theorem dX7_arrivals_44 : decode cX7_arrivals 44 = .ok (.aload_n 0, 1) := by decide +kernel
theorem dX7_arrivals_45 : decode cX7_arrivals 45 = .ok (.getfield 106, 3) := by decide +kernel
theorem dX7_arrivals_48 : decode cX7_arrivals 48 = .ok (.aload_n 0, 1) := by decide +kernel
theorem dX7_arrivals_49 : decode cX7_arrivals 49 = .ok (.getfield 103, 3) := by decide +kernel
theorem dX7_arrivals_52 : decode cX7_arrivals 52 = .ok (.if_icmp .ge 7, 3) := by decide +kernel
theorem dX7_arrivals_55 : decode cX7_arrivals 55 = .ok (.iconst 1, 1) := by decide +kernel
theorem dX7_arrivals_56 : decode cX7_arrivals 56 = .ok (.goto 4, 3) := by decide +kernel
theorem dX7_arrivals_59 : decode cX7_arrivals 59 = .ok (.iconst 0, 1) := by decide +kernel
theorem dX7_arrivals_60 : decode cX7_arrivals 60 = .ok (.istore_n 2, 1) := by decide +kernel
theorem dX7_arrivals_61 : decode cX7_arrivals 61 = .ok (.iload_n 2, 1) := by decide +kernel
theorem dX7_arrivals_62 : decode cX7_arrivals 62 = .ok (.ifCond .eq (-48), 3) := by decide +kernel
theorem dX7_arrivals_65 : decode cX7_arrivals 65 = .ok (.aload_n 0, 1) := by decide +kernel
theorem dX7_arrivals_66 : decode cX7_arrivals 66 = .ok (.bipush 44, 2) := by decide +kernel
theorem dX7_arrivals_68 : decode cX7_arrivals 68 = .ok (.invokevirtual 125, 3) := by decide +kernel
theorem dX7_arrivals_71 : decode cX7_arrivals 71 = .ok (.ifCond .ne (-57), 3) := by decide +kernel
theorem dX7_arrivals_74 : decode cX7_arrivals 74 = .ok (.bipush (-5), 2) := by decide +kernel
theorem dX7_arrivals_76 : decode cX7_arrivals 76 = .ok (.ireturn, 1) := by decide +kernel
theorem dX7_arrivals_77 : decode cX7_arrivals 77 = .ok (.iload_n 1, 1) := by decide +kernel
theorem dX7_arrivals_78 : decode cX7_arrivals 78 = .ok (.ireturn, 1) := by decide +kernel
theorem dX7_feed_0 : decode cX7_feed 0 = .ok (.iload_n 1, 1) := by decide +kernel
theorem dX7_feed_1 : decode cX7_feed 1 = .ok (.invokestatic 72, 3) := by decide +kernel
theorem dX7_feed_4 : decode cX7_feed 4 = .ok (.ifCond .ne 5, 3) := by decide +kernel
theorem dX7_feed_7 : decode cX7_feed 7 = .ok (.iconst (-1), 1) := by decide +kernel
theorem dX7_feed_8 : decode cX7_feed 8 = .ok (.ireturn, 1) := by decide +kernel
theorem dX7_feed_9 : decode cX7_feed 9 = .ok (.aload_n 0, 1) := by decide +kernel
theorem dX7_feed_10 : decode cX7_feed 10 = .ok (.invokevirtual 128, 3) := by decide +kernel
theorem dX7_feed_13 : decode cX7_feed 13 = .ok (.istore_n 2, 1) := by decide +kernel
theorem dX7_feed_14 : decode cX7_feed 14 = .ok (.iload_n 2, 1) := by decide +kernel
theorem dX7_feed_15 : decode cX7_feed 15 = .ok (.bipush (-5), 2) := by decide +kernel
theorem dX7_feed_17 : decode cX7_feed 17 = .ok (.if_icmp .ne 11, 3) := by decide +kernel
theorem dX7_feed_20 : decode cX7_feed 20 = .ok (.bipush (-100), 2) := by decide +kernel
theorem dX7_feed_22 : decode cX7_feed 22 = .ok (.aload_n 0, 1) := by decide +kernel
theorem dX7_feed_23 : decode cX7_feed 23 = .ok (.getfield 106, 3) := by decide +kernel
theorem dX7_feed_26 : decode cX7_feed 26 = .ok (.isub, 1) := by decide +kernel
theorem dX7_feed_27 : decode cX7_feed 27 = .ok (.ireturn, 1) := by decide +kernel
theorem dX7_feed_28 : decode cX7_feed 28 = .ok (.aload_n 0, 1) := by decide +kernel
theorem dX7_feed_29 : decode cX7_feed 29 = .ok (.iload_n 1, 1) := by decide +kernel
theorem dX7_feed_30 : decode cX7_feed 30 = .ok (.iconst 2, 1) := by decide +kernel
theorem dX7_feed_31 : decode cX7_feed 31 = .ok (.invokevirtual 47, 3) := by decide +kernel
theorem dX7_feed_34 : decode cX7_feed 34 = .ok (.aload_n 0, 1) := by decide +kernel
theorem dX7_feed_35 : decode cX7_feed 35 = .ok (.getfield 118, 3) := by decide +kernel
theorem dX7_feed_38 : decode cX7_feed 38 = .ok (.iadd, 1) := by decide +kernel
theorem dX7_feed_39 : decode cX7_feed 39 = .ok (.ldc 80, 2) := by decide +kernel
theorem dX7_feed_41 : decode cX7_feed 41 = .ok (.if_icmp .le 6, 3) := by decide +kernel
theorem dX7_feed_44 : decode cX7_feed 44 = .ok (.bipush (-3), 2) := by decide +kernel
theorem dX7_feed_46 : decode cX7_feed 46 = .ok (.ireturn, 1) := by decide +kernel
theorem dX7_feed_47 : decode cX7_feed 47 = .ok (.aload_n 0, 1) := by decide +kernel
theorem dX7_feed_48 : decode cX7_feed 48 = .ok (.invokevirtual 81, 3) := by decide +kernel
theorem dX7_feed_51 : decode cX7_feed 51 = .ok (.aload_n 0, 1) := by decide +kernel
theorem dX7_feed_52 : decode cX7_feed 52 = .ok (.iconst 0, 1) := by decide +kernel
theorem dX7_feed_53 : decode cX7_feed 53 = .ok (.putfield 106, 3) := by decide +kernel
theorem dX7_feed_56 : decode cX7_feed 56 = .ok (.iconst 0, 1) := by decide +kernel
theorem dX7_feed_57 : decode cX7_feed 57 = .ok (.istore_n 3, 1) := by decide +kernel
theorem dX7_feed_58 : decode cX7_feed 58 = .ok (.iload_n 3, 1) := by decide +kernel
theorem dX7_feed_59 : decode cX7_feed 59 = .ok (.iload_n 2, 1) := by decide +kernel
theorem dX7_feed_60 : decode cX7_feed 60 = .ok (.if_icmp .ge 37, 3) := by decide +kernel
theorem dX7_feed_63 : decode cX7_feed 63 = .ok (.aload_n 0, 1) := by decide +kernel
theorem dX7_feed_64 : decode cX7_feed 64 = .ok (.invokevirtual 121, 3) := by decide +kernel
theorem dX7_feed_67 : decode cX7_feed 67 = .ok (.pop, 1) := by decide +kernel
theorem dX7_feed_68 : decode cX7_feed 68 = .ok (.aload_n 0, 1) := by decide +kernel
theorem dX7_feed_69 : decode cX7_feed 69 = .ok (.dup, 1) := by decide +kernel
theorem dX7_feed_70 : decode cX7_feed 70 = .ok (.getfield 106, 3) := by decide +kernel
theorem dX7_feed_73 : decode cX7_feed 73 = .ok (.iconst 1, 1) := by decide +kernel
theorem dX7_feed_74 : decode cX7_feed 74 = .ok (.iadd, 1) := by decide +kernel
theorem dX7_feed_75 : decode cX7_feed 75 = .ok (.putfield 106, 3) := by decide +kernel
theorem dX7_feed_78 : decode cX7_feed 78 = .ok (.aload_n 0, 1) := by decide +kernel
theorem dX7_feed_79 : decode cX7_feed 79 = .ok (.iload_n 1, 1) := by decide +kernel
theorem dX7_feed_80 : decode cX7_feed 80 = .ok (.aload_n 0, 1) := by decide +kernel
theorem dX7_feed_81 : decode cX7_feed 81 = .ok (.getfield 112, 3) := by decide +kernel
theorem dX7_feed_84 : decode cX7_feed 84 = .ok (.aload_n 0, 1) := by decide +kernel
theorem dX7_feed_85 : decode cX7_feed 85 = .ok (.getfield 115, 3) := by decide +kernel
theorem dX7_feed_88 : decode cX7_feed 88 = .ok (.invokevirtual 84, 3) := by decide +kernel
theorem dX7_feed_91 : decode cX7_feed 91 = .ok (.iinc 3 1, 3) := by decide +kernel
theorem dX7_feed_94 : decode cX7_feed 94 = .ok (.goto (-36), 3) := by decide +kernel
theorem dX7_feed_97 : decode cX7_feed 97 = .ok (.iload_n 2, 1) := by decide +kernel
theorem dX7_feed_98 : decode cX7_feed 98 = .ok (.ireturn, 1) := by decide +kernel
theorem dX7_flowAll_0 : decode cX7_flowAll 0 = .ok (.aload_n 0, 1) := by decide +kernel
theorem dX7_flowAll_1 : decode cX7_flowAll 1 = .ok (.invokevirtual 128, 3) := by decide +kernel
theorem dX7_flowAll_4 : decode cX7_flowAll 4 = .ok (.istore_n 1, 1) := by decide +kernel
theorem dX7_flowAll_5 : decode cX7_flowAll 5 = .ok (.iload_n 1, 1) := by decide +kernel
theorem dX7_flowAll_6 : decode cX7_flowAll 6 = .ok (.bipush (-5), 2) := by decide +kernel
theorem dX7_flowAll_8 : decode cX7_flowAll 8 = .ok (.if_icmp .ne 11, 3) := by decide +kernel
theorem dX7_flowAll_11 : decode cX7_flowAll 11 = .ok (.bipush (-100), 2) := by decide +kernel
theorem dX7_flowAll_13 : decode cX7_flowAll 13 = .ok (.aload_n 0, 1) := by decide +kernel
theorem dX7_flowAll_14 : decode cX7_flowAll 14 = .ok (.getfield 106, 3) := by decide +kernel
theorem dX7_flowAll_17 : decode cX7_flowAll 17 = .ok (.isub, 1) := by decide +kernel
theorem dX7_flowAll_18 : decode cX7_flowAll 18 = .ok (.ireturn, 1) := by decide +kernel
theorem dX7_flowAll_19 : decode cX7_flowAll 19 = .ok (.aload_n 0, 1) := by decide +kernel
theorem dX7_flowAll_20 : decode cX7_flowAll 20 = .ok (.invokevirtual 81, 3) := by decide +kernel
theorem dX7_flowAll_23 : decode cX7_flowAll 23 = .ok (.aload_n 0, 1) := by decide +kernel
theorem dX7_flowAll_24 : decode cX7_flowAll 24 = .ok (.iconst 0, 1) := by decide +kernel
theorem dX7_flowAll_25 : decode cX7_flowAll 25 = .ok (.putfield 106, 3) := by decide +kernel
theorem dX7_flowAll_28 : decode cX7_flowAll 28 = .ok (.iconst 0, 1) := by decide +kernel
theorem dX7_flowAll_29 : decode cX7_flowAll 29 = .ok (.istore_n 2, 1) := by decide +kernel
theorem dX7_flowAll_30 : decode cX7_flowAll 30 = .ok (.iload_n 2, 1) := by decide +kernel
theorem dX7_flowAll_31 : decode cX7_flowAll 31 = .ok (.iload_n 1, 1) := by decide +kernel
theorem dX7_flowAll_32 : decode cX7_flowAll 32 = .ok (.if_icmp .ge 36, 3) := by decide +kernel
theorem dX7_flowAll_35 : decode cX7_flowAll 35 = .ok (.aload_n 0, 1) := by decide +kernel
theorem dX7_flowAll_36 : decode cX7_flowAll 36 = .ok (.invokevirtual 121, 3) := by decide +kernel
theorem dX7_flowAll_39 : decode cX7_flowAll 39 = .ok (.pop, 1) := by decide +kernel
theorem dX7_flowAll_40 : decode cX7_flowAll 40 = .ok (.aload_n 0, 1) := by decide +kernel
theorem dX7_flowAll_41 : decode cX7_flowAll 41 = .ok (.dup, 1) := by decide +kernel
theorem dX7_flowAll_42 : decode cX7_flowAll 42 = .ok (.getfield 106, 3) := by decide +kernel
theorem dX7_flowAll_45 : decode cX7_flowAll 45 = .ok (.iconst 1, 1) := by decide +kernel
theorem dX7_flowAll_46 : decode cX7_flowAll 46 = .ok (.iadd, 1) := by decide +kernel
theorem dX7_flowAll_47 : decode cX7_flowAll 47 = .ok (.putfield 106, 3) := by decide +kernel
theorem dX7_flowAll_50 : decode cX7_flowAll 50 = .ok (.aload_n 0, 1) := by decide +kernel
theorem dX7_flowAll_51 : decode cX7_flowAll 51 = .ok (.aload_n 0, 1) := by decide +kernel
theorem dX7_flowAll_52 : decode cX7_flowAll 52 = .ok (.getfield 112, 3) := by decide +kernel
theorem dX7_flowAll_55 : decode cX7_flowAll 55 = .ok (.aload_n 0, 1) := by decide +kernel
theorem dX7_flowAll_56 : decode cX7_flowAll 56 = .ok (.getfield 115, 3) := by decide +kernel
theorem dX7_flowAll_59 : decode cX7_flowAll 59 = .ok (.invokevirtual 97, 3) := by decide +kernel
theorem dX7_flowAll_62 : decode cX7_flowAll 62 = .ok (.iinc 2 1, 3) := by decide +kernel
theorem dX7_flowAll_65 : decode cX7_flowAll 65 = .ok (.goto (-35), 3) := by decide +kernel
theorem dX7_flowAll_68 : decode cX7_flowAll 68 = .ok (.iload_n 1, 1) := by decide +kernel
theorem dX7_flowAll_69 : decode cX7_flowAll 69 = .ok (.ireturn, 1) := by decide +kernel
theorem dX7_isWord_0 : decode cX7_isWord 0 = .ok (.aload_n 0, 1) := by decide +kernel
theorem dX7_isWord_1 : decode cX7_isWord 1 = .ok (.getfield 106, 3) := by decide +kernel
theorem dX7_isWord_4 : decode cX7_isWord 4 = .ok (.iload 5, 2) := by decide +kernel
theorem dX7_isWord_6 : decode cX7_isWord 6 = .ok (.if_icmp .ne 48, 3) := by decide +kernel
theorem dX7_isWord_9 : decode cX7_isWord 9 = .ok (.aload_n 0, 1) := by decide +kernel
theorem dX7_isWord_10 : decode cX7_isWord 10 = .ok (.getfield 19, 3) := by decide +kernel
theorem dX7_isWord_13 : decode cX7_isWord 13 = .ok (.iconst 0, 1) := by decide +kernel
theorem dX7_isWord_14 : decode cX7_isWord 14 = .ok (.caload, 1) := by decide +kernel
theorem dX7_isWord_15 : decode cX7_isWord 15 = .ok (.iload_n 1, 1) := by decide +kernel
theorem dX7_isWord_16 : decode cX7_isWord 16 = .ok (.if_icmp .ne 38, 3) := by decide +kernel
theorem dX7_isWord_19 : decode cX7_isWord 19 = .ok (.aload_n 0, 1) := by decide +kernel
theorem dX7_isWord_20 : decode cX7_isWord 20 = .ok (.getfield 19, 3) := by decide +kernel
theorem dX7_isWord_23 : decode cX7_isWord 23 = .ok (.iconst 1, 1) := by decide +kernel
theorem dX7_isWord_24 : decode cX7_isWord 24 = .ok (.caload, 1) := by decide +kernel
theorem dX7_isWord_25 : decode cX7_isWord 25 = .ok (.iload_n 2, 1) := by decide +kernel
theorem dX7_isWord_26 : decode cX7_isWord 26 = .ok (.if_icmp .ne 28, 3) := by decide +kernel
theorem dX7_isWord_29 : decode cX7_isWord 29 = .ok (.aload_n 0, 1) := by decide +kernel
theorem dX7_isWord_30 : decode cX7_isWord 30 = .ok (.getfield 19, 3) := by decide +kernel
theorem dX7_isWord_33 : decode cX7_isWord 33 = .ok (.iconst 2, 1) := by decide +kernel
theorem dX7_isWord_34 : decode cX7_isWord 34 = .ok (.caload, 1) := by decide +kernel
theorem dX7_isWord_35 : decode cX7_isWord 35 = .ok (.iload_n 3, 1) := by decide +kernel
theorem dX7_isWord_36 : decode cX7_isWord 36 = .ok (.if_icmp .ne 18, 3) := by decide +kernel
theorem dX7_isWord_39 : decode cX7_isWord 39 = .ok (.aload_n 0, 1) := by decide +kernel
theorem dX7_isWord_40 : decode cX7_isWord 40 = .ok (.getfield 19, 3) := by decide +kernel
theorem dX7_isWord_43 : decode cX7_isWord 43 = .ok (.iconst 3, 1) := by decide +kernel
theorem dX7_isWord_44 : decode cX7_isWord 44 = .ok (.caload, 1) := by decide +kernel
theorem dX7_isWord_45 : decode cX7_isWord 45 = .ok (.iload 4, 2) := by decide +kernel
theorem dX7_isWord_47 : decode cX7_isWord 47 = .ok (.if_icmp .ne 7, 3) := by decide +kernel
theorem dX7_isWord_50 : decode cX7_isWord 50 = .ok (.iconst 1, 1) := by decide +kernel
theorem dX7_isWord_51 : decode cX7_isWord 51 = .ok (.goto 4, 3) := by decide +kernel
theorem dX7_isWord_54 : decode cX7_isWord 54 = .ok (.iconst 0, 1) := by decide +kernel
theorem dX7_isWord_55 : decode cX7_isWord 55 = .ok (.ireturn, 1) := by decide +kernel
theorem dX7_word_0 : decode cX7_word 0 = .ok (.aload_n 0, 1) := by decide +kernel
theorem dX7_word_1 : decode cX7_word 1 = .ok (.iconst 0, 1) := by decide +kernel
theorem dX7_word_2 : decode cX7_word 2 = .ok (.putfield 106, 3) := by decide +kernel
theorem dX7_word_5 : decode cX7_word 5 = .ok (.aload_n 0, 1) := by decide +kernel
theorem dX7_word_6 : decode cX7_word 6 = .ok (.bipush 97, 2) := by decide +kernel
theorem dX7_word_8 : decode cX7_word 8 = .ok (.bipush 122, 2) := by decide +kernel
theorem dX7_word_10 : decode cX7_word 10 = .ok (.invokevirtual 109, 3) := by decide +kernel
theorem dX7_word_13 : decode cX7_word 13 = .ok (.ifCond .eq 16, 3) := by decide +kernel
theorem dX7_word_16 : decode cX7_word 16 = .ok (.aload_n 0, 1) := by decide +kernel
theorem dX7_word_17 : decode cX7_word 17 = .ok (.dup, 1) := by decide +kernel
theorem dX7_word_18 : decode cX7_word 18 = .ok (.getfield 106, 3) := by decide +kernel
theorem dX7_word_21 : decode cX7_word 21 = .ok (.iconst 1, 1) := by decide +kernel
theorem dX7_word_22 : decode cX7_word 22 = .ok (.iadd, 1) := by decide +kernel
theorem dX7_word_23 : decode cX7_word 23 = .ok (.putfield 106, 3) := by decide +kernel
theorem dX7_word_26 : decode cX7_word 26 = .ok (.goto (-21), 3) := by decide +kernel
theorem dX7_word_29 : decode cX7_word 29 = .ok (.aload_n 0, 1) := by decide +kernel
theorem dX7_word_30 : decode cX7_word 30 = .ok (.bipush 109, 2) := by decide +kernel
theorem dX7_word_32 : decode cX7_word 32 = .ok (.bipush 101, 2) := by decide +kernel
theorem dX7_word_34 : decode cX7_word 34 = .ok (.bipush 114, 2) := by decide +kernel
theorem dX7_word_36 : decode cX7_word 36 = .ok (.bipush 103, 2) := by decide +kernel
theorem dX7_word_38 : decode cX7_word 38 = .ok (.iconst 5, 1) := by decide +kernel
theorem dX7_word_39 : decode cX7_word 39 = .ok (.invokevirtual 131, 3) := by decide +kernel
theorem dX7_word_42 : decode cX7_word 42 = .ok (.ifCond .eq 16, 3) := by decide +kernel
theorem dX7_word_45 : decode cX7_word 45 = .ok (.aload_n 0, 1) := by decide +kernel
theorem dX7_word_46 : decode cX7_word 46 = .ok (.getfield 19, 3) := by decide +kernel
theorem dX7_word_49 : decode cX7_word 49 = .ok (.iconst 4, 1) := by decide +kernel
theorem dX7_word_50 : decode cX7_word 50 = .ok (.caload, 1) := by decide +kernel
theorem dX7_word_51 : decode cX7_word 51 = .ok (.bipush 101, 2) := by decide +kernel
theorem dX7_word_53 : decode cX7_word 53 = .ok (.if_icmp .ne 5, 3) := by decide +kernel
theorem dX7_word_56 : decode cX7_word 56 = .ok (.iconst 0, 1) := by decide +kernel
theorem dX7_word_57 : decode cX7_word 57 = .ok (.ireturn, 1) := by decide +kernel
theorem dX7_word_58 : decode cX7_word 58 = .ok (.aload_n 0, 1) := by decide +kernel
theorem dX7_word_59 : decode cX7_word 59 = .ok (.bipush 99, 2) := by decide +kernel
theorem dX7_word_61 : decode cX7_word 61 = .ok (.bipush 108, 2) := by decide +kernel
theorem dX7_word_63 : decode cX7_word 63 = .ok (.bipush 101, 2) := by decide +kernel
theorem dX7_word_65 : decode cX7_word 65 = .ok (.bipush 97, 2) := by decide +kernel
theorem dX7_word_67 : decode cX7_word 67 = .ok (.iconst 5, 1) := by decide +kernel
theorem dX7_word_68 : decode cX7_word 68 = .ok (.invokevirtual 131, 3) := by decide +kernel
theorem dX7_word_71 : decode cX7_word 71 = .ok (.ifCond .eq 16, 3) := by decide +kernel
theorem dX7_word_74 : decode cX7_word 74 = .ok (.aload_n 0, 1) := by decide +kernel
theorem dX7_word_75 : decode cX7_word 75 = .ok (.getfield 19, 3) := by decide +kernel
theorem dX7_word_78 : decode cX7_word 78 = .ok (.iconst 4, 1) := by decide +kernel
theorem dX7_word_79 : decode cX7_word 79 = .ok (.caload, 1) := by decide +kernel
theorem dX7_word_80 : decode cX7_word 80 = .ok (.bipush 114, 2) := by decide +kernel
theorem dX7_word_82 : decode cX7_word 82 = .ok (.if_icmp .ne 5, 3) := by decide +kernel
theorem dX7_word_85 : decode cX7_word 85 = .ok (.iconst 3, 1) := by decide +kernel
theorem dX7_word_86 : decode cX7_word 86 = .ok (.ireturn, 1) := by decide +kernel
theorem dX7_word_87 : decode cX7_word 87 = .ok (.aload_n 0, 1) := by decide +kernel
theorem dX7_word_88 : decode cX7_word 88 = .ok (.bipush 99, 2) := by decide +kernel
theorem dX7_word_90 : decode cX7_word 90 = .ok (.bipush 111, 2) := by decide +kernel
theorem dX7_word_92 : decode cX7_word 92 = .ok (.bipush 112, 2) := by decide +kernel
theorem dX7_word_94 : decode cX7_word 94 = .ok (.bipush 121, 2) := by decide +kernel
theorem dX7_word_96 : decode cX7_word 96 = .ok (.iconst 4, 1) := by decide +kernel
theorem dX7_word_97 : decode cX7_word 97 = .ok (.invokevirtual 131, 3) := by decide +kernel
theorem dX7_word_100 : decode cX7_word 100 = .ok (.ifCond .eq 7, 3) := by decide +kernel
theorem dX7_word_103 : decode cX7_word 103 = .ok (.iconst 1, 1) := by decide +kernel
theorem dX7_word_104 : decode cX7_word 104 = .ok (.goto 25, 3) := by decide +kernel
theorem dX7_word_107 : decode cX7_word 107 = .ok (.aload_n 0, 1) := by decide +kernel
theorem dX7_word_108 : decode cX7_word 108 = .ok (.bipush 115, 2) := by decide +kernel
theorem dX7_word_110 : decode cX7_word 110 = .ok (.bipush 105, 2) := by decide +kernel
theorem dX7_word_112 : decode cX7_word 112 = .ok (.bipush 122, 2) := by decide +kernel
theorem dX7_word_114 : decode cX7_word 114 = .ok (.bipush 101, 2) := by decide +kernel
theorem dX7_word_116 : decode cX7_word 116 = .ok (.iconst 4, 1) := by decide +kernel
theorem dX7_word_117 : decode cX7_word 117 = .ok (.invokevirtual 131, 3) := by decide +kernel
theorem dX7_word_120 : decode cX7_word 120 = .ok (.ifCond .eq 7, 3) := by decide +kernel
theorem dX7_word_123 : decode cX7_word 123 = .ok (.iconst 2, 1) := by decide +kernel
theorem dX7_word_124 : decode cX7_word 124 = .ok (.goto 5, 3) := by decide +kernel
theorem dX7_word_127 : decode cX7_word 127 = .ok (.bipush (-5), 2) := by decide +kernel
theorem dX7_word_129 : decode cX7_word 129 = .ok (.ireturn, 1) := by decide +kernel
theorem dX7_takesNumber_0 : decode cX7_takesNumber 0 = .ok (.aload_n 0, 1) := by decide +kernel
theorem dX7_takesNumber_1 : decode cX7_takesNumber 1 = .ok (.bipush 32, 2) := by decide +kernel
theorem dX7_takesNumber_3 : decode cX7_takesNumber 3 = .ok (.invokevirtual 125, 3) := by decide +kernel
theorem dX7_takesNumber_6 : decode cX7_takesNumber 6 = .ok (.ifCond .eq 14, 3) := by decide +kernel
theorem dX7_takesNumber_9 : decode cX7_takesNumber 9 = .ok (.aload_n 0, 1) := by decide +kernel
theorem dX7_takesNumber_10 : decode cX7_takesNumber 10 = .ok (.bipush 48, 2) := by decide +kernel
theorem dX7_takesNumber_12 : decode cX7_takesNumber 12 = .ok (.bipush 57, 2) := by decide +kernel
theorem dX7_takesNumber_14 : decode cX7_takesNumber 14 = .ok (.invokevirtual 109, 3) := by decide +kernel
theorem dX7_takesNumber_17 : decode cX7_takesNumber 17 = .ok (.ifCond .ne 5, 3) := by decide +kernel
theorem dX7_takesNumber_20 : decode cX7_takesNumber 20 = .ok (.iconst 0, 1) := by decide +kernel
theorem dX7_takesNumber_21 : decode cX7_takesNumber 21 = .ok (.ireturn, 1) := by decide +kernel
theorem dX7_takesNumber_22 : decode cX7_takesNumber 22 = .ok (.aload_n 0, 1) := by decide +kernel
theorem dX7_takesNumber_23 : decode cX7_takesNumber 23 = .ok (.aload_n 0, 1) := by decide +kernel
theorem dX7_takesNumber_24 : decode cX7_takesNumber 24 = .ok (.getfield 19, 3) := by decide +kernel
theorem dX7_takesNumber_27 : decode cX7_takesNumber 27 = .ok (.aload_n 0, 1) := by decide +kernel
theorem dX7_takesNumber_28 : decode cX7_takesNumber 28 = .ok (.getfield 106, 3) := by decide +kernel
theorem dX7_takesNumber_31 : decode cX7_takesNumber 31 = .ok (.caload, 1) := by decide +kernel
theorem dX7_takesNumber_32 : decode cX7_takesNumber 32 = .ok (.bipush 48, 2) := by decide +kernel
theorem dX7_takesNumber_34 : decode cX7_takesNumber 34 = .ok (.isub, 1) := by decide +kernel
theorem dX7_takesNumber_35 : decode cX7_takesNumber 35 = .ok (.putfield 115, 3) := by decide +kernel
theorem dX7_takesNumber_38 : decode cX7_takesNumber 38 = .ok (.aload_n 0, 1) := by decide +kernel
theorem dX7_takesNumber_39 : decode cX7_takesNumber 39 = .ok (.dup, 1) := by decide +kernel
theorem dX7_takesNumber_40 : decode cX7_takesNumber 40 = .ok (.getfield 106, 3) := by decide +kernel
theorem dX7_takesNumber_43 : decode cX7_takesNumber 43 = .ok (.iconst 1, 1) := by decide +kernel
theorem dX7_takesNumber_44 : decode cX7_takesNumber 44 = .ok (.iadd, 1) := by decide +kernel
theorem dX7_takesNumber_45 : decode cX7_takesNumber 45 = .ok (.putfield 106, 3) := by decide +kernel
theorem dX7_takesNumber_48 : decode cX7_takesNumber 48 = .ok (.aload_n 0, 1) := by decide +kernel
theorem dX7_takesNumber_49 : decode cX7_takesNumber 49 = .ok (.getfield 115, 3) := by decide +kernel
theorem dX7_takesNumber_52 : decode cX7_takesNumber 52 = .ok (.ifCond .le 48, 3) := by decide +kernel
theorem dX7_takesNumber_55 : decode cX7_takesNumber 55 = .ok (.aload_n 0, 1) := by decide +kernel
theorem dX7_takesNumber_56 : decode cX7_takesNumber 56 = .ok (.bipush 48, 2) := by decide +kernel
theorem dX7_takesNumber_58 : decode cX7_takesNumber 58 = .ok (.bipush 57, 2) := by decide +kernel
theorem dX7_takesNumber_60 : decode cX7_takesNumber 60 = .ok (.invokevirtual 109, 3) := by decide +kernel
theorem dX7_takesNumber_63 : decode cX7_takesNumber 63 = .ok (.ifCond .eq 37, 3) := by decide +kernel
theorem dX7_takesNumber_66 : decode cX7_takesNumber 66 = .ok (.aload_n 0, 1) := by decide +kernel
theorem dX7_takesNumber_67 : decode cX7_takesNumber 67 = .ok (.bipush 10, 2) := by decide +kernel
theorem dX7_takesNumber_69 : decode cX7_takesNumber 69 = .ok (.aload_n 0, 1) := by decide +kernel
theorem dX7_takesNumber_70 : decode cX7_takesNumber 70 = .ok (.getfield 115, 3) := by decide +kernel
theorem dX7_takesNumber_73 : decode cX7_takesNumber 73 = .ok (.imul, 1) := by decide +kernel
theorem dX7_takesNumber_74 : decode cX7_takesNumber 74 = .ok (.aload_n 0, 1) := by decide +kernel
theorem dX7_takesNumber_75 : decode cX7_takesNumber 75 = .ok (.getfield 19, 3) := by decide +kernel
theorem dX7_takesNumber_78 : decode cX7_takesNumber 78 = .ok (.aload_n 0, 1) := by decide +kernel
theorem dX7_takesNumber_79 : decode cX7_takesNumber 79 = .ok (.getfield 106, 3) := by decide +kernel
theorem dX7_takesNumber_82 : decode cX7_takesNumber 82 = .ok (.caload, 1) := by decide +kernel
theorem dX7_takesNumber_83 : decode cX7_takesNumber 83 = .ok (.iadd, 1) := by decide +kernel
theorem dX7_takesNumber_84 : decode cX7_takesNumber 84 = .ok (.bipush 48, 2) := by decide +kernel
theorem dX7_takesNumber_86 : decode cX7_takesNumber 86 = .ok (.isub, 1) := by decide +kernel
theorem dX7_takesNumber_87 : decode cX7_takesNumber 87 = .ok (.putfield 115, 3) := by decide +kernel
theorem dX7_takesNumber_90 : decode cX7_takesNumber 90 = .ok (.aload_n 0, 1) := by decide +kernel
theorem dX7_takesNumber_91 : decode cX7_takesNumber 91 = .ok (.dup, 1) := by decide +kernel
theorem dX7_takesNumber_92 : decode cX7_takesNumber 92 = .ok (.getfield 106, 3) := by decide +kernel
theorem dX7_takesNumber_95 : decode cX7_takesNumber 95 = .ok (.iconst 1, 1) := by decide +kernel
theorem dX7_takesNumber_96 : decode cX7_takesNumber 96 = .ok (.iadd, 1) := by decide +kernel
theorem dX7_takesNumber_97 : decode cX7_takesNumber 97 = .ok (.putfield 106, 3) := by decide +kernel
theorem dX7_takesNumber_100 : decode cX7_takesNumber 100 = .ok (.iconst 1, 1) := by decide +kernel
theorem dX7_takesNumber_101 : decode cX7_takesNumber 101 = .ok (.ireturn, 1) := by decide +kernel
theorem dX7_perform_0 : decode cX7_perform 0 = .ok (.aload_n 0, 1) := by decide +kernel
theorem dX7_perform_1 : decode cX7_perform 1 = .ok (.invokevirtual 135, 3) := by decide +kernel
theorem dX7_perform_4 : decode cX7_perform 4 = .ok (.istore_n 1, 1) := by decide +kernel
theorem dX7_perform_5 : decode cX7_perform 5 = .ok (.iload_n 1, 1) := by decide +kernel
theorem dX7_perform_6 : decode cX7_perform 6 = .ok (.bipush (-5), 2) := by decide +kernel
theorem dX7_perform_8 : decode cX7_perform 8 = .ok (.if_icmp .ne 6, 3) := by decide +kernel
theorem dX7_perform_11 : decode cX7_perform 11 = .ok (.bipush (-100), 2) := by decide +kernel
theorem dX7_perform_13 : decode cX7_perform 13 = .ok (.ireturn, 1) := by decide +kernel
theorem dX7_perform_14 : decode cX7_perform 14 = .ok (.aload_n 0, 1) := by decide +kernel
theorem dX7_perform_15 : decode cX7_perform 15 = .ok (.invokevirtual 138, 3) := by decide +kernel
theorem dX7_perform_18 : decode cX7_perform 18 = .ok (.ifCond .ne 11, 3) := by decide +kernel
theorem dX7_perform_21 : decode cX7_perform 21 = .ok (.bipush (-100), 2) := by decide +kernel
theorem dX7_perform_23 : decode cX7_perform 23 = .ok (.aload_n 0, 1) := by decide +kernel
theorem dX7_perform_24 : decode cX7_perform 24 = .ok (.getfield 106, 3) := by decide +kernel
theorem dX7_perform_27 : decode cX7_perform 27 = .ok (.isub, 1) := by decide +kernel
theorem dX7_perform_28 : decode cX7_perform 28 = .ok (.ireturn, 1) := by decide +kernel
theorem dX7_perform_29 : decode cX7_perform 29 = .ok (.aload_n 0, 1) := by decide +kernel
theorem dX7_perform_30 : decode cX7_perform 30 = .ok (.getfield 115, 3) := by decide +kernel
theorem dX7_perform_33 : decode cX7_perform 33 = .ok (.istore_n 2, 1) := by decide +kernel
theorem dX7_perform_34 : decode cX7_perform 34 = .ok (.iload_n 1, 1) := by decide +kernel
theorem dX7_perform_35 : decode cX7_perform 35 = .ok (.iconst 3, 1) := by decide +kernel
theorem dX7_perform_36 : decode cX7_perform 36 = .ok (.if_icmp .eq 10, 3) := by decide +kernel
theorem dX7_perform_39 : decode cX7_perform 39 = .ok (.aload_n 0, 1) := by decide +kernel
theorem dX7_perform_40 : decode cX7_perform 40 = .ok (.invokevirtual 138, 3) := by decide +kernel
theorem dX7_perform_43 : decode cX7_perform 43 = .ok (.ifCond .eq 14, 3) := by decide +kernel
theorem dX7_perform_46 : decode cX7_perform 46 = .ok (.aload_n 0, 1) := by decide +kernel
theorem dX7_perform_47 : decode cX7_perform 47 = .ok (.getfield 106, 3) := by decide +kernel
theorem dX7_perform_50 : decode cX7_perform 50 = .ok (.aload_n 0, 1) := by decide +kernel
theorem dX7_perform_51 : decode cX7_perform 51 = .ok (.getfield 103, 3) := by decide +kernel
theorem dX7_perform_54 : decode cX7_perform 54 = .ok (.if_icmp .ge 11, 3) := by decide +kernel
theorem dX7_perform_57 : decode cX7_perform 57 = .ok (.bipush (-100), 2) := by decide +kernel
theorem dX7_perform_59 : decode cX7_perform 59 = .ok (.aload_n 0, 1) := by decide +kernel
theorem dX7_perform_60 : decode cX7_perform 60 = .ok (.getfield 106, 3) := by decide +kernel
theorem dX7_perform_63 : decode cX7_perform 63 = .ok (.isub, 1) := by decide +kernel
theorem dX7_perform_64 : decode cX7_perform 64 = .ok (.ireturn, 1) := by decide +kernel
theorem dX7_perform_65 : decode cX7_perform 65 = .ok (.iload_n 1, 1) := by decide +kernel
theorem dX7_perform_66 : decode cX7_perform 66 = .ok (.ifCond .ne 15, 3) := by decide +kernel
theorem dX7_perform_69 : decode cX7_perform 69 = .ok (.aload_n 0, 1) := by decide +kernel
theorem dX7_perform_70 : decode cX7_perform 70 = .ok (.iload_n 2, 1) := by decide +kernel
theorem dX7_perform_71 : decode cX7_perform 71 = .ok (.aload_n 0, 1) := by decide +kernel
theorem dX7_perform_72 : decode cX7_perform 72 = .ok (.getfield 115, 3) := by decide +kernel
theorem dX7_perform_75 : decode cX7_perform 75 = .ok (.invokevirtual 141, 3) := by decide +kernel
theorem dX7_perform_78 : decode cX7_perform 78 = .ok (.goto 42, 3) := by decide +kernel
theorem dX7_perform_81 : decode cX7_perform 81 = .ok (.iload_n 1, 1) := by decide +kernel
theorem dX7_perform_82 : decode cX7_perform 82 = .ok (.iconst 1, 1) := by decide +kernel
theorem dX7_perform_83 : decode cX7_perform 83 = .ok (.if_icmp .ne 15, 3) := by decide +kernel
theorem dX7_perform_86 : decode cX7_perform 86 = .ok (.aload_n 0, 1) := by decide +kernel
theorem dX7_perform_87 : decode cX7_perform 87 = .ok (.iload_n 2, 1) := by decide +kernel
theorem dX7_perform_88 : decode cX7_perform 88 = .ok (.aload_n 0, 1) := by decide +kernel
theorem dX7_perform_89 : decode cX7_perform 89 = .ok (.getfield 115, 3) := by decide +kernel
theorem dX7_perform_92 : decode cX7_perform 92 = .ok (.invokevirtual 144, 3) := by decide +kernel
theorem dX7_perform_95 : decode cX7_perform 95 = .ok (.goto 25, 3) := by decide +kernel
theorem dX7_perform_98 : decode cX7_perform 98 = .ok (.iload_n 1, 1) := by decide +kernel
theorem dX7_perform_99 : decode cX7_perform 99 = .ok (.iconst 2, 1) := by decide +kernel
theorem dX7_perform_100 : decode cX7_perform 100 = .ok (.if_icmp .ne 15, 3) := by decide +kernel
theorem dX7_perform_103 : decode cX7_perform 103 = .ok (.aload_n 0, 1) := by decide +kernel
theorem dX7_perform_104 : decode cX7_perform 104 = .ok (.iload_n 2, 1) := by decide +kernel
theorem dX7_perform_105 : decode cX7_perform 105 = .ok (.aload_n 0, 1) := by decide +kernel
theorem dX7_perform_106 : decode cX7_perform 106 = .ok (.getfield 115, 3) := by decide +kernel
theorem dX7_perform_109 : decode cX7_perform 109 = .ok (.invokevirtual 147, 3) := by decide +kernel
theorem dX7_perform_112 : decode cX7_perform 112 = .ok (.goto 8, 3) := by decide +kernel
theorem dX7_perform_115 : decode cX7_perform 115 = .ok (.aload_n 0, 1) := by decide +kernel
theorem dX7_perform_116 : decode cX7_perform 116 = .ok (.iload_n 2, 1) := by decide +kernel
theorem dX7_perform_117 : decode cX7_perform 117 = .ok (.invokevirtual 150, 3) := by decide +kernel
theorem dX7_perform_120 : decode cX7_perform 120 = .ok (.ireturn, 1) := by decide +kernel
theorem dX7_undo_0 : decode cX7_undo 0 = .ok (.aload_n 0, 1) := by decide +kernel
theorem dX7_undo_1 : decode cX7_undo 1 = .ok (.getfield 39, 3) := by decide +kernel
theorem dX7_undo_4 : decode cX7_undo 4 = .ok (.ifCond .ne 6, 3) := by decide +kernel
theorem dX7_undo_7 : decode cX7_undo 7 = .ok (.bipush (-5), 2) := by decide +kernel
theorem dX7_undo_9 : decode cX7_undo 9 = .ok (.ireturn, 1) := by decide +kernel
theorem dX7_undo_10 : decode cX7_undo 10 = .ok (.aload_n 0, 1) := by decide +kernel
theorem dX7_undo_11 : decode cX7_undo 11 = .ok (.dup, 1) := by decide +kernel
theorem dX7_undo_12 : decode cX7_undo 12 = .ok (.getfield 39, 3) := by decide +kernel
theorem dX7_undo_15 : decode cX7_undo 15 = .ok (.iconst 1, 1) := by decide +kernel
theorem dX7_undo_16 : decode cX7_undo 16 = .ok (.isub, 1) := by decide +kernel
theorem dX7_undo_17 : decode cX7_undo 17 = .ok (.putfield 39, 3) := by decide +kernel
theorem dX7_undo_20 : decode cX7_undo 20 = .ok (.iconst 0, 1) := by decide +kernel
theorem dX7_undo_21 : decode cX7_undo 21 = .ok (.istore_n 1, 1) := by decide +kernel
theorem dX7_undo_22 : decode cX7_undo 22 = .ok (.iload_n 1, 1) := by decide +kernel
theorem dX7_undo_23 : decode cX7_undo 23 = .ok (.sipush 1110, 3) := by decide +kernel
theorem dX7_undo_26 : decode cX7_undo 26 = .ok (.if_icmp .ge 30, 3) := by decide +kernel
theorem dX7_undo_29 : decode cX7_undo 29 = .ok (.aload_n 0, 1) := by decide +kernel
theorem dX7_undo_30 : decode cX7_undo 30 = .ok (.getfield 7, 3) := by decide +kernel
theorem dX7_undo_33 : decode cX7_undo 33 = .ok (.iload_n 1, 1) := by decide +kernel
theorem dX7_undo_34 : decode cX7_undo 34 = .ok (.aload_n 0, 1) := by decide +kernel
theorem dX7_undo_35 : decode cX7_undo 35 = .ok (.getfield 13, 3) := by decide +kernel
theorem dX7_undo_38 : decode cX7_undo 38 = .ok (.sipush 1110, 3) := by decide +kernel
theorem dX7_undo_41 : decode cX7_undo 41 = .ok (.aload_n 0, 1) := by decide +kernel
theorem dX7_undo_42 : decode cX7_undo 42 = .ok (.getfield 39, 3) := by decide +kernel
theorem dX7_undo_45 : decode cX7_undo 45 = .ok (.imul, 1) := by decide +kernel
theorem dX7_undo_46 : decode cX7_undo 46 = .ok (.iload_n 1, 1) := by decide +kernel
theorem dX7_undo_47 : decode cX7_undo 47 = .ok (.iadd, 1) := by decide +kernel
theorem dX7_undo_48 : decode cX7_undo 48 = .ok (.iaload, 1) := by decide +kernel
theorem dX7_undo_49 : decode cX7_undo 49 = .ok (.iastore, 1) := by decide +kernel
theorem dX7_undo_50 : decode cX7_undo 50 = .ok (.iinc 1 1, 3) := by decide +kernel
theorem dX7_undo_53 : decode cX7_undo 53 = .ok (.goto (-31), 3) := by decide +kernel
theorem dX7_undo_56 : decode cX7_undo 56 = .ok (.aload_n 0, 1) := by decide +kernel
theorem dX7_undo_57 : decode cX7_undo 57 = .ok (.getfield 39, 3) := by decide +kernel
theorem dX7_undo_60 : decode cX7_undo 60 = .ok (.ireturn, 1) := by decide +kernel
theorem dX7_keep_0 : decode cX7_keep 0 = .ok (.iconst 0, 1) := by decide +kernel
theorem dX7_keep_1 : decode cX7_keep 1 = .ok (.istore_n 1, 1) := by decide +kernel
theorem dX7_keep_2 : decode cX7_keep 2 = .ok (.iload_n 1, 1) := by decide +kernel
theorem dX7_keep_3 : decode cX7_keep 3 = .ok (.sipush 1110, 3) := by decide +kernel
theorem dX7_keep_6 : decode cX7_keep 6 = .ok (.if_icmp .ge 21, 3) := by decide +kernel
theorem dX7_keep_9 : decode cX7_keep 9 = .ok (.aload_n 0, 1) := by decide +kernel
theorem dX7_keep_10 : decode cX7_keep 10 = .ok (.getfield 16, 3) := by decide +kernel
theorem dX7_keep_13 : decode cX7_keep 13 = .ok (.iload_n 1, 1) := by decide +kernel
theorem dX7_keep_14 : decode cX7_keep 14 = .ok (.aload_n 0, 1) := by decide +kernel
theorem dX7_keep_15 : decode cX7_keep 15 = .ok (.getfield 7, 3) := by decide +kernel
theorem dX7_keep_18 : decode cX7_keep 18 = .ok (.iload_n 1, 1) := by decide +kernel
theorem dX7_keep_19 : decode cX7_keep 19 = .ok (.iaload, 1) := by decide +kernel
theorem dX7_keep_20 : decode cX7_keep 20 = .ok (.iastore, 1) := by decide +kernel
theorem dX7_keep_21 : decode cX7_keep 21 = .ok (.iinc 1 1, 3) := by decide +kernel
theorem dX7_keep_24 : decode cX7_keep 24 = .ok (.goto (-22), 3) := by decide +kernel
theorem dX7_keep_27 : decode cX7_keep 27 = .ok (.aload_n 0, 1) := by decide +kernel
theorem dX7_keep_28 : decode cX7_keep 28 = .ok (.iconst 1, 1) := by decide +kernel
theorem dX7_keep_29 : decode cX7_keep 29 = .ok (.putfield 153, 3) := by decide +kernel
theorem dX7_keep_32 : decode cX7_keep 32 = .ok (.aload_n 0, 1) := by decide +kernel
theorem dX7_keep_33 : decode cX7_keep 33 = .ok (.getfield 7, 3) := by decide +kernel
theorem dX7_keep_36 : decode cX7_keep 36 = .ok (.sipush 1072, 3) := by decide +kernel
theorem dX7_keep_39 : decode cX7_keep 39 = .ok (.iaload, 1) := by decide +kernel
theorem dX7_keep_40 : decode cX7_keep 40 = .ok (.ireturn, 1) := by decide +kernel
theorem dX7_restore_0 : decode cX7_restore 0 = .ok (.aload_n 0, 1) := by decide +kernel
theorem dX7_restore_1 : decode cX7_restore 1 = .ok (.getfield 153, 3) := by decide +kernel
theorem dX7_restore_4 : decode cX7_restore 4 = .ok (.ifCond .ne 6, 3) := by decide +kernel
theorem dX7_restore_7 : decode cX7_restore 7 = .ok (.bipush (-5), 2) := by decide +kernel
theorem dX7_restore_9 : decode cX7_restore 9 = .ok (.ireturn, 1) := by decide +kernel
theorem dX7_restore_10 : decode cX7_restore 10 = .ok (.aload_n 0, 1) := by decide +kernel
theorem dX7_restore_11 : decode cX7_restore 11 = .ok (.invokevirtual 81, 3) := by decide +kernel
theorem dX7_restore_14 : decode cX7_restore 14 = .ok (.iconst 0, 1) := by decide +kernel
theorem dX7_restore_15 : decode cX7_restore 15 = .ok (.istore_n 1, 1) := by decide +kernel
theorem dX7_restore_16 : decode cX7_restore 16 = .ok (.iload_n 1, 1) := by decide +kernel
theorem dX7_restore_17 : decode cX7_restore 17 = .ok (.sipush 1110, 3) := by decide +kernel
theorem dX7_restore_20 : decode cX7_restore 20 = .ok (.if_icmp .ge 21, 3) := by decide +kernel
theorem dX7_restore_23 : decode cX7_restore 23 = .ok (.aload_n 0, 1) := by decide +kernel
theorem dX7_restore_24 : decode cX7_restore 24 = .ok (.getfield 7, 3) := by decide +kernel
theorem dX7_restore_27 : decode cX7_restore 27 = .ok (.iload_n 1, 1) := by decide +kernel
theorem dX7_restore_28 : decode cX7_restore 28 = .ok (.aload_n 0, 1) := by decide +kernel
theorem dX7_restore_29 : decode cX7_restore 29 = .ok (.getfield 16, 3) := by decide +kernel
theorem dX7_restore_32 : decode cX7_restore 32 = .ok (.iload_n 1, 1) := by decide +kernel
theorem dX7_restore_33 : decode cX7_restore 33 = .ok (.iaload, 1) := by decide +kernel
theorem dX7_restore_34 : decode cX7_restore 34 = .ok (.iastore, 1) := by decide +kernel
theorem dX7_restore_35 : decode cX7_restore 35 = .ok (.iinc 1 1, 3) := by decide +kernel
theorem dX7_restore_38 : decode cX7_restore 38 = .ok (.goto (-22), 3) := by decide +kernel
theorem dX7_restore_41 : decode cX7_restore 41 = .ok (.aload_n 0, 1) := by decide +kernel
theorem dX7_restore_42 : decode cX7_restore 42 = .ok (.getfield 7, 3) := by decide +kernel
theorem dX7_restore_45 : decode cX7_restore 45 = .ok (.sipush 1072, 3) := by decide +kernel
theorem dX7_restore_48 : decode cX7_restore 48 = .ok (.iaload, 1) := by decide +kernel
theorem dX7_restore_49 : decode cX7_restore 49 = .ok (.ireturn, 1) := by decide +kernel
theorem dX7_looks_0 : decode cX7_looks 0 = .ok (.iload_n 1, 1) := by decide +kernel
theorem dX7_looks_1 : decode cX7_looks 1 = .ok (.iconst 0, 1) := by decide +kernel
theorem dX7_looks_2 : decode cX7_looks 2 = .ok (.iconst 4, 1) := by decide +kernel
theorem dX7_looks_3 : decode cX7_looks 3 = .ok (.invokestatic 35, 3) := by decide +kernel
theorem dX7_looks_6 : decode cX7_looks 6 = .ok (.ifCond .ne 6, 3) := by decide +kernel
theorem dX7_looks_9 : decode cX7_looks 9 = .ok (.bipush (-5), 2) := by decide +kernel
theorem dX7_looks_11 : decode cX7_looks 11 = .ok (.ireturn, 1) := by decide +kernel
theorem dX7_looks_12 : decode cX7_looks 12 = .ok (.iload_n 1, 1) := by decide +kernel
theorem dX7_looks_13 : decode cX7_looks 13 = .ok (.iconst 4, 1) := by decide +kernel
theorem dX7_looks_14 : decode cX7_looks 14 = .ok (.if_icmp .ge 5, 3) := by decide +kernel
theorem dX7_looks_17 : decode cX7_looks 17 = .ok (.iload_n 1, 1) := by decide +kernel
theorem dX7_looks_18 : decode cX7_looks 18 = .ok (.ireturn, 1) := by decide +kernel
theorem dX7_looks_19 : decode cX7_looks 19 = .ok (.aload_n 0, 1) := by decide +kernel
theorem dX7_looks_20 : decode cX7_looks 20 = .ok (.iconst 4, 1) := by decide +kernel
theorem dX7_looks_21 : decode cX7_looks 21 = .ok (.bipush 8, 2) := by decide +kernel
theorem dX7_looks_23 : decode cX7_looks 23 = .ok (.invokevirtual 91, 3) := by decide +kernel
theorem dX7_looks_26 : decode cX7_looks 26 = .ok (.iconst 1, 1) := by decide +kernel
theorem dX7_looks_27 : decode cX7_looks 27 = .ok (.istore_n 2, 1) := by decide +kernel
theorem dX7_looks_28 : decode cX7_looks 28 = .ok (.iload_n 2, 1) := by decide +kernel
theorem dX7_looks_29 : decode cX7_looks 29 = .ok (.aload_n 0, 1) := by decide +kernel
theorem dX7_looks_30 : decode cX7_looks 30 = .ok (.getfield 7, 3) := by decide +kernel
theorem dX7_looks_33 : decode cX7_looks 33 = .ok (.sipush 1076, 3) := by decide +kernel
theorem dX7_looks_36 : decode cX7_looks 36 = .ok (.iaload, 1) := by decide +kernel
theorem dX7_looks_37 : decode cX7_looks 37 = .ok (.if_icmp .ge 19, 3) := by decide +kernel
theorem dX7_looks_40 : decode cX7_looks 40 = .ok (.aload_n 0, 1) := by decide +kernel
theorem dX7_looks_41 : decode cX7_looks 41 = .ok (.bipush 8, 2) := by decide +kernel
theorem dX7_looks_43 : decode cX7_looks 43 = .ok (.iconst 4, 1) := by decide +kernel
theorem dX7_looks_44 : decode cX7_looks 44 = .ok (.iload_n 2, 1) := by decide +kernel
theorem dX7_looks_45 : decode cX7_looks 45 = .ok (.iadd, 1) := by decide +kernel
theorem dX7_looks_46 : decode cX7_looks 46 = .ok (.invokevirtual 100, 3) := by decide +kernel
theorem dX7_looks_49 : decode cX7_looks 49 = .ok (.pop, 1) := by decide +kernel
theorem dX7_looks_50 : decode cX7_looks 50 = .ok (.iinc 2 1, 3) := by decide +kernel
theorem dX7_looks_53 : decode cX7_looks 53 = .ok (.goto (-25), 3) := by decide +kernel
theorem dX7_looks_56 : decode cX7_looks 56 = .ok (.bipush 8, 2) := by decide +kernel
theorem dX7_looks_58 : decode cX7_looks 58 = .ok (.ireturn, 1) := by decide +kernel
theorem dX7_greatestSlack_0 : decode cX7_greatestSlack 0 = .ok (.iconst 0, 1) := by decide +kernel
theorem dX7_greatestSlack_1 : decode cX7_greatestSlack 1 = .ok (.istore_n 2, 1) := by decide +kernel
theorem dX7_greatestSlack_2 : decode cX7_greatestSlack 2 = .ok (.iconst 0, 1) := by decide +kernel
theorem dX7_greatestSlack_3 : decode cX7_greatestSlack 3 = .ok (.istore_n 3, 1) := by decide +kernel
theorem dX7_greatestSlack_4 : decode cX7_greatestSlack 4 = .ok (.iload_n 3, 1) := by decide +kernel
theorem dX7_greatestSlack_5 : decode cX7_greatestSlack 5 = .ok (.bipush 26, 2) := by decide +kernel
theorem dX7_greatestSlack_7 : decode cX7_greatestSlack 7 = .ok (.if_icmp .ge 41, 3) := by decide +kernel
theorem dX7_greatestSlack_10 : decode cX7_greatestSlack 10 = .ok (.aload_n 0, 1) := by decide +kernel
theorem dX7_greatestSlack_11 : decode cX7_greatestSlack 11 = .ok (.iload_n 1, 1) := by decide +kernel
theorem dX7_greatestSlack_12 : decode cX7_greatestSlack 12 = .ok (.iload_n 3, 1) := by decide +kernel
theorem dX7_greatestSlack_13 : decode cX7_greatestSlack 13 = .ok (.invokevirtual 43, 3) := by decide +kernel
theorem dX7_greatestSlack_16 : decode cX7_greatestSlack 16 = .ok (.ifCond .eq 24, 3) := by decide +kernel
theorem dX7_greatestSlack_19 : decode cX7_greatestSlack 19 = .ok (.aload_n 0, 1) := by decide +kernel
theorem dX7_greatestSlack_20 : decode cX7_greatestSlack 20 = .ok (.iload_n 1, 1) := by decide +kernel
theorem dX7_greatestSlack_21 : decode cX7_greatestSlack 21 = .ok (.iload_n 3, 1) := by decide +kernel
theorem dX7_greatestSlack_22 : decode cX7_greatestSlack 22 = .ok (.iconst 2, 1) := by decide +kernel
theorem dX7_greatestSlack_23 : decode cX7_greatestSlack 23 = .ok (.invokevirtual 31, 3) := by decide +kernel
theorem dX7_greatestSlack_26 : decode cX7_greatestSlack 26 = .ok (.iload_n 2, 1) := by decide +kernel
theorem dX7_greatestSlack_27 : decode cX7_greatestSlack 27 = .ok (.if_icmp .le 13, 3) := by decide +kernel
theorem dX7_greatestSlack_30 : decode cX7_greatestSlack 30 = .ok (.aload_n 0, 1) := by decide +kernel
theorem dX7_greatestSlack_31 : decode cX7_greatestSlack 31 = .ok (.iload_n 1, 1) := by decide +kernel
theorem dX7_greatestSlack_32 : decode cX7_greatestSlack 32 = .ok (.iload_n 3, 1) := by decide +kernel
theorem dX7_greatestSlack_33 : decode cX7_greatestSlack 33 = .ok (.iconst 2, 1) := by decide +kernel
theorem dX7_greatestSlack_34 : decode cX7_greatestSlack 34 = .ok (.invokevirtual 31, 3) := by decide +kernel
theorem dX7_greatestSlack_37 : decode cX7_greatestSlack 37 = .ok (.goto 4, 3) := by decide +kernel
theorem dX7_greatestSlack_40 : decode cX7_greatestSlack 40 = .ok (.iload_n 2, 1) := by decide +kernel
theorem dX7_greatestSlack_41 : decode cX7_greatestSlack 41 = .ok (.istore_n 2, 1) := by decide +kernel
theorem dX7_greatestSlack_42 : decode cX7_greatestSlack 42 = .ok (.iinc 3 1, 3) := by decide +kernel
theorem dX7_greatestSlack_45 : decode cX7_greatestSlack 45 = .ok (.goto (-41), 3) := by decide +kernel
theorem dX7_greatestSlack_48 : decode cX7_greatestSlack 48 = .ok (.iload_n 2, 1) := by decide +kernel
theorem dX7_greatestSlack_49 : decode cX7_greatestSlack 49 = .ok (.ireturn, 1) := by decide +kernel
theorem dX7_letters_0 : decode cX7_letters 0 = .ok (.iconst 0, 1) := by decide +kernel
theorem dX7_letters_1 : decode cX7_letters 1 = .ok (.istore_n 3, 1) := by decide +kernel
theorem dX7_letters_2 : decode cX7_letters 2 = .ok (.iconst 0, 1) := by decide +kernel
theorem dX7_letters_3 : decode cX7_letters 3 = .ok (.istore 4, 2) := by decide +kernel
theorem dX7_letters_5 : decode cX7_letters 5 = .ok (.iload 4, 2) := by decide +kernel
theorem dX7_letters_7 : decode cX7_letters 7 = .ok (.bipush 26, 2) := by decide +kernel
theorem dX7_letters_9 : decode cX7_letters 9 = .ok (.if_icmp .ge 49, 3) := by decide +kernel
theorem dX7_letters_12 : decode cX7_letters 12 = .ok (.iload_n 3, 1) := by decide +kernel
theorem dX7_letters_13 : decode cX7_letters 13 = .ok (.iload_n 2, 1) := by decide +kernel
theorem dX7_letters_14 : decode cX7_letters 14 = .ok (.iconst 1, 1) := by decide +kernel
theorem dX7_letters_15 : decode cX7_letters 15 = .ok (.if_icmp .ne 16, 3) := by decide +kernel
theorem dX7_letters_18 : decode cX7_letters 18 = .ok (.aload_n 0, 1) := by decide +kernel
theorem dX7_letters_19 : decode cX7_letters 19 = .ok (.iload_n 1, 1) := by decide +kernel
theorem dX7_letters_20 : decode cX7_letters 20 = .ok (.iload 4, 2) := by decide +kernel
theorem dX7_letters_22 : decode cX7_letters 22 = .ok (.invokevirtual 43, 3) := by decide +kernel
theorem dX7_letters_25 : decode cX7_letters 25 = .ok (.ifCond .eq 24, 3) := by decide +kernel
theorem dX7_letters_28 : decode cX7_letters 28 = .ok (.goto 14, 3) := by decide +kernel
theorem dX7_letters_31 : decode cX7_letters 31 = .ok (.aload_n 0, 1) := by decide +kernel
theorem dX7_letters_32 : decode cX7_letters 32 = .ok (.iload_n 1, 1) := by decide +kernel
theorem dX7_letters_33 : decode cX7_letters 33 = .ok (.iload 4, 2) := by decide +kernel
theorem dX7_letters_35 : decode cX7_letters 35 = .ok (.iconst 4, 1) := by decide +kernel
theorem dX7_letters_36 : decode cX7_letters 36 = .ok (.invokevirtual 31, 3) := by decide +kernel
theorem dX7_letters_39 : decode cX7_letters 39 = .ok (.ifCond .le 10, 3) := by decide +kernel
theorem dX7_letters_42 : decode cX7_letters 42 = .ok (.iconst 1, 1) := by decide +kernel
theorem dX7_letters_43 : decode cX7_letters 43 = .ok (.iload 4, 2) := by decide +kernel
theorem dX7_letters_45 : decode cX7_letters 45 = .ok (.ishl, 1) := by decide +kernel
theorem dX7_letters_46 : decode cX7_letters 46 = .ok (.goto 4, 3) := by decide +kernel
theorem dX7_letters_49 : decode cX7_letters 49 = .ok (.iconst 0, 1) := by decide +kernel
theorem dX7_letters_50 : decode cX7_letters 50 = .ok (.ior, 1) := by decide +kernel
theorem dX7_letters_51 : decode cX7_letters 51 = .ok (.istore_n 3, 1) := by decide +kernel
theorem dX7_letters_52 : decode cX7_letters 52 = .ok (.iinc 4 1, 3) := by decide +kernel
theorem dX7_letters_55 : decode cX7_letters 55 = .ok (.goto (-50), 3) := by decide +kernel
theorem dX7_letters_58 : decode cX7_letters 58 = .ok (.iload_n 3, 1) := by decide +kernel
theorem dX7_letters_59 : decode cX7_letters 59 = .ok (.ireturn, 1) := by decide +kernel
theorem dX7_summary_0 : decode cX7_summary 0 = .ok (.aload_n 0, 1) := by decide +kernel
theorem dX7_summary_1 : decode cX7_summary 1 = .ok (.iload_n 1, 1) := by decide +kernel
theorem dX7_summary_2 : decode cX7_summary 2 = .ok (.invokevirtual 157, 3) := by decide +kernel
theorem dX7_summary_5 : decode cX7_summary 5 = .ok (.istore_n 3, 1) := by decide +kernel
theorem dX7_summary_6 : decode cX7_summary 6 = .ok (.iload_n 3, 1) := by decide +kernel
theorem dX7_summary_7 : decode cX7_summary 7 = .ok (.bipush (-5), 2) := by decide +kernel
theorem dX7_summary_9 : decode cX7_summary 9 = .ok (.if_icmp .ne 5, 3) := by decide +kernel
theorem dX7_summary_12 : decode cX7_summary 12 = .ok (.iconst (-1), 1) := by decide +kernel
theorem dX7_summary_13 : decode cX7_summary 13 = .ok (.ireturn, 1) := by decide +kernel
theorem dX7_summary_14 : decode cX7_summary 14 = .ok (.iload_n 2, 1) := by decide +kernel
theorem dX7_summary_15 : decode cX7_summary 15 = .ok (.tableswitch 88 0 6 #[41, 48, 54, 61, 68, 74, 81], 41) := by decide +kernel
theorem dX7_summary_56 : decode cX7_summary 56 = .ok (.aload_n 0, 1) := by decide +kernel
theorem dX7_summary_57 : decode cX7_summary 57 = .ok (.iload_n 3, 1) := by decide +kernel
theorem dX7_summary_58 : decode cX7_summary 58 = .ok (.iconst 0, 1) := by decide +kernel
theorem dX7_summary_59 : decode cX7_summary 59 = .ok (.invokevirtual 47, 3) := by decide +kernel
theorem dX7_summary_62 : decode cX7_summary 62 = .ok (.ireturn, 1) := by decide +kernel
theorem dX7_summary_63 : decode cX7_summary 63 = .ok (.aload_n 0, 1) := by decide +kernel
theorem dX7_summary_64 : decode cX7_summary 64 = .ok (.iload_n 3, 1) := by decide +kernel
theorem dX7_summary_65 : decode cX7_summary 65 = .ok (.invokevirtual 65, 3) := by decide +kernel
theorem dX7_summary_68 : decode cX7_summary 68 = .ok (.ireturn, 1) := by decide +kernel
theorem dX7_summary_69 : decode cX7_summary 69 = .ok (.aload_n 0, 1) := by decide +kernel
theorem dX7_summary_70 : decode cX7_summary 70 = .ok (.iload_n 3, 1) := by decide +kernel
theorem dX7_summary_71 : decode cX7_summary 71 = .ok (.iconst 1, 1) := by decide +kernel
theorem dX7_summary_72 : decode cX7_summary 72 = .ok (.invokevirtual 47, 3) := by decide +kernel
theorem dX7_summary_75 : decode cX7_summary 75 = .ok (.ireturn, 1) := by decide +kernel
theorem dX7_summary_76 : decode cX7_summary 76 = .ok (.aload_n 0, 1) := by decide +kernel
theorem dX7_summary_77 : decode cX7_summary 77 = .ok (.iload_n 3, 1) := by decide +kernel
theorem dX7_summary_78 : decode cX7_summary 78 = .ok (.iconst 2, 1) := by decide +kernel
theorem dX7_summary_79 : decode cX7_summary 79 = .ok (.invokevirtual 47, 3) := by decide +kernel
theorem dX7_summary_82 : decode cX7_summary 82 = .ok (.ireturn, 1) := by decide +kernel
theorem dX7_summary_83 : decode cX7_summary 83 = .ok (.aload_n 0, 1) := by decide +kernel
theorem dX7_summary_84 : decode cX7_summary 84 = .ok (.iload_n 3, 1) := by decide +kernel
theorem dX7_summary_85 : decode cX7_summary 85 = .ok (.invokevirtual 160, 3) := by decide +kernel
theorem dX7_summary_88 : decode cX7_summary 88 = .ok (.ireturn, 1) := by decide +kernel
theorem dX7_summary_89 : decode cX7_summary 89 = .ok (.aload_n 0, 1) := by decide +kernel
theorem dX7_summary_90 : decode cX7_summary 90 = .ok (.iload_n 3, 1) := by decide +kernel
theorem dX7_summary_91 : decode cX7_summary 91 = .ok (.iconst 0, 1) := by decide +kernel
theorem dX7_summary_92 : decode cX7_summary 92 = .ok (.invokevirtual 163, 3) := by decide +kernel
theorem dX7_summary_95 : decode cX7_summary 95 = .ok (.ireturn, 1) := by decide +kernel
theorem dX7_summary_96 : decode cX7_summary 96 = .ok (.aload_n 0, 1) := by decide +kernel
theorem dX7_summary_97 : decode cX7_summary 97 = .ok (.iload_n 3, 1) := by decide +kernel
theorem dX7_summary_98 : decode cX7_summary 98 = .ok (.iconst 1, 1) := by decide +kernel
theorem dX7_summary_99 : decode cX7_summary 99 = .ok (.invokevirtual 163, 3) := by decide +kernel
theorem dX7_summary_102 : decode cX7_summary 102 = .ok (.ireturn, 1) := by decide +kernel
theorem dX7_summary_103 : decode cX7_summary 103 = .ok (.bipush (-2), 2) := by decide +kernel
theorem dX7_summary_105 : decode cX7_summary 105 = .ok (.ireturn, 1) := by decide +kernel
theorem dX7_upper_0 : decode cX7_upper 0 = .ok (.aload_n 0, 1) := by decide +kernel
theorem dX7_upper_1 : decode cX7_upper 1 = .ok (.iload_n 1, 1) := by decide +kernel
theorem dX7_upper_2 : decode cX7_upper 2 = .ok (.iload_n 2, 1) := by decide +kernel
theorem dX7_upper_3 : decode cX7_upper 3 = .ok (.invokevirtual 43, 3) := by decide +kernel
theorem dX7_upper_6 : decode cX7_upper 6 = .ok (.ifCond .eq 13, 3) := by decide +kernel
theorem dX7_upper_9 : decode cX7_upper 9 = .ok (.aload_n 0, 1) := by decide +kernel
theorem dX7_upper_10 : decode cX7_upper 10 = .ok (.iload_n 1, 1) := by decide +kernel
theorem dX7_upper_11 : decode cX7_upper 11 = .ok (.iload_n 2, 1) := by decide +kernel
theorem dX7_upper_12 : decode cX7_upper 12 = .ok (.iconst 1, 1) := by decide +kernel
theorem dX7_upper_13 : decode cX7_upper 13 = .ok (.invokevirtual 31, 3) := by decide +kernel
theorem dX7_upper_16 : decode cX7_upper 16 = .ok (.goto 9, 3) := by decide +kernel
theorem dX7_upper_19 : decode cX7_upper 19 = .ok (.aload_n 0, 1) := by decide +kernel
theorem dX7_upper_20 : decode cX7_upper 20 = .ok (.iload_n 1, 1) := by decide +kernel
theorem dX7_upper_21 : decode cX7_upper 21 = .ok (.iconst 1, 1) := by decide +kernel
theorem dX7_upper_22 : decode cX7_upper 22 = .ok (.invokevirtual 47, 3) := by decide +kernel
theorem dX7_upper_25 : decode cX7_upper 25 = .ok (.ireturn, 1) := by decide +kernel
theorem dX7_lower_0 : decode cX7_lower 0 = .ok (.aload_n 0, 1) := by decide +kernel
theorem dX7_lower_1 : decode cX7_lower 1 = .ok (.iload_n 1, 1) := by decide +kernel
theorem dX7_lower_2 : decode cX7_lower 2 = .ok (.iload_n 2, 1) := by decide +kernel
theorem dX7_lower_3 : decode cX7_lower 3 = .ok (.invokevirtual 43, 3) := by decide +kernel
theorem dX7_lower_6 : decode cX7_lower 6 = .ok (.ifCond .eq 21, 3) := by decide +kernel
theorem dX7_lower_9 : decode cX7_lower 9 = .ok (.aload_n 0, 1) := by decide +kernel
theorem dX7_lower_10 : decode cX7_lower 10 = .ok (.iload_n 1, 1) := by decide +kernel
theorem dX7_lower_11 : decode cX7_lower 11 = .ok (.iload_n 2, 1) := by decide +kernel
theorem dX7_lower_12 : decode cX7_lower 12 = .ok (.iconst 1, 1) := by decide +kernel
theorem dX7_lower_13 : decode cX7_lower 13 = .ok (.invokevirtual 31, 3) := by decide +kernel
theorem dX7_lower_16 : decode cX7_lower 16 = .ok (.aload_n 0, 1) := by decide +kernel
theorem dX7_lower_17 : decode cX7_lower 17 = .ok (.iload_n 1, 1) := by decide +kernel
theorem dX7_lower_18 : decode cX7_lower 18 = .ok (.iload_n 2, 1) := by decide +kernel
theorem dX7_lower_19 : decode cX7_lower 19 = .ok (.iconst 2, 1) := by decide +kernel
theorem dX7_lower_20 : decode cX7_lower 20 = .ok (.invokevirtual 31, 3) := by decide +kernel
theorem dX7_lower_23 : decode cX7_lower 23 = .ok (.isub, 1) := by decide +kernel
theorem dX7_lower_24 : decode cX7_lower 24 = .ok (.goto 4, 3) := by decide +kernel
theorem dX7_lower_27 : decode cX7_lower 27 = .ok (.iconst 0, 1) := by decide +kernel
theorem dX7_lower_28 : decode cX7_lower 28 = .ok (.ireturn, 1) := by decide +kernel
theorem dX7_bound_0 : decode cX7_bound 0 = .ok (.aload_n 0, 1) := by decide +kernel
theorem dX7_bound_1 : decode cX7_bound 1 = .ok (.iload_n 1, 1) := by decide +kernel
theorem dX7_bound_2 : decode cX7_bound 2 = .ok (.invokevirtual 157, 3) := by decide +kernel
theorem dX7_bound_5 : decode cX7_bound 5 = .ok (.istore 4, 2) := by decide +kernel
theorem dX7_bound_7 : decode cX7_bound 7 = .ok (.iload 4, 2) := by decide +kernel
theorem dX7_bound_9 : decode cX7_bound 9 = .ok (.bipush (-5), 2) := by decide +kernel
theorem dX7_bound_11 : decode cX7_bound 11 = .ok (.if_icmp .eq 10, 3) := by decide +kernel
theorem dX7_bound_14 : decode cX7_bound 14 = .ok (.iload_n 2, 1) := by decide +kernel
theorem dX7_bound_15 : decode cX7_bound 15 = .ok (.invokestatic 76, 3) := by decide +kernel
theorem dX7_bound_18 : decode cX7_bound 18 = .ok (.ifCond .ne 5, 3) := by decide +kernel
theorem dX7_bound_21 : decode cX7_bound 21 = .ok (.iconst (-1), 1) := by decide +kernel
theorem dX7_bound_22 : decode cX7_bound 22 = .ok (.ireturn, 1) := by decide +kernel
theorem dX7_bound_23 : decode cX7_bound 23 = .ok (.iload_n 2, 1) := by decide +kernel
theorem dX7_bound_24 : decode cX7_bound 24 = .ok (.bipush 97, 2) := by decide +kernel
theorem dX7_bound_26 : decode cX7_bound 26 = .ok (.isub, 1) := by decide +kernel
theorem dX7_bound_27 : decode cX7_bound 27 = .ok (.istore 5, 2) := by decide +kernel
theorem dX7_bound_29 : decode cX7_bound 29 = .ok (.iload_n 3, 1) := by decide +kernel
theorem dX7_bound_30 : decode cX7_bound 30 = .ok (.tableswitch 114 0 4 #[34, 43, 52, 62, 88], 34) := by decide +kernel
theorem dX7_bound_64 : decode cX7_bound 64 = .ok (.aload_n 0, 1) := by decide +kernel
theorem dX7_bound_65 : decode cX7_bound 65 = .ok (.iload 4, 2) := by decide +kernel
theorem dX7_bound_67 : decode cX7_bound 67 = .ok (.iload 5, 2) := by decide +kernel
theorem dX7_bound_69 : decode cX7_bound 69 = .ok (.invokevirtual 166, 3) := by decide +kernel
theorem dX7_bound_72 : decode cX7_bound 72 = .ok (.ireturn, 1) := by decide +kernel
theorem dX7_bound_73 : decode cX7_bound 73 = .ok (.aload_n 0, 1) := by decide +kernel
theorem dX7_bound_74 : decode cX7_bound 74 = .ok (.iload 4, 2) := by decide +kernel
theorem dX7_bound_76 : decode cX7_bound 76 = .ok (.iload 5, 2) := by decide +kernel
theorem dX7_bound_78 : decode cX7_bound 78 = .ok (.invokevirtual 169, 3) := by decide +kernel
theorem dX7_bound_81 : decode cX7_bound 81 = .ok (.ireturn, 1) := by decide +kernel
theorem dX7_bound_82 : decode cX7_bound 82 = .ok (.aload_n 0, 1) := by decide +kernel
theorem dX7_bound_83 : decode cX7_bound 83 = .ok (.iload 4, 2) := by decide +kernel
theorem dX7_bound_85 : decode cX7_bound 85 = .ok (.iload 5, 2) := by decide +kernel
theorem dX7_bound_87 : decode cX7_bound 87 = .ok (.iconst 4, 1) := by decide +kernel
theorem dX7_bound_88 : decode cX7_bound 88 = .ok (.invokevirtual 31, 3) := by decide +kernel
theorem dX7_bound_91 : decode cX7_bound 91 = .ok (.ireturn, 1) := by decide +kernel
theorem dX7_bound_92 : decode cX7_bound 92 = .ok (.aload_n 0, 1) := by decide +kernel
theorem dX7_bound_93 : decode cX7_bound 93 = .ok (.iload 4, 2) := by decide +kernel
theorem dX7_bound_95 : decode cX7_bound 95 = .ok (.iload 5, 2) := by decide +kernel
theorem dX7_bound_97 : decode cX7_bound 97 = .ok (.invokevirtual 43, 3) := by decide +kernel
theorem dX7_bound_100 : decode cX7_bound 100 = .ok (.ifCond .eq 15, 3) := by decide +kernel
theorem dX7_bound_103 : decode cX7_bound 103 = .ok (.aload_n 0, 1) := by decide +kernel
theorem dX7_bound_104 : decode cX7_bound 104 = .ok (.iload 4, 2) := by decide +kernel
theorem dX7_bound_106 : decode cX7_bound 106 = .ok (.iload 5, 2) := by decide +kernel
theorem dX7_bound_108 : decode cX7_bound 108 = .ok (.iconst 2, 1) := by decide +kernel
theorem dX7_bound_109 : decode cX7_bound 109 = .ok (.invokevirtual 31, 3) := by decide +kernel
theorem dX7_bound_112 : decode cX7_bound 112 = .ok (.goto 5, 3) := by decide +kernel
theorem dX7_bound_115 : decode cX7_bound 115 = .ok (.bipush (-5), 2) := by decide +kernel
theorem dX7_bound_117 : decode cX7_bound 117 = .ok (.ireturn, 1) := by decide +kernel
theorem dX7_bound_118 : decode cX7_bound 118 = .ok (.aload_n 0, 1) := by decide +kernel
theorem dX7_bound_119 : decode cX7_bound 119 = .ok (.iload 4, 2) := by decide +kernel
theorem dX7_bound_121 : decode cX7_bound 121 = .ok (.iload 5, 2) := by decide +kernel
theorem dX7_bound_123 : decode cX7_bound 123 = .ok (.invokevirtual 43, 3) := by decide +kernel
theorem dX7_bound_126 : decode cX7_bound 126 = .ok (.ifCond .eq 15, 3) := by decide +kernel
theorem dX7_bound_129 : decode cX7_bound 129 = .ok (.aload_n 0, 1) := by decide +kernel
theorem dX7_bound_130 : decode cX7_bound 130 = .ok (.iload 4, 2) := by decide +kernel
theorem dX7_bound_132 : decode cX7_bound 132 = .ok (.iload 5, 2) := by decide +kernel
theorem dX7_bound_134 : decode cX7_bound 134 = .ok (.iconst 3, 1) := by decide +kernel
theorem dX7_bound_135 : decode cX7_bound 135 = .ok (.invokevirtual 31, 3) := by decide +kernel
theorem dX7_bound_138 : decode cX7_bound 138 = .ok (.goto 5, 3) := by decide +kernel
theorem dX7_bound_141 : decode cX7_bound 141 = .ok (.bipush (-5), 2) := by decide +kernel
theorem dX7_bound_143 : decode cX7_bound 143 = .ok (.ireturn, 1) := by decide +kernel
theorem dX7_bound_144 : decode cX7_bound 144 = .ok (.bipush (-2), 2) := by decide +kernel
theorem dX7_bound_146 : decode cX7_bound 146 = .ok (.ireturn, 1) := by decide +kernel
theorem dX7_top_0 : decode cX7_top 0 = .ok (.aload_n 0, 1) := by decide +kernel
theorem dX7_top_1 : decode cX7_top 1 = .ok (.iload_n 1, 1) := by decide +kernel
theorem dX7_top_2 : decode cX7_top 2 = .ok (.invokevirtual 157, 3) := by decide +kernel
theorem dX7_top_5 : decode cX7_top 5 = .ok (.istore 4, 2) := by decide +kernel
theorem dX7_top_7 : decode cX7_top 7 = .ok (.iload 4, 2) := by decide +kernel
theorem dX7_top_9 : decode cX7_top 9 = .ok (.bipush (-5), 2) := by decide +kernel
theorem dX7_top_11 : decode cX7_top 11 = .ok (.if_icmp .ne 5, 3) := by decide +kernel
theorem dX7_top_14 : decode cX7_top 14 = .ok (.iconst (-1), 1) := by decide +kernel
theorem dX7_top_15 : decode cX7_top 15 = .ok (.ireturn, 1) := by decide +kernel
theorem dX7_top_16 : decode cX7_top 16 = .ok (.iload_n 2, 1) := by decide +kernel
theorem dX7_top_17 : decode cX7_top 17 = .ok (.ifCond .lt 12, 3) := by decide +kernel
theorem dX7_top_20 : decode cX7_top 20 = .ok (.iload_n 3, 1) := by decide +kernel
theorem dX7_top_21 : decode cX7_top 21 = .ok (.iconst 0, 1) := by decide +kernel
theorem dX7_top_22 : decode cX7_top 22 = .ok (.iconst 1, 1) := by decide +kernel
theorem dX7_top_23 : decode cX7_top 23 = .ok (.invokestatic 35, 3) := by decide +kernel
theorem dX7_top_26 : decode cX7_top 26 = .ok (.ifCond .ne 6, 3) := by decide +kernel
theorem dX7_top_29 : decode cX7_top 29 = .ok (.bipush (-2), 2) := by decide +kernel
theorem dX7_top_31 : decode cX7_top 31 = .ok (.ireturn, 1) := by decide +kernel
theorem dX7_top_32 : decode cX7_top 32 = .ok (.iconst 0, 1) := by decide +kernel
theorem dX7_top_33 : decode cX7_top 33 = .ok (.istore 5, 2) := by decide +kernel
theorem dX7_top_35 : decode cX7_top 35 = .ok (.iload 5, 2) := by decide +kernel
theorem dX7_top_37 : decode cX7_top 37 = .ok (.bipush 26, 2) := by decide +kernel
theorem dX7_top_39 : decode cX7_top 39 = .ok (.if_icmp .ge 126, 3) := by decide +kernel
theorem dX7_top_42 : decode cX7_top 42 = .ok (.iconst 0, 1) := by decide +kernel
theorem dX7_top_43 : decode cX7_top 43 = .ok (.istore 6, 2) := by decide +kernel
theorem dX7_top_45 : decode cX7_top 45 = .ok (.iconst 0, 1) := by decide +kernel
theorem dX7_top_46 : decode cX7_top 46 = .ok (.istore 7, 2) := by decide +kernel
theorem dX7_top_48 : decode cX7_top 48 = .ok (.iload 7, 2) := by decide +kernel
theorem dX7_top_50 : decode cX7_top 50 = .ok (.bipush 26, 2) := by decide +kernel
theorem dX7_top_52 : decode cX7_top 52 = .ok (.if_icmp .ge 68, 3) := by decide +kernel
theorem dX7_top_55 : decode cX7_top 55 = .ok (.aload_n 0, 1) := by decide +kernel
theorem dX7_top_56 : decode cX7_top 56 = .ok (.iload 4, 2) := by decide +kernel
theorem dX7_top_58 : decode cX7_top 58 = .ok (.iload 7, 2) := by decide +kernel
theorem dX7_top_60 : decode cX7_top 60 = .ok (.iconst 1, 1) := by decide +kernel
theorem dX7_top_61 : decode cX7_top 61 = .ok (.invokevirtual 31, 3) := by decide +kernel
theorem dX7_top_64 : decode cX7_top 64 = .ok (.aload_n 0, 1) := by decide +kernel
theorem dX7_top_65 : decode cX7_top 65 = .ok (.iload 4, 2) := by decide +kernel
theorem dX7_top_67 : decode cX7_top 67 = .ok (.iload 5, 2) := by decide +kernel
theorem dX7_top_69 : decode cX7_top 69 = .ok (.iconst 1, 1) := by decide +kernel
theorem dX7_top_70 : decode cX7_top 70 = .ok (.invokevirtual 31, 3) := by decide +kernel
theorem dX7_top_73 : decode cX7_top 73 = .ok (.isub, 1) := by decide +kernel
theorem dX7_top_74 : decode cX7_top 74 = .ok (.istore 8, 2) := by decide +kernel
theorem dX7_top_76 : decode cX7_top 76 = .ok (.iload 6, 2) := by decide +kernel
theorem dX7_top_78 : decode cX7_top 78 = .ok (.aload_n 0, 1) := by decide +kernel
theorem dX7_top_79 : decode cX7_top 79 = .ok (.iload 4, 2) := by decide +kernel
theorem dX7_top_81 : decode cX7_top 81 = .ok (.iload 7, 2) := by decide +kernel
theorem dX7_top_83 : decode cX7_top 83 = .ok (.invokevirtual 43, 3) := by decide +kernel
theorem dX7_top_86 : decode cX7_top 86 = .ok (.ifCond .eq 24, 3) := by decide +kernel
theorem dX7_top_89 : decode cX7_top 89 = .ok (.iload 8, 2) := by decide +kernel
theorem dX7_top_91 : decode cX7_top 91 = .ok (.ifCond .gt 15, 3) := by decide +kernel
theorem dX7_top_94 : decode cX7_top 94 = .ok (.iload 8, 2) := by decide +kernel
theorem dX7_top_96 : decode cX7_top 96 = .ok (.ifCond .ne 14, 3) := by decide +kernel
theorem dX7_top_99 : decode cX7_top 99 = .ok (.iload 7, 2) := by decide +kernel
theorem dX7_top_101 : decode cX7_top 101 = .ok (.iload 5, 2) := by decide +kernel
theorem dX7_top_103 : decode cX7_top 103 = .ok (.if_icmp .ge 7, 3) := by decide +kernel
theorem dX7_top_106 : decode cX7_top 106 = .ok (.iconst 1, 1) := by decide +kernel
theorem dX7_top_107 : decode cX7_top 107 = .ok (.goto 4, 3) := by decide +kernel
theorem dX7_top_110 : decode cX7_top 110 = .ok (.iconst 0, 1) := by decide +kernel
theorem dX7_top_111 : decode cX7_top 111 = .ok (.iadd, 1) := by decide +kernel
theorem dX7_top_112 : decode cX7_top 112 = .ok (.istore 6, 2) := by decide +kernel
theorem dX7_top_114 : decode cX7_top 114 = .ok (.iinc 7 1, 3) := by decide +kernel
theorem dX7_top_117 : decode cX7_top 117 = .ok (.goto (-69), 3) := by decide +kernel
theorem dX7_top_120 : decode cX7_top 120 = .ok (.aload_n 0, 1) := by decide +kernel
theorem dX7_top_121 : decode cX7_top 121 = .ok (.iload 4, 2) := by decide +kernel
theorem dX7_top_123 : decode cX7_top 123 = .ok (.iload 5, 2) := by decide +kernel
theorem dX7_top_125 : decode cX7_top 125 = .ok (.invokevirtual 43, 3) := by decide +kernel
theorem dX7_top_128 : decode cX7_top 128 = .ok (.ifCond .eq 31, 3) := by decide +kernel
theorem dX7_top_131 : decode cX7_top 131 = .ok (.iload 6, 2) := by decide +kernel
theorem dX7_top_133 : decode cX7_top 133 = .ok (.iload_n 2, 1) := by decide +kernel
theorem dX7_top_134 : decode cX7_top 134 = .ok (.if_icmp .ne 25, 3) := by decide +kernel
theorem dX7_top_137 : decode cX7_top 137 = .ok (.iload_n 3, 1) := by decide +kernel
theorem dX7_top_138 : decode cX7_top 138 = .ok (.ifCond .ne 11, 3) := by decide +kernel
theorem dX7_top_141 : decode cX7_top 141 = .ok (.bipush 97, 2) := by decide +kernel
theorem dX7_top_143 : decode cX7_top 143 = .ok (.iload 5, 2) := by decide +kernel
theorem dX7_top_145 : decode cX7_top 145 = .ok (.iadd, 1) := by decide +kernel
theorem dX7_top_146 : decode cX7_top 146 = .ok (.goto 12, 3) := by decide +kernel
theorem dX7_top_149 : decode cX7_top 149 = .ok (.aload_n 0, 1) := by decide +kernel
theorem dX7_top_150 : decode cX7_top 150 = .ok (.iload 4, 2) := by decide +kernel
theorem dX7_top_152 : decode cX7_top 152 = .ok (.iload 5, 2) := by decide +kernel
theorem dX7_top_154 : decode cX7_top 154 = .ok (.iconst 1, 1) := by decide +kernel
theorem dX7_top_155 : decode cX7_top 155 = .ok (.invokevirtual 31, 3) := by decide +kernel
theorem dX7_top_158 : decode cX7_top 158 = .ok (.ireturn, 1) := by decide +kernel
theorem dX7_top_159 : decode cX7_top 159 = .ok (.iinc 5 1, 3) := by decide +kernel
theorem dX7_top_162 : decode cX7_top 162 = .ok (.goto (-127), 3) := by decide +kernel
theorem dX7_top_165 : decode cX7_top 165 = .ok (.bipush (-5), 2) := by decide +kernel
theorem dX7_top_167 : decode cX7_top 167 = .ok (.ireturn, 1) := by decide +kernel
theorem dX7_ahead_0 : decode cX7_ahead 0 = .ok (.iconst 0, 1) := by decide +kernel
theorem dX7_ahead_1 : decode cX7_ahead 1 = .ok (.istore 4, 2) := by decide +kernel
theorem dX7_ahead_3 : decode cX7_ahead 3 = .ok (.iconst 0, 1) := by decide +kernel
theorem dX7_ahead_4 : decode cX7_ahead 4 = .ok (.istore 5, 2) := by decide +kernel
theorem dX7_ahead_6 : decode cX7_ahead 6 = .ok (.iload 5, 2) := by decide +kernel
theorem dX7_ahead_8 : decode cX7_ahead 8 = .ok (.bipush 26, 2) := by decide +kernel
theorem dX7_ahead_10 : decode cX7_ahead 10 = .ok (.if_icmp .ge 81, 3) := by decide +kernel
theorem dX7_ahead_13 : decode cX7_ahead 13 = .ok (.iload_n 3, 1) := by decide +kernel
theorem dX7_ahead_14 : decode cX7_ahead 14 = .ok (.ifCond .eq 27, 3) := by decide +kernel
theorem dX7_ahead_17 : decode cX7_ahead 17 = .ok (.aload_n 0, 1) := by decide +kernel
theorem dX7_ahead_18 : decode cX7_ahead 18 = .ok (.iload_n 1, 1) := by decide +kernel
theorem dX7_ahead_19 : decode cX7_ahead 19 = .ok (.iload 5, 2) := by decide +kernel
theorem dX7_ahead_21 : decode cX7_ahead 21 = .ok (.invokevirtual 166, 3) := by decide +kernel
theorem dX7_ahead_24 : decode cX7_ahead 24 = .ok (.aload_n 0, 1) := by decide +kernel
theorem dX7_ahead_25 : decode cX7_ahead 25 = .ok (.iload_n 1, 1) := by decide +kernel
theorem dX7_ahead_26 : decode cX7_ahead 26 = .ok (.iload_n 2, 1) := by decide +kernel
theorem dX7_ahead_27 : decode cX7_ahead 27 = .ok (.invokevirtual 169, 3) := by decide +kernel
theorem dX7_ahead_30 : decode cX7_ahead 30 = .ok (.if_icmp .le 7, 3) := by decide +kernel
theorem dX7_ahead_33 : decode cX7_ahead 33 = .ok (.iconst 1, 1) := by decide +kernel
theorem dX7_ahead_34 : decode cX7_ahead 34 = .ok (.goto 28, 3) := by decide +kernel
theorem dX7_ahead_37 : decode cX7_ahead 37 = .ok (.iconst 0, 1) := by decide +kernel
theorem dX7_ahead_38 : decode cX7_ahead 38 = .ok (.goto 24, 3) := by decide +kernel
theorem dX7_ahead_41 : decode cX7_ahead 41 = .ok (.aload_n 0, 1) := by decide +kernel
theorem dX7_ahead_42 : decode cX7_ahead 42 = .ok (.iload_n 1, 1) := by decide +kernel
theorem dX7_ahead_43 : decode cX7_ahead 43 = .ok (.iload 5, 2) := by decide +kernel
theorem dX7_ahead_45 : decode cX7_ahead 45 = .ok (.invokevirtual 169, 3) := by decide +kernel
theorem dX7_ahead_48 : decode cX7_ahead 48 = .ok (.aload_n 0, 1) := by decide +kernel
theorem dX7_ahead_49 : decode cX7_ahead 49 = .ok (.iload_n 1, 1) := by decide +kernel
theorem dX7_ahead_50 : decode cX7_ahead 50 = .ok (.iload_n 2, 1) := by decide +kernel
theorem dX7_ahead_51 : decode cX7_ahead 51 = .ok (.invokevirtual 166, 3) := by decide +kernel
theorem dX7_ahead_54 : decode cX7_ahead 54 = .ok (.if_icmp .le 7, 3) := by decide +kernel
theorem dX7_ahead_57 : decode cX7_ahead 57 = .ok (.iconst 1, 1) := by decide +kernel
theorem dX7_ahead_58 : decode cX7_ahead 58 = .ok (.goto 4, 3) := by decide +kernel
theorem dX7_ahead_61 : decode cX7_ahead 61 = .ok (.iconst 0, 1) := by decide +kernel
theorem dX7_ahead_62 : decode cX7_ahead 62 = .ok (.istore 6, 2) := by decide +kernel
theorem dX7_ahead_64 : decode cX7_ahead 64 = .ok (.iload 4, 2) := by decide +kernel
theorem dX7_ahead_66 : decode cX7_ahead 66 = .ok (.iload 5, 2) := by decide +kernel
theorem dX7_ahead_68 : decode cX7_ahead 68 = .ok (.iload_n 2, 1) := by decide +kernel
theorem dX7_ahead_69 : decode cX7_ahead 69 = .ok (.if_icmp .eq 12, 3) := by decide +kernel
theorem dX7_ahead_72 : decode cX7_ahead 72 = .ok (.iload 6, 2) := by decide +kernel
theorem dX7_ahead_74 : decode cX7_ahead 74 = .ok (.ifCond .eq 7, 3) := by decide +kernel
theorem dX7_ahead_77 : decode cX7_ahead 77 = .ok (.iconst 1, 1) := by decide +kernel
theorem dX7_ahead_78 : decode cX7_ahead 78 = .ok (.goto 4, 3) := by decide +kernel
theorem dX7_ahead_81 : decode cX7_ahead 81 = .ok (.iconst 0, 1) := by decide +kernel
theorem dX7_ahead_82 : decode cX7_ahead 82 = .ok (.iadd, 1) := by decide +kernel
theorem dX7_ahead_83 : decode cX7_ahead 83 = .ok (.istore 4, 2) := by decide +kernel
theorem dX7_ahead_85 : decode cX7_ahead 85 = .ok (.iinc 5 1, 3) := by decide +kernel
theorem dX7_ahead_88 : decode cX7_ahead 88 = .ok (.goto (-82), 3) := by decide +kernel
theorem dX7_ahead_91 : decode cX7_ahead 91 = .ok (.iload 4, 2) := by decide +kernel
theorem dX7_ahead_93 : decode cX7_ahead 93 = .ok (.ireturn, 1) := by decide +kernel
theorem dX7_first_0 : decode cX7_first 0 = .ok (.aload_n 0, 1) := by decide +kernel
theorem dX7_first_1 : decode cX7_first 1 = .ok (.iload_n 1, 1) := by decide +kernel
theorem dX7_first_2 : decode cX7_first 2 = .ok (.invokevirtual 157, 3) := by decide +kernel
theorem dX7_first_5 : decode cX7_first 5 = .ok (.istore 4, 2) := by decide +kernel
theorem dX7_first_7 : decode cX7_first 7 = .ok (.iload 4, 2) := by decide +kernel
theorem dX7_first_9 : decode cX7_first 9 = .ok (.bipush (-5), 2) := by decide +kernel
theorem dX7_first_11 : decode cX7_first 11 = .ok (.if_icmp .ne 5, 3) := by decide +kernel
theorem dX7_first_14 : decode cX7_first 14 = .ok (.iconst (-1), 1) := by decide +kernel
theorem dX7_first_15 : decode cX7_first 15 = .ok (.ireturn, 1) := by decide +kernel
theorem dX7_first_16 : decode cX7_first 16 = .ok (.iload_n 2, 1) := by decide +kernel
theorem dX7_first_17 : decode cX7_first 17 = .ok (.iconst 1, 1) := by decide +kernel
theorem dX7_first_18 : decode cX7_first 18 = .ok (.bipush 25, 2) := by decide +kernel
theorem dX7_first_20 : decode cX7_first 20 = .ok (.invokestatic 35, 3) := by decide +kernel
theorem dX7_first_23 : decode cX7_first 23 = .ok (.ifCond .ne 6, 3) := by decide +kernel
theorem dX7_first_26 : decode cX7_first 26 = .ok (.bipush (-2), 2) := by decide +kernel
theorem dX7_first_28 : decode cX7_first 28 = .ok (.ireturn, 1) := by decide +kernel
theorem dX7_first_29 : decode cX7_first 29 = .ok (.iconst 0, 1) := by decide +kernel
theorem dX7_first_30 : decode cX7_first 30 = .ok (.istore 5, 2) := by decide +kernel
theorem dX7_first_32 : decode cX7_first 32 = .ok (.iconst 0, 1) := by decide +kernel
theorem dX7_first_33 : decode cX7_first 33 = .ok (.istore 6, 2) := by decide +kernel
theorem dX7_first_35 : decode cX7_first 35 = .ok (.iload 6, 2) := by decide +kernel
theorem dX7_first_37 : decode cX7_first 37 = .ok (.bipush 26, 2) := by decide +kernel
theorem dX7_first_39 : decode cX7_first 39 = .ok (.if_icmp .ge 35, 3) := by decide +kernel
theorem dX7_first_42 : decode cX7_first 42 = .ok (.iload 5, 2) := by decide +kernel
theorem dX7_first_44 : decode cX7_first 44 = .ok (.aload_n 0, 1) := by decide +kernel
theorem dX7_first_45 : decode cX7_first 45 = .ok (.iload 4, 2) := by decide +kernel
theorem dX7_first_47 : decode cX7_first 47 = .ok (.iload 6, 2) := by decide +kernel
theorem dX7_first_49 : decode cX7_first 49 = .ok (.iload_n 3, 1) := by decide +kernel
theorem dX7_first_50 : decode cX7_first 50 = .ok (.invokevirtual 172, 3) := by decide +kernel
theorem dX7_first_53 : decode cX7_first 53 = .ok (.iload_n 2, 1) := by decide +kernel
theorem dX7_first_54 : decode cX7_first 54 = .ok (.if_icmp .ge 10, 3) := by decide +kernel
theorem dX7_first_57 : decode cX7_first 57 = .ok (.iconst 1, 1) := by decide +kernel
theorem dX7_first_58 : decode cX7_first 58 = .ok (.iload 6, 2) := by decide +kernel
theorem dX7_first_60 : decode cX7_first 60 = .ok (.ishl, 1) := by decide +kernel
theorem dX7_first_61 : decode cX7_first 61 = .ok (.goto 4, 3) := by decide +kernel
theorem dX7_first_64 : decode cX7_first 64 = .ok (.iconst 0, 1) := by decide +kernel
theorem dX7_first_65 : decode cX7_first 65 = .ok (.ior, 1) := by decide +kernel
theorem dX7_first_66 : decode cX7_first 66 = .ok (.istore 5, 2) := by decide +kernel
theorem dX7_first_68 : decode cX7_first 68 = .ok (.iinc 6 1, 3) := by decide +kernel
theorem dX7_first_71 : decode cX7_first 71 = .ok (.goto (-36), 3) := by decide +kernel
theorem dX7_first_74 : decode cX7_first 74 = .ok (.iload 5, 2) := by decide +kernel
theorem dX7_first_76 : decode cX7_first 76 = .ok (.ireturn, 1) := by decide +kernel
theorem dX7_above_0 : decode cX7_above 0 = .ok (.aload_n 0, 1) := by decide +kernel
theorem dX7_above_1 : decode cX7_above 1 = .ok (.iload_n 1, 1) := by decide +kernel
theorem dX7_above_2 : decode cX7_above 2 = .ok (.invokevirtual 157, 3) := by decide +kernel
theorem dX7_above_5 : decode cX7_above 5 = .ok (.istore 4, 2) := by decide +kernel
theorem dX7_above_7 : decode cX7_above 7 = .ok (.iload 4, 2) := by decide +kernel
theorem dX7_above_9 : decode cX7_above 9 = .ok (.bipush (-5), 2) := by decide +kernel
theorem dX7_above_11 : decode cX7_above 11 = .ok (.if_icmp .ne 5, 3) := by decide +kernel
theorem dX7_above_14 : decode cX7_above 14 = .ok (.iconst (-1), 1) := by decide +kernel
theorem dX7_above_15 : decode cX7_above 15 = .ok (.ireturn, 1) := by decide +kernel
theorem dX7_above_16 : decode cX7_above 16 = .ok (.iload_n 2, 1) := by decide +kernel
theorem dX7_above_17 : decode cX7_above 17 = .ok (.iconst 1, 1) := by decide +kernel
theorem dX7_above_18 : decode cX7_above 18 = .ok (.bipush 99, 2) := by decide +kernel
theorem dX7_above_20 : decode cX7_above 20 = .ok (.invokestatic 35, 3) := by decide +kernel
theorem dX7_above_23 : decode cX7_above 23 = .ok (.ifCond .ne 6, 3) := by decide +kernel
theorem dX7_above_26 : decode cX7_above 26 = .ok (.bipush (-2), 2) := by decide +kernel
theorem dX7_above_28 : decode cX7_above 28 = .ok (.ireturn, 1) := by decide +kernel
theorem dX7_above_29 : decode cX7_above 29 = .ok (.iconst 0, 1) := by decide +kernel
theorem dX7_above_30 : decode cX7_above 30 = .ok (.istore 5, 2) := by decide +kernel
theorem dX7_above_32 : decode cX7_above 32 = .ok (.iconst 0, 1) := by decide +kernel
theorem dX7_above_33 : decode cX7_above 33 = .ok (.istore 6, 2) := by decide +kernel
theorem dX7_above_35 : decode cX7_above 35 = .ok (.iload 6, 2) := by decide +kernel
theorem dX7_above_37 : decode cX7_above 37 = .ok (.bipush 26, 2) := by decide +kernel
theorem dX7_above_39 : decode cX7_above 39 = .ok (.if_icmp .ge 64, 3) := by decide +kernel
theorem dX7_above_42 : decode cX7_above 42 = .ok (.iload_n 3, 1) := by decide +kernel
theorem dX7_above_43 : decode cX7_above 43 = .ok (.ifCond .eq 14, 3) := by decide +kernel
theorem dX7_above_46 : decode cX7_above 46 = .ok (.aload_n 0, 1) := by decide +kernel
theorem dX7_above_47 : decode cX7_above 47 = .ok (.iload 4, 2) := by decide +kernel
theorem dX7_above_49 : decode cX7_above 49 = .ok (.iload 6, 2) := by decide +kernel
theorem dX7_above_51 : decode cX7_above 51 = .ok (.invokevirtual 169, 3) := by decide +kernel
theorem dX7_above_54 : decode cX7_above 54 = .ok (.goto 11, 3) := by decide +kernel
theorem dX7_above_57 : decode cX7_above 57 = .ok (.aload_n 0, 1) := by decide +kernel
theorem dX7_above_58 : decode cX7_above 58 = .ok (.iload 4, 2) := by decide +kernel
theorem dX7_above_60 : decode cX7_above 60 = .ok (.iload 6, 2) := by decide +kernel
theorem dX7_above_62 : decode cX7_above 62 = .ok (.invokevirtual 166, 3) := by decide +kernel
theorem dX7_above_65 : decode cX7_above 65 = .ok (.istore 7, 2) := by decide +kernel
theorem dX7_above_67 : decode cX7_above 67 = .ok (.iload 5, 2) := by decide +kernel
theorem dX7_above_69 : decode cX7_above 69 = .ok (.iload 7, 2) := by decide +kernel
theorem dX7_above_71 : decode cX7_above 71 = .ok (.bipush 100, 2) := by decide +kernel
theorem dX7_above_73 : decode cX7_above 73 = .ok (.imul, 1) := by decide +kernel
theorem dX7_above_74 : decode cX7_above 74 = .ok (.iload_n 2, 1) := by decide +kernel
theorem dX7_above_75 : decode cX7_above 75 = .ok (.aload_n 0, 1) := by decide +kernel
theorem dX7_above_76 : decode cX7_above 76 = .ok (.iload 4, 2) := by decide +kernel
theorem dX7_above_78 : decode cX7_above 78 = .ok (.iconst 2, 1) := by decide +kernel
theorem dX7_above_79 : decode cX7_above 79 = .ok (.invokevirtual 47, 3) := by decide +kernel
theorem dX7_above_82 : decode cX7_above 82 = .ok (.imul, 1) := by decide +kernel
theorem dX7_above_83 : decode cX7_above 83 = .ok (.if_icmp .le 10, 3) := by decide +kernel
theorem dX7_above_86 : decode cX7_above 86 = .ok (.iconst 1, 1) := by decide +kernel
theorem dX7_above_87 : decode cX7_above 87 = .ok (.iload 6, 2) := by decide +kernel
theorem dX7_above_89 : decode cX7_above 89 = .ok (.ishl, 1) := by decide +kernel
theorem dX7_above_90 : decode cX7_above 90 = .ok (.goto 4, 3) := by decide +kernel
theorem dX7_above_93 : decode cX7_above 93 = .ok (.iconst 0, 1) := by decide +kernel
theorem dX7_above_94 : decode cX7_above 94 = .ok (.ior, 1) := by decide +kernel
theorem dX7_above_95 : decode cX7_above 95 = .ok (.istore 5, 2) := by decide +kernel
theorem dX7_above_97 : decode cX7_above 97 = .ok (.iinc 6 1, 3) := by decide +kernel
theorem dX7_above_100 : decode cX7_above 100 = .ok (.goto (-65), 3) := by decide +kernel
theorem dX7_above_103 : decode cX7_above 103 = .ok (.iload 5, 2) := by decide +kernel
theorem dX7_above_105 : decode cX7_above 105 = .ok (.ireturn, 1) := by decide +kernel
theorem dX7_rank_0 : decode cX7_rank 0 = .ok (.aload_n 0, 1) := by decide +kernel
theorem dX7_rank_1 : decode cX7_rank 1 = .ok (.iload_n 1, 1) := by decide +kernel
theorem dX7_rank_2 : decode cX7_rank 2 = .ok (.invokevirtual 157, 3) := by decide +kernel
theorem dX7_rank_5 : decode cX7_rank 5 = .ok (.istore 4, 2) := by decide +kernel
theorem dX7_rank_7 : decode cX7_rank 7 = .ok (.iload 4, 2) := by decide +kernel
theorem dX7_rank_9 : decode cX7_rank 9 = .ok (.bipush (-5), 2) := by decide +kernel
theorem dX7_rank_11 : decode cX7_rank 11 = .ok (.if_icmp .eq 10, 3) := by decide +kernel
theorem dX7_rank_14 : decode cX7_rank 14 = .ok (.iload_n 2, 1) := by decide +kernel
theorem dX7_rank_15 : decode cX7_rank 15 = .ok (.invokestatic 76, 3) := by decide +kernel
theorem dX7_rank_18 : decode cX7_rank 18 = .ok (.ifCond .ne 5, 3) := by decide +kernel
theorem dX7_rank_21 : decode cX7_rank 21 = .ok (.iconst (-1), 1) := by decide +kernel
theorem dX7_rank_22 : decode cX7_rank 22 = .ok (.ireturn, 1) := by decide +kernel
theorem dX7_rank_23 : decode cX7_rank 23 = .ok (.iconst 1, 1) := by decide +kernel
theorem dX7_rank_24 : decode cX7_rank 24 = .ok (.aload_n 0, 1) := by decide +kernel
theorem dX7_rank_25 : decode cX7_rank 25 = .ok (.iload 4, 2) := by decide +kernel
theorem dX7_rank_27 : decode cX7_rank 27 = .ok (.iload_n 2, 1) := by decide +kernel
theorem dX7_rank_28 : decode cX7_rank 28 = .ok (.bipush 97, 2) := by decide +kernel
theorem dX7_rank_30 : decode cX7_rank 30 = .ok (.isub, 1) := by decide +kernel
theorem dX7_rank_31 : decode cX7_rank 31 = .ok (.iload_n 3, 1) := by decide +kernel
theorem dX7_rank_32 : decode cX7_rank 32 = .ok (.invokevirtual 172, 3) := by decide +kernel
theorem dX7_rank_35 : decode cX7_rank 35 = .ok (.iadd, 1) := by decide +kernel
theorem dX7_rank_36 : decode cX7_rank 36 = .ok (.ireturn, 1) := by decide +kernel
theorem dX7_alike_0 : decode cX7_alike 0 = .ok (.aload_n 0, 1) := by decide +kernel
theorem dX7_alike_1 : decode cX7_alike 1 = .ok (.iload_n 1, 1) := by decide +kernel
theorem dX7_alike_2 : decode cX7_alike 2 = .ok (.invokevirtual 157, 3) := by decide +kernel
theorem dX7_alike_5 : decode cX7_alike 5 = .ok (.istore_n 3, 1) := by decide +kernel
theorem dX7_alike_6 : decode cX7_alike 6 = .ok (.aload_n 0, 1) := by decide +kernel
theorem dX7_alike_7 : decode cX7_alike 7 = .ok (.iload_n 2, 1) := by decide +kernel
theorem dX7_alike_8 : decode cX7_alike 8 = .ok (.invokevirtual 157, 3) := by decide +kernel
theorem dX7_alike_11 : decode cX7_alike 11 = .ok (.istore 4, 2) := by decide +kernel
theorem dX7_alike_13 : decode cX7_alike 13 = .ok (.iload_n 3, 1) := by decide +kernel
theorem dX7_alike_14 : decode cX7_alike 14 = .ok (.bipush (-5), 2) := by decide +kernel
theorem dX7_alike_16 : decode cX7_alike 16 = .ok (.if_icmp .eq 10, 3) := by decide +kernel
theorem dX7_alike_19 : decode cX7_alike 19 = .ok (.iload 4, 2) := by decide +kernel
theorem dX7_alike_21 : decode cX7_alike 21 = .ok (.bipush (-5), 2) := by decide +kernel
theorem dX7_alike_23 : decode cX7_alike 23 = .ok (.if_icmp .ne 5, 3) := by decide +kernel
theorem dX7_alike_26 : decode cX7_alike 26 = .ok (.iconst (-1), 1) := by decide +kernel
theorem dX7_alike_27 : decode cX7_alike 27 = .ok (.ireturn, 1) := by decide +kernel
theorem dX7_alike_28 : decode cX7_alike 28 = .ok (.iconst 0, 1) := by decide +kernel
theorem dX7_alike_29 : decode cX7_alike 29 = .ok (.istore 5, 2) := by decide +kernel
theorem dX7_alike_31 : decode cX7_alike 31 = .ok (.iconst 0, 1) := by decide +kernel
theorem dX7_alike_32 : decode cX7_alike 32 = .ok (.istore 6, 2) := by decide +kernel
theorem dX7_alike_34 : decode cX7_alike 34 = .ok (.iload 6, 2) := by decide +kernel
theorem dX7_alike_36 : decode cX7_alike 36 = .ok (.bipush 26, 2) := by decide +kernel
theorem dX7_alike_38 : decode cX7_alike 38 = .ok (.if_icmp .ge 55, 3) := by decide +kernel
theorem dX7_alike_41 : decode cX7_alike 41 = .ok (.iload 5, 2) := by decide +kernel
theorem dX7_alike_43 : decode cX7_alike 43 = .ok (.aload_n 0, 1) := by decide +kernel
theorem dX7_alike_44 : decode cX7_alike 44 = .ok (.iload_n 3, 1) := by decide +kernel
theorem dX7_alike_45 : decode cX7_alike 45 = .ok (.iload 6, 2) := by decide +kernel
theorem dX7_alike_47 : decode cX7_alike 47 = .ok (.invokevirtual 169, 3) := by decide +kernel
theorem dX7_alike_50 : decode cX7_alike 50 = .ok (.aload_n 0, 1) := by decide +kernel
theorem dX7_alike_51 : decode cX7_alike 51 = .ok (.iload 4, 2) := by decide +kernel
theorem dX7_alike_53 : decode cX7_alike 53 = .ok (.iload 6, 2) := by decide +kernel
theorem dX7_alike_55 : decode cX7_alike 55 = .ok (.invokevirtual 166, 3) := by decide +kernel
theorem dX7_alike_58 : decode cX7_alike 58 = .ok (.if_icmp .gt 25, 3) := by decide +kernel
theorem dX7_alike_61 : decode cX7_alike 61 = .ok (.aload_n 0, 1) := by decide +kernel
theorem dX7_alike_62 : decode cX7_alike 62 = .ok (.iload 4, 2) := by decide +kernel
theorem dX7_alike_64 : decode cX7_alike 64 = .ok (.iload 6, 2) := by decide +kernel
theorem dX7_alike_66 : decode cX7_alike 66 = .ok (.invokevirtual 169, 3) := by decide +kernel
theorem dX7_alike_69 : decode cX7_alike 69 = .ok (.aload_n 0, 1) := by decide +kernel
theorem dX7_alike_70 : decode cX7_alike 70 = .ok (.iload_n 3, 1) := by decide +kernel
theorem dX7_alike_71 : decode cX7_alike 71 = .ok (.iload 6, 2) := by decide +kernel
theorem dX7_alike_73 : decode cX7_alike 73 = .ok (.invokevirtual 166, 3) := by decide +kernel
theorem dX7_alike_76 : decode cX7_alike 76 = .ok (.if_icmp .gt 7, 3) := by decide +kernel
theorem dX7_alike_79 : decode cX7_alike 79 = .ok (.iconst 1, 1) := by decide +kernel
theorem dX7_alike_80 : decode cX7_alike 80 = .ok (.goto 4, 3) := by decide +kernel
theorem dX7_alike_83 : decode cX7_alike 83 = .ok (.iconst 0, 1) := by decide +kernel
theorem dX7_alike_84 : decode cX7_alike 84 = .ok (.iadd, 1) := by decide +kernel
theorem dX7_alike_85 : decode cX7_alike 85 = .ok (.istore 5, 2) := by decide +kernel
theorem dX7_alike_87 : decode cX7_alike 87 = .ok (.iinc 6 1, 3) := by decide +kernel
theorem dX7_alike_90 : decode cX7_alike 90 = .ok (.goto (-56), 3) := by decide +kernel
theorem dX7_alike_93 : decode cX7_alike 93 = .ok (.iload 5, 2) := by decide +kernel
theorem dX7_alike_95 : decode cX7_alike 95 = .ok (.ireturn, 1) := by decide +kernel
theorem dX7_wouldEvict_0 : decode cX7_wouldEvict 0 = .ok (.iload_n 1, 1) := by decide +kernel
theorem dX7_wouldEvict_1 : decode cX7_wouldEvict 1 = .ok (.invokestatic 72, 3) := by decide +kernel
theorem dX7_wouldEvict_4 : decode cX7_wouldEvict 4 = .ok (.ifCond .eq 10, 3) := by decide +kernel
theorem dX7_wouldEvict_7 : decode cX7_wouldEvict 7 = .ok (.iload_n 2, 1) := by decide +kernel
theorem dX7_wouldEvict_8 : decode cX7_wouldEvict 8 = .ok (.invokestatic 76, 3) := by decide +kernel
theorem dX7_wouldEvict_11 : decode cX7_wouldEvict 11 = .ok (.ifCond .ne 5, 3) := by decide +kernel
theorem dX7_wouldEvict_14 : decode cX7_wouldEvict 14 = .ok (.iconst (-1), 1) := by decide +kernel
theorem dX7_wouldEvict_15 : decode cX7_wouldEvict 15 = .ok (.ireturn, 1) := by decide +kernel
theorem dX7_wouldEvict_16 : decode cX7_wouldEvict 16 = .ok (.aload_n 0, 1) := by decide +kernel
theorem dX7_wouldEvict_17 : decode cX7_wouldEvict 17 = .ok (.iload_n 1, 1) := by decide +kernel
theorem dX7_wouldEvict_18 : decode cX7_wouldEvict 18 = .ok (.iload_n 2, 1) := by decide +kernel
theorem dX7_wouldEvict_19 : decode cX7_wouldEvict 19 = .ok (.bipush 97, 2) := by decide +kernel
theorem dX7_wouldEvict_21 : decode cX7_wouldEvict 21 = .ok (.isub, 1) := by decide +kernel
theorem dX7_wouldEvict_22 : decode cX7_wouldEvict 22 = .ok (.invokevirtual 43, 3) := by decide +kernel
theorem dX7_wouldEvict_25 : decode cX7_wouldEvict 25 = .ok (.ifCond .ne 21, 3) := by decide +kernel
theorem dX7_wouldEvict_28 : decode cX7_wouldEvict 28 = .ok (.aload_n 0, 1) := by decide +kernel
theorem dX7_wouldEvict_29 : decode cX7_wouldEvict 29 = .ok (.iload_n 1, 1) := by decide +kernel
theorem dX7_wouldEvict_30 : decode cX7_wouldEvict 30 = .ok (.invokevirtual 65, 3) := by decide +kernel
theorem dX7_wouldEvict_33 : decode cX7_wouldEvict 33 = .ok (.aload_n 0, 1) := by decide +kernel
theorem dX7_wouldEvict_34 : decode cX7_wouldEvict 34 = .ok (.iload_n 1, 1) := by decide +kernel
theorem dX7_wouldEvict_35 : decode cX7_wouldEvict 35 = .ok (.iconst 0, 1) := by decide +kernel
theorem dX7_wouldEvict_36 : decode cX7_wouldEvict 36 = .ok (.invokevirtual 47, 3) := by decide +kernel
theorem dX7_wouldEvict_39 : decode cX7_wouldEvict 39 = .ok (.if_icmp .ne 7, 3) := by decide +kernel
theorem dX7_wouldEvict_42 : decode cX7_wouldEvict 42 = .ok (.iconst 1, 1) := by decide +kernel
theorem dX7_wouldEvict_43 : decode cX7_wouldEvict 43 = .ok (.goto 4, 3) := by decide +kernel
theorem dX7_wouldEvict_46 : decode cX7_wouldEvict 46 = .ok (.iconst 0, 1) := by decide +kernel
theorem dX7_wouldEvict_47 : decode cX7_wouldEvict 47 = .ok (.istore_n 3, 1) := by decide +kernel
theorem dX7_wouldEvict_48 : decode cX7_wouldEvict 48 = .ok (.iload_n 3, 1) := by decide +kernel
theorem dX7_wouldEvict_49 : decode cX7_wouldEvict 49 = .ok (.ifCond .eq 14, 3) := by decide +kernel
theorem dX7_wouldEvict_52 : decode cX7_wouldEvict 52 = .ok (.bipush 97, 2) := by decide +kernel
theorem dX7_wouldEvict_54 : decode cX7_wouldEvict 54 = .ok (.aload_n 0, 1) := by decide +kernel
theorem dX7_wouldEvict_55 : decode cX7_wouldEvict 55 = .ok (.iload_n 1, 1) := by decide +kernel
theorem dX7_wouldEvict_56 : decode cX7_wouldEvict 56 = .ok (.invokevirtual 55, 3) := by decide +kernel
theorem dX7_wouldEvict_59 : decode cX7_wouldEvict 59 = .ok (.iadd, 1) := by decide +kernel
theorem dX7_wouldEvict_60 : decode cX7_wouldEvict 60 = .ok (.goto 5, 3) := by decide +kernel
theorem dX7_wouldEvict_63 : decode cX7_wouldEvict 63 = .ok (.bipush (-5), 2) := by decide +kernel
theorem dX7_wouldEvict_65 : decode cX7_wouldEvict 65 = .ok (.ireturn, 1) := by decide +kernel
theorem dX7_block_0 : decode cX7_block 0 = .ok (.iload_n 1, 1) := by decide +kernel
theorem dX7_block_1 : decode cX7_block 1 = .ok (.iconst 0, 1) := by decide +kernel
theorem dX7_block_2 : decode cX7_block 2 = .ok (.aload_n 0, 1) := by decide +kernel
theorem dX7_block_3 : decode cX7_block 3 = .ok (.getfield 7, 3) := by decide +kernel
theorem dX7_block_6 : decode cX7_block 6 = .ok (.sipush 1076, 3) := by decide +kernel
theorem dX7_block_9 : decode cX7_block 9 = .ok (.iaload, 1) := by decide +kernel
theorem dX7_block_10 : decode cX7_block 10 = .ok (.iconst 1, 1) := by decide +kernel
theorem dX7_block_11 : decode cX7_block 11 = .ok (.isub, 1) := by decide +kernel
theorem dX7_block_12 : decode cX7_block 12 = .ok (.invokestatic 35, 3) := by decide +kernel
theorem dX7_block_15 : decode cX7_block 15 = .ok (.ifCond .ne 5, 3) := by decide +kernel
theorem dX7_block_18 : decode cX7_block 18 = .ok (.iconst (-1), 1) := by decide +kernel
theorem dX7_block_19 : decode cX7_block 19 = .ok (.ireturn, 1) := by decide +kernel
theorem dX7_block_20 : decode cX7_block 20 = .ok (.iconst 4, 1) := by decide +kernel
theorem dX7_block_21 : decode cX7_block 21 = .ok (.iload_n 1, 1) := by decide +kernel
theorem dX7_block_22 : decode cX7_block 22 = .ok (.iadd, 1) := by decide +kernel
theorem dX7_block_23 : decode cX7_block 23 = .ok (.istore_n 3, 1) := by decide +kernel
theorem dX7_block_24 : decode cX7_block 24 = .ok (.iload_n 2, 1) := by decide +kernel
theorem dX7_block_25 : decode cX7_block 25 = .ok (.tableswitch 58 0 3 #[31, 38, 45, 51], 31) := by decide +kernel
theorem dX7_block_56 : decode cX7_block 56 = .ok (.aload_n 0, 1) := by decide +kernel
theorem dX7_block_57 : decode cX7_block 57 = .ok (.iload_n 3, 1) := by decide +kernel
theorem dX7_block_58 : decode cX7_block 58 = .ok (.iconst 3, 1) := by decide +kernel
theorem dX7_block_59 : decode cX7_block 59 = .ok (.invokevirtual 47, 3) := by decide +kernel
theorem dX7_block_62 : decode cX7_block 62 = .ok (.ireturn, 1) := by decide +kernel
theorem dX7_block_63 : decode cX7_block 63 = .ok (.aload_n 0, 1) := by decide +kernel
theorem dX7_block_64 : decode cX7_block 64 = .ok (.iload_n 3, 1) := by decide +kernel
theorem dX7_block_65 : decode cX7_block 65 = .ok (.iconst 2, 1) := by decide +kernel
theorem dX7_block_66 : decode cX7_block 66 = .ok (.invokevirtual 47, 3) := by decide +kernel
theorem dX7_block_69 : decode cX7_block 69 = .ok (.ireturn, 1) := by decide +kernel
theorem dX7_block_70 : decode cX7_block 70 = .ok (.aload_n 0, 1) := by decide +kernel
theorem dX7_block_71 : decode cX7_block 71 = .ok (.iload_n 3, 1) := by decide +kernel
theorem dX7_block_72 : decode cX7_block 72 = .ok (.invokevirtual 65, 3) := by decide +kernel
theorem dX7_block_75 : decode cX7_block 75 = .ok (.ireturn, 1) := by decide +kernel
theorem dX7_block_76 : decode cX7_block 76 = .ok (.aload_n 0, 1) := by decide +kernel
theorem dX7_block_77 : decode cX7_block 77 = .ok (.iload_n 3, 1) := by decide +kernel
theorem dX7_block_78 : decode cX7_block 78 = .ok (.iconst 1, 1) := by decide +kernel
theorem dX7_block_79 : decode cX7_block 79 = .ok (.invokevirtual 47, 3) := by decide +kernel
theorem dX7_block_82 : decode cX7_block 82 = .ok (.ireturn, 1) := by decide +kernel
theorem dX7_block_83 : decode cX7_block 83 = .ok (.bipush (-2), 2) := by decide +kernel
theorem dX7_block_85 : decode cX7_block 85 = .ok (.ireturn, 1) := by decide +kernel
theorem dX7_event_0 : decode cX7_event 0 = .ok (.iload_n 1, 1) := by decide +kernel
theorem dX7_event_1 : decode cX7_event 1 = .ok (.ifCond .lt 12, 3) := by decide +kernel
theorem dX7_event_4 : decode cX7_event 4 = .ok (.iload_n 2, 1) := by decide +kernel
theorem dX7_event_5 : decode cX7_event 5 = .ok (.iconst 0, 1) := by decide +kernel
theorem dX7_event_6 : decode cX7_event 6 = .ok (.iconst 3, 1) := by decide +kernel
theorem dX7_event_7 : decode cX7_event 7 = .ok (.invokestatic 35, 3) := by decide +kernel
theorem dX7_event_10 : decode cX7_event 10 = .ok (.ifCond .ne 6, 3) := by decide +kernel
theorem dX7_event_13 : decode cX7_event 13 = .ok (.bipush (-2), 2) := by decide +kernel
theorem dX7_event_15 : decode cX7_event 15 = .ok (.ireturn, 1) := by decide +kernel
theorem dX7_event_16 : decode cX7_event 16 = .ok (.iload_n 1, 1) := by decide +kernel
theorem dX7_event_17 : decode cX7_event 17 = .ok (.aload_n 0, 1) := by decide +kernel
theorem dX7_event_18 : decode cX7_event 18 = .ok (.getfield 7, 3) := by decide +kernel
theorem dX7_event_21 : decode cX7_event 21 = .ok (.sipush 1077, 3) := by decide +kernel
theorem dX7_event_24 : decode cX7_event 24 = .ok (.iaload, 1) := by decide +kernel
theorem dX7_event_25 : decode cX7_event 25 = .ok (.if_icmp .ge 31, 3) := by decide +kernel
theorem dX7_event_28 : decode cX7_event 28 = .ok (.aload_n 0, 1) := by decide +kernel
theorem dX7_event_29 : decode cX7_event 29 = .ok (.getfield 7, 3) := by decide +kernel
theorem dX7_event_32 : decode cX7_event 32 = .ok (.sipush 1078, 3) := by decide +kernel
theorem dX7_event_35 : decode cX7_event 35 = .ok (.iconst 4, 1) := by decide +kernel
theorem dX7_event_36 : decode cX7_event 36 = .ok (.aload_n 0, 1) := by decide +kernel
theorem dX7_event_37 : decode cX7_event 37 = .ok (.getfield 7, 3) := by decide +kernel
theorem dX7_event_40 : decode cX7_event 40 = .ok (.sipush 1077, 3) := by decide +kernel
theorem dX7_event_43 : decode cX7_event 43 = .ok (.iaload, 1) := by decide +kernel
theorem dX7_event_44 : decode cX7_event 44 = .ok (.iconst 1, 1) := by decide +kernel
theorem dX7_event_45 : decode cX7_event 45 = .ok (.isub, 1) := by decide +kernel
theorem dX7_event_46 : decode cX7_event 46 = .ok (.iload_n 1, 1) := by decide +kernel
theorem dX7_event_47 : decode cX7_event 47 = .ok (.isub, 1) := by decide +kernel
theorem dX7_event_48 : decode cX7_event 48 = .ok (.imul, 1) := by decide +kernel
theorem dX7_event_49 : decode cX7_event 49 = .ok (.iadd, 1) := by decide +kernel
theorem dX7_event_50 : decode cX7_event 50 = .ok (.iload_n 2, 1) := by decide +kernel
theorem dX7_event_51 : decode cX7_event 51 = .ok (.iadd, 1) := by decide +kernel
theorem dX7_event_52 : decode cX7_event 52 = .ok (.iaload, 1) := by decide +kernel
theorem dX7_event_53 : decode cX7_event 53 = .ok (.goto 5, 3) := by decide +kernel
theorem dX7_event_56 : decode cX7_event 56 = .ok (.bipush (-5), 2) := by decide +kernel
theorem dX7_event_58 : decode cX7_event 58 = .ok (.ireturn, 1) := by decide +kernel
theorem dX7_count_0 : decode cX7_count 0 = .ok (.iload_n 1, 1) := by decide +kernel
theorem dX7_count_1 : decode cX7_count 1 = .ok (.tableswitch 78 0 7 #[47, 47, 47, 47, 47, 58, 68, 73], 47) := by decide +kernel
theorem dX7_count_48 : decode cX7_count 48 = .ok (.aload_n 0, 1) := by decide +kernel
theorem dX7_count_49 : decode cX7_count 49 = .ok (.getfield 7, 3) := by decide +kernel
theorem dX7_count_52 : decode cX7_count 52 = .ok (.sipush 1072, 3) := by decide +kernel
theorem dX7_count_55 : decode cX7_count 55 = .ok (.iload_n 1, 1) := by decide +kernel
theorem dX7_count_56 : decode cX7_count 56 = .ok (.iadd, 1) := by decide +kernel
theorem dX7_count_57 : decode cX7_count 57 = .ok (.iaload, 1) := by decide +kernel
theorem dX7_count_58 : decode cX7_count 58 = .ok (.ireturn, 1) := by decide +kernel
theorem dX7_count_59 : decode cX7_count 59 = .ok (.aload_n 0, 1) := by decide +kernel
theorem dX7_count_60 : decode cX7_count 60 = .ok (.aload_n 0, 1) := by decide +kernel
theorem dX7_count_61 : decode cX7_count 61 = .ok (.invokevirtual 87, 3) := by decide +kernel
theorem dX7_count_64 : decode cX7_count 64 = .ok (.iconst 3, 1) := by decide +kernel
theorem dX7_count_65 : decode cX7_count 65 = .ok (.invokevirtual 47, 3) := by decide +kernel
theorem dX7_count_68 : decode cX7_count 68 = .ok (.ireturn, 1) := by decide +kernel
theorem dX7_count_69 : decode cX7_count 69 = .ok (.aload_n 0, 1) := by decide +kernel
theorem dX7_count_70 : decode cX7_count 70 = .ok (.getfield 39, 3) := by decide +kernel
theorem dX7_count_73 : decode cX7_count 73 = .ok (.ireturn, 1) := by decide +kernel
theorem dX7_count_74 : decode cX7_count 74 = .ok (.aload_n 0, 1) := by decide +kernel
theorem dX7_count_75 : decode cX7_count 75 = .ok (.getfield 103, 3) := by decide +kernel
theorem dX7_count_78 : decode cX7_count 78 = .ok (.ireturn, 1) := by decide +kernel
theorem dX7_count_79 : decode cX7_count 79 = .ok (.bipush (-2), 2) := by decide +kernel
theorem dX7_count_81 : decode cX7_count 81 = .ok (.ireturn, 1) := by decide +kernel
theorem dJ6_bitCount_0f7a4_0 : decode cJ6_bitCount_0f7a4 0 = .ok (.iload_n 0, 1) := by decide +kernel
theorem dJ6_bitCount_0f7a4_1 : decode cJ6_bitCount_0f7a4 1 = .ok (.iload_n 0, 1) := by decide +kernel
theorem dJ6_bitCount_0f7a4_2 : decode cJ6_bitCount_0f7a4 2 = .ok (.iconst 1, 1) := by decide +kernel
theorem dJ6_bitCount_0f7a4_3 : decode cJ6_bitCount_0f7a4 3 = .ok (.iushr, 1) := by decide +kernel
theorem dJ6_bitCount_0f7a4_4 : decode cJ6_bitCount_0f7a4 4 = .ok (.ldc_w 265, 3) := by decide +kernel
theorem dJ6_bitCount_0f7a4_7 : decode cJ6_bitCount_0f7a4 7 = .ok (.iand, 1) := by decide +kernel
theorem dJ6_bitCount_0f7a4_8 : decode cJ6_bitCount_0f7a4 8 = .ok (.isub, 1) := by decide +kernel
theorem dJ6_bitCount_0f7a4_9 : decode cJ6_bitCount_0f7a4 9 = .ok (.istore_n 0, 1) := by decide +kernel
theorem dJ6_bitCount_0f7a4_10 : decode cJ6_bitCount_0f7a4 10 = .ok (.iload_n 0, 1) := by decide +kernel
theorem dJ6_bitCount_0f7a4_11 : decode cJ6_bitCount_0f7a4 11 = .ok (.ldc_w 266, 3) := by decide +kernel
theorem dJ6_bitCount_0f7a4_14 : decode cJ6_bitCount_0f7a4 14 = .ok (.iand, 1) := by decide +kernel
theorem dJ6_bitCount_0f7a4_15 : decode cJ6_bitCount_0f7a4 15 = .ok (.iload_n 0, 1) := by decide +kernel
theorem dJ6_bitCount_0f7a4_16 : decode cJ6_bitCount_0f7a4 16 = .ok (.iconst 2, 1) := by decide +kernel
theorem dJ6_bitCount_0f7a4_17 : decode cJ6_bitCount_0f7a4 17 = .ok (.iushr, 1) := by decide +kernel
theorem dJ6_bitCount_0f7a4_18 : decode cJ6_bitCount_0f7a4 18 = .ok (.ldc_w 266, 3) := by decide +kernel
theorem dJ6_bitCount_0f7a4_21 : decode cJ6_bitCount_0f7a4 21 = .ok (.iand, 1) := by decide +kernel
theorem dJ6_bitCount_0f7a4_22 : decode cJ6_bitCount_0f7a4 22 = .ok (.iadd, 1) := by decide +kernel
theorem dJ6_bitCount_0f7a4_23 : decode cJ6_bitCount_0f7a4 23 = .ok (.istore_n 0, 1) := by decide +kernel
theorem dJ6_bitCount_0f7a4_24 : decode cJ6_bitCount_0f7a4 24 = .ok (.iload_n 0, 1) := by decide +kernel
theorem dJ6_bitCount_0f7a4_25 : decode cJ6_bitCount_0f7a4 25 = .ok (.iload_n 0, 1) := by decide +kernel
theorem dJ6_bitCount_0f7a4_26 : decode cJ6_bitCount_0f7a4 26 = .ok (.iconst 4, 1) := by decide +kernel
theorem dJ6_bitCount_0f7a4_27 : decode cJ6_bitCount_0f7a4 27 = .ok (.iushr, 1) := by decide +kernel
theorem dJ6_bitCount_0f7a4_28 : decode cJ6_bitCount_0f7a4 28 = .ok (.iadd, 1) := by decide +kernel
theorem dJ6_bitCount_0f7a4_29 : decode cJ6_bitCount_0f7a4 29 = .ok (.ldc_w 267, 3) := by decide +kernel
theorem dJ6_bitCount_0f7a4_32 : decode cJ6_bitCount_0f7a4 32 = .ok (.iand, 1) := by decide +kernel
theorem dJ6_bitCount_0f7a4_33 : decode cJ6_bitCount_0f7a4 33 = .ok (.istore_n 0, 1) := by decide +kernel
theorem dJ6_bitCount_0f7a4_34 : decode cJ6_bitCount_0f7a4 34 = .ok (.iload_n 0, 1) := by decide +kernel
theorem dJ6_bitCount_0f7a4_35 : decode cJ6_bitCount_0f7a4 35 = .ok (.iload_n 0, 1) := by decide +kernel
theorem dJ6_bitCount_0f7a4_36 : decode cJ6_bitCount_0f7a4 36 = .ok (.bipush 8, 2) := by decide +kernel
theorem dJ6_bitCount_0f7a4_38 : decode cJ6_bitCount_0f7a4 38 = .ok (.iushr, 1) := by decide +kernel
theorem dJ6_bitCount_0f7a4_39 : decode cJ6_bitCount_0f7a4 39 = .ok (.iadd, 1) := by decide +kernel
theorem dJ6_bitCount_0f7a4_40 : decode cJ6_bitCount_0f7a4 40 = .ok (.istore_n 0, 1) := by decide +kernel
theorem dJ6_bitCount_0f7a4_41 : decode cJ6_bitCount_0f7a4 41 = .ok (.iload_n 0, 1) := by decide +kernel
theorem dJ6_bitCount_0f7a4_42 : decode cJ6_bitCount_0f7a4 42 = .ok (.iload_n 0, 1) := by decide +kernel
theorem dJ6_bitCount_0f7a4_43 : decode cJ6_bitCount_0f7a4 43 = .ok (.bipush 16, 2) := by decide +kernel
theorem dJ6_bitCount_0f7a4_45 : decode cJ6_bitCount_0f7a4 45 = .ok (.iushr, 1) := by decide +kernel
theorem dJ6_bitCount_0f7a4_46 : decode cJ6_bitCount_0f7a4 46 = .ok (.iadd, 1) := by decide +kernel
theorem dJ6_bitCount_0f7a4_47 : decode cJ6_bitCount_0f7a4 47 = .ok (.istore_n 0, 1) := by decide +kernel
theorem dJ6_bitCount_0f7a4_48 : decode cJ6_bitCount_0f7a4 48 = .ok (.iload_n 0, 1) := by decide +kernel
theorem dJ6_bitCount_0f7a4_49 : decode cJ6_bitCount_0f7a4 49 = .ok (.bipush 63, 2) := by decide +kernel
theorem dJ6_bitCount_0f7a4_51 : decode cJ6_bitCount_0f7a4 51 = .ok (.iand, 1) := by decide +kernel
theorem dJ6_bitCount_0f7a4_52 : decode cJ6_bitCount_0f7a4 52 = .ok (.ireturn, 1) := by decide +kernel
theorem dJ9_max_7cf53_0 : decode cJ9_max_7cf53 0 = .ok (.iload_n 0, 1) := by decide +kernel
theorem dJ9_max_7cf53_1 : decode cJ9_max_7cf53 1 = .ok (.iload_n 1, 1) := by decide +kernel
theorem dJ9_max_7cf53_2 : decode cJ9_max_7cf53 2 = .ok (.if_icmp .lt 7, 3) := by decide +kernel
theorem dJ9_max_7cf53_5 : decode cJ9_max_7cf53 5 = .ok (.iload_n 0, 1) := by decide +kernel
theorem dJ9_max_7cf53_6 : decode cJ9_max_7cf53 6 = .ok (.goto 4, 3) := by decide +kernel
theorem dJ9_max_7cf53_9 : decode cJ9_max_7cf53 9 = .ok (.iload_n 1, 1) := by decide +kernel
theorem dJ9_max_7cf53_10 : decode cJ9_max_7cf53 10 = .ok (.ireturn, 1) := by decide +kernel
theorem dJ9_min_7cf53_0 : decode cJ9_min_7cf53 0 = .ok (.iload_n 0, 1) := by decide +kernel
theorem dJ9_min_7cf53_1 : decode cJ9_min_7cf53 1 = .ok (.iload_n 1, 1) := by decide +kernel
theorem dJ9_min_7cf53_2 : decode cJ9_min_7cf53 2 = .ok (.if_icmp .gt 7, 3) := by decide +kernel
theorem dJ9_min_7cf53_5 : decode cJ9_min_7cf53 5 = .ok (.iload_n 0, 1) := by decide +kernel
theorem dJ9_min_7cf53_6 : decode cJ9_min_7cf53 6 = .ok (.goto 4, 3) := by decide +kernel
theorem dJ9_min_7cf53_9 : decode cJ9_min_7cf53 9 = .ok (.iload_n 1, 1) := by decide +kernel
theorem dJ9_min_7cf53_10 : decode cJ9_min_7cf53 10 = .ok (.ireturn, 1) := by decide +kernel
theorem dJ0_length_8abf5_0 : decode cJ0_length_8abf5 0 = .ok (.aload_n 0, 1) := by decide +kernel
theorem dJ0_length_8abf5_1 : decode cJ0_length_8abf5 1 = .ok (.getfield 9, 3) := by decide +kernel
theorem dJ0_length_8abf5_4 : decode cJ0_length_8abf5 4 = .ok (.arraylength, 1) := by decide +kernel
theorem dJ0_length_8abf5_5 : decode cJ0_length_8abf5 5 = .ok (.aload_n 0, 1) := by decide +kernel
theorem dJ0_length_8abf5_6 : decode cJ0_length_8abf5 6 = .ok (.invokevirtual 335, 3) := by decide +kernel
theorem dJ0_length_8abf5_9 : decode cJ0_length_8abf5 9 = .ok (.ishr, 1) := by decide +kernel
theorem dJ0_length_8abf5_10 : decode cJ0_length_8abf5 10 = .ok (.ireturn, 1) := by decide +kernel
theorem dJ0_charAt_5068e_0 : decode cJ0_charAt_5068e 0 = .ok (.aload_n 0, 1) := by decide +kernel
theorem dJ0_charAt_5068e_1 : decode cJ0_charAt_5068e 1 = .ok (.invokevirtual 492, 3) := by decide +kernel
theorem dJ0_charAt_5068e_4 : decode cJ0_charAt_5068e 4 = .ok (.ifCond .eq 12, 3) := by decide +kernel
theorem dJ0_charAt_5068e_7 : decode cJ0_charAt_5068e 7 = .ok (.aload_n 0, 1) := by decide +kernel
theorem dJ0_charAt_5068e_8 : decode cJ0_charAt_5068e 8 = .ok (.getfield 9, 3) := by decide +kernel
theorem dJ0_charAt_5068e_11 : decode cJ0_charAt_5068e 11 = .ok (.iload_n 1, 1) := by decide +kernel
theorem dJ0_charAt_5068e_12 : decode cJ0_charAt_5068e 12 = .ok (.invokestatic 495, 3) := by decide +kernel
theorem dJ0_charAt_5068e_15 : decode cJ0_charAt_5068e 15 = .ok (.ireturn, 1) := by decide +kernel
theorem dJ0_charAt_5068e_16 : decode cJ0_charAt_5068e 16 = .ok (.aload_n 0, 1) := by decide +kernel
theorem dJ0_charAt_5068e_17 : decode cJ0_charAt_5068e 17 = .ok (.getfield 9, 3) := by decide +kernel
theorem dJ0_charAt_5068e_20 : decode cJ0_charAt_5068e 20 = .ok (.iload_n 1, 1) := by decide +kernel
theorem dJ0_charAt_5068e_21 : decode cJ0_charAt_5068e 21 = .ok (.invokestatic 498, 3) := by decide +kernel
theorem dJ0_charAt_5068e_24 : decode cJ0_charAt_5068e 24 = .ok (.ireturn, 1) := by decide +kernel
theorem dJ0_coder_7d493_0 : decode cJ0_coder_7d493 0 = .ok (.getstatic 38, 3) := by decide +kernel
theorem dJ0_coder_7d493_3 : decode cJ0_coder_7d493 3 = .ok (.ifCond .eq 10, 3) := by decide +kernel
theorem dJ0_coder_7d493_6 : decode cJ0_coder_7d493 6 = .ok (.aload_n 0, 1) := by decide +kernel
theorem dJ0_coder_7d493_7 : decode cJ0_coder_7d493 7 = .ok (.getfield 15, 3) := by decide +kernel
theorem dJ0_coder_7d493_10 : decode cJ0_coder_7d493 10 = .ok (.goto 4, 3) := by decide +kernel
theorem dJ0_coder_7d493_13 : decode cJ0_coder_7d493 13 = .ok (.iconst 1, 1) := by decide +kernel
theorem dJ0_coder_7d493_14 : decode cJ0_coder_7d493 14 = .ok (.ireturn, 1) := by decide +kernel
theorem dJ0_isLatin1_aae02_0 : decode cJ0_isLatin1_aae02 0 = .ok (.getstatic 38, 3) := by decide +kernel
theorem dJ0_isLatin1_aae02_3 : decode cJ0_isLatin1_aae02 3 = .ok (.ifCond .eq 14, 3) := by decide +kernel
theorem dJ0_isLatin1_aae02_6 : decode cJ0_isLatin1_aae02 6 = .ok (.aload_n 0, 1) := by decide +kernel
theorem dJ0_isLatin1_aae02_7 : decode cJ0_isLatin1_aae02 7 = .ok (.getfield 15, 3) := by decide +kernel
theorem dJ0_isLatin1_aae02_10 : decode cJ0_isLatin1_aae02 10 = .ok (.ifCond .ne 7, 3) := by decide +kernel
theorem dJ0_isLatin1_aae02_13 : decode cJ0_isLatin1_aae02 13 = .ok (.iconst 1, 1) := by decide +kernel
theorem dJ0_isLatin1_aae02_14 : decode cJ0_isLatin1_aae02 14 = .ok (.goto 4, 3) := by decide +kernel
theorem dJ0_isLatin1_aae02_17 : decode cJ0_isLatin1_aae02 17 = .ok (.iconst 0, 1) := by decide +kernel
theorem dJ0_isLatin1_aae02_18 : decode cJ0_isLatin1_aae02 18 = .ok (.ireturn, 1) := by decide +kernel
theorem dJ0_checkIndex_df160_0 : decode cJ0_checkIndex_df160 0 = .ok (.iload_n 0, 1) := by decide +kernel
theorem dJ0_checkIndex_df160_1 : decode cJ0_checkIndex_df160 1 = .ok (.iload_n 1, 1) := by decide +kernel
theorem dJ0_checkIndex_df160_2 : decode cJ0_checkIndex_df160 2 = .ok (.getstatic 1053, 3) := by decide +kernel
theorem dJ0_checkIndex_df160_5 : decode cJ0_checkIndex_df160 5 = .ok (.invokestatic 1059, 3) := by decide +kernel
theorem dJ0_checkIndex_df160_8 : decode cJ0_checkIndex_df160 8 = .ok (.pop, 1) := by decide +kernel
theorem dJ0_checkIndex_df160_9 : decode cJ0_checkIndex_df160 9 = .ok (.return_, 1) := by decide +kernel
theorem dJ1_charAt_3b067_0 : decode cJ1_charAt_3b067 0 = .ok (.iload_n 1, 1) := by decide +kernel
theorem dJ1_charAt_3b067_1 : decode cJ1_charAt_3b067 1 = .ok (.aload_n 0, 1) := by decide +kernel
theorem dJ1_charAt_3b067_2 : decode cJ1_charAt_3b067 2 = .ok (.arraylength, 1) := by decide +kernel
theorem dJ1_charAt_3b067_3 : decode cJ1_charAt_3b067 3 = .ok (.invokestatic 9, 3) := by decide +kernel
theorem dJ1_charAt_3b067_6 : decode cJ1_charAt_3b067 6 = .ok (.aload_n 0, 1) := by decide +kernel
theorem dJ1_charAt_3b067_7 : decode cJ1_charAt_3b067 7 = .ok (.iload_n 1, 1) := by decide +kernel
theorem dJ1_charAt_3b067_8 : decode cJ1_charAt_3b067 8 = .ok (.baload, 1) := by decide +kernel
theorem dJ1_charAt_3b067_9 : decode cJ1_charAt_3b067 9 = .ok (.sipush 255, 3) := by decide +kernel
theorem dJ1_charAt_3b067_12 : decode cJ1_charAt_3b067 12 = .ok (.iand, 1) := by decide +kernel
theorem dJ1_charAt_3b067_13 : decode cJ1_charAt_3b067 13 = .ok (.i2c, 1) := by decide +kernel
theorem dJ1_charAt_3b067_14 : decode cJ1_charAt_3b067 14 = .ok (.ireturn, 1) := by decide +kernel
theorem dJ2_getChar_3b067_0 : decode cJ2_getChar_3b067 0 = .ok (.getstatic 44, 3) := by decide +kernel
theorem dJ2_getChar_3b067_3 : decode cJ2_getChar_3b067 3 = .ok (.ifCond .ne 25, 3) := by decide +kernel
theorem dJ2_getChar_3b067_6 : decode cJ2_getChar_3b067 6 = .ok (.iload_n 1, 1) := by decide +kernel
theorem dJ2_getChar_3b067_7 : decode cJ2_getChar_3b067 7 = .ok (.ifCond .lt 11, 3) := by decide +kernel
theorem dJ2_getChar_3b067_10 : decode cJ2_getChar_3b067 10 = .ok (.iload_n 1, 1) := by decide +kernel
theorem dJ2_getChar_3b067_11 : decode cJ2_getChar_3b067 11 = .ok (.aload_n 0, 1) := by decide +kernel
theorem dJ2_getChar_3b067_12 : decode cJ2_getChar_3b067 12 = .ok (.invokestatic 48, 3) := by decide +kernel
theorem dJ2_getChar_3b067_15 : decode cJ2_getChar_3b067 15 = .ok (.if_icmp .lt 13, 3) := by decide +kernel
theorem dJ2_getChar_3b067_18 : decode cJ2_getChar_3b067 18 = .ok (.new 52, 3) := by decide +kernel
theorem dJ2_getChar_3b067_21 : decode cJ2_getChar_3b067 21 = .ok (.dup, 1) := by decide +kernel
theorem dJ2_getChar_3b067_22 : decode cJ2_getChar_3b067 22 = .ok (.ldc 54, 2) := by decide +kernel
theorem dJ2_getChar_3b067_24 : decode cJ2_getChar_3b067 24 = .ok (.invokespecial 56, 3) := by decide +kernel
theorem dJ2_getChar_3b067_27 : decode cJ2_getChar_3b067 27 = .ok (.athrow, 1) := by decide +kernel
theorem dJ2_getChar_3b067_28 : decode cJ2_getChar_3b067 28 = .ok (.iload_n 1, 1) := by decide +kernel
theorem dJ2_getChar_3b067_29 : decode cJ2_getChar_3b067 29 = .ok (.iconst 1, 1) := by decide +kernel
theorem dJ2_getChar_3b067_30 : decode cJ2_getChar_3b067 30 = .ok (.ishl, 1) := by decide +kernel
theorem dJ2_getChar_3b067_31 : decode cJ2_getChar_3b067 31 = .ok (.istore_n 1, 1) := by decide +kernel
theorem dJ2_getChar_3b067_32 : decode cJ2_getChar_3b067 32 = .ok (.aload_n 0, 1) := by decide +kernel
theorem dJ2_getChar_3b067_33 : decode cJ2_getChar_3b067 33 = .ok (.iload_n 1, 1) := by decide +kernel
theorem dJ2_getChar_3b067_34 : decode cJ2_getChar_3b067 34 = .ok (.iinc 1 1, 3) := by decide +kernel
theorem dJ2_getChar_3b067_37 : decode cJ2_getChar_3b067 37 = .ok (.baload, 1) := by decide +kernel
theorem dJ2_getChar_3b067_38 : decode cJ2_getChar_3b067 38 = .ok (.sipush 255, 3) := by decide +kernel
theorem dJ2_getChar_3b067_41 : decode cJ2_getChar_3b067 41 = .ok (.iand, 1) := by decide +kernel
theorem dJ2_getChar_3b067_42 : decode cJ2_getChar_3b067 42 = .ok (.getstatic 59, 3) := by decide +kernel
theorem dJ2_getChar_3b067_45 : decode cJ2_getChar_3b067 45 = .ok (.ishl, 1) := by decide +kernel
theorem dJ2_getChar_3b067_46 : decode cJ2_getChar_3b067 46 = .ok (.aload_n 0, 1) := by decide +kernel
theorem dJ2_getChar_3b067_47 : decode cJ2_getChar_3b067 47 = .ok (.iload_n 1, 1) := by decide +kernel
theorem dJ2_getChar_3b067_48 : decode cJ2_getChar_3b067 48 = .ok (.baload, 1) := by decide +kernel
theorem dJ2_getChar_3b067_49 : decode cJ2_getChar_3b067 49 = .ok (.sipush 255, 3) := by decide +kernel
theorem dJ2_getChar_3b067_52 : decode cJ2_getChar_3b067 52 = .ok (.iand, 1) := by decide +kernel
theorem dJ2_getChar_3b067_53 : decode cJ2_getChar_3b067 53 = .ok (.getstatic 63, 3) := by decide +kernel
theorem dJ2_getChar_3b067_56 : decode cJ2_getChar_3b067 56 = .ok (.ishl, 1) := by decide +kernel
theorem dJ2_getChar_3b067_57 : decode cJ2_getChar_3b067 57 = .ok (.ior, 1) := by decide +kernel
theorem dJ2_getChar_3b067_58 : decode cJ2_getChar_3b067 58 = .ok (.i2c, 1) := by decide +kernel
theorem dJ2_getChar_3b067_59 : decode cJ2_getChar_3b067 59 = .ok (.ireturn, 1) := by decide +kernel
theorem dJ2_length_9d52b_0 : decode cJ2_length_9d52b 0 = .ok (.aload_n 0, 1) := by decide +kernel
theorem dJ2_length_9d52b_1 : decode cJ2_length_9d52b 1 = .ok (.arraylength, 1) := by decide +kernel
theorem dJ2_length_9d52b_2 : decode cJ2_length_9d52b 2 = .ok (.iconst 1, 1) := by decide +kernel
theorem dJ2_length_9d52b_3 : decode cJ2_length_9d52b 3 = .ok (.ishr, 1) := by decide +kernel
theorem dJ2_length_9d52b_4 : decode cJ2_length_9d52b 4 = .ok (.ireturn, 1) := by decide +kernel
theorem dJ2_charAt_3b067_0 : decode cJ2_charAt_3b067 0 = .ok (.iload_n 1, 1) := by decide +kernel
theorem dJ2_charAt_3b067_1 : decode cJ2_charAt_3b067 1 = .ok (.aload_n 0, 1) := by decide +kernel
theorem dJ2_charAt_3b067_2 : decode cJ2_charAt_3b067 2 = .ok (.invokestatic 67, 3) := by decide +kernel
theorem dJ2_charAt_3b067_5 : decode cJ2_charAt_3b067 5 = .ok (.aload_n 0, 1) := by decide +kernel
theorem dJ2_charAt_3b067_6 : decode cJ2_charAt_3b067 6 = .ok (.iload_n 1, 1) := by decide +kernel
theorem dJ2_charAt_3b067_7 : decode cJ2_charAt_3b067 7 = .ok (.invokestatic 71, 3) := by decide +kernel
theorem dJ2_charAt_3b067_10 : decode cJ2_charAt_3b067 10 = .ok (.ireturn, 1) := by decide +kernel
theorem dJ2_checkIndex_2214a_0 : decode cJ2_checkIndex_2214a 0 = .ok (.iload_n 0, 1) := by decide +kernel
theorem dJ2_checkIndex_2214a_1 : decode cJ2_checkIndex_2214a 1 = .ok (.aload_n 1, 1) := by decide +kernel
theorem dJ2_checkIndex_2214a_2 : decode cJ2_checkIndex_2214a 2 = .ok (.invokestatic 48, 3) := by decide +kernel
theorem dJ2_checkIndex_2214a_5 : decode cJ2_checkIndex_2214a 5 = .ok (.invokestatic 414, 3) := by decide +kernel
theorem dJ2_checkIndex_2214a_8 : decode cJ2_checkIndex_2214a 8 = .ok (.return_, 1) := by decide +kernel
theorem dJ3_checkIndex_8e157_0 : decode cJ3_checkIndex_8e157 0 = .ok (.iload_n 0, 1) := by decide +kernel
theorem dJ3_checkIndex_8e157_1 : decode cJ3_checkIndex_8e157 1 = .ok (.ifCond .lt 8, 3) := by decide +kernel
theorem dJ3_checkIndex_8e157_4 : decode cJ3_checkIndex_8e157 4 = .ok (.iload_n 0, 1) := by decide +kernel
theorem dJ3_checkIndex_8e157_5 : decode cJ3_checkIndex_8e157 5 = .ok (.iload_n 1, 1) := by decide +kernel
theorem dJ3_checkIndex_8e157_6 : decode cJ3_checkIndex_8e157 6 = .ok (.if_icmp .lt 10, 3) := by decide +kernel
theorem dJ3_checkIndex_8e157_9 : decode cJ3_checkIndex_8e157 9 = .ok (.aload_n 2, 1) := by decide +kernel
theorem dJ3_checkIndex_8e157_10 : decode cJ3_checkIndex_8e157 10 = .ok (.iload_n 0, 1) := by decide +kernel
theorem dJ3_checkIndex_8e157_11 : decode cJ3_checkIndex_8e157 11 = .ok (.iload_n 1, 1) := by decide +kernel
theorem dJ3_checkIndex_8e157_12 : decode cJ3_checkIndex_8e157 12 = .ok (.invokestatic 95, 3) := by decide +kernel
theorem dJ3_checkIndex_8e157_15 : decode cJ3_checkIndex_8e157 15 = .ok (.athrow, 1) := by decide +kernel
theorem dJ3_checkIndex_8e157_16 : decode cJ3_checkIndex_8e157 16 = .ok (.iload_n 0, 1) := by decide +kernel
theorem dJ3_checkIndex_8e157_17 : decode cJ3_checkIndex_8e157 17 = .ok (.ireturn, 1) := by decide +kernel
theorem dL_law_0 : decode cL_law 0 = .ok (.new 7, 3) := by decide +kernel
theorem dL_law_3 : decode cL_law 3 = .ok (.dup, 1) := by decide +kernel
theorem dL_law_4 : decode cL_law 4 = .ok (.invokespecial 9, 3) := by decide +kernel
theorem dL_law_7 : decode cL_law 7 = .ok (.astore_n 1, 1) := by decide +kernel
theorem dL_law_8 : decode cL_law 8 = .ok (.new 10, 3) := by decide +kernel
theorem dL_law_11 : decode cL_law 11 = .ok (.dup, 1) := by decide +kernel
theorem dL_law_12 : decode cL_law 12 = .ok (.invokespecial 12, 3) := by decide +kernel
theorem dL_law_15 : decode cL_law 15 = .ok (.astore_n 2, 1) := by decide +kernel
theorem dL_law_16 : decode cL_law 16 = .ok (.iconst 0, 1) := by decide +kernel
theorem dL_law_17 : decode cL_law 17 = .ok (.istore_n 3, 1) := by decide +kernel
theorem dL_law_18 : decode cL_law 18 = .ok (.iload_n 3, 1) := by decide +kernel
theorem dL_law_19 : decode cL_law 19 = .ok (.aload_n 0, 1) := by decide +kernel
theorem dL_law_20 : decode cL_law 20 = .ok (.arraylength, 1) := by decide +kernel
theorem dL_law_21 : decode cL_law 21 = .ok (.iconst 4, 1) := by decide +kernel
theorem dL_law_22 : decode cL_law 22 = .ok (.isub, 1) := by decide +kernel
theorem dL_law_23 : decode cL_law 23 = .ok (.if_icmp .gt 916, 3) := by decide +kernel
theorem dL_law_26 : decode cL_law 26 = .ok (.aload_n 0, 1) := by decide +kernel
theorem dL_law_27 : decode cL_law 27 = .ok (.iload_n 3, 1) := by decide +kernel
theorem dL_law_28 : decode cL_law 28 = .ok (.iaload, 1) := by decide +kernel
theorem dL_law_29 : decode cL_law 29 = .ok (.bipush 31, 2) := by decide +kernel
theorem dL_law_31 : decode cL_law 31 = .ok (.iand, 1) := by decide +kernel
theorem dL_law_32 : decode cL_law 32 = .ok (.tableswitch 901 0 24 #[116, 161, 184, 219, 232, 265, 298, 331, 354, 379, 392, 405, 418, 431, 444, 477, 522, 565, 624, 683, 744, 777, 812, 845, 878], 116) := by decide +kernel
theorem dL_law_148 : decode cL_law 148 = .ok (.aload_n 1, 1) := by decide +kernel
theorem dL_law_149 : decode cL_law 149 = .ok (.aload_n 0, 1) := by decide +kernel
theorem dL_law_150 : decode cL_law 150 = .ok (.iload_n 3, 1) := by decide +kernel
theorem dL_law_151 : decode cL_law 151 = .ok (.iconst 1, 1) := by decide +kernel
theorem dL_law_152 : decode cL_law 152 = .ok (.iadd, 1) := by decide +kernel
theorem dL_law_153 : decode cL_law 153 = .ok (.iaload, 1) := by decide +kernel
theorem dL_law_154 : decode cL_law 154 = .ok (.aload_n 0, 1) := by decide +kernel
theorem dL_law_155 : decode cL_law 155 = .ok (.iload_n 3, 1) := by decide +kernel
theorem dL_law_156 : decode cL_law 156 = .ok (.iconst 2, 1) := by decide +kernel
theorem dL_law_157 : decode cL_law 157 = .ok (.iadd, 1) := by decide +kernel
theorem dL_law_158 : decode cL_law 158 = .ok (.iaload, 1) := by decide +kernel
theorem dL_law_159 : decode cL_law 159 = .ok (.i2c, 1) := by decide +kernel
theorem dL_law_160 : decode cL_law 160 = .ok (.aload_n 0, 1) := by decide +kernel
theorem dL_law_161 : decode cL_law 161 = .ok (.iload_n 3, 1) := by decide +kernel
theorem dL_law_162 : decode cL_law 162 = .ok (.iconst 3, 1) := by decide +kernel
theorem dL_law_163 : decode cL_law 163 = .ok (.iadd, 1) := by decide +kernel
theorem dL_law_164 : decode cL_law 164 = .ok (.iaload, 1) := by decide +kernel
theorem dL_law_165 : decode cL_law 165 = .ok (.invokevirtual 13, 3) := by decide +kernel
theorem dL_law_168 : decode cL_law 168 = .ok (.aload_n 2, 1) := by decide +kernel
theorem dL_law_169 : decode cL_law 169 = .ok (.aload_n 0, 1) := by decide +kernel
theorem dL_law_170 : decode cL_law 170 = .ok (.iload_n 3, 1) := by decide +kernel
theorem dL_law_171 : decode cL_law 171 = .ok (.iconst 1, 1) := by decide +kernel
theorem dL_law_172 : decode cL_law 172 = .ok (.iadd, 1) := by decide +kernel
theorem dL_law_173 : decode cL_law 173 = .ok (.iaload, 1) := by decide +kernel
theorem dL_law_174 : decode cL_law 174 = .ok (.aload_n 0, 1) := by decide +kernel
theorem dL_law_175 : decode cL_law 175 = .ok (.iload_n 3, 1) := by decide +kernel
theorem dL_law_176 : decode cL_law 176 = .ok (.iconst 2, 1) := by decide +kernel
theorem dL_law_177 : decode cL_law 177 = .ok (.iadd, 1) := by decide +kernel
theorem dL_law_178 : decode cL_law 178 = .ok (.iaload, 1) := by decide +kernel
theorem dL_law_179 : decode cL_law 179 = .ok (.i2c, 1) := by decide +kernel
theorem dL_law_180 : decode cL_law 180 = .ok (.aload_n 0, 1) := by decide +kernel
theorem dL_law_181 : decode cL_law 181 = .ok (.iload_n 3, 1) := by decide +kernel
theorem dL_law_182 : decode cL_law 182 = .ok (.iconst 3, 1) := by decide +kernel
theorem dL_law_183 : decode cL_law 183 = .ok (.iadd, 1) := by decide +kernel
theorem dL_law_184 : decode cL_law 184 = .ok (.iaload, 1) := by decide +kernel
theorem dL_law_185 : decode cL_law 185 = .ok (.invokevirtual 17, 3) := by decide +kernel
theorem dL_law_188 : decode cL_law 188 = .ok (.if_icmp .eq 745, 3) := by decide +kernel
theorem dL_law_191 : decode cL_law 191 = .ok (.iconst 0, 1) := by decide +kernel
theorem dL_law_192 : decode cL_law 192 = .ok (.ireturn, 1) := by decide +kernel
theorem dL_law_193 : decode cL_law 193 = .ok (.aload_n 1, 1) := by decide +kernel
theorem dL_law_194 : decode cL_law 194 = .ok (.aload_n 0, 1) := by decide +kernel
theorem dL_law_195 : decode cL_law 195 = .ok (.iload_n 3, 1) := by decide +kernel
theorem dL_law_196 : decode cL_law 196 = .ok (.iconst 1, 1) := by decide +kernel
theorem dL_law_197 : decode cL_law 197 = .ok (.iadd, 1) := by decide +kernel
theorem dL_law_198 : decode cL_law 198 = .ok (.iaload, 1) := by decide +kernel
theorem dL_law_199 : decode cL_law 199 = .ok (.invokevirtual 18, 3) := by decide +kernel
theorem dL_law_202 : decode cL_law 202 = .ok (.aload_n 2, 1) := by decide +kernel
theorem dL_law_203 : decode cL_law 203 = .ok (.aload_n 0, 1) := by decide +kernel
theorem dL_law_204 : decode cL_law 204 = .ok (.iload_n 3, 1) := by decide +kernel
theorem dL_law_205 : decode cL_law 205 = .ok (.iconst 1, 1) := by decide +kernel
theorem dL_law_206 : decode cL_law 206 = .ok (.iadd, 1) := by decide +kernel
theorem dL_law_207 : decode cL_law 207 = .ok (.iaload, 1) := by decide +kernel
theorem dL_law_208 : decode cL_law 208 = .ok (.invokevirtual 22, 3) := by decide +kernel
theorem dL_law_211 : decode cL_law 211 = .ok (.if_icmp .eq 722, 3) := by decide +kernel
theorem dL_law_214 : decode cL_law 214 = .ok (.iconst 0, 1) := by decide +kernel
theorem dL_law_215 : decode cL_law 215 = .ok (.ireturn, 1) := by decide +kernel
theorem dL_law_216 : decode cL_law 216 = .ok (.aload_n 1, 1) := by decide +kernel
theorem dL_law_217 : decode cL_law 217 = .ok (.aload_n 0, 1) := by decide +kernel
theorem dL_law_218 : decode cL_law 218 = .ok (.iload_n 3, 1) := by decide +kernel
theorem dL_law_219 : decode cL_law 219 = .ok (.iconst 1, 1) := by decide +kernel
theorem dL_law_220 : decode cL_law 220 = .ok (.iadd, 1) := by decide +kernel
theorem dL_law_221 : decode cL_law 221 = .ok (.iaload, 1) := by decide +kernel
theorem dL_law_222 : decode cL_law 222 = .ok (.i2c, 1) := by decide +kernel
theorem dL_law_223 : decode cL_law 223 = .ok (.aload_n 0, 1) := by decide +kernel
theorem dL_law_224 : decode cL_law 224 = .ok (.iload_n 3, 1) := by decide +kernel
theorem dL_law_225 : decode cL_law 225 = .ok (.iconst 2, 1) := by decide +kernel
theorem dL_law_226 : decode cL_law 226 = .ok (.iadd, 1) := by decide +kernel
theorem dL_law_227 : decode cL_law 227 = .ok (.iaload, 1) := by decide +kernel
theorem dL_law_228 : decode cL_law 228 = .ok (.invokevirtual 23, 3) := by decide +kernel
theorem dL_law_231 : decode cL_law 231 = .ok (.aload_n 2, 1) := by decide +kernel
theorem dL_law_232 : decode cL_law 232 = .ok (.aload_n 0, 1) := by decide +kernel
theorem dL_law_233 : decode cL_law 233 = .ok (.iload_n 3, 1) := by decide +kernel
theorem dL_law_234 : decode cL_law 234 = .ok (.iconst 1, 1) := by decide +kernel
theorem dL_law_235 : decode cL_law 235 = .ok (.iadd, 1) := by decide +kernel
theorem dL_law_236 : decode cL_law 236 = .ok (.iaload, 1) := by decide +kernel
theorem dL_law_237 : decode cL_law 237 = .ok (.i2c, 1) := by decide +kernel
theorem dL_law_238 : decode cL_law 238 = .ok (.aload_n 0, 1) := by decide +kernel
theorem dL_law_239 : decode cL_law 239 = .ok (.iload_n 3, 1) := by decide +kernel
theorem dL_law_240 : decode cL_law 240 = .ok (.iconst 2, 1) := by decide +kernel
theorem dL_law_241 : decode cL_law 241 = .ok (.iadd, 1) := by decide +kernel
theorem dL_law_242 : decode cL_law 242 = .ok (.iaload, 1) := by decide +kernel
theorem dL_law_243 : decode cL_law 243 = .ok (.invokevirtual 27, 3) := by decide +kernel
theorem dL_law_246 : decode cL_law 246 = .ok (.if_icmp .eq 687, 3) := by decide +kernel
theorem dL_law_249 : decode cL_law 249 = .ok (.iconst 0, 1) := by decide +kernel
theorem dL_law_250 : decode cL_law 250 = .ok (.ireturn, 1) := by decide +kernel
theorem dL_law_251 : decode cL_law 251 = .ok (.aload_n 1, 1) := by decide +kernel
theorem dL_law_252 : decode cL_law 252 = .ok (.invokevirtual 28, 3) := by decide +kernel
theorem dL_law_255 : decode cL_law 255 = .ok (.aload_n 2, 1) := by decide +kernel
theorem dL_law_256 : decode cL_law 256 = .ok (.invokevirtual 32, 3) := by decide +kernel
theorem dL_law_259 : decode cL_law 259 = .ok (.if_icmp .eq 674, 3) := by decide +kernel
theorem dL_law_262 : decode cL_law 262 = .ok (.iconst 0, 1) := by decide +kernel
theorem dL_law_263 : decode cL_law 263 = .ok (.ireturn, 1) := by decide +kernel
theorem dL_law_264 : decode cL_law 264 = .ok (.aload_n 1, 1) := by decide +kernel
theorem dL_law_265 : decode cL_law 265 = .ok (.aload_n 0, 1) := by decide +kernel
theorem dL_law_266 : decode cL_law 266 = .ok (.iload_n 3, 1) := by decide +kernel
theorem dL_law_267 : decode cL_law 267 = .ok (.iconst 1, 1) := by decide +kernel
theorem dL_law_268 : decode cL_law 268 = .ok (.iadd, 1) := by decide +kernel
theorem dL_law_269 : decode cL_law 269 = .ok (.iaload, 1) := by decide +kernel
theorem dL_law_270 : decode cL_law 270 = .ok (.aload_n 0, 1) := by decide +kernel
theorem dL_law_271 : decode cL_law 271 = .ok (.iload_n 3, 1) := by decide +kernel
theorem dL_law_272 : decode cL_law 272 = .ok (.iconst 2, 1) := by decide +kernel
theorem dL_law_273 : decode cL_law 273 = .ok (.iadd, 1) := by decide +kernel
theorem dL_law_274 : decode cL_law 274 = .ok (.iaload, 1) := by decide +kernel
theorem dL_law_275 : decode cL_law 275 = .ok (.invokevirtual 33, 3) := by decide +kernel
theorem dL_law_278 : decode cL_law 278 = .ok (.aload_n 2, 1) := by decide +kernel
theorem dL_law_279 : decode cL_law 279 = .ok (.aload_n 0, 1) := by decide +kernel
theorem dL_law_280 : decode cL_law 280 = .ok (.iload_n 3, 1) := by decide +kernel
theorem dL_law_281 : decode cL_law 281 = .ok (.iconst 1, 1) := by decide +kernel
theorem dL_law_282 : decode cL_law 282 = .ok (.iadd, 1) := by decide +kernel
theorem dL_law_283 : decode cL_law 283 = .ok (.iaload, 1) := by decide +kernel
theorem dL_law_284 : decode cL_law 284 = .ok (.aload_n 0, 1) := by decide +kernel
theorem dL_law_285 : decode cL_law 285 = .ok (.iload_n 3, 1) := by decide +kernel
theorem dL_law_286 : decode cL_law 286 = .ok (.iconst 2, 1) := by decide +kernel
theorem dL_law_287 : decode cL_law 287 = .ok (.iadd, 1) := by decide +kernel
theorem dL_law_288 : decode cL_law 288 = .ok (.iaload, 1) := by decide +kernel
theorem dL_law_289 : decode cL_law 289 = .ok (.invokevirtual 37, 3) := by decide +kernel
theorem dL_law_292 : decode cL_law 292 = .ok (.if_icmp .eq 641, 3) := by decide +kernel
theorem dL_law_295 : decode cL_law 295 = .ok (.iconst 0, 1) := by decide +kernel
theorem dL_law_296 : decode cL_law 296 = .ok (.ireturn, 1) := by decide +kernel
theorem dL_law_297 : decode cL_law 297 = .ok (.aload_n 1, 1) := by decide +kernel
theorem dL_law_298 : decode cL_law 298 = .ok (.aload_n 0, 1) := by decide +kernel
theorem dL_law_299 : decode cL_law 299 = .ok (.iload_n 3, 1) := by decide +kernel
theorem dL_law_300 : decode cL_law 300 = .ok (.iconst 1, 1) := by decide +kernel
theorem dL_law_301 : decode cL_law 301 = .ok (.iadd, 1) := by decide +kernel
theorem dL_law_302 : decode cL_law 302 = .ok (.iaload, 1) := by decide +kernel
theorem dL_law_303 : decode cL_law 303 = .ok (.aload_n 0, 1) := by decide +kernel
theorem dL_law_304 : decode cL_law 304 = .ok (.iload_n 3, 1) := by decide +kernel
theorem dL_law_305 : decode cL_law 305 = .ok (.iconst 2, 1) := by decide +kernel
theorem dL_law_306 : decode cL_law 306 = .ok (.iadd, 1) := by decide +kernel
theorem dL_law_307 : decode cL_law 307 = .ok (.iaload, 1) := by decide +kernel
theorem dL_law_308 : decode cL_law 308 = .ok (.invokevirtual 38, 3) := by decide +kernel
theorem dL_law_311 : decode cL_law 311 = .ok (.aload_n 2, 1) := by decide +kernel
theorem dL_law_312 : decode cL_law 312 = .ok (.aload_n 0, 1) := by decide +kernel
theorem dL_law_313 : decode cL_law 313 = .ok (.iload_n 3, 1) := by decide +kernel
theorem dL_law_314 : decode cL_law 314 = .ok (.iconst 1, 1) := by decide +kernel
theorem dL_law_315 : decode cL_law 315 = .ok (.iadd, 1) := by decide +kernel
theorem dL_law_316 : decode cL_law 316 = .ok (.iaload, 1) := by decide +kernel
theorem dL_law_317 : decode cL_law 317 = .ok (.aload_n 0, 1) := by decide +kernel
theorem dL_law_318 : decode cL_law 318 = .ok (.iload_n 3, 1) := by decide +kernel
theorem dL_law_319 : decode cL_law 319 = .ok (.iconst 2, 1) := by decide +kernel
theorem dL_law_320 : decode cL_law 320 = .ok (.iadd, 1) := by decide +kernel
theorem dL_law_321 : decode cL_law 321 = .ok (.iaload, 1) := by decide +kernel
theorem dL_law_322 : decode cL_law 322 = .ok (.invokevirtual 41, 3) := by decide +kernel
theorem dL_law_325 : decode cL_law 325 = .ok (.if_icmp .eq 608, 3) := by decide +kernel
theorem dL_law_328 : decode cL_law 328 = .ok (.iconst 0, 1) := by decide +kernel
theorem dL_law_329 : decode cL_law 329 = .ok (.ireturn, 1) := by decide +kernel
theorem dL_law_330 : decode cL_law 330 = .ok (.aload_n 1, 1) := by decide +kernel
theorem dL_law_331 : decode cL_law 331 = .ok (.aload_n 0, 1) := by decide +kernel
theorem dL_law_332 : decode cL_law 332 = .ok (.iload_n 3, 1) := by decide +kernel
theorem dL_law_333 : decode cL_law 333 = .ok (.iconst 1, 1) := by decide +kernel
theorem dL_law_334 : decode cL_law 334 = .ok (.iadd, 1) := by decide +kernel
theorem dL_law_335 : decode cL_law 335 = .ok (.iaload, 1) := by decide +kernel
theorem dL_law_336 : decode cL_law 336 = .ok (.aload_n 0, 1) := by decide +kernel
theorem dL_law_337 : decode cL_law 337 = .ok (.iload_n 3, 1) := by decide +kernel
theorem dL_law_338 : decode cL_law 338 = .ok (.iconst 2, 1) := by decide +kernel
theorem dL_law_339 : decode cL_law 339 = .ok (.iadd, 1) := by decide +kernel
theorem dL_law_340 : decode cL_law 340 = .ok (.iaload, 1) := by decide +kernel
theorem dL_law_341 : decode cL_law 341 = .ok (.invokevirtual 42, 3) := by decide +kernel
theorem dL_law_344 : decode cL_law 344 = .ok (.aload_n 2, 1) := by decide +kernel
theorem dL_law_345 : decode cL_law 345 = .ok (.aload_n 0, 1) := by decide +kernel
theorem dL_law_346 : decode cL_law 346 = .ok (.iload_n 3, 1) := by decide +kernel
theorem dL_law_347 : decode cL_law 347 = .ok (.iconst 1, 1) := by decide +kernel
theorem dL_law_348 : decode cL_law 348 = .ok (.iadd, 1) := by decide +kernel
theorem dL_law_349 : decode cL_law 349 = .ok (.iaload, 1) := by decide +kernel
theorem dL_law_350 : decode cL_law 350 = .ok (.aload_n 0, 1) := by decide +kernel
theorem dL_law_351 : decode cL_law 351 = .ok (.iload_n 3, 1) := by decide +kernel
theorem dL_law_352 : decode cL_law 352 = .ok (.iconst 2, 1) := by decide +kernel
theorem dL_law_353 : decode cL_law 353 = .ok (.iadd, 1) := by decide +kernel
theorem dL_law_354 : decode cL_law 354 = .ok (.iaload, 1) := by decide +kernel
theorem dL_law_355 : decode cL_law 355 = .ok (.invokevirtual 45, 3) := by decide +kernel
theorem dL_law_358 : decode cL_law 358 = .ok (.if_icmp .eq 575, 3) := by decide +kernel
theorem dL_law_361 : decode cL_law 361 = .ok (.iconst 0, 1) := by decide +kernel
theorem dL_law_362 : decode cL_law 362 = .ok (.ireturn, 1) := by decide +kernel
theorem dL_law_363 : decode cL_law 363 = .ok (.aload_n 1, 1) := by decide +kernel
theorem dL_law_364 : decode cL_law 364 = .ok (.aload_n 0, 1) := by decide +kernel
theorem dL_law_365 : decode cL_law 365 = .ok (.iload_n 3, 1) := by decide +kernel
theorem dL_law_366 : decode cL_law 366 = .ok (.iconst 1, 1) := by decide +kernel
theorem dL_law_367 : decode cL_law 367 = .ok (.iadd, 1) := by decide +kernel
theorem dL_law_368 : decode cL_law 368 = .ok (.iaload, 1) := by decide +kernel
theorem dL_law_369 : decode cL_law 369 = .ok (.invokevirtual 46, 3) := by decide +kernel
theorem dL_law_372 : decode cL_law 372 = .ok (.aload_n 2, 1) := by decide +kernel
theorem dL_law_373 : decode cL_law 373 = .ok (.aload_n 0, 1) := by decide +kernel
theorem dL_law_374 : decode cL_law 374 = .ok (.iload_n 3, 1) := by decide +kernel
theorem dL_law_375 : decode cL_law 375 = .ok (.iconst 1, 1) := by decide +kernel
theorem dL_law_376 : decode cL_law 376 = .ok (.iadd, 1) := by decide +kernel
theorem dL_law_377 : decode cL_law 377 = .ok (.iaload, 1) := by decide +kernel
theorem dL_law_378 : decode cL_law 378 = .ok (.invokevirtual 49, 3) := by decide +kernel
theorem dL_law_381 : decode cL_law 381 = .ok (.if_icmp .eq 552, 3) := by decide +kernel
theorem dL_law_384 : decode cL_law 384 = .ok (.iconst 0, 1) := by decide +kernel
theorem dL_law_385 : decode cL_law 385 = .ok (.ireturn, 1) := by decide +kernel
theorem dL_law_386 : decode cL_law 386 = .ok (.aload_n 1, 1) := by decide +kernel
theorem dL_law_387 : decode cL_law 387 = .ok (.aload_n 0, 1) := by decide +kernel
theorem dL_law_388 : decode cL_law 388 = .ok (.iload_n 3, 1) := by decide +kernel
theorem dL_law_389 : decode cL_law 389 = .ok (.iconst 1, 1) := by decide +kernel
theorem dL_law_390 : decode cL_law 390 = .ok (.iadd, 1) := by decide +kernel
theorem dL_law_391 : decode cL_law 391 = .ok (.iaload, 1) := by decide +kernel
theorem dL_law_392 : decode cL_law 392 = .ok (.i2c, 1) := by decide +kernel
theorem dL_law_393 : decode cL_law 393 = .ok (.invokevirtual 50, 3) := by decide +kernel
theorem dL_law_396 : decode cL_law 396 = .ok (.aload_n 2, 1) := by decide +kernel
theorem dL_law_397 : decode cL_law 397 = .ok (.aload_n 0, 1) := by decide +kernel
theorem dL_law_398 : decode cL_law 398 = .ok (.iload_n 3, 1) := by decide +kernel
theorem dL_law_399 : decode cL_law 399 = .ok (.iconst 1, 1) := by decide +kernel
theorem dL_law_400 : decode cL_law 400 = .ok (.iadd, 1) := by decide +kernel
theorem dL_law_401 : decode cL_law 401 = .ok (.iaload, 1) := by decide +kernel
theorem dL_law_402 : decode cL_law 402 = .ok (.i2c, 1) := by decide +kernel
theorem dL_law_403 : decode cL_law 403 = .ok (.invokevirtual 54, 3) := by decide +kernel
theorem dL_law_406 : decode cL_law 406 = .ok (.if_icmp .eq 527, 3) := by decide +kernel
theorem dL_law_409 : decode cL_law 409 = .ok (.iconst 0, 1) := by decide +kernel
theorem dL_law_410 : decode cL_law 410 = .ok (.ireturn, 1) := by decide +kernel
theorem dL_law_411 : decode cL_law 411 = .ok (.aload_n 1, 1) := by decide +kernel
theorem dL_law_412 : decode cL_law 412 = .ok (.invokevirtual 55, 3) := by decide +kernel
theorem dL_law_415 : decode cL_law 415 = .ok (.aload_n 2, 1) := by decide +kernel
theorem dL_law_416 : decode cL_law 416 = .ok (.invokevirtual 58, 3) := by decide +kernel
theorem dL_law_419 : decode cL_law 419 = .ok (.if_icmp .eq 514, 3) := by decide +kernel
theorem dL_law_422 : decode cL_law 422 = .ok (.iconst 0, 1) := by decide +kernel
theorem dL_law_423 : decode cL_law 423 = .ok (.ireturn, 1) := by decide +kernel
theorem dL_law_424 : decode cL_law 424 = .ok (.aload_n 1, 1) := by decide +kernel
theorem dL_law_425 : decode cL_law 425 = .ok (.invokevirtual 59, 3) := by decide +kernel
theorem dL_law_428 : decode cL_law 428 = .ok (.aload_n 2, 1) := by decide +kernel
theorem dL_law_429 : decode cL_law 429 = .ok (.invokevirtual 62, 3) := by decide +kernel
theorem dL_law_432 : decode cL_law 432 = .ok (.if_icmp .eq 501, 3) := by decide +kernel
theorem dL_law_435 : decode cL_law 435 = .ok (.iconst 0, 1) := by decide +kernel
theorem dL_law_436 : decode cL_law 436 = .ok (.ireturn, 1) := by decide +kernel
theorem dL_law_437 : decode cL_law 437 = .ok (.aload_n 1, 1) := by decide +kernel
theorem dL_law_438 : decode cL_law 438 = .ok (.invokevirtual 63, 3) := by decide +kernel
theorem dL_law_441 : decode cL_law 441 = .ok (.aload_n 2, 1) := by decide +kernel
theorem dL_law_442 : decode cL_law 442 = .ok (.invokevirtual 66, 3) := by decide +kernel
theorem dL_law_445 : decode cL_law 445 = .ok (.if_icmp .eq 488, 3) := by decide +kernel
theorem dL_law_448 : decode cL_law 448 = .ok (.iconst 0, 1) := by decide +kernel
theorem dL_law_449 : decode cL_law 449 = .ok (.ireturn, 1) := by decide +kernel
theorem dL_law_450 : decode cL_law 450 = .ok (.aload_n 1, 1) := by decide +kernel
theorem dL_law_451 : decode cL_law 451 = .ok (.invokevirtual 67, 3) := by decide +kernel
theorem dL_law_454 : decode cL_law 454 = .ok (.aload_n 2, 1) := by decide +kernel
theorem dL_law_455 : decode cL_law 455 = .ok (.invokevirtual 70, 3) := by decide +kernel
theorem dL_law_458 : decode cL_law 458 = .ok (.if_icmp .eq 475, 3) := by decide +kernel
theorem dL_law_461 : decode cL_law 461 = .ok (.iconst 0, 1) := by decide +kernel
theorem dL_law_462 : decode cL_law 462 = .ok (.ireturn, 1) := by decide +kernel
theorem dL_law_463 : decode cL_law 463 = .ok (.aload_n 1, 1) := by decide +kernel
theorem dL_law_464 : decode cL_law 464 = .ok (.invokevirtual 71, 3) := by decide +kernel
theorem dL_law_467 : decode cL_law 467 = .ok (.aload_n 2, 1) := by decide +kernel
theorem dL_law_468 : decode cL_law 468 = .ok (.invokevirtual 74, 3) := by decide +kernel
theorem dL_law_471 : decode cL_law 471 = .ok (.if_icmp .eq 462, 3) := by decide +kernel
theorem dL_law_474 : decode cL_law 474 = .ok (.iconst 0, 1) := by decide +kernel
theorem dL_law_475 : decode cL_law 475 = .ok (.ireturn, 1) := by decide +kernel
theorem dL_law_476 : decode cL_law 476 = .ok (.aload_n 1, 1) := by decide +kernel
theorem dL_law_477 : decode cL_law 477 = .ok (.aload_n 0, 1) := by decide +kernel
theorem dL_law_478 : decode cL_law 478 = .ok (.iload_n 3, 1) := by decide +kernel
theorem dL_law_479 : decode cL_law 479 = .ok (.iconst 1, 1) := by decide +kernel
theorem dL_law_480 : decode cL_law 480 = .ok (.iadd, 1) := by decide +kernel
theorem dL_law_481 : decode cL_law 481 = .ok (.iaload, 1) := by decide +kernel
theorem dL_law_482 : decode cL_law 482 = .ok (.aload_n 0, 1) := by decide +kernel
theorem dL_law_483 : decode cL_law 483 = .ok (.iload_n 3, 1) := by decide +kernel
theorem dL_law_484 : decode cL_law 484 = .ok (.iconst 2, 1) := by decide +kernel
theorem dL_law_485 : decode cL_law 485 = .ok (.iadd, 1) := by decide +kernel
theorem dL_law_486 : decode cL_law 486 = .ok (.iaload, 1) := by decide +kernel
theorem dL_law_487 : decode cL_law 487 = .ok (.invokevirtual 75, 3) := by decide +kernel
theorem dL_law_490 : decode cL_law 490 = .ok (.aload_n 2, 1) := by decide +kernel
theorem dL_law_491 : decode cL_law 491 = .ok (.aload_n 0, 1) := by decide +kernel
theorem dL_law_492 : decode cL_law 492 = .ok (.iload_n 3, 1) := by decide +kernel
theorem dL_law_493 : decode cL_law 493 = .ok (.iconst 1, 1) := by decide +kernel
theorem dL_law_494 : decode cL_law 494 = .ok (.iadd, 1) := by decide +kernel
theorem dL_law_495 : decode cL_law 495 = .ok (.iaload, 1) := by decide +kernel
theorem dL_law_496 : decode cL_law 496 = .ok (.aload_n 0, 1) := by decide +kernel
theorem dL_law_497 : decode cL_law 497 = .ok (.iload_n 3, 1) := by decide +kernel
theorem dL_law_498 : decode cL_law 498 = .ok (.iconst 2, 1) := by decide +kernel
theorem dL_law_499 : decode cL_law 499 = .ok (.iadd, 1) := by decide +kernel
theorem dL_law_500 : decode cL_law 500 = .ok (.iaload, 1) := by decide +kernel
theorem dL_law_501 : decode cL_law 501 = .ok (.invokevirtual 78, 3) := by decide +kernel
theorem dL_law_504 : decode cL_law 504 = .ok (.if_icmp .eq 429, 3) := by decide +kernel
theorem dL_law_507 : decode cL_law 507 = .ok (.iconst 0, 1) := by decide +kernel
theorem dL_law_508 : decode cL_law 508 = .ok (.ireturn, 1) := by decide +kernel
theorem dL_law_509 : decode cL_law 509 = .ok (.aload_n 1, 1) := by decide +kernel
theorem dL_law_510 : decode cL_law 510 = .ok (.aload_n 0, 1) := by decide +kernel
theorem dL_law_511 : decode cL_law 511 = .ok (.iload_n 3, 1) := by decide +kernel
theorem dL_law_512 : decode cL_law 512 = .ok (.iconst 1, 1) := by decide +kernel
theorem dL_law_513 : decode cL_law 513 = .ok (.iadd, 1) := by decide +kernel
theorem dL_law_514 : decode cL_law 514 = .ok (.iaload, 1) := by decide +kernel
theorem dL_law_515 : decode cL_law 515 = .ok (.aload_n 0, 1) := by decide +kernel
theorem dL_law_516 : decode cL_law 516 = .ok (.iload_n 3, 1) := by decide +kernel
theorem dL_law_517 : decode cL_law 517 = .ok (.iconst 2, 1) := by decide +kernel
theorem dL_law_518 : decode cL_law 518 = .ok (.iadd, 1) := by decide +kernel
theorem dL_law_519 : decode cL_law 519 = .ok (.iaload, 1) := by decide +kernel
theorem dL_law_520 : decode cL_law 520 = .ok (.i2c, 1) := by decide +kernel
theorem dL_law_521 : decode cL_law 521 = .ok (.aload_n 0, 1) := by decide +kernel
theorem dL_law_522 : decode cL_law 522 = .ok (.iload_n 3, 1) := by decide +kernel
theorem dL_law_523 : decode cL_law 523 = .ok (.iconst 3, 1) := by decide +kernel
theorem dL_law_524 : decode cL_law 524 = .ok (.iadd, 1) := by decide +kernel
theorem dL_law_525 : decode cL_law 525 = .ok (.iaload, 1) := by decide +kernel
theorem dL_law_526 : decode cL_law 526 = .ok (.invokevirtual 79, 3) := by decide +kernel
theorem dL_law_529 : decode cL_law 529 = .ok (.aload_n 2, 1) := by decide +kernel
theorem dL_law_530 : decode cL_law 530 = .ok (.aload_n 0, 1) := by decide +kernel
theorem dL_law_531 : decode cL_law 531 = .ok (.iload_n 3, 1) := by decide +kernel
theorem dL_law_532 : decode cL_law 532 = .ok (.iconst 1, 1) := by decide +kernel
theorem dL_law_533 : decode cL_law 533 = .ok (.iadd, 1) := by decide +kernel
theorem dL_law_534 : decode cL_law 534 = .ok (.iaload, 1) := by decide +kernel
theorem dL_law_535 : decode cL_law 535 = .ok (.aload_n 0, 1) := by decide +kernel
theorem dL_law_536 : decode cL_law 536 = .ok (.iload_n 3, 1) := by decide +kernel
theorem dL_law_537 : decode cL_law 537 = .ok (.iconst 2, 1) := by decide +kernel
theorem dL_law_538 : decode cL_law 538 = .ok (.iadd, 1) := by decide +kernel
theorem dL_law_539 : decode cL_law 539 = .ok (.iaload, 1) := by decide +kernel
theorem dL_law_540 : decode cL_law 540 = .ok (.i2c, 1) := by decide +kernel
theorem dL_law_541 : decode cL_law 541 = .ok (.aload_n 0, 1) := by decide +kernel
theorem dL_law_542 : decode cL_law 542 = .ok (.iload_n 3, 1) := by decide +kernel
theorem dL_law_543 : decode cL_law 543 = .ok (.iconst 3, 1) := by decide +kernel
theorem dL_law_544 : decode cL_law 544 = .ok (.iadd, 1) := by decide +kernel
theorem dL_law_545 : decode cL_law 545 = .ok (.iaload, 1) := by decide +kernel
theorem dL_law_546 : decode cL_law 546 = .ok (.invokevirtual 82, 3) := by decide +kernel
theorem dL_law_549 : decode cL_law 549 = .ok (.if_icmp .eq 384, 3) := by decide +kernel
theorem dL_law_552 : decode cL_law 552 = .ok (.iconst 0, 1) := by decide +kernel
theorem dL_law_553 : decode cL_law 553 = .ok (.ireturn, 1) := by decide +kernel
theorem dL_law_554 : decode cL_law 554 = .ok (.aload_n 1, 1) := by decide +kernel
theorem dL_law_555 : decode cL_law 555 = .ok (.aload_n 0, 1) := by decide +kernel
theorem dL_law_556 : decode cL_law 556 = .ok (.iload_n 3, 1) := by decide +kernel
theorem dL_law_557 : decode cL_law 557 = .ok (.iconst 1, 1) := by decide +kernel
theorem dL_law_558 : decode cL_law 558 = .ok (.iadd, 1) := by decide +kernel
theorem dL_law_559 : decode cL_law 559 = .ok (.iaload, 1) := by decide +kernel
theorem dL_law_560 : decode cL_law 560 = .ok (.aload_n 0, 1) := by decide +kernel
theorem dL_law_561 : decode cL_law 561 = .ok (.iload_n 3, 1) := by decide +kernel
theorem dL_law_562 : decode cL_law 562 = .ok (.iconst 2, 1) := by decide +kernel
theorem dL_law_563 : decode cL_law 563 = .ok (.iadd, 1) := by decide +kernel
theorem dL_law_564 : decode cL_law 564 = .ok (.iaload, 1) := by decide +kernel
theorem dL_law_565 : decode cL_law 565 = .ok (.aload_n 0, 1) := by decide +kernel
theorem dL_law_566 : decode cL_law 566 = .ok (.iload_n 3, 1) := by decide +kernel
theorem dL_law_567 : decode cL_law 567 = .ok (.iconst 3, 1) := by decide +kernel
theorem dL_law_568 : decode cL_law 568 = .ok (.iadd, 1) := by decide +kernel
theorem dL_law_569 : decode cL_law 569 = .ok (.iaload, 1) := by decide +kernel
theorem dL_law_570 : decode cL_law 570 = .ok (.invokevirtual 83, 3) := by decide +kernel
theorem dL_law_573 : decode cL_law 573 = .ok (.aload_n 2, 1) := by decide +kernel
theorem dL_law_574 : decode cL_law 574 = .ok (.aload_n 0, 1) := by decide +kernel
theorem dL_law_575 : decode cL_law 575 = .ok (.iload_n 3, 1) := by decide +kernel
theorem dL_law_576 : decode cL_law 576 = .ok (.iconst 1, 1) := by decide +kernel
theorem dL_law_577 : decode cL_law 577 = .ok (.iadd, 1) := by decide +kernel
theorem dL_law_578 : decode cL_law 578 = .ok (.iaload, 1) := by decide +kernel
theorem dL_law_579 : decode cL_law 579 = .ok (.aload_n 0, 1) := by decide +kernel
theorem dL_law_580 : decode cL_law 580 = .ok (.iload_n 3, 1) := by decide +kernel
theorem dL_law_581 : decode cL_law 581 = .ok (.iconst 2, 1) := by decide +kernel
theorem dL_law_582 : decode cL_law 582 = .ok (.iadd, 1) := by decide +kernel
theorem dL_law_583 : decode cL_law 583 = .ok (.iaload, 1) := by decide +kernel
theorem dL_law_584 : decode cL_law 584 = .ok (.aload_n 0, 1) := by decide +kernel
theorem dL_law_585 : decode cL_law 585 = .ok (.iload_n 3, 1) := by decide +kernel
theorem dL_law_586 : decode cL_law 586 = .ok (.iconst 3, 1) := by decide +kernel
theorem dL_law_587 : decode cL_law 587 = .ok (.iadd, 1) := by decide +kernel
theorem dL_law_588 : decode cL_law 588 = .ok (.iaload, 1) := by decide +kernel
theorem dL_law_589 : decode cL_law 589 = .ok (.invokevirtual 87, 3) := by decide +kernel
theorem dL_law_592 : decode cL_law 592 = .ok (.if_icmp .eq 341, 3) := by decide +kernel
theorem dL_law_595 : decode cL_law 595 = .ok (.iconst 0, 1) := by decide +kernel
theorem dL_law_596 : decode cL_law 596 = .ok (.ireturn, 1) := by decide +kernel
theorem dL_law_597 : decode cL_law 597 = .ok (.aload_n 1, 1) := by decide +kernel
theorem dL_law_598 : decode cL_law 598 = .ok (.aload_n 0, 1) := by decide +kernel
theorem dL_law_599 : decode cL_law 599 = .ok (.iload_n 3, 1) := by decide +kernel
theorem dL_law_600 : decode cL_law 600 = .ok (.iconst 1, 1) := by decide +kernel
theorem dL_law_601 : decode cL_law 601 = .ok (.iadd, 1) := by decide +kernel
theorem dL_law_602 : decode cL_law 602 = .ok (.iaload, 1) := by decide +kernel
theorem dL_law_603 : decode cL_law 603 = .ok (.aload_n 0, 1) := by decide +kernel
theorem dL_law_604 : decode cL_law 604 = .ok (.iload_n 3, 1) := by decide +kernel
theorem dL_law_605 : decode cL_law 605 = .ok (.iconst 2, 1) := by decide +kernel
theorem dL_law_606 : decode cL_law 606 = .ok (.iadd, 1) := by decide +kernel
theorem dL_law_607 : decode cL_law 607 = .ok (.iaload, 1) := by decide +kernel
theorem dL_law_608 : decode cL_law 608 = .ok (.aload_n 0, 1) := by decide +kernel
theorem dL_law_609 : decode cL_law 609 = .ok (.iload_n 3, 1) := by decide +kernel
theorem dL_law_610 : decode cL_law 610 = .ok (.iconst 3, 1) := by decide +kernel
theorem dL_law_611 : decode cL_law 611 = .ok (.iadd, 1) := by decide +kernel
theorem dL_law_612 : decode cL_law 612 = .ok (.iaload, 1) := by decide +kernel
theorem dL_law_613 : decode cL_law 613 = .ok (.ifCond .eq 7, 3) := by decide +kernel
theorem dL_law_616 : decode cL_law 616 = .ok (.iconst 1, 1) := by decide +kernel
theorem dL_law_617 : decode cL_law 617 = .ok (.goto 4, 3) := by decide +kernel
theorem dL_law_620 : decode cL_law 620 = .ok (.iconst 0, 1) := by decide +kernel
theorem dL_law_621 : decode cL_law 621 = .ok (.invokevirtual 88, 3) := by decide +kernel
theorem dL_law_624 : decode cL_law 624 = .ok (.aload_n 2, 1) := by decide +kernel
theorem dL_law_625 : decode cL_law 625 = .ok (.aload_n 0, 1) := by decide +kernel
theorem dL_law_626 : decode cL_law 626 = .ok (.iload_n 3, 1) := by decide +kernel
theorem dL_law_627 : decode cL_law 627 = .ok (.iconst 1, 1) := by decide +kernel
theorem dL_law_628 : decode cL_law 628 = .ok (.iadd, 1) := by decide +kernel
theorem dL_law_629 : decode cL_law 629 = .ok (.iaload, 1) := by decide +kernel
theorem dL_law_630 : decode cL_law 630 = .ok (.aload_n 0, 1) := by decide +kernel
theorem dL_law_631 : decode cL_law 631 = .ok (.iload_n 3, 1) := by decide +kernel
theorem dL_law_632 : decode cL_law 632 = .ok (.iconst 2, 1) := by decide +kernel
theorem dL_law_633 : decode cL_law 633 = .ok (.iadd, 1) := by decide +kernel
theorem dL_law_634 : decode cL_law 634 = .ok (.iaload, 1) := by decide +kernel
theorem dL_law_635 : decode cL_law 635 = .ok (.aload_n 0, 1) := by decide +kernel
theorem dL_law_636 : decode cL_law 636 = .ok (.iload_n 3, 1) := by decide +kernel
theorem dL_law_637 : decode cL_law 637 = .ok (.iconst 3, 1) := by decide +kernel
theorem dL_law_638 : decode cL_law 638 = .ok (.iadd, 1) := by decide +kernel
theorem dL_law_639 : decode cL_law 639 = .ok (.iaload, 1) := by decide +kernel
theorem dL_law_640 : decode cL_law 640 = .ok (.ifCond .eq 7, 3) := by decide +kernel
theorem dL_law_643 : decode cL_law 643 = .ok (.iconst 1, 1) := by decide +kernel
theorem dL_law_644 : decode cL_law 644 = .ok (.goto 4, 3) := by decide +kernel
theorem dL_law_647 : decode cL_law 647 = .ok (.iconst 0, 1) := by decide +kernel
theorem dL_law_648 : decode cL_law 648 = .ok (.invokevirtual 92, 3) := by decide +kernel
theorem dL_law_651 : decode cL_law 651 = .ok (.if_icmp .eq 282, 3) := by decide +kernel
theorem dL_law_654 : decode cL_law 654 = .ok (.iconst 0, 1) := by decide +kernel
theorem dL_law_655 : decode cL_law 655 = .ok (.ireturn, 1) := by decide +kernel
theorem dL_law_656 : decode cL_law 656 = .ok (.aload_n 1, 1) := by decide +kernel
theorem dL_law_657 : decode cL_law 657 = .ok (.aload_n 0, 1) := by decide +kernel
theorem dL_law_658 : decode cL_law 658 = .ok (.iload_n 3, 1) := by decide +kernel
theorem dL_law_659 : decode cL_law 659 = .ok (.iconst 1, 1) := by decide +kernel
theorem dL_law_660 : decode cL_law 660 = .ok (.iadd, 1) := by decide +kernel
theorem dL_law_661 : decode cL_law 661 = .ok (.iaload, 1) := by decide +kernel
theorem dL_law_662 : decode cL_law 662 = .ok (.aload_n 0, 1) := by decide +kernel
theorem dL_law_663 : decode cL_law 663 = .ok (.iload_n 3, 1) := by decide +kernel
theorem dL_law_664 : decode cL_law 664 = .ok (.iconst 2, 1) := by decide +kernel
theorem dL_law_665 : decode cL_law 665 = .ok (.iadd, 1) := by decide +kernel
theorem dL_law_666 : decode cL_law 666 = .ok (.iaload, 1) := by decide +kernel
theorem dL_law_667 : decode cL_law 667 = .ok (.aload_n 0, 1) := by decide +kernel
theorem dL_law_668 : decode cL_law 668 = .ok (.iload_n 3, 1) := by decide +kernel
theorem dL_law_669 : decode cL_law 669 = .ok (.iconst 3, 1) := by decide +kernel
theorem dL_law_670 : decode cL_law 670 = .ok (.iadd, 1) := by decide +kernel
theorem dL_law_671 : decode cL_law 671 = .ok (.iaload, 1) := by decide +kernel
theorem dL_law_672 : decode cL_law 672 = .ok (.ifCond .eq 7, 3) := by decide +kernel
theorem dL_law_675 : decode cL_law 675 = .ok (.iconst 1, 1) := by decide +kernel
theorem dL_law_676 : decode cL_law 676 = .ok (.goto 4, 3) := by decide +kernel
theorem dL_law_679 : decode cL_law 679 = .ok (.iconst 0, 1) := by decide +kernel
theorem dL_law_680 : decode cL_law 680 = .ok (.invokevirtual 93, 3) := by decide +kernel
theorem dL_law_683 : decode cL_law 683 = .ok (.aload_n 2, 1) := by decide +kernel
theorem dL_law_684 : decode cL_law 684 = .ok (.aload_n 0, 1) := by decide +kernel
theorem dL_law_685 : decode cL_law 685 = .ok (.iload_n 3, 1) := by decide +kernel
theorem dL_law_686 : decode cL_law 686 = .ok (.iconst 1, 1) := by decide +kernel
theorem dL_law_687 : decode cL_law 687 = .ok (.iadd, 1) := by decide +kernel
theorem dL_law_688 : decode cL_law 688 = .ok (.iaload, 1) := by decide +kernel
theorem dL_law_689 : decode cL_law 689 = .ok (.aload_n 0, 1) := by decide +kernel
theorem dL_law_690 : decode cL_law 690 = .ok (.iload_n 3, 1) := by decide +kernel
theorem dL_law_691 : decode cL_law 691 = .ok (.iconst 2, 1) := by decide +kernel
theorem dL_law_692 : decode cL_law 692 = .ok (.iadd, 1) := by decide +kernel
theorem dL_law_693 : decode cL_law 693 = .ok (.iaload, 1) := by decide +kernel
theorem dL_law_694 : decode cL_law 694 = .ok (.aload_n 0, 1) := by decide +kernel
theorem dL_law_695 : decode cL_law 695 = .ok (.iload_n 3, 1) := by decide +kernel
theorem dL_law_696 : decode cL_law 696 = .ok (.iconst 3, 1) := by decide +kernel
theorem dL_law_697 : decode cL_law 697 = .ok (.iadd, 1) := by decide +kernel
theorem dL_law_698 : decode cL_law 698 = .ok (.iaload, 1) := by decide +kernel
theorem dL_law_699 : decode cL_law 699 = .ok (.ifCond .eq 7, 3) := by decide +kernel
theorem dL_law_702 : decode cL_law 702 = .ok (.iconst 1, 1) := by decide +kernel
theorem dL_law_703 : decode cL_law 703 = .ok (.goto 4, 3) := by decide +kernel
theorem dL_law_706 : decode cL_law 706 = .ok (.iconst 0, 1) := by decide +kernel
theorem dL_law_707 : decode cL_law 707 = .ok (.invokevirtual 96, 3) := by decide +kernel
theorem dL_law_710 : decode cL_law 710 = .ok (.if_icmp .eq 223, 3) := by decide +kernel
theorem dL_law_713 : decode cL_law 713 = .ok (.iconst 0, 1) := by decide +kernel
theorem dL_law_714 : decode cL_law 714 = .ok (.ireturn, 1) := by decide +kernel
theorem dL_law_715 : decode cL_law 715 = .ok (.aload_n 1, 1) := by decide +kernel
theorem dL_law_716 : decode cL_law 716 = .ok (.aload_n 0, 1) := by decide +kernel
theorem dL_law_717 : decode cL_law 717 = .ok (.iload_n 3, 1) := by decide +kernel
theorem dL_law_718 : decode cL_law 718 = .ok (.iconst 1, 1) := by decide +kernel
theorem dL_law_719 : decode cL_law 719 = .ok (.iadd, 1) := by decide +kernel
theorem dL_law_720 : decode cL_law 720 = .ok (.iaload, 1) := by decide +kernel
theorem dL_law_721 : decode cL_law 721 = .ok (.aload_n 0, 1) := by decide +kernel
theorem dL_law_722 : decode cL_law 722 = .ok (.iload_n 3, 1) := by decide +kernel
theorem dL_law_723 : decode cL_law 723 = .ok (.iconst 2, 1) := by decide +kernel
theorem dL_law_724 : decode cL_law 724 = .ok (.iadd, 1) := by decide +kernel
theorem dL_law_725 : decode cL_law 725 = .ok (.iaload, 1) := by decide +kernel
theorem dL_law_726 : decode cL_law 726 = .ok (.i2c, 1) := by decide +kernel
theorem dL_law_727 : decode cL_law 727 = .ok (.aload_n 0, 1) := by decide +kernel
theorem dL_law_728 : decode cL_law 728 = .ok (.iload_n 3, 1) := by decide +kernel
theorem dL_law_729 : decode cL_law 729 = .ok (.iconst 3, 1) := by decide +kernel
theorem dL_law_730 : decode cL_law 730 = .ok (.iadd, 1) := by decide +kernel
theorem dL_law_731 : decode cL_law 731 = .ok (.iaload, 1) := by decide +kernel
theorem dL_law_732 : decode cL_law 732 = .ok (.ifCond .eq 7, 3) := by decide +kernel
theorem dL_law_735 : decode cL_law 735 = .ok (.iconst 1, 1) := by decide +kernel
theorem dL_law_736 : decode cL_law 736 = .ok (.goto 4, 3) := by decide +kernel
theorem dL_law_739 : decode cL_law 739 = .ok (.iconst 0, 1) := by decide +kernel
theorem dL_law_740 : decode cL_law 740 = .ok (.invokevirtual 97, 3) := by decide +kernel
theorem dL_law_743 : decode cL_law 743 = .ok (.aload_n 2, 1) := by decide +kernel
theorem dL_law_744 : decode cL_law 744 = .ok (.aload_n 0, 1) := by decide +kernel
theorem dL_law_745 : decode cL_law 745 = .ok (.iload_n 3, 1) := by decide +kernel
theorem dL_law_746 : decode cL_law 746 = .ok (.iconst 1, 1) := by decide +kernel
theorem dL_law_747 : decode cL_law 747 = .ok (.iadd, 1) := by decide +kernel
theorem dL_law_748 : decode cL_law 748 = .ok (.iaload, 1) := by decide +kernel
theorem dL_law_749 : decode cL_law 749 = .ok (.aload_n 0, 1) := by decide +kernel
theorem dL_law_750 : decode cL_law 750 = .ok (.iload_n 3, 1) := by decide +kernel
theorem dL_law_751 : decode cL_law 751 = .ok (.iconst 2, 1) := by decide +kernel
theorem dL_law_752 : decode cL_law 752 = .ok (.iadd, 1) := by decide +kernel
theorem dL_law_753 : decode cL_law 753 = .ok (.iaload, 1) := by decide +kernel
theorem dL_law_754 : decode cL_law 754 = .ok (.i2c, 1) := by decide +kernel
theorem dL_law_755 : decode cL_law 755 = .ok (.aload_n 0, 1) := by decide +kernel
theorem dL_law_756 : decode cL_law 756 = .ok (.iload_n 3, 1) := by decide +kernel
theorem dL_law_757 : decode cL_law 757 = .ok (.iconst 3, 1) := by decide +kernel
theorem dL_law_758 : decode cL_law 758 = .ok (.iadd, 1) := by decide +kernel
theorem dL_law_759 : decode cL_law 759 = .ok (.iaload, 1) := by decide +kernel
theorem dL_law_760 : decode cL_law 760 = .ok (.ifCond .eq 7, 3) := by decide +kernel
theorem dL_law_763 : decode cL_law 763 = .ok (.iconst 1, 1) := by decide +kernel
theorem dL_law_764 : decode cL_law 764 = .ok (.goto 4, 3) := by decide +kernel
theorem dL_law_767 : decode cL_law 767 = .ok (.iconst 0, 1) := by decide +kernel
theorem dL_law_768 : decode cL_law 768 = .ok (.invokevirtual 101, 3) := by decide +kernel
theorem dL_law_771 : decode cL_law 771 = .ok (.if_icmp .eq 162, 3) := by decide +kernel
theorem dL_law_774 : decode cL_law 774 = .ok (.iconst 0, 1) := by decide +kernel
theorem dL_law_775 : decode cL_law 775 = .ok (.ireturn, 1) := by decide +kernel
theorem dL_law_776 : decode cL_law 776 = .ok (.aload_n 1, 1) := by decide +kernel
theorem dL_law_777 : decode cL_law 777 = .ok (.aload_n 0, 1) := by decide +kernel
theorem dL_law_778 : decode cL_law 778 = .ok (.iload_n 3, 1) := by decide +kernel
theorem dL_law_779 : decode cL_law 779 = .ok (.iconst 1, 1) := by decide +kernel
theorem dL_law_780 : decode cL_law 780 = .ok (.iadd, 1) := by decide +kernel
theorem dL_law_781 : decode cL_law 781 = .ok (.iaload, 1) := by decide +kernel
theorem dL_law_782 : decode cL_law 782 = .ok (.aload_n 0, 1) := by decide +kernel
theorem dL_law_783 : decode cL_law 783 = .ok (.iload_n 3, 1) := by decide +kernel
theorem dL_law_784 : decode cL_law 784 = .ok (.iconst 2, 1) := by decide +kernel
theorem dL_law_785 : decode cL_law 785 = .ok (.iadd, 1) := by decide +kernel
theorem dL_law_786 : decode cL_law 786 = .ok (.iaload, 1) := by decide +kernel
theorem dL_law_787 : decode cL_law 787 = .ok (.invokevirtual 102, 3) := by decide +kernel
theorem dL_law_790 : decode cL_law 790 = .ok (.aload_n 2, 1) := by decide +kernel
theorem dL_law_791 : decode cL_law 791 = .ok (.aload_n 0, 1) := by decide +kernel
theorem dL_law_792 : decode cL_law 792 = .ok (.iload_n 3, 1) := by decide +kernel
theorem dL_law_793 : decode cL_law 793 = .ok (.iconst 1, 1) := by decide +kernel
theorem dL_law_794 : decode cL_law 794 = .ok (.iadd, 1) := by decide +kernel
theorem dL_law_795 : decode cL_law 795 = .ok (.iaload, 1) := by decide +kernel
theorem dL_law_796 : decode cL_law 796 = .ok (.aload_n 0, 1) := by decide +kernel
theorem dL_law_797 : decode cL_law 797 = .ok (.iload_n 3, 1) := by decide +kernel
theorem dL_law_798 : decode cL_law 798 = .ok (.iconst 2, 1) := by decide +kernel
theorem dL_law_799 : decode cL_law 799 = .ok (.iadd, 1) := by decide +kernel
theorem dL_law_800 : decode cL_law 800 = .ok (.iaload, 1) := by decide +kernel
theorem dL_law_801 : decode cL_law 801 = .ok (.invokevirtual 105, 3) := by decide +kernel
theorem dL_law_804 : decode cL_law 804 = .ok (.if_icmp .eq 129, 3) := by decide +kernel
theorem dL_law_807 : decode cL_law 807 = .ok (.iconst 0, 1) := by decide +kernel
theorem dL_law_808 : decode cL_law 808 = .ok (.ireturn, 1) := by decide +kernel
theorem dL_law_809 : decode cL_law 809 = .ok (.aload_n 1, 1) := by decide +kernel
theorem dL_law_810 : decode cL_law 810 = .ok (.aload_n 0, 1) := by decide +kernel
theorem dL_law_811 : decode cL_law 811 = .ok (.iload_n 3, 1) := by decide +kernel
theorem dL_law_812 : decode cL_law 812 = .ok (.iconst 1, 1) := by decide +kernel
theorem dL_law_813 : decode cL_law 813 = .ok (.iadd, 1) := by decide +kernel
theorem dL_law_814 : decode cL_law 814 = .ok (.iaload, 1) := by decide +kernel
theorem dL_law_815 : decode cL_law 815 = .ok (.aload_n 0, 1) := by decide +kernel
theorem dL_law_816 : decode cL_law 816 = .ok (.iload_n 3, 1) := by decide +kernel
theorem dL_law_817 : decode cL_law 817 = .ok (.iconst 2, 1) := by decide +kernel
theorem dL_law_818 : decode cL_law 818 = .ok (.iadd, 1) := by decide +kernel
theorem dL_law_819 : decode cL_law 819 = .ok (.iaload, 1) := by decide +kernel
theorem dL_law_820 : decode cL_law 820 = .ok (.i2c, 1) := by decide +kernel
theorem dL_law_821 : decode cL_law 821 = .ok (.invokevirtual 106, 3) := by decide +kernel
theorem dL_law_824 : decode cL_law 824 = .ok (.aload_n 2, 1) := by decide +kernel
theorem dL_law_825 : decode cL_law 825 = .ok (.aload_n 0, 1) := by decide +kernel
theorem dL_law_826 : decode cL_law 826 = .ok (.iload_n 3, 1) := by decide +kernel
theorem dL_law_827 : decode cL_law 827 = .ok (.iconst 1, 1) := by decide +kernel
theorem dL_law_828 : decode cL_law 828 = .ok (.iadd, 1) := by decide +kernel
theorem dL_law_829 : decode cL_law 829 = .ok (.iaload, 1) := by decide +kernel
theorem dL_law_830 : decode cL_law 830 = .ok (.aload_n 0, 1) := by decide +kernel
theorem dL_law_831 : decode cL_law 831 = .ok (.iload_n 3, 1) := by decide +kernel
theorem dL_law_832 : decode cL_law 832 = .ok (.iconst 2, 1) := by decide +kernel
theorem dL_law_833 : decode cL_law 833 = .ok (.iadd, 1) := by decide +kernel
theorem dL_law_834 : decode cL_law 834 = .ok (.iaload, 1) := by decide +kernel
theorem dL_law_835 : decode cL_law 835 = .ok (.i2c, 1) := by decide +kernel
theorem dL_law_836 : decode cL_law 836 = .ok (.invokevirtual 110, 3) := by decide +kernel
theorem dL_law_839 : decode cL_law 839 = .ok (.if_icmp .eq 94, 3) := by decide +kernel
theorem dL_law_842 : decode cL_law 842 = .ok (.iconst 0, 1) := by decide +kernel
theorem dL_law_843 : decode cL_law 843 = .ok (.ireturn, 1) := by decide +kernel
theorem dL_law_844 : decode cL_law 844 = .ok (.aload_n 1, 1) := by decide +kernel
theorem dL_law_845 : decode cL_law 845 = .ok (.aload_n 0, 1) := by decide +kernel
theorem dL_law_846 : decode cL_law 846 = .ok (.iload_n 3, 1) := by decide +kernel
theorem dL_law_847 : decode cL_law 847 = .ok (.iconst 1, 1) := by decide +kernel
theorem dL_law_848 : decode cL_law 848 = .ok (.iadd, 1) := by decide +kernel
theorem dL_law_849 : decode cL_law 849 = .ok (.iaload, 1) := by decide +kernel
theorem dL_law_850 : decode cL_law 850 = .ok (.aload_n 0, 1) := by decide +kernel
theorem dL_law_851 : decode cL_law 851 = .ok (.iload_n 3, 1) := by decide +kernel
theorem dL_law_852 : decode cL_law 852 = .ok (.iconst 2, 1) := by decide +kernel
theorem dL_law_853 : decode cL_law 853 = .ok (.iadd, 1) := by decide +kernel
theorem dL_law_854 : decode cL_law 854 = .ok (.iaload, 1) := by decide +kernel
theorem dL_law_855 : decode cL_law 855 = .ok (.invokevirtual 111, 3) := by decide +kernel
theorem dL_law_858 : decode cL_law 858 = .ok (.aload_n 2, 1) := by decide +kernel
theorem dL_law_859 : decode cL_law 859 = .ok (.aload_n 0, 1) := by decide +kernel
theorem dL_law_860 : decode cL_law 860 = .ok (.iload_n 3, 1) := by decide +kernel
theorem dL_law_861 : decode cL_law 861 = .ok (.iconst 1, 1) := by decide +kernel
theorem dL_law_862 : decode cL_law 862 = .ok (.iadd, 1) := by decide +kernel
theorem dL_law_863 : decode cL_law 863 = .ok (.iaload, 1) := by decide +kernel
theorem dL_law_864 : decode cL_law 864 = .ok (.aload_n 0, 1) := by decide +kernel
theorem dL_law_865 : decode cL_law 865 = .ok (.iload_n 3, 1) := by decide +kernel
theorem dL_law_866 : decode cL_law 866 = .ok (.iconst 2, 1) := by decide +kernel
theorem dL_law_867 : decode cL_law 867 = .ok (.iadd, 1) := by decide +kernel
theorem dL_law_868 : decode cL_law 868 = .ok (.iaload, 1) := by decide +kernel
theorem dL_law_869 : decode cL_law 869 = .ok (.invokevirtual 114, 3) := by decide +kernel
theorem dL_law_872 : decode cL_law 872 = .ok (.if_icmp .eq 61, 3) := by decide +kernel
theorem dL_law_875 : decode cL_law 875 = .ok (.iconst 0, 1) := by decide +kernel
theorem dL_law_876 : decode cL_law 876 = .ok (.ireturn, 1) := by decide +kernel
theorem dL_law_877 : decode cL_law 877 = .ok (.aload_n 1, 1) := by decide +kernel
theorem dL_law_878 : decode cL_law 878 = .ok (.aload_n 0, 1) := by decide +kernel
theorem dL_law_879 : decode cL_law 879 = .ok (.iload_n 3, 1) := by decide +kernel
theorem dL_law_880 : decode cL_law 880 = .ok (.iconst 1, 1) := by decide +kernel
theorem dL_law_881 : decode cL_law 881 = .ok (.iadd, 1) := by decide +kernel
theorem dL_law_882 : decode cL_law 882 = .ok (.iaload, 1) := by decide +kernel
theorem dL_law_883 : decode cL_law 883 = .ok (.aload_n 0, 1) := by decide +kernel
theorem dL_law_884 : decode cL_law 884 = .ok (.iload_n 3, 1) := by decide +kernel
theorem dL_law_885 : decode cL_law 885 = .ok (.iconst 2, 1) := by decide +kernel
theorem dL_law_886 : decode cL_law 886 = .ok (.iadd, 1) := by decide +kernel
theorem dL_law_887 : decode cL_law 887 = .ok (.iaload, 1) := by decide +kernel
theorem dL_law_888 : decode cL_law 888 = .ok (.invokevirtual 115, 3) := by decide +kernel
theorem dL_law_891 : decode cL_law 891 = .ok (.aload_n 2, 1) := by decide +kernel
theorem dL_law_892 : decode cL_law 892 = .ok (.aload_n 0, 1) := by decide +kernel
theorem dL_law_893 : decode cL_law 893 = .ok (.iload_n 3, 1) := by decide +kernel
theorem dL_law_894 : decode cL_law 894 = .ok (.iconst 1, 1) := by decide +kernel
theorem dL_law_895 : decode cL_law 895 = .ok (.iadd, 1) := by decide +kernel
theorem dL_law_896 : decode cL_law 896 = .ok (.iaload, 1) := by decide +kernel
theorem dL_law_897 : decode cL_law 897 = .ok (.aload_n 0, 1) := by decide +kernel
theorem dL_law_898 : decode cL_law 898 = .ok (.iload_n 3, 1) := by decide +kernel
theorem dL_law_899 : decode cL_law 899 = .ok (.iconst 2, 1) := by decide +kernel
theorem dL_law_900 : decode cL_law 900 = .ok (.iadd, 1) := by decide +kernel
theorem dL_law_901 : decode cL_law 901 = .ok (.iaload, 1) := by decide +kernel
theorem dL_law_902 : decode cL_law 902 = .ok (.invokevirtual 118, 3) := by decide +kernel
theorem dL_law_905 : decode cL_law 905 = .ok (.if_icmp .eq 28, 3) := by decide +kernel
theorem dL_law_908 : decode cL_law 908 = .ok (.iconst 0, 1) := by decide +kernel
theorem dL_law_909 : decode cL_law 909 = .ok (.ireturn, 1) := by decide +kernel
theorem dL_law_910 : decode cL_law 910 = .ok (.aload_n 1, 1) := by decide +kernel
theorem dL_law_911 : decode cL_law 911 = .ok (.aload_n 0, 1) := by decide +kernel
theorem dL_law_912 : decode cL_law 912 = .ok (.iload_n 3, 1) := by decide +kernel
theorem dL_law_913 : decode cL_law 913 = .ok (.iconst 1, 1) := by decide +kernel
theorem dL_law_914 : decode cL_law 914 = .ok (.iadd, 1) := by decide +kernel
theorem dL_law_915 : decode cL_law 915 = .ok (.iaload, 1) := by decide +kernel
theorem dL_law_916 : decode cL_law 916 = .ok (.invokevirtual 119, 3) := by decide +kernel
theorem dL_law_919 : decode cL_law 919 = .ok (.aload_n 2, 1) := by decide +kernel
theorem dL_law_920 : decode cL_law 920 = .ok (.aload_n 0, 1) := by decide +kernel
theorem dL_law_921 : decode cL_law 921 = .ok (.iload_n 3, 1) := by decide +kernel
theorem dL_law_922 : decode cL_law 922 = .ok (.iconst 1, 1) := by decide +kernel
theorem dL_law_923 : decode cL_law 923 = .ok (.iadd, 1) := by decide +kernel
theorem dL_law_924 : decode cL_law 924 = .ok (.iaload, 1) := by decide +kernel
theorem dL_law_925 : decode cL_law 925 = .ok (.invokevirtual 122, 3) := by decide +kernel
theorem dL_law_928 : decode cL_law 928 = .ok (.if_icmp .eq 5, 3) := by decide +kernel
theorem dL_law_931 : decode cL_law 931 = .ok (.iconst 0, 1) := by decide +kernel
theorem dL_law_932 : decode cL_law 932 = .ok (.ireturn, 1) := by decide +kernel
theorem dL_law_933 : decode cL_law 933 = .ok (.iinc 3 4, 3) := by decide +kernel
theorem dL_law_936 : decode cL_law 936 = .ok (.goto (-918), 3) := by decide +kernel
theorem dL_law_939 : decode cL_law 939 = .ok (.iconst 1, 1) := by decide +kernel
theorem dL_law_940 : decode cL_law 940 = .ok (.ireturn, 1) := by decide +kernel
