theorem dX7_reach_15 : decode cX7_reach 15 = .ok (.getfield 48, 3) := by decide +kernel
theorem dX7_reach_18 : decode cX7_reach 18 = .ok (.iload_n 1, 1) := by decide +kernel
theorem dX7_reach_19 : decode cX7_reach 19 = .ok (.iconst 1, 1) := by decide +kernel
theorem dX7_reach_20 : decode cX7_reach 20 = .ok (.bastore, 1) := by decide +kernel
theorem dX7_reach_21 : decode cX7_reach 21 = .ok (.aload_n 0, 1) := by decide +kernel
theorem dX7_reach_22 : decode cX7_reach 22 = .ok (.getfield 51, 3) := by decide +kernel
theorem dX7_reach_25 : decode cX7_reach 25 = .ok (.aload_n 0, 1) := by decide +kernel
theorem dX7_reach_26 : decode cX7_reach 26 = .ok (.dup, 1) := by decide +kernel
theorem dX7_reach_27 : decode cX7_reach 27 = .ok (.getfield 108, 3) := by decide +kernel
theorem dX7_reach_30 : decode cX7_reach 30 = .ok (.dup_x1, 1) := by decide +kernel
theorem dX7_reach_31 : decode cX7_reach 31 = .ok (.iconst 1, 1) := by decide +kernel
theorem dX7_reach_32 : decode cX7_reach 32 = .ok (.iadd, 1) := by decide +kernel
theorem dX7_reach_33 : decode cX7_reach 33 = .ok (.putfield 108, 3) := by decide +kernel
theorem dX7_reach_36 : decode cX7_reach 36 = .ok (.iload_n 1, 1) := by decide +kernel
theorem dX7_reach_37 : decode cX7_reach 37 = .ok (.iastore, 1) := by decide +kernel
theorem dX7_reach_38 : decode cX7_reach 38 = .ok (.return_, 1) := by decide +kernel
theorem dX7_spread_0 : decode cX7_spread 0 = .ok (.aload_n 0, 1) := by decide +kernel
theorem dX7_spread_1 : decode cX7_spread 1 = .ok (.getfield 108, 3) := by decide +kernel
theorem dX7_spread_4 : decode cX7_spread 4 = .ok (.ifCond .le 148, 3) := by decide +kernel
theorem dX7_spread_7 : decode cX7_spread 7 = .ok (.aload_n 0, 1) := by decide +kernel
theorem dX7_spread_8 : decode cX7_spread 8 = .ok (.getfield 51, 3) := by decide +kernel
theorem dX7_spread_11 : decode cX7_spread 11 = .ok (.aload_n 0, 1) := by decide +kernel
theorem dX7_spread_12 : decode cX7_spread 12 = .ok (.dup, 1) := by decide +kernel
theorem dX7_spread_13 : decode cX7_spread 13 = .ok (.getfield 108, 3) := by decide +kernel
theorem dX7_spread_16 : decode cX7_spread 16 = .ok (.iconst 1, 1) := by decide +kernel
theorem dX7_spread_17 : decode cX7_spread 17 = .ok (.isub, 1) := by decide +kernel
theorem dX7_spread_18 : decode cX7_spread 18 = .ok (.dup_x1, 1) := by decide +kernel
theorem dX7_spread_19 : decode cX7_spread 19 = .ok (.putfield 108, 3) := by decide +kernel
theorem dX7_spread_22 : decode cX7_spread 22 = .ok (.iaload, 1) := by decide +kernel
theorem dX7_spread_23 : decode cX7_spread 23 = .ok (.istore_n 2, 1) := by decide +kernel
theorem dX7_spread_24 : decode cX7_spread 24 = .ok (.iconst 0, 1) := by decide +kernel
theorem dX7_spread_25 : decode cX7_spread 25 = .ok (.istore_n 3, 1) := by decide +kernel
theorem dX7_spread_26 : decode cX7_spread 26 = .ok (.iload_n 3, 1) := by decide +kernel
theorem dX7_spread_27 : decode cX7_spread 27 = .ok (.aload_n 0, 1) := by decide +kernel
theorem dX7_spread_28 : decode cX7_spread 28 = .ok (.getfield 20, 3) := by decide +kernel
theorem dX7_spread_31 : decode cX7_spread 31 = .ok (.iload_n 2, 1) := by decide +kernel
theorem dX7_spread_32 : decode cX7_spread 32 = .ok (.iaload, 1) := by decide +kernel
theorem dX7_spread_33 : decode cX7_spread 33 = .ok (.if_icmp .ge 27, 3) := by decide +kernel
theorem dX7_spread_36 : decode cX7_spread 36 = .ok (.aload_n 0, 1) := by decide +kernel
theorem dX7_spread_37 : decode cX7_spread 37 = .ok (.aload_n 0, 1) := by decide +kernel
theorem dX7_spread_38 : decode cX7_spread 38 = .ok (.getfield 57, 3) := by decide +kernel
theorem dX7_spread_41 : decode cX7_spread 41 = .ok (.aload_n 0, 1) := by decide +kernel
theorem dX7_spread_42 : decode cX7_spread 42 = .ok (.getfield 17, 3) := by decide +kernel
theorem dX7_spread_45 : decode cX7_spread 45 = .ok (.iload_n 2, 1) := by decide +kernel
theorem dX7_spread_46 : decode cX7_spread 46 = .ok (.iaload, 1) := by decide +kernel
theorem dX7_spread_47 : decode cX7_spread 47 = .ok (.iload_n 3, 1) := by decide +kernel
theorem dX7_spread_48 : decode cX7_spread 48 = .ok (.iadd, 1) := by decide +kernel
theorem dX7_spread_49 : decode cX7_spread 49 = .ok (.laload, 1) := by decide +kernel
theorem dX7_spread_50 : decode cX7_spread 50 = .ok (.l2i, 1) := by decide +kernel
theorem dX7_spread_51 : decode cX7_spread 51 = .ok (.invokevirtual 111, 3) := by decide +kernel
theorem dX7_spread_54 : decode cX7_spread 54 = .ok (.iinc 3 1, 3) := by decide +kernel
theorem dX7_spread_57 : decode cX7_spread 57 = .ok (.goto (-31), 3) := by decide +kernel
theorem dX7_spread_60 : decode cX7_spread 60 = .ok (.aload_n 0, 1) := by decide +kernel
theorem dX7_spread_61 : decode cX7_spread 61 = .ok (.getfield 13, 3) := by decide +kernel
theorem dX7_spread_64 : decode cX7_spread 64 = .ok (.iload_n 2, 1) := by decide +kernel
theorem dX7_spread_65 : decode cX7_spread 65 = .ok (.iaload, 1) := by decide +kernel
theorem dX7_spread_66 : decode cX7_spread 66 = .ok (.iconst 3, 1) := by decide +kernel
theorem dX7_spread_67 : decode cX7_spread 67 = .ok (.if_icmp .ne 29, 3) := by decide +kernel
theorem dX7_spread_70 : decode cX7_spread 70 = .ok (.aload_n 0, 1) := by decide +kernel
theorem dX7_spread_71 : decode cX7_spread 71 = .ok (.getfield 32, 3) := by decide +kernel
theorem dX7_spread_74 : decode cX7_spread 74 = .ok (.iload_n 2, 1) := by decide +kernel
theorem dX7_spread_75 : decode cX7_spread 75 = .ok (.iaload, 1) := by decide +kernel
theorem dX7_spread_76 : decode cX7_spread 76 = .ok (.istore_n 3, 1) := by decide +kernel
theorem dX7_spread_77 : decode cX7_spread 77 = .ok (.iload_n 3, 1) := by decide +kernel
theorem dX7_spread_78 : decode cX7_spread 78 = .ok (.ifCond .eq 18, 3) := by decide +kernel
theorem dX7_spread_81 : decode cX7_spread 81 = .ok (.aload_n 0, 1) := by decide +kernel
theorem dX7_spread_82 : decode cX7_spread 82 = .ok (.iload_n 3, 1) := by decide +kernel
theorem dX7_spread_83 : decode cX7_spread 83 = .ok (.invokevirtual 111, 3) := by decide +kernel
theorem dX7_spread_86 : decode cX7_spread 86 = .ok (.aload_n 0, 1) := by decide +kernel
theorem dX7_spread_87 : decode cX7_spread 87 = .ok (.getfield 29, 3) := by decide +kernel
theorem dX7_spread_90 : decode cX7_spread 90 = .ok (.iload_n 3, 1) := by decide +kernel
theorem dX7_spread_91 : decode cX7_spread 91 = .ok (.iaload, 1) := by decide +kernel
theorem dX7_spread_92 : decode cX7_spread 92 = .ok (.istore_n 3, 1) := by decide +kernel
theorem dX7_spread_93 : decode cX7_spread 93 = .ok (.goto (-16), 3) := by decide +kernel
theorem dX7_spread_96 : decode cX7_spread 96 = .ok (.aload_n 0, 1) := by decide +kernel
theorem dX7_spread_97 : decode cX7_spread 97 = .ok (.getfield 13, 3) := by decide +kernel
theorem dX7_spread_100 : decode cX7_spread 100 = .ok (.iload_n 2, 1) := by decide +kernel
theorem dX7_spread_101 : decode cX7_spread 101 = .ok (.iaload, 1) := by decide +kernel
theorem dX7_spread_102 : decode cX7_spread 102 = .ok (.iconst 4, 1) := by decide +kernel
theorem dX7_spread_103 : decode cX7_spread 103 = .ok (.if_icmp .ne 17, 3) := by decide +kernel
theorem dX7_spread_106 : decode cX7_spread 106 = .ok (.iload_n 1, 1) := by decide +kernel
theorem dX7_spread_107 : decode cX7_spread 107 = .ok (.ifCond .ne 13, 3) := by decide +kernel
theorem dX7_spread_110 : decode cX7_spread 110 = .ok (.aload_n 0, 1) := by decide +kernel
theorem dX7_spread_111 : decode cX7_spread 111 = .ok (.aload_n 0, 1) := by decide +kernel
theorem dX7_spread_112 : decode cX7_spread 112 = .ok (.getfield 32, 3) := by decide +kernel
theorem dX7_spread_115 : decode cX7_spread 115 = .ok (.iload_n 2, 1) := by decide +kernel
theorem dX7_spread_116 : decode cX7_spread 116 = .ok (.iaload, 1) := by decide +kernel
theorem dX7_spread_117 : decode cX7_spread 117 = .ok (.invokevirtual 111, 3) := by decide +kernel
theorem dX7_spread_120 : decode cX7_spread 120 = .ok (.aload_n 0, 1) := by decide +kernel
theorem dX7_spread_121 : decode cX7_spread 121 = .ok (.getfield 13, 3) := by decide +kernel
theorem dX7_spread_124 : decode cX7_spread 124 = .ok (.iload_n 2, 1) := by decide +kernel
theorem dX7_spread_125 : decode cX7_spread 125 = .ok (.iaload, 1) := by decide +kernel
theorem dX7_spread_126 : decode cX7_spread 126 = .ok (.iconst 4, 1) := by decide +kernel
theorem dX7_spread_127 : decode cX7_spread 127 = .ok (.if_icmp .lt 22, 3) := by decide +kernel
theorem dX7_spread_130 : decode cX7_spread 130 = .ok (.aload_n 0, 1) := by decide +kernel
theorem dX7_spread_131 : decode cX7_spread 131 = .ok (.getfield 44, 3) := by decide +kernel
theorem dX7_spread_134 : decode cX7_spread 134 = .ok (.iload_n 2, 1) := by decide +kernel
theorem dX7_spread_135 : decode cX7_spread 135 = .ok (.baload, 1) := by decide +kernel
theorem dX7_spread_136 : decode cX7_spread 136 = .ok (.ifCond .ne 13, 3) := by decide +kernel
theorem dX7_spread_139 : decode cX7_spread 139 = .ok (.aload_n 0, 1) := by decide +kernel
theorem dX7_spread_140 : decode cX7_spread 140 = .ok (.aload_n 0, 1) := by decide +kernel
theorem dX7_spread_141 : decode cX7_spread 141 = .ok (.getfield 38, 3) := by decide +kernel
theorem dX7_spread_144 : decode cX7_spread 144 = .ok (.iload_n 2, 1) := by decide +kernel
theorem dX7_spread_145 : decode cX7_spread 145 = .ok (.iaload, 1) := by decide +kernel
theorem dX7_spread_146 : decode cX7_spread 146 = .ok (.invokevirtual 111, 3) := by decide +kernel
theorem dX7_spread_149 : decode cX7_spread 149 = .ok (.goto (-149), 3) := by decide +kernel
theorem dX7_spread_152 : decode cX7_spread 152 = .ok (.return_, 1) := by decide +kernel
theorem dX7_collectAll_0 : decode cX7_collectAll 0 = .ok (.aload_n 0, 1) := by decide +kernel
theorem dX7_collectAll_1 : decode cX7_collectAll 1 = .ok (.dup, 1) := by decide +kernel
theorem dX7_collectAll_2 : decode cX7_collectAll 2 = .ok (.getfield 115, 3) := by decide +kernel
theorem dX7_collectAll_5 : decode cX7_collectAll 5 = .ok (.iconst 1, 1) := by decide +kernel
theorem dX7_collectAll_6 : decode cX7_collectAll 6 = .ok (.iadd, 1) := by decide +kernel
theorem dX7_collectAll_7 : decode cX7_collectAll 7 = .ok (.putfield 115, 3) := by decide +kernel
theorem dX7_collectAll_10 : decode cX7_collectAll 10 = .ok (.aload_n 0, 1) := by decide +kernel
theorem dX7_collectAll_11 : decode cX7_collectAll 11 = .ok (.getfield 80, 3) := by decide +kernel
theorem dX7_collectAll_14 : decode cX7_collectAll 14 = .ok (.istore_n 2, 1) := by decide +kernel
theorem dX7_collectAll_15 : decode cX7_collectAll 15 = .ok (.iconst 1, 1) := by decide +kernel
theorem dX7_collectAll_16 : decode cX7_collectAll 16 = .ok (.istore_n 3, 1) := by decide +kernel
theorem dX7_collectAll_17 : decode cX7_collectAll 17 = .ok (.iload_n 3, 1) := by decide +kernel
theorem dX7_collectAll_18 : decode cX7_collectAll 18 = .ok (.aload_n 0, 1) := by decide +kernel
theorem dX7_collectAll_19 : decode cX7_collectAll 19 = .ok (.getfield 61, 3) := by decide +kernel
theorem dX7_collectAll_22 : decode cX7_collectAll 22 = .ok (.if_icmp .ge 16, 3) := by decide +kernel
theorem dX7_collectAll_25 : decode cX7_collectAll 25 = .ok (.aload_n 0, 1) := by decide +kernel
theorem dX7_collectAll_26 : decode cX7_collectAll 26 = .ok (.getfield 48, 3) := by decide +kernel
theorem dX7_collectAll_29 : decode cX7_collectAll 29 = .ok (.iload_n 3, 1) := by decide +kernel
theorem dX7_collectAll_30 : decode cX7_collectAll 30 = .ok (.iconst 0, 1) := by decide +kernel
theorem dX7_collectAll_31 : decode cX7_collectAll 31 = .ok (.bastore, 1) := by decide +kernel
theorem dX7_collectAll_32 : decode cX7_collectAll 32 = .ok (.iinc 3 1, 3) := by decide +kernel
theorem dX7_collectAll_35 : decode cX7_collectAll 35 = .ok (.goto (-18), 3) := by decide +kernel
theorem dX7_collectAll_38 : decode cX7_collectAll 38 = .ok (.aload_n 0, 1) := by decide +kernel
theorem dX7_collectAll_39 : decode cX7_collectAll 39 = .ok (.iconst 0, 1) := by decide +kernel
theorem dX7_collectAll_40 : decode cX7_collectAll 40 = .ok (.putfield 108, 3) := by decide +kernel
theorem dX7_collectAll_43 : decode cX7_collectAll 43 = .ok (.iconst 0, 1) := by decide +kernel
theorem dX7_collectAll_44 : decode cX7_collectAll 44 = .ok (.istore_n 3, 1) := by decide +kernel
theorem dX7_collectAll_45 : decode cX7_collectAll 45 = .ok (.iload_n 3, 1) := by decide +kernel
theorem dX7_collectAll_46 : decode cX7_collectAll 46 = .ok (.aload_n 0, 1) := by decide +kernel
theorem dX7_collectAll_47 : decode cX7_collectAll 47 = .ok (.getfield 70, 3) := by decide +kernel
theorem dX7_collectAll_50 : decode cX7_collectAll 50 = .ok (.if_icmp .ge 19, 3) := by decide +kernel
theorem dX7_collectAll_53 : decode cX7_collectAll 53 = .ok (.aload_n 0, 1) := by decide +kernel
theorem dX7_collectAll_54 : decode cX7_collectAll 54 = .ok (.aload_n 0, 1) := by decide +kernel
theorem dX7_collectAll_55 : decode cX7_collectAll 55 = .ok (.getfield 64, 3) := by decide +kernel
theorem dX7_collectAll_58 : decode cX7_collectAll 58 = .ok (.iload_n 3, 1) := by decide +kernel
theorem dX7_collectAll_59 : decode cX7_collectAll 59 = .ok (.iaload, 1) := by decide +kernel
theorem dX7_collectAll_60 : decode cX7_collectAll 60 = .ok (.invokevirtual 111, 3) := by decide +kernel
theorem dX7_collectAll_63 : decode cX7_collectAll 63 = .ok (.iinc 3 1, 3) := by decide +kernel
theorem dX7_collectAll_66 : decode cX7_collectAll 66 = .ok (.goto (-21), 3) := by decide +kernel
theorem dX7_collectAll_69 : decode cX7_collectAll 69 = .ok (.aload_n 0, 1) := by decide +kernel
theorem dX7_collectAll_70 : decode cX7_collectAll 70 = .ok (.iload_n 1, 1) := by decide +kernel
theorem dX7_collectAll_71 : decode cX7_collectAll 71 = .ok (.invokevirtual 118, 3) := by decide +kernel
theorem dX7_collectAll_74 : decode cX7_collectAll 74 = .ok (.iconst 1, 1) := by decide +kernel
theorem dX7_collectAll_75 : decode cX7_collectAll 75 = .ok (.istore_n 3, 1) := by decide +kernel
theorem dX7_collectAll_76 : decode cX7_collectAll 76 = .ok (.iload_n 3, 1) := by decide +kernel
theorem dX7_collectAll_77 : decode cX7_collectAll 77 = .ok (.ifCond .eq 119, 3) := by decide +kernel
theorem dX7_collectAll_80 : decode cX7_collectAll 80 = .ok (.iconst 0, 1) := by decide +kernel
theorem dX7_collectAll_81 : decode cX7_collectAll 81 = .ok (.istore_n 3, 1) := by decide +kernel
theorem dX7_collectAll_82 : decode cX7_collectAll 82 = .ok (.iconst 1, 1) := by decide +kernel
theorem dX7_collectAll_83 : decode cX7_collectAll 83 = .ok (.istore 4, 2) := by decide +kernel
theorem dX7_collectAll_85 : decode cX7_collectAll 85 = .ok (.iload 4, 2) := by decide +kernel
theorem dX7_collectAll_87 : decode cX7_collectAll 87 = .ok (.aload_n 0, 1) := by decide +kernel
theorem dX7_collectAll_88 : decode cX7_collectAll 88 = .ok (.getfield 61, 3) := by decide +kernel
theorem dX7_collectAll_91 : decode cX7_collectAll 91 = .ok (.if_icmp .ge 102, 3) := by decide +kernel
theorem dX7_collectAll_94 : decode cX7_collectAll 94 = .ok (.aload_n 0, 1) := by decide +kernel
theorem dX7_collectAll_95 : decode cX7_collectAll 95 = .ok (.getfield 13, 3) := by decide +kernel
theorem dX7_collectAll_98 : decode cX7_collectAll 98 = .ok (.iload 4, 2) := by decide +kernel
theorem dX7_collectAll_100 : decode cX7_collectAll 100 = .ok (.iaload, 1) := by decide +kernel
theorem dX7_collectAll_101 : decode cX7_collectAll 101 = .ok (.bipush 7, 2) := by decide +kernel
theorem dX7_collectAll_103 : decode cX7_collectAll 103 = .ok (.if_icmp .ne 84, 3) := by decide +kernel
theorem dX7_collectAll_106 : decode cX7_collectAll 106 = .ok (.aload_n 0, 1) := by decide +kernel
theorem dX7_collectAll_107 : decode cX7_collectAll 107 = .ok (.getfield 48, 3) := by decide +kernel
theorem dX7_collectAll_110 : decode cX7_collectAll 110 = .ok (.iload 4, 2) := by decide +kernel
theorem dX7_collectAll_112 : decode cX7_collectAll 112 = .ok (.baload, 1) := by decide +kernel
theorem dX7_collectAll_113 : decode cX7_collectAll 113 = .ok (.ifCond .eq 74, 3) := by decide +kernel
theorem dX7_collectAll_116 : decode cX7_collectAll 116 = .ok (.aload_n 0, 1) := by decide +kernel
theorem dX7_collectAll_117 : decode cX7_collectAll 117 = .ok (.getfield 32, 3) := by decide +kernel
theorem dX7_collectAll_120 : decode cX7_collectAll 120 = .ok (.iload 4, 2) := by decide +kernel
theorem dX7_collectAll_122 : decode cX7_collectAll 122 = .ok (.iaload, 1) := by decide +kernel
theorem dX7_collectAll_123 : decode cX7_collectAll 123 = .ok (.ifCond .eq 64, 3) := by decide +kernel
theorem dX7_collectAll_126 : decode cX7_collectAll 126 = .ok (.aload_n 0, 1) := by decide +kernel
theorem dX7_collectAll_127 : decode cX7_collectAll 127 = .ok (.getfield 48, 3) := by decide +kernel
theorem dX7_collectAll_130 : decode cX7_collectAll 130 = .ok (.aload_n 0, 1) := by decide +kernel
theorem dX7_collectAll_131 : decode cX7_collectAll 131 = .ok (.getfield 32, 3) := by decide +kernel
theorem dX7_collectAll_134 : decode cX7_collectAll 134 = .ok (.iload 4, 2) := by decide +kernel
theorem dX7_collectAll_136 : decode cX7_collectAll 136 = .ok (.iaload, 1) := by decide +kernel
theorem dX7_collectAll_137 : decode cX7_collectAll 137 = .ok (.baload, 1) := by decide +kernel
theorem dX7_collectAll_138 : decode cX7_collectAll 138 = .ok (.ifCond .eq 49, 3) := by decide +kernel
theorem dX7_collectAll_141 : decode cX7_collectAll 141 = .ok (.aload_n 0, 1) := by decide +kernel
theorem dX7_collectAll_142 : decode cX7_collectAll 142 = .ok (.getfield 35, 3) := by decide +kernel
theorem dX7_collectAll_145 : decode cX7_collectAll 145 = .ok (.iload 4, 2) := by decide +kernel
theorem dX7_collectAll_147 : decode cX7_collectAll 147 = .ok (.iaload, 1) := by decide +kernel
theorem dX7_collectAll_148 : decode cX7_collectAll 148 = .ok (.ifCond .eq 39, 3) := by decide +kernel
theorem dX7_collectAll_151 : decode cX7_collectAll 151 = .ok (.aload_n 0, 1) := by decide +kernel
theorem dX7_collectAll_152 : decode cX7_collectAll 152 = .ok (.getfield 48, 3) := by decide +kernel
theorem dX7_collectAll_155 : decode cX7_collectAll 155 = .ok (.aload_n 0, 1) := by decide +kernel
theorem dX7_collectAll_156 : decode cX7_collectAll 156 = .ok (.getfield 35, 3) := by decide +kernel
theorem dX7_collectAll_159 : decode cX7_collectAll 159 = .ok (.iload 4, 2) := by decide +kernel
theorem dX7_collectAll_161 : decode cX7_collectAll 161 = .ok (.iaload, 1) := by decide +kernel
theorem dX7_collectAll_162 : decode cX7_collectAll 162 = .ok (.baload, 1) := by decide +kernel
theorem dX7_collectAll_163 : decode cX7_collectAll 163 = .ok (.ifCond .eq 6, 3) := by decide +kernel
theorem dX7_collectAll_166 : decode cX7_collectAll 166 = .ok (.goto 21, 3) := by decide +kernel
theorem dX7_collectAll_169 : decode cX7_collectAll 169 = .ok (.aload_n 0, 1) := by decide +kernel
theorem dX7_collectAll_170 : decode cX7_collectAll 170 = .ok (.aload_n 0, 1) := by decide +kernel
theorem dX7_collectAll_171 : decode cX7_collectAll 171 = .ok (.getfield 35, 3) := by decide +kernel
theorem dX7_collectAll_174 : decode cX7_collectAll 174 = .ok (.iload 4, 2) := by decide +kernel
theorem dX7_collectAll_176 : decode cX7_collectAll 176 = .ok (.iaload, 1) := by decide +kernel
theorem dX7_collectAll_177 : decode cX7_collectAll 177 = .ok (.invokevirtual 111, 3) := by decide +kernel
theorem dX7_collectAll_180 : decode cX7_collectAll 180 = .ok (.aload_n 0, 1) := by decide +kernel
theorem dX7_collectAll_181 : decode cX7_collectAll 181 = .ok (.iload_n 1, 1) := by decide +kernel
theorem dX7_collectAll_182 : decode cX7_collectAll 182 = .ok (.invokevirtual 118, 3) := by decide +kernel
theorem dX7_collectAll_185 : decode cX7_collectAll 185 = .ok (.iconst 1, 1) := by decide +kernel
theorem dX7_collectAll_186 : decode cX7_collectAll 186 = .ok (.istore_n 3, 1) := by decide +kernel
theorem dX7_collectAll_187 : decode cX7_collectAll 187 = .ok (.iinc 4 1, 3) := by decide +kernel
theorem dX7_collectAll_190 : decode cX7_collectAll 190 = .ok (.goto (-105), 3) := by decide +kernel
theorem dX7_collectAll_193 : decode cX7_collectAll 193 = .ok (.goto (-117), 3) := by decide +kernel
theorem dX7_collectAll_196 : decode cX7_collectAll 196 = .ok (.iconst 0, 1) := by decide +kernel
theorem dX7_collectAll_197 : decode cX7_collectAll 197 = .ok (.istore 4, 2) := by decide +kernel
theorem dX7_collectAll_199 : decode cX7_collectAll 199 = .ok (.iconst 1, 1) := by decide +kernel
theorem dX7_collectAll_200 : decode cX7_collectAll 200 = .ok (.istore 5, 2) := by decide +kernel
theorem dX7_collectAll_202 : decode cX7_collectAll 202 = .ok (.iload 5, 2) := by decide +kernel
theorem dX7_collectAll_204 : decode cX7_collectAll 204 = .ok (.aload_n 0, 1) := by decide +kernel
theorem dX7_collectAll_205 : decode cX7_collectAll 205 = .ok (.getfield 61, 3) := by decide +kernel
theorem dX7_collectAll_208 : decode cX7_collectAll 208 = .ok (.if_icmp .ge 67, 3) := by decide +kernel
theorem dX7_collectAll_211 : decode cX7_collectAll 211 = .ok (.aload_n 0, 1) := by decide +kernel
theorem dX7_collectAll_212 : decode cX7_collectAll 212 = .ok (.getfield 13, 3) := by decide +kernel
theorem dX7_collectAll_215 : decode cX7_collectAll 215 = .ok (.iload 5, 2) := by decide +kernel
theorem dX7_collectAll_217 : decode cX7_collectAll 217 = .ok (.iaload, 1) := by decide +kernel
theorem dX7_collectAll_218 : decode cX7_collectAll 218 = .ok (.iconst 4, 1) := by decide +kernel
theorem dX7_collectAll_219 : decode cX7_collectAll 219 = .ok (.if_icmp .lt 50, 3) := by decide +kernel
theorem dX7_collectAll_222 : decode cX7_collectAll 222 = .ok (.aload_n 0, 1) := by decide +kernel
theorem dX7_collectAll_223 : decode cX7_collectAll 223 = .ok (.getfield 48, 3) := by decide +kernel
theorem dX7_collectAll_226 : decode cX7_collectAll 226 = .ok (.iload 5, 2) := by decide +kernel
theorem dX7_collectAll_228 : decode cX7_collectAll 228 = .ok (.baload, 1) := by decide +kernel
theorem dX7_collectAll_229 : decode cX7_collectAll 229 = .ok (.ifCond .eq 40, 3) := by decide +kernel
theorem dX7_collectAll_232 : decode cX7_collectAll 232 = .ok (.aload_n 0, 1) := by decide +kernel
theorem dX7_collectAll_233 : decode cX7_collectAll 233 = .ok (.getfield 32, 3) := by decide +kernel
theorem dX7_collectAll_236 : decode cX7_collectAll 236 = .ok (.iload 5, 2) := by decide +kernel
theorem dX7_collectAll_238 : decode cX7_collectAll 238 = .ok (.iaload, 1) := by decide +kernel
theorem dX7_collectAll_239 : decode cX7_collectAll 239 = .ok (.ifCond .eq 30, 3) := by decide +kernel
theorem dX7_collectAll_242 : decode cX7_collectAll 242 = .ok (.aload_n 0, 1) := by decide +kernel
theorem dX7_collectAll_243 : decode cX7_collectAll 243 = .ok (.getfield 48, 3) := by decide +kernel
theorem dX7_collectAll_246 : decode cX7_collectAll 246 = .ok (.aload_n 0, 1) := by decide +kernel
theorem dX7_collectAll_247 : decode cX7_collectAll 247 = .ok (.getfield 32, 3) := by decide +kernel
theorem dX7_collectAll_250 : decode cX7_collectAll 250 = .ok (.iload 5, 2) := by decide +kernel
theorem dX7_collectAll_252 : decode cX7_collectAll 252 = .ok (.iaload, 1) := by decide +kernel
theorem dX7_collectAll_253 : decode cX7_collectAll 253 = .ok (.baload, 1) := by decide +kernel
theorem dX7_collectAll_254 : decode cX7_collectAll 254 = .ok (.ifCond .ne 15, 3) := by decide +kernel
theorem dX7_collectAll_257 : decode cX7_collectAll 257 = .ok (.aload_n 0, 1) := by decide +kernel
theorem dX7_collectAll_258 : decode cX7_collectAll 258 = .ok (.getfield 51, 3) := by decide +kernel
theorem dX7_collectAll_261 : decode cX7_collectAll 261 = .ok (.iload 4, 2) := by decide +kernel
theorem dX7_collectAll_263 : decode cX7_collectAll 263 = .ok (.iinc 4 1, 3) := by decide +kernel
theorem dX7_collectAll_266 : decode cX7_collectAll 266 = .ok (.iload 5, 2) := by decide +kernel
theorem dX7_collectAll_268 : decode cX7_collectAll 268 = .ok (.iastore, 1) := by decide +kernel
theorem dX7_collectAll_269 : decode cX7_collectAll 269 = .ok (.iinc 5 1, 3) := by decide +kernel
theorem dX7_collectAll_272 : decode cX7_collectAll 272 = .ok (.goto (-70), 3) := by decide +kernel
theorem dX7_collectAll_275 : decode cX7_collectAll 275 = .ok (.iload 4, 2) := by decide +kernel
theorem dX7_collectAll_277 : decode cX7_collectAll 277 = .ok (.iconst 2, 1) := by decide +kernel
theorem dX7_collectAll_278 : decode cX7_collectAll 278 = .ok (.idiv, 1) := by decide +kernel
theorem dX7_collectAll_279 : decode cX7_collectAll 279 = .ok (.istore 5, 2) := by decide +kernel
theorem dX7_collectAll_281 : decode cX7_collectAll 281 = .ok (.iload 5, 2) := by decide +kernel
theorem dX7_collectAll_283 : decode cX7_collectAll 283 = .ok (.ifCond .le 110, 3) := by decide +kernel
theorem dX7_collectAll_286 : decode cX7_collectAll 286 = .ok (.iload 5, 2) := by decide +kernel
theorem dX7_collectAll_288 : decode cX7_collectAll 288 = .ok (.istore 6, 2) := by decide +kernel
theorem dX7_collectAll_290 : decode cX7_collectAll 290 = .ok (.iload 6, 2) := by decide +kernel
theorem dX7_collectAll_292 : decode cX7_collectAll 292 = .ok (.iload 4, 2) := by decide +kernel
theorem dX7_collectAll_294 : decode cX7_collectAll 294 = .ok (.if_icmp .ge 90, 3) := by decide +kernel
theorem dX7_collectAll_297 : decode cX7_collectAll 297 = .ok (.aload_n 0, 1) := by decide +kernel
theorem dX7_collectAll_298 : decode cX7_collectAll 298 = .ok (.getfield 51, 3) := by decide +kernel
theorem dX7_collectAll_301 : decode cX7_collectAll 301 = .ok (.iload 6, 2) := by decide +kernel
theorem dX7_collectAll_303 : decode cX7_collectAll 303 = .ok (.iaload, 1) := by decide +kernel
theorem dX7_collectAll_304 : decode cX7_collectAll 304 = .ok (.istore 7, 2) := by decide +kernel
theorem dX7_collectAll_306 : decode cX7_collectAll 306 = .ok (.iload 6, 2) := by decide +kernel
theorem dX7_collectAll_308 : decode cX7_collectAll 308 = .ok (.istore 8, 2) := by decide +kernel
theorem dX7_collectAll_310 : decode cX7_collectAll 310 = .ok (.iload 8, 2) := by decide +kernel
theorem dX7_collectAll_312 : decode cX7_collectAll 312 = .ok (.iload 5, 2) := by decide +kernel
theorem dX7_collectAll_314 : decode cX7_collectAll 314 = .ok (.if_icmp .lt 55, 3) := by decide +kernel
theorem dX7_collectAll_317 : decode cX7_collectAll 317 = .ok (.aload_n 0, 1) := by decide +kernel
theorem dX7_collectAll_318 : decode cX7_collectAll 318 = .ok (.getfield 41, 3) := by decide +kernel
theorem dX7_collectAll_321 : decode cX7_collectAll 321 = .ok (.aload_n 0, 1) := by decide +kernel
theorem dX7_collectAll_322 : decode cX7_collectAll 322 = .ok (.getfield 51, 3) := by decide +kernel
theorem dX7_collectAll_325 : decode cX7_collectAll 325 = .ok (.iload 8, 2) := by decide +kernel
theorem dX7_collectAll_327 : decode cX7_collectAll 327 = .ok (.iload 5, 2) := by decide +kernel
theorem dX7_collectAll_329 : decode cX7_collectAll 329 = .ok (.isub, 1) := by decide +kernel
theorem dX7_collectAll_330 : decode cX7_collectAll 330 = .ok (.iaload, 1) := by decide +kernel
theorem dX7_collectAll_331 : decode cX7_collectAll 331 = .ok (.iaload, 1) := by decide +kernel
theorem dX7_collectAll_332 : decode cX7_collectAll 332 = .ok (.aload_n 0, 1) := by decide +kernel
theorem dX7_collectAll_333 : decode cX7_collectAll 333 = .ok (.getfield 41, 3) := by decide +kernel
theorem dX7_collectAll_336 : decode cX7_collectAll 336 = .ok (.iload 7, 2) := by decide +kernel
theorem dX7_collectAll_338 : decode cX7_collectAll 338 = .ok (.iaload, 1) := by decide +kernel
theorem dX7_collectAll_339 : decode cX7_collectAll 339 = .ok (.if_icmp .le 30, 3) := by decide +kernel
theorem dX7_collectAll_342 : decode cX7_collectAll 342 = .ok (.aload_n 0, 1) := by decide +kernel
theorem dX7_collectAll_343 : decode cX7_collectAll 343 = .ok (.getfield 51, 3) := by decide +kernel
theorem dX7_collectAll_346 : decode cX7_collectAll 346 = .ok (.iload 8, 2) := by decide +kernel
theorem dX7_collectAll_348 : decode cX7_collectAll 348 = .ok (.aload_n 0, 1) := by decide +kernel
theorem dX7_collectAll_349 : decode cX7_collectAll 349 = .ok (.getfield 51, 3) := by decide +kernel
theorem dX7_collectAll_352 : decode cX7_collectAll 352 = .ok (.iload 8, 2) := by decide +kernel
theorem dX7_collectAll_354 : decode cX7_collectAll 354 = .ok (.iload 5, 2) := by decide +kernel
theorem dX7_collectAll_356 : decode cX7_collectAll 356 = .ok (.isub, 1) := by decide +kernel
theorem dX7_collectAll_357 : decode cX7_collectAll 357 = .ok (.iaload, 1) := by decide +kernel
theorem dX7_collectAll_358 : decode cX7_collectAll 358 = .ok (.iastore, 1) := by decide +kernel
theorem dX7_collectAll_359 : decode cX7_collectAll 359 = .ok (.iload 8, 2) := by decide +kernel
theorem dX7_collectAll_361 : decode cX7_collectAll 361 = .ok (.iload 5, 2) := by decide +kernel
theorem dX7_collectAll_363 : decode cX7_collectAll 363 = .ok (.isub, 1) := by decide +kernel
theorem dX7_collectAll_364 : decode cX7_collectAll 364 = .ok (.istore 8, 2) := by decide +kernel
theorem dX7_collectAll_366 : decode cX7_collectAll 366 = .ok (.goto (-56), 3) := by decide +kernel
theorem dX7_collectAll_369 : decode cX7_collectAll 369 = .ok (.aload_n 0, 1) := by decide +kernel
theorem dX7_collectAll_370 : decode cX7_collectAll 370 = .ok (.getfield 51, 3) := by decide +kernel
theorem dX7_collectAll_373 : decode cX7_collectAll 373 = .ok (.iload 8, 2) := by decide +kernel
theorem dX7_collectAll_375 : decode cX7_collectAll 375 = .ok (.iload 7, 2) := by decide +kernel
theorem dX7_collectAll_377 : decode cX7_collectAll 377 = .ok (.iastore, 1) := by decide +kernel
theorem dX7_collectAll_378 : decode cX7_collectAll 378 = .ok (.iinc 6 1, 3) := by decide +kernel
theorem dX7_collectAll_381 : decode cX7_collectAll 381 = .ok (.goto (-91), 3) := by decide +kernel
theorem dX7_collectAll_384 : decode cX7_collectAll 384 = .ok (.iload 5, 2) := by decide +kernel
theorem dX7_collectAll_386 : decode cX7_collectAll 386 = .ok (.iconst 2, 1) := by decide +kernel
theorem dX7_collectAll_387 : decode cX7_collectAll 387 = .ok (.idiv, 1) := by decide +kernel
theorem dX7_collectAll_388 : decode cX7_collectAll 388 = .ok (.istore 5, 2) := by decide +kernel
theorem dX7_collectAll_390 : decode cX7_collectAll 390 = .ok (.goto (-109), 3) := by decide +kernel
theorem dX7_collectAll_393 : decode cX7_collectAll 393 = .ok (.iconst 0, 1) := by decide +kernel
theorem dX7_collectAll_394 : decode cX7_collectAll 394 = .ok (.istore 5, 2) := by decide +kernel
theorem dX7_collectAll_396 : decode cX7_collectAll 396 = .ok (.iload 5, 2) := by decide +kernel
theorem dX7_collectAll_398 : decode cX7_collectAll 398 = .ok (.iload 4, 2) := by decide +kernel
theorem dX7_collectAll_400 : decode cX7_collectAll 400 = .ok (.if_icmp .ge 57, 3) := by decide +kernel
theorem dX7_collectAll_403 : decode cX7_collectAll 403 = .ok (.aload_n 0, 1) := by decide +kernel
theorem dX7_collectAll_404 : decode cX7_collectAll 404 = .ok (.dup, 1) := by decide +kernel
theorem dX7_collectAll_405 : decode cX7_collectAll 405 = .ok (.getfield 122, 3) := by decide +kernel
theorem dX7_collectAll_408 : decode cX7_collectAll 408 = .ok (.iconst 1, 1) := by decide +kernel
theorem dX7_collectAll_409 : decode cX7_collectAll 409 = .ok (.iadd, 1) := by decide +kernel
theorem dX7_collectAll_410 : decode cX7_collectAll 410 = .ok (.putfield 122, 3) := by decide +kernel
theorem dX7_collectAll_413 : decode cX7_collectAll 413 = .ok (.aload_n 0, 1) := by decide +kernel
theorem dX7_collectAll_414 : decode cX7_collectAll 414 = .ok (.getfield 32, 3) := by decide +kernel
theorem dX7_collectAll_417 : decode cX7_collectAll 417 = .ok (.aload_n 0, 1) := by decide +kernel
theorem dX7_collectAll_418 : decode cX7_collectAll 418 = .ok (.getfield 51, 3) := by decide +kernel
theorem dX7_collectAll_421 : decode cX7_collectAll 421 = .ok (.iload 5, 2) := by decide +kernel
theorem dX7_collectAll_423 : decode cX7_collectAll 423 = .ok (.iaload, 1) := by decide +kernel
theorem dX7_collectAll_424 : decode cX7_collectAll 424 = .ok (.iconst 0, 1) := by decide +kernel
theorem dX7_collectAll_425 : decode cX7_collectAll 425 = .ok (.iastore, 1) := by decide +kernel
theorem dX7_collectAll_426 : decode cX7_collectAll 426 = .ok (.aload_n 0, 1) := by decide +kernel
theorem dX7_collectAll_427 : decode cX7_collectAll 427 = .ok (.getfield 35, 3) := by decide +kernel
theorem dX7_collectAll_430 : decode cX7_collectAll 430 = .ok (.aload_n 0, 1) := by decide +kernel
theorem dX7_collectAll_431 : decode cX7_collectAll 431 = .ok (.getfield 51, 3) := by decide +kernel
theorem dX7_collectAll_434 : decode cX7_collectAll 434 = .ok (.iload 5, 2) := by decide +kernel
theorem dX7_collectAll_436 : decode cX7_collectAll 436 = .ok (.iaload, 1) := by decide +kernel
theorem dX7_collectAll_437 : decode cX7_collectAll 437 = .ok (.iconst 0, 1) := by decide +kernel
theorem dX7_collectAll_438 : decode cX7_collectAll 438 = .ok (.iastore, 1) := by decide +kernel
theorem dX7_collectAll_439 : decode cX7_collectAll 439 = .ok (.aload_n 0, 1) := by decide +kernel
theorem dX7_collectAll_440 : decode cX7_collectAll 440 = .ok (.aload_n 0, 1) := by decide +kernel
theorem dX7_collectAll_441 : decode cX7_collectAll 441 = .ok (.getfield 51, 3) := by decide +kernel
theorem dX7_collectAll_444 : decode cX7_collectAll 444 = .ok (.iload 5, 2) := by decide +kernel
theorem dX7_collectAll_446 : decode cX7_collectAll 446 = .ok (.iaload, 1) := by decide +kernel
theorem dX7_collectAll_447 : decode cX7_collectAll 447 = .ok (.invokevirtual 125, 3) := by decide +kernel
theorem dX7_collectAll_450 : decode cX7_collectAll 450 = .ok (.pop, 1) := by decide +kernel
theorem dX7_collectAll_451 : decode cX7_collectAll 451 = .ok (.iinc 5 1, 3) := by decide +kernel
theorem dX7_collectAll_454 : decode cX7_collectAll 454 = .ok (.goto (-58), 3) := by decide +kernel
theorem dX7_collectAll_457 : decode cX7_collectAll 457 = .ok (.iconst 1, 1) := by decide +kernel
theorem dX7_collectAll_458 : decode cX7_collectAll 458 = .ok (.istore 5, 2) := by decide +kernel
theorem dX7_collectAll_460 : decode cX7_collectAll 460 = .ok (.iload 5, 2) := by decide +kernel
theorem dX7_collectAll_462 : decode cX7_collectAll 462 = .ok (.aload_n 0, 1) := by decide +kernel
theorem dX7_collectAll_463 : decode cX7_collectAll 463 = .ok (.getfield 61, 3) := by decide +kernel
theorem dX7_collectAll_466 : decode cX7_collectAll 466 = .ok (.if_icmp .ge 82, 3) := by decide +kernel
theorem dX7_collectAll_469 : decode cX7_collectAll 469 = .ok (.aload_n 0, 1) := by decide +kernel
theorem dX7_collectAll_470 : decode cX7_collectAll 470 = .ok (.getfield 13, 3) := by decide +kernel
theorem dX7_collectAll_473 : decode cX7_collectAll 473 = .ok (.iload 5, 2) := by decide +kernel
theorem dX7_collectAll_475 : decode cX7_collectAll 475 = .ok (.iaload, 1) := by decide +kernel
theorem dX7_collectAll_476 : decode cX7_collectAll 476 = .ok (.ifCond .lt 66, 3) := by decide +kernel
theorem dX7_collectAll_479 : decode cX7_collectAll 479 = .ok (.aload_n 0, 1) := by decide +kernel
theorem dX7_collectAll_480 : decode cX7_collectAll 480 = .ok (.getfield 48, 3) := by decide +kernel
theorem dX7_collectAll_483 : decode cX7_collectAll 483 = .ok (.iload 5, 2) := by decide +kernel
theorem dX7_collectAll_485 : decode cX7_collectAll 485 = .ok (.baload, 1) := by decide +kernel
theorem dX7_collectAll_486 : decode cX7_collectAll 486 = .ok (.ifCond .eq 6, 3) := by decide +kernel
theorem dX7_collectAll_489 : decode cX7_collectAll 489 = .ok (.goto 53, 3) := by decide +kernel
theorem dX7_collectAll_492 : decode cX7_collectAll 492 = .ok (.aload_n 0, 1) := by decide +kernel
theorem dX7_collectAll_493 : decode cX7_collectAll 493 = .ok (.dup, 1) := by decide +kernel
theorem dX7_collectAll_494 : decode cX7_collectAll 494 = .ok (.getfield 80, 3) := by decide +kernel
theorem dX7_collectAll_497 : decode cX7_collectAll 497 = .ok (.aload_n 0, 1) := by decide +kernel
theorem dX7_collectAll_498 : decode cX7_collectAll 498 = .ok (.iload 5, 2) := by decide +kernel
theorem dX7_collectAll_500 : decode cX7_collectAll 500 = .ok (.invokevirtual 129, 3) := by decide +kernel
theorem dX7_collectAll_503 : decode cX7_collectAll 503 = .ok (.isub, 1) := by decide +kernel
theorem dX7_collectAll_504 : decode cX7_collectAll 504 = .ok (.putfield 80, 3) := by decide +kernel
theorem dX7_collectAll_507 : decode cX7_collectAll 507 = .ok (.aload_n 0, 1) := by decide +kernel
theorem dX7_collectAll_508 : decode cX7_collectAll 508 = .ok (.dup, 1) := by decide +kernel
theorem dX7_collectAll_509 : decode cX7_collectAll 509 = .ok (.getfield 99, 3) := by decide +kernel
theorem dX7_collectAll_512 : decode cX7_collectAll 512 = .ok (.iconst 1, 1) := by decide +kernel
theorem dX7_collectAll_513 : decode cX7_collectAll 513 = .ok (.isub, 1) := by decide +kernel
theorem dX7_collectAll_514 : decode cX7_collectAll 514 = .ok (.putfield 99, 3) := by decide +kernel
theorem dX7_collectAll_517 : decode cX7_collectAll 517 = .ok (.aload_n 0, 1) := by decide +kernel
theorem dX7_collectAll_518 : decode cX7_collectAll 518 = .ok (.getfield 13, 3) := by decide +kernel
theorem dX7_collectAll_521 : decode cX7_collectAll 521 = .ok (.iload 5, 2) := by decide +kernel
theorem dX7_collectAll_523 : decode cX7_collectAll 523 = .ok (.iconst (-1), 1) := by decide +kernel
theorem dX7_collectAll_524 : decode cX7_collectAll 524 = .ok (.iastore, 1) := by decide +kernel
theorem dX7_collectAll_525 : decode cX7_collectAll 525 = .ok (.aload_n 0, 1) := by decide +kernel
theorem dX7_collectAll_526 : decode cX7_collectAll 526 = .ok (.getfield 29, 3) := by decide +kernel
theorem dX7_collectAll_529 : decode cX7_collectAll 529 = .ok (.iload 5, 2) := by decide +kernel
theorem dX7_collectAll_531 : decode cX7_collectAll 531 = .ok (.aload_n 0, 1) := by decide +kernel
theorem dX7_collectAll_532 : decode cX7_collectAll 532 = .ok (.getfield 90, 3) := by decide +kernel
theorem dX7_collectAll_535 : decode cX7_collectAll 535 = .ok (.iastore, 1) := by decide +kernel
theorem dX7_collectAll_536 : decode cX7_collectAll 536 = .ok (.aload_n 0, 1) := by decide +kernel
theorem dX7_collectAll_537 : decode cX7_collectAll 537 = .ok (.iload 5, 2) := by decide +kernel
theorem dX7_collectAll_539 : decode cX7_collectAll 539 = .ok (.putfield 90, 3) := by decide +kernel
theorem dX7_collectAll_542 : decode cX7_collectAll 542 = .ok (.iinc 5 1, 3) := by decide +kernel
theorem dX7_collectAll_545 : decode cX7_collectAll 545 = .ok (.goto (-85), 3) := by decide +kernel
theorem dX7_collectAll_548 : decode cX7_collectAll 548 = .ok (.iload_n 2, 1) := by decide +kernel
theorem dX7_collectAll_549 : decode cX7_collectAll 549 = .ok (.aload_n 0, 1) := by decide +kernel
theorem dX7_collectAll_550 : decode cX7_collectAll 550 = .ok (.getfield 80, 3) := by decide +kernel
theorem dX7_collectAll_553 : decode cX7_collectAll 553 = .ok (.isub, 1) := by decide +kernel
theorem dX7_collectAll_554 : decode cX7_collectAll 554 = .ok (.ireturn, 1) := by decide +kernel
theorem dX7_comes_0 : decode cX7_comes 0 = .ok (.aload_n 0, 1) := by decide +kernel
theorem dX7_comes_1 : decode cX7_comes 1 = .ok (.getfield 38, 3) := by decide +kernel
theorem dX7_comes_4 : decode cX7_comes 4 = .ok (.iload_n 1, 1) := by decide +kernel
theorem dX7_comes_5 : decode cX7_comes 5 = .ok (.iaload, 1) := by decide +kernel
theorem dX7_comes_6 : decode cX7_comes 6 = .ok (.istore_n 2, 1) := by decide +kernel
theorem dX7_comes_7 : decode cX7_comes 7 = .ok (.iload_n 2, 1) := by decide +kernel
theorem dX7_comes_8 : decode cX7_comes 8 = .ok (.ifCond .eq 12, 3) := by decide +kernel
theorem dX7_comes_11 : decode cX7_comes 11 = .ok (.aload_n 0, 1) := by decide +kernel
theorem dX7_comes_12 : decode cX7_comes 12 = .ok (.getfield 44, 3) := by decide +kernel
theorem dX7_comes_15 : decode cX7_comes 15 = .ok (.iload_n 1, 1) := by decide +kernel
theorem dX7_comes_16 : decode cX7_comes 16 = .ok (.baload, 1) := by decide +kernel
theorem dX7_comes_17 : decode cX7_comes 17 = .ok (.ifCond .eq 5, 3) := by decide +kernel
theorem dX7_comes_20 : decode cX7_comes 20 = .ok (.iconst 0, 1) := by decide +kernel
theorem dX7_comes_21 : decode cX7_comes 21 = .ok (.ireturn, 1) := by decide +kernel
theorem dX7_comes_22 : decode cX7_comes 22 = .ok (.aload_n 0, 1) := by decide +kernel
theorem dX7_comes_23 : decode cX7_comes 23 = .ok (.getfield 44, 3) := by decide +kernel
theorem dX7_comes_26 : decode cX7_comes 26 = .ok (.iload_n 1, 1) := by decide +kernel
theorem dX7_comes_27 : decode cX7_comes 27 = .ok (.iconst 1, 1) := by decide +kernel
theorem dX7_comes_28 : decode cX7_comes 28 = .ok (.bastore, 1) := by decide +kernel
theorem dX7_comes_29 : decode cX7_comes 29 = .ok (.aload_n 0, 1) := by decide +kernel
theorem dX7_comes_30 : decode cX7_comes 30 = .ok (.dup, 1) := by decide +kernel
theorem dX7_comes_31 : decode cX7_comes 31 = .ok (.getfield 133, 3) := by decide +kernel
theorem dX7_comes_34 : decode cX7_comes 34 = .ok (.iconst 1, 1) := by decide +kernel
theorem dX7_comes_35 : decode cX7_comes 35 = .ok (.iadd, 1) := by decide +kernel
theorem dX7_comes_36 : decode cX7_comes 36 = .ok (.putfield 133, 3) := by decide +kernel
theorem dX7_comes_39 : decode cX7_comes 39 = .ok (.aload_n 0, 1) := by decide +kernel
theorem dX7_comes_40 : decode cX7_comes 40 = .ok (.getfield 29, 3) := by decide +kernel
theorem dX7_comes_43 : decode cX7_comes 43 = .ok (.iload_n 1, 1) := by decide +kernel
theorem dX7_comes_44 : decode cX7_comes 44 = .ok (.iconst 0, 1) := by decide +kernel
theorem dX7_comes_45 : decode cX7_comes 45 = .ok (.iastore, 1) := by decide +kernel
theorem dX7_comes_46 : decode cX7_comes 46 = .ok (.aload_n 0, 1) := by decide +kernel
theorem dX7_comes_47 : decode cX7_comes 47 = .ok (.getfield 32, 3) := by decide +kernel
theorem dX7_comes_50 : decode cX7_comes 50 = .ok (.iload_n 2, 1) := by decide +kernel
theorem dX7_comes_51 : decode cX7_comes 51 = .ok (.iaload, 1) := by decide +kernel
theorem dX7_comes_52 : decode cX7_comes 52 = .ok (.ifCond .ne 13, 3) := by decide +kernel
theorem dX7_comes_55 : decode cX7_comes 55 = .ok (.aload_n 0, 1) := by decide +kernel
theorem dX7_comes_56 : decode cX7_comes 56 = .ok (.getfield 32, 3) := by decide +kernel
theorem dX7_comes_59 : decode cX7_comes 59 = .ok (.iload_n 2, 1) := by decide +kernel
theorem dX7_comes_60 : decode cX7_comes 60 = .ok (.iload_n 1, 1) := by decide +kernel
theorem dX7_comes_61 : decode cX7_comes 61 = .ok (.iastore, 1) := by decide +kernel
theorem dX7_comes_62 : decode cX7_comes 62 = .ok (.goto 15, 3) := by decide +kernel
theorem dX7_comes_65 : decode cX7_comes 65 = .ok (.aload_n 0, 1) := by decide +kernel
theorem dX7_comes_66 : decode cX7_comes 66 = .ok (.getfield 29, 3) := by decide +kernel
theorem dX7_comes_69 : decode cX7_comes 69 = .ok (.aload_n 0, 1) := by decide +kernel
theorem dX7_comes_70 : decode cX7_comes 70 = .ok (.getfield 35, 3) := by decide +kernel
theorem dX7_comes_73 : decode cX7_comes 73 = .ok (.iload_n 2, 1) := by decide +kernel
theorem dX7_comes_74 : decode cX7_comes 74 = .ok (.iaload, 1) := by decide +kernel
theorem dX7_comes_75 : decode cX7_comes 75 = .ok (.iload_n 1, 1) := by decide +kernel
theorem dX7_comes_76 : decode cX7_comes 76 = .ok (.iastore, 1) := by decide +kernel
theorem dX7_comes_77 : decode cX7_comes 77 = .ok (.aload_n 0, 1) := by decide +kernel
theorem dX7_comes_78 : decode cX7_comes 78 = .ok (.getfield 35, 3) := by decide +kernel
theorem dX7_comes_81 : decode cX7_comes 81 = .ok (.iload_n 2, 1) := by decide +kernel
theorem dX7_comes_82 : decode cX7_comes 82 = .ok (.iload_n 1, 1) := by decide +kernel
theorem dX7_comes_83 : decode cX7_comes 83 = .ok (.iastore, 1) := by decide +kernel
theorem dX7_comes_84 : decode cX7_comes 84 = .ok (.aload_n 0, 1) := by decide +kernel
theorem dX7_comes_85 : decode cX7_comes 85 = .ok (.getfield 41, 3) := by decide +kernel
theorem dX7_comes_88 : decode cX7_comes 88 = .ok (.iload_n 2, 1) := by decide +kernel
theorem dX7_comes_89 : decode cX7_comes 89 = .ok (.dup2, 1) := by decide +kernel
theorem dX7_comes_90 : decode cX7_comes 90 = .ok (.iaload, 1) := by decide +kernel
theorem dX7_comes_91 : decode cX7_comes 91 = .ok (.iconst 1, 1) := by decide +kernel
theorem dX7_comes_92 : decode cX7_comes 92 = .ok (.iadd, 1) := by decide +kernel
theorem dX7_comes_93 : decode cX7_comes 93 = .ok (.iastore, 1) := by decide +kernel
theorem dX7_comes_94 : decode cX7_comes 94 = .ok (.iconst 1, 1) := by decide +kernel
theorem dX7_comes_95 : decode cX7_comes 95 = .ok (.ireturn, 1) := by decide +kernel
theorem dX7_made_0 : decode cX7_made 0 = .ok (.iload_n 2, 1) := by decide +kernel
theorem dX7_made_1 : decode cX7_made 1 = .ok (.ifCond .ne 5, 3) := by decide +kernel
theorem dX7_made_4 : decode cX7_made 4 = .ok (.iconst 0, 1) := by decide +kernel
theorem dX7_made_5 : decode cX7_made 5 = .ok (.ireturn, 1) := by decide +kernel
theorem dX7_made_6 : decode cX7_made 6 = .ok (.aload_n 0, 1) := by decide +kernel
theorem dX7_made_7 : decode cX7_made 7 = .ok (.getfield 64, 3) := by decide +kernel
theorem dX7_made_10 : decode cX7_made 10 = .ok (.iload_n 1, 1) := by decide +kernel
theorem dX7_made_11 : decode cX7_made 11 = .ok (.iload_n 2, 1) := by decide +kernel
theorem dX7_made_12 : decode cX7_made 12 = .ok (.iastore, 1) := by decide +kernel
theorem dX7_made_13 : decode cX7_made 13 = .ok (.aload_n 0, 1) := by decide +kernel
theorem dX7_made_14 : decode cX7_made 14 = .ok (.iload_n 2, 1) := by decide +kernel
theorem dX7_made_15 : decode cX7_made 15 = .ok (.invokevirtual 129, 3) := by decide +kernel
theorem dX7_made_18 : decode cX7_made 18 = .ok (.ireturn, 1) := by decide +kernel
theorem dX7_plain_0 : decode cX7_plain 0 = .ok (.aload_n 0, 1) := by decide +kernel
theorem dX7_plain_1 : decode cX7_plain 1 = .ok (.iconst 0, 1) := by decide +kernel
theorem dX7_plain_2 : decode cX7_plain 2 = .ok (.putfield 1, 3) := by decide +kernel
theorem dX7_plain_5 : decode cX7_plain 5 = .ok (.aload_n 0, 1) := by decide +kernel
theorem dX7_plain_6 : decode cX7_plain 6 = .ok (.iload_n 1, 1) := by decide +kernel
theorem dX7_plain_7 : decode cX7_plain 7 = .ok (.invokevirtual 136, 3) := by decide +kernel
theorem dX7_plain_10 : decode cX7_plain 10 = .ok (.ifCond .ne 23, 3) := by decide +kernel
theorem dX7_plain_13 : decode cX7_plain 13 = .ok (.iload_n 2, 1) := by decide +kernel
theorem dX7_plain_14 : decode cX7_plain 14 = .ok (.ifCond .lt 19, 3) := by decide +kernel
theorem dX7_plain_17 : decode cX7_plain 17 = .ok (.iload_n 2, 1) := by decide +kernel
theorem dX7_plain_18 : decode cX7_plain 18 = .ok (.bipush 20, 2) := by decide +kernel
theorem dX7_plain_20 : decode cX7_plain 20 = .ok (.if_icmp .gt 13, 3) := by decide +kernel
theorem dX7_plain_23 : decode cX7_plain 23 = .ok (.iload_n 3, 1) := by decide +kernel
theorem dX7_plain_24 : decode cX7_plain 24 = .ok (.ifCond .lt 9, 3) := by decide +kernel
theorem dX7_plain_27 : decode cX7_plain 27 = .ok (.iload_n 3, 1) := by decide +kernel
theorem dX7_plain_28 : decode cX7_plain 28 = .ok (.bipush 20, 2) := by decide +kernel
theorem dX7_plain_30 : decode cX7_plain 30 = .ok (.if_icmp .le 8, 3) := by decide +kernel
theorem dX7_plain_33 : decode cX7_plain 33 = .ok (.aload_n 0, 1) := by decide +kernel
theorem dX7_plain_34 : decode cX7_plain 34 = .ok (.invokevirtual 139, 3) := by decide +kernel
theorem dX7_plain_37 : decode cX7_plain 37 = .ok (.ireturn, 1) := by decide +kernel
theorem dX7_plain_38 : decode cX7_plain 38 = .ok (.aload_n 0, 1) := by decide +kernel
theorem dX7_plain_39 : decode cX7_plain 39 = .ok (.iload_n 1, 1) := by decide +kernel
theorem dX7_plain_40 : decode cX7_plain 40 = .ok (.aload_n 0, 1) := by decide +kernel
theorem dX7_plain_41 : decode cX7_plain 41 = .ok (.iconst 0, 1) := by decide +kernel
theorem dX7_plain_42 : decode cX7_plain 42 = .ok (.iload_n 2, 1) := by decide +kernel
theorem dX7_plain_43 : decode cX7_plain 43 = .ok (.iload_n 3, 1) := by decide +kernel
theorem dX7_plain_44 : decode cX7_plain 44 = .ok (.invokevirtual 143, 3) := by decide +kernel
theorem dX7_plain_47 : decode cX7_plain 47 = .ok (.invokevirtual 147, 3) := by decide +kernel
theorem dX7_plain_50 : decode cX7_plain 50 = .ok (.ireturn, 1) := by decide +kernel
theorem dX7_row_0 : decode cX7_row 0 = .ok (.aload_n 0, 1) := by decide +kernel
theorem dX7_row_1 : decode cX7_row 1 = .ok (.iconst 0, 1) := by decide +kernel
theorem dX7_row_2 : decode cX7_row 2 = .ok (.putfield 1, 3) := by decide +kernel
theorem dX7_row_5 : decode cX7_row 5 = .ok (.aload_n 0, 1) := by decide +kernel
theorem dX7_row_6 : decode cX7_row 6 = .ok (.iload_n 1, 1) := by decide +kernel
theorem dX7_row_7 : decode cX7_row 7 = .ok (.invokevirtual 136, 3) := by decide +kernel
theorem dX7_row_10 : decode cX7_row 10 = .ok (.ifCond .ne 14, 3) := by decide +kernel
theorem dX7_row_13 : decode cX7_row 13 = .ok (.iload_n 2, 1) := by decide +kernel
theorem dX7_row_14 : decode cX7_row 14 = .ok (.ifCond .lt 10, 3) := by decide +kernel
theorem dX7_row_17 : decode cX7_row 17 = .ok (.iload_n 2, 1) := by decide +kernel
theorem dX7_row_18 : decode cX7_row 18 = .ok (.sipush 3000, 3) := by decide +kernel
theorem dX7_row_21 : decode cX7_row 21 = .ok (.if_icmp .le 8, 3) := by decide +kernel
theorem dX7_row_24 : decode cX7_row 24 = .ok (.aload_n 0, 1) := by decide +kernel
theorem dX7_row_25 : decode cX7_row 25 = .ok (.invokevirtual 139, 3) := by decide +kernel
theorem dX7_row_28 : decode cX7_row 28 = .ok (.ireturn, 1) := by decide +kernel
theorem dX7_row_29 : decode cX7_row 29 = .ok (.aload_n 0, 1) := by decide +kernel
theorem dX7_row_30 : decode cX7_row 30 = .ok (.iload_n 1, 1) := by decide +kernel
theorem dX7_row_31 : decode cX7_row 31 = .ok (.iload_n 3, 1) := by decide +kernel
theorem dX7_row_32 : decode cX7_row 32 = .ok (.ifCond .eq 13, 3) := by decide +kernel
theorem dX7_row_35 : decode cX7_row 35 = .ok (.aload_n 0, 1) := by decide +kernel
theorem dX7_row_36 : decode cX7_row 36 = .ok (.iconst 1, 1) := by decide +kernel
theorem dX7_row_37 : decode cX7_row 37 = .ok (.iload_n 2, 1) := by decide +kernel
theorem dX7_row_38 : decode cX7_row 38 = .ok (.iconst 0, 1) := by decide +kernel
theorem dX7_row_39 : decode cX7_row 39 = .ok (.invokevirtual 143, 3) := by decide +kernel
theorem dX7_row_42 : decode cX7_row 42 = .ok (.goto 10, 3) := by decide +kernel
theorem dX7_row_45 : decode cX7_row 45 = .ok (.aload_n 0, 1) := by decide +kernel
theorem dX7_row_46 : decode cX7_row 46 = .ok (.iconst 2, 1) := by decide +kernel
theorem dX7_row_47 : decode cX7_row 47 = .ok (.iconst 0, 1) := by decide +kernel
theorem dX7_row_48 : decode cX7_row 48 = .ok (.iload_n 2, 1) := by decide +kernel
theorem dX7_row_49 : decode cX7_row 49 = .ok (.invokevirtual 143, 3) := by decide +kernel
theorem dX7_row_52 : decode cX7_row 52 = .ok (.invokevirtual 147, 3) := by decide +kernel
theorem dX7_row_55 : decode cX7_row 55 = .ok (.ireturn, 1) := by decide +kernel
theorem dX7_queue_0 : decode cX7_queue 0 = .ok (.aload_n 0, 1) := by decide +kernel
theorem dX7_queue_1 : decode cX7_queue 1 = .ok (.iconst 0, 1) := by decide +kernel
theorem dX7_queue_2 : decode cX7_queue 2 = .ok (.putfield 1, 3) := by decide +kernel
theorem dX7_queue_5 : decode cX7_queue 5 = .ok (.aload_n 0, 1) := by decide +kernel
theorem dX7_queue_6 : decode cX7_queue 6 = .ok (.iload_n 1, 1) := by decide +kernel
theorem dX7_queue_7 : decode cX7_queue 7 = .ok (.invokevirtual 136, 3) := by decide +kernel
theorem dX7_queue_10 : decode cX7_queue 10 = .ok (.ifCond .eq 8, 3) := by decide +kernel
theorem dX7_queue_13 : decode cX7_queue 13 = .ok (.aload_n 0, 1) := by decide +kernel
theorem dX7_queue_14 : decode cX7_queue 14 = .ok (.invokevirtual 139, 3) := by decide +kernel
theorem dX7_queue_17 : decode cX7_queue 17 = .ok (.ireturn, 1) := by decide +kernel
theorem dX7_queue_18 : decode cX7_queue 18 = .ok (.aload_n 0, 1) := by decide +kernel
theorem dX7_queue_19 : decode cX7_queue 19 = .ok (.iconst 3, 1) := by decide +kernel
theorem dX7_queue_20 : decode cX7_queue 20 = .ok (.iconst 0, 1) := by decide +kernel
theorem dX7_queue_21 : decode cX7_queue 21 = .ok (.iconst 0, 1) := by decide +kernel
theorem dX7_queue_22 : decode cX7_queue 22 = .ok (.invokevirtual 143, 3) := by decide +kernel
theorem dX7_queue_25 : decode cX7_queue 25 = .ok (.istore_n 2, 1) := by decide +kernel
theorem dX7_queue_26 : decode cX7_queue 26 = .ok (.iload_n 2, 1) := by decide +kernel
theorem dX7_queue_27 : decode cX7_queue 27 = .ok (.ifCond .eq 10, 3) := by decide +kernel
theorem dX7_queue_30 : decode cX7_queue 30 = .ok (.aload_n 0, 1) := by decide +kernel
theorem dX7_queue_31 : decode cX7_queue 31 = .ok (.getfield 41, 3) := by decide +kernel
theorem dX7_queue_34 : decode cX7_queue 34 = .ok (.iload_n 2, 1) := by decide +kernel
theorem dX7_queue_35 : decode cX7_queue 35 = .ok (.iconst 0, 1) := by decide +kernel
theorem dX7_queue_36 : decode cX7_queue 36 = .ok (.iastore, 1) := by decide +kernel
theorem dX7_queue_37 : decode cX7_queue 37 = .ok (.aload_n 0, 1) := by decide +kernel
theorem dX7_queue_38 : decode cX7_queue 38 = .ok (.iload_n 1, 1) := by decide +kernel
theorem dX7_queue_39 : decode cX7_queue 39 = .ok (.iload_n 2, 1) := by decide +kernel
theorem dX7_queue_40 : decode cX7_queue 40 = .ok (.invokevirtual 147, 3) := by decide +kernel
theorem dX7_queue_43 : decode cX7_queue 43 = .ok (.ireturn, 1) := by decide +kernel
theorem dX7_makeLoose_0 : decode cX7_makeLoose 0 = .ok (.aload_n 0, 1) := by decide +kernel
theorem dX7_makeLoose_1 : decode cX7_makeLoose 1 = .ok (.iload_n 2, 1) := by decide +kernel
theorem dX7_makeLoose_2 : decode cX7_makeLoose 2 = .ok (.iconst 0, 1) := by decide +kernel
theorem dX7_makeLoose_3 : decode cX7_makeLoose 3 = .ok (.iconst 0, 1) := by decide +kernel
theorem dX7_makeLoose_4 : decode cX7_makeLoose 4 = .ok (.invokevirtual 143, 3) := by decide +kernel
theorem dX7_makeLoose_7 : decode cX7_makeLoose 7 = .ok (.istore 6, 2) := by decide +kernel
theorem dX7_makeLoose_9 : decode cX7_makeLoose 9 = .ok (.iload 6, 2) := by decide +kernel
theorem dX7_makeLoose_11 : decode cX7_makeLoose 11 = .ok (.ifCond .eq 47, 3) := by decide +kernel
theorem dX7_makeLoose_14 : decode cX7_makeLoose 14 = .ok (.aload_n 0, 1) := by decide +kernel
theorem dX7_makeLoose_15 : decode cX7_makeLoose 15 = .ok (.getfield 32, 3) := by decide +kernel
theorem dX7_makeLoose_18 : decode cX7_makeLoose 18 = .ok (.iload 6, 2) := by decide +kernel
theorem dX7_makeLoose_20 : decode cX7_makeLoose 20 = .ok (.iload_n 3, 1) := by decide +kernel
theorem dX7_makeLoose_21 : decode cX7_makeLoose 21 = .ok (.iastore, 1) := by decide +kernel
theorem dX7_makeLoose_22 : decode cX7_makeLoose 22 = .ok (.aload_n 0, 1) := by decide +kernel
theorem dX7_makeLoose_23 : decode cX7_makeLoose 23 = .ok (.getfield 35, 3) := by decide +kernel
theorem dX7_makeLoose_26 : decode cX7_makeLoose 26 = .ok (.iload 6, 2) := by decide +kernel
theorem dX7_makeLoose_28 : decode cX7_makeLoose 28 = .ok (.iload 4, 2) := by decide +kernel
theorem dX7_makeLoose_30 : decode cX7_makeLoose 30 = .ok (.iastore, 1) := by decide +kernel
theorem dX7_makeLoose_31 : decode cX7_makeLoose 31 = .ok (.aload_n 0, 1) := by decide +kernel
theorem dX7_makeLoose_32 : decode cX7_makeLoose 32 = .ok (.getfield 38, 3) := by decide +kernel
theorem dX7_makeLoose_35 : decode cX7_makeLoose 35 = .ok (.iload 6, 2) := by decide +kernel
theorem dX7_makeLoose_37 : decode cX7_makeLoose 37 = .ok (.iload 5, 2) := by decide +kernel
theorem dX7_makeLoose_39 : decode cX7_makeLoose 39 = .ok (.iastore, 1) := by decide +kernel
theorem dX7_makeLoose_40 : decode cX7_makeLoose 40 = .ok (.aload_n 0, 1) := by decide +kernel
theorem dX7_makeLoose_41 : decode cX7_makeLoose 41 = .ok (.getfield 41, 3) := by decide +kernel
theorem dX7_makeLoose_44 : decode cX7_makeLoose 44 = .ok (.iload 6, 2) := by decide +kernel
theorem dX7_makeLoose_46 : decode cX7_makeLoose 46 = .ok (.aload_n 0, 1) := by decide +kernel
theorem dX7_makeLoose_47 : decode cX7_makeLoose 47 = .ok (.dup, 1) := by decide +kernel
theorem dX7_makeLoose_48 : decode cX7_makeLoose 48 = .ok (.getfield 150, 3) := by decide +kernel
theorem dX7_makeLoose_51 : decode cX7_makeLoose 51 = .ok (.dup_x1, 1) := by decide +kernel
theorem dX7_makeLoose_52 : decode cX7_makeLoose 52 = .ok (.iconst 1, 1) := by decide +kernel
theorem dX7_makeLoose_53 : decode cX7_makeLoose 53 = .ok (.iadd, 1) := by decide +kernel
theorem dX7_makeLoose_54 : decode cX7_makeLoose 54 = .ok (.putfield 150, 3) := by decide +kernel
theorem dX7_makeLoose_57 : decode cX7_makeLoose 57 = .ok (.iastore, 1) := by decide +kernel
theorem dX7_makeLoose_58 : decode cX7_makeLoose 58 = .ok (.aload_n 0, 1) := by decide +kernel
theorem dX7_makeLoose_59 : decode cX7_makeLoose 59 = .ok (.iload_n 1, 1) := by decide +kernel
theorem dX7_makeLoose_60 : decode cX7_makeLoose 60 = .ok (.iload 6, 2) := by decide +kernel
theorem dX7_makeLoose_62 : decode cX7_makeLoose 62 = .ok (.invokevirtual 147, 3) := by decide +kernel
theorem dX7_makeLoose_65 : decode cX7_makeLoose 65 = .ok (.ireturn, 1) := by decide +kernel
theorem dX7_loose_0 : decode cX7_loose 0 = .ok (.aload_n 0, 1) := by decide +kernel
theorem dX7_loose_1 : decode cX7_loose 1 = .ok (.iconst 0, 1) := by decide +kernel
theorem dX7_loose_2 : decode cX7_loose 2 = .ok (.putfield 1, 3) := by decide +kernel
theorem dX7_loose_5 : decode cX7_loose 5 = .ok (.aload_n 0, 1) := by decide +kernel
theorem dX7_loose_6 : decode cX7_loose 6 = .ok (.iload_n 1, 1) := by decide +kernel
theorem dX7_loose_7 : decode cX7_loose 7 = .ok (.invokevirtual 136, 3) := by decide +kernel
theorem dX7_loose_10 : decode cX7_loose 10 = .ok (.ifCond .ne 29, 3) := by decide +kernel
theorem dX7_loose_13 : decode cX7_loose 13 = .ok (.iload_n 2, 1) := by decide +kernel
theorem dX7_loose_14 : decode cX7_loose 14 = .ok (.ifCond .lt 25, 3) := by decide +kernel
theorem dX7_loose_17 : decode cX7_loose 17 = .ok (.iload_n 2, 1) := by decide +kernel
theorem dX7_loose_18 : decode cX7_loose 18 = .ok (.iconst 2, 1) := by decide +kernel
theorem dX7_loose_19 : decode cX7_loose 19 = .ok (.if_icmp .gt 20, 3) := by decide +kernel
theorem dX7_loose_22 : decode cX7_loose 22 = .ok (.aload_n 0, 1) := by decide +kernel
theorem dX7_loose_23 : decode cX7_loose 23 = .ok (.iload_n 3, 1) := by decide +kernel
theorem dX7_loose_24 : decode cX7_loose 24 = .ok (.invokevirtual 136, 3) := by decide +kernel
theorem dX7_loose_27 : decode cX7_loose 27 = .ok (.ifCond .ne 12, 3) := by decide +kernel
theorem dX7_loose_30 : decode cX7_loose 30 = .ok (.aload_n 0, 1) := by decide +kernel
theorem dX7_loose_31 : decode cX7_loose 31 = .ok (.iload 4, 2) := by decide +kernel
theorem dX7_loose_33 : decode cX7_loose 33 = .ok (.invokevirtual 153, 3) := by decide +kernel
theorem dX7_loose_36 : decode cX7_loose 36 = .ok (.ifCond .eq 8, 3) := by decide +kernel
theorem dX7_loose_39 : decode cX7_loose 39 = .ok (.aload_n 0, 1) := by decide +kernel
theorem dX7_loose_40 : decode cX7_loose 40 = .ok (.invokevirtual 139, 3) := by decide +kernel
theorem dX7_loose_43 : decode cX7_loose 43 = .ok (.ireturn, 1) := by decide +kernel
theorem dX7_loose_44 : decode cX7_loose 44 = .ok (.aload_n 0, 1) := by decide +kernel
theorem dX7_loose_45 : decode cX7_loose 45 = .ok (.getfield 64, 3) := by decide +kernel
theorem dX7_loose_48 : decode cX7_loose 48 = .ok (.iload_n 3, 1) := by decide +kernel
theorem dX7_loose_49 : decode cX7_loose 49 = .ok (.iaload, 1) := by decide +kernel
theorem dX7_loose_50 : decode cX7_loose 50 = .ok (.ifCond .eq 18, 3) := by decide +kernel
theorem dX7_loose_53 : decode cX7_loose 53 = .ok (.iload 4, 2) := by decide +kernel
theorem dX7_loose_55 : decode cX7_loose 55 = .ok (.ifCond .lt 18, 3) := by decide +kernel
theorem dX7_loose_58 : decode cX7_loose 58 = .ok (.aload_n 0, 1) := by decide +kernel
theorem dX7_loose_59 : decode cX7_loose 59 = .ok (.iload 4, 2) := by decide +kernel
theorem dX7_loose_61 : decode cX7_loose 61 = .ok (.iconst 3, 1) := by decide +kernel
theorem dX7_loose_62 : decode cX7_loose 62 = .ok (.invokevirtual 156, 3) := by decide +kernel
theorem dX7_loose_65 : decode cX7_loose 65 = .ok (.ifCond .ne 8, 3) := by decide +kernel
theorem dX7_loose_68 : decode cX7_loose 68 = .ok (.aload_n 0, 1) := by decide +kernel
theorem dX7_loose_69 : decode cX7_loose 69 = .ok (.invokevirtual 160, 3) := by decide +kernel
theorem dX7_loose_72 : decode cX7_loose 72 = .ok (.ireturn, 1) := by decide +kernel
theorem dX7_loose_73 : decode cX7_loose 73 = .ok (.aload_n 0, 1) := by decide +kernel
theorem dX7_loose_74 : decode cX7_loose 74 = .ok (.iload_n 1, 1) := by decide +kernel
theorem dX7_loose_75 : decode cX7_loose 75 = .ok (.iconst 4, 1) := by decide +kernel
theorem dX7_loose_76 : decode cX7_loose 76 = .ok (.iload_n 2, 1) := by decide +kernel
theorem dX7_loose_77 : decode cX7_loose 77 = .ok (.iadd, 1) := by decide +kernel
theorem dX7_loose_78 : decode cX7_loose 78 = .ok (.aload_n 0, 1) := by decide +kernel
theorem dX7_loose_79 : decode cX7_loose 79 = .ok (.getfield 64, 3) := by decide +kernel
theorem dX7_loose_82 : decode cX7_loose 82 = .ok (.iload_n 3, 1) := by decide +kernel
theorem dX7_loose_83 : decode cX7_loose 83 = .ok (.iaload, 1) := by decide +kernel
theorem dX7_loose_84 : decode cX7_loose 84 = .ok (.iconst 0, 1) := by decide +kernel
theorem dX7_loose_85 : decode cX7_loose 85 = .ok (.aload_n 0, 1) := by decide +kernel
theorem dX7_loose_86 : decode cX7_loose 86 = .ok (.iload 4, 2) := by decide +kernel
theorem dX7_loose_88 : decode cX7_loose 88 = .ok (.invokevirtual 163, 3) := by decide +kernel
theorem dX7_loose_91 : decode cX7_loose 91 = .ok (.invokevirtual 166, 3) := by decide +kernel
theorem dX7_loose_94 : decode cX7_loose 94 = .ok (.ireturn, 1) := by decide +kernel
theorem dX7_pair_0 : decode cX7_pair 0 = .ok (.aload_n 0, 1) := by decide +kernel
theorem dX7_pair_1 : decode cX7_pair 1 = .ok (.iconst 0, 1) := by decide +kernel
theorem dX7_pair_2 : decode cX7_pair 2 = .ok (.putfield 1, 3) := by decide +kernel
theorem dX7_pair_5 : decode cX7_pair 5 = .ok (.aload_n 0, 1) := by decide +kernel
theorem dX7_pair_6 : decode cX7_pair 6 = .ok (.iload_n 1, 1) := by decide +kernel
theorem dX7_pair_7 : decode cX7_pair 7 = .ok (.invokevirtual 136, 3) := by decide +kernel
theorem dX7_pair_10 : decode cX7_pair 10 = .ok (.ifCond .ne 28, 3) := by decide +kernel
theorem dX7_pair_13 : decode cX7_pair 13 = .ok (.aload_n 0, 1) := by decide +kernel
theorem dX7_pair_14 : decode cX7_pair 14 = .ok (.iload_n 2, 1) := by decide +kernel
theorem dX7_pair_15 : decode cX7_pair 15 = .ok (.invokevirtual 136, 3) := by decide +kernel
theorem dX7_pair_18 : decode cX7_pair 18 = .ok (.ifCond .ne 20, 3) := by decide +kernel
theorem dX7_pair_21 : decode cX7_pair 21 = .ok (.aload_n 0, 1) := by decide +kernel
theorem dX7_pair_22 : decode cX7_pair 22 = .ok (.iload_n 3, 1) := by decide +kernel
theorem dX7_pair_23 : decode cX7_pair 23 = .ok (.invokevirtual 153, 3) := by decide +kernel
theorem dX7_pair_26 : decode cX7_pair 26 = .ok (.ifCond .ne 12, 3) := by decide +kernel
theorem dX7_pair_29 : decode cX7_pair 29 = .ok (.aload_n 0, 1) := by decide +kernel
theorem dX7_pair_30 : decode cX7_pair 30 = .ok (.iload 4, 2) := by decide +kernel
theorem dX7_pair_32 : decode cX7_pair 32 = .ok (.invokevirtual 153, 3) := by decide +kernel
theorem dX7_pair_35 : decode cX7_pair 35 = .ok (.ifCond .eq 8, 3) := by decide +kernel
theorem dX7_pair_38 : decode cX7_pair 38 = .ok (.aload_n 0, 1) := by decide +kernel
theorem dX7_pair_39 : decode cX7_pair 39 = .ok (.invokevirtual 139, 3) := by decide +kernel
theorem dX7_pair_42 : decode cX7_pair 42 = .ok (.ireturn, 1) := by decide +kernel
theorem dX7_pair_43 : decode cX7_pair 43 = .ok (.aload_n 0, 1) := by decide +kernel
theorem dX7_pair_44 : decode cX7_pair 44 = .ok (.getfield 64, 3) := by decide +kernel
theorem dX7_pair_47 : decode cX7_pair 47 = .ok (.iload_n 2, 1) := by decide +kernel
theorem dX7_pair_48 : decode cX7_pair 48 = .ok (.iaload, 1) := by decide +kernel
theorem dX7_pair_49 : decode cX7_pair 49 = .ok (.ifCond .eq 18, 3) := by decide +kernel
theorem dX7_pair_52 : decode cX7_pair 52 = .ok (.iload 4, 2) := by decide +kernel
theorem dX7_pair_54 : decode cX7_pair 54 = .ok (.ifCond .lt 18, 3) := by decide +kernel
theorem dX7_pair_57 : decode cX7_pair 57 = .ok (.aload_n 0, 1) := by decide +kernel
theorem dX7_pair_58 : decode cX7_pair 58 = .ok (.iload 4, 2) := by decide +kernel
theorem dX7_pair_60 : decode cX7_pair 60 = .ok (.iconst 3, 1) := by decide +kernel
theorem dX7_pair_61 : decode cX7_pair 61 = .ok (.invokevirtual 156, 3) := by decide +kernel
theorem dX7_pair_64 : decode cX7_pair 64 = .ok (.ifCond .ne 8, 3) := by decide +kernel
theorem dX7_pair_67 : decode cX7_pair 67 = .ok (.aload_n 0, 1) := by decide +kernel
theorem dX7_pair_68 : decode cX7_pair 68 = .ok (.invokevirtual 160, 3) := by decide +kernel
theorem dX7_pair_71 : decode cX7_pair 71 = .ok (.ireturn, 1) := by decide +kernel
theorem dX7_pair_72 : decode cX7_pair 72 = .ok (.aload_n 0, 1) := by decide +kernel
theorem dX7_pair_73 : decode cX7_pair 73 = .ok (.iload_n 1, 1) := by decide +kernel
theorem dX7_pair_74 : decode cX7_pair 74 = .ok (.bipush 7, 2) := by decide +kernel
theorem dX7_pair_76 : decode cX7_pair 76 = .ok (.aload_n 0, 1) := by decide +kernel
theorem dX7_pair_77 : decode cX7_pair 77 = .ok (.getfield 64, 3) := by decide +kernel
theorem dX7_pair_80 : decode cX7_pair 80 = .ok (.iload_n 2, 1) := by decide +kernel
theorem dX7_pair_81 : decode cX7_pair 81 = .ok (.iaload, 1) := by decide +kernel
theorem dX7_pair_82 : decode cX7_pair 82 = .ok (.aload_n 0, 1) := by decide +kernel
theorem dX7_pair_83 : decode cX7_pair 83 = .ok (.iload_n 3, 1) := by decide +kernel
theorem dX7_pair_84 : decode cX7_pair 84 = .ok (.invokevirtual 163, 3) := by decide +kernel
theorem dX7_pair_87 : decode cX7_pair 87 = .ok (.aload_n 0, 1) := by decide +kernel
theorem dX7_pair_88 : decode cX7_pair 88 = .ok (.iload 4, 2) := by decide +kernel
theorem dX7_pair_90 : decode cX7_pair 90 = .ok (.invokevirtual 163, 3) := by decide +kernel
theorem dX7_pair_93 : decode cX7_pair 93 = .ok (.invokevirtual 166, 3) := by decide +kernel
theorem dX7_pair_96 : decode cX7_pair 96 = .ok (.ireturn, 1) := by decide +kernel
theorem dX7_comesTo_0 : decode cX7_comesTo 0 = .ok (.aload_n 0, 1) := by decide +kernel
theorem dX7_comesTo_1 : decode cX7_comesTo 1 = .ok (.getfield 64, 3) := by decide +kernel
theorem dX7_comesTo_4 : decode cX7_comesTo 4 = .ok (.iload_n 1, 1) := by decide +kernel
theorem dX7_comesTo_5 : decode cX7_comesTo 5 = .ok (.iload_n 2, 1) := by decide +kernel
theorem dX7_comesTo_6 : decode cX7_comesTo 6 = .ok (.iastore, 1) := by decide +kernel
theorem dX7_comesTo_7 : decode cX7_comesTo 7 = .ok (.iload_n 2, 1) := by decide +kernel
theorem dX7_comesTo_8 : decode cX7_comesTo 8 = .ok (.ifCond .ne 7, 3) := by decide +kernel
theorem dX7_comesTo_11 : decode cX7_comesTo 11 = .ok (.iconst 0, 1) := by decide +kernel
theorem dX7_comesTo_12 : decode cX7_comesTo 12 = .ok (.goto 4, 3) := by decide +kernel
theorem dX7_comesTo_15 : decode cX7_comesTo 15 = .ok (.iconst 1, 1) := by decide +kernel
theorem dX7_comesTo_16 : decode cX7_comesTo 16 = .ok (.ireturn, 1) := by decide +kernel
theorem dX7_copy_0 : decode cX7_copy 0 = .ok (.aload_n 0, 1) := by decide +kernel
theorem dX7_copy_1 : decode cX7_copy 1 = .ok (.iconst 0, 1) := by decide +kernel
theorem dX7_copy_2 : decode cX7_copy 2 = .ok (.putfield 1, 3) := by decide +kernel
theorem dX7_copy_5 : decode cX7_copy 5 = .ok (.aload_n 0, 1) := by decide +kernel
theorem dX7_copy_6 : decode cX7_copy 6 = .ok (.iload_n 1, 1) := by decide +kernel
theorem dX7_copy_7 : decode cX7_copy 7 = .ok (.invokevirtual 136, 3) := by decide +kernel
theorem dX7_copy_10 : decode cX7_copy 10 = .ok (.ifCond .ne 11, 3) := by decide +kernel
theorem dX7_copy_13 : decode cX7_copy 13 = .ok (.aload_n 0, 1) := by decide +kernel
theorem dX7_copy_14 : decode cX7_copy 14 = .ok (.iload_n 2, 1) := by decide +kernel
theorem dX7_copy_15 : decode cX7_copy 15 = .ok (.invokevirtual 153, 3) := by decide +kernel
theorem dX7_copy_18 : decode cX7_copy 18 = .ok (.ifCond .eq 8, 3) := by decide +kernel
theorem dX7_copy_21 : decode cX7_copy 21 = .ok (.aload_n 0, 1) := by decide +kernel
theorem dX7_copy_22 : decode cX7_copy 22 = .ok (.invokevirtual 139, 3) := by decide +kernel
theorem dX7_copy_25 : decode cX7_copy 25 = .ok (.ireturn, 1) := by decide +kernel
theorem dX7_copy_26 : decode cX7_copy 26 = .ok (.aload_n 0, 1) := by decide +kernel
theorem dX7_copy_27 : decode cX7_copy 27 = .ok (.iload_n 1, 1) := by decide +kernel
theorem dX7_copy_28 : decode cX7_copy 28 = .ok (.aload_n 0, 1) := by decide +kernel
theorem dX7_copy_29 : decode cX7_copy 29 = .ok (.iload_n 2, 1) := by decide +kernel
theorem dX7_copy_30 : decode cX7_copy 30 = .ok (.invokevirtual 163, 3) := by decide +kernel
theorem dX7_copy_33 : decode cX7_copy 33 = .ok (.invokevirtual 170, 3) := by decide +kernel
theorem dX7_copy_36 : decode cX7_copy 36 = .ok (.ireturn, 1) := by decide +kernel
theorem dX7_link_0 : decode cX7_link 0 = .ok (.aload_n 0, 1) := by decide +kernel
theorem dX7_link_1 : decode cX7_link 1 = .ok (.iconst 0, 1) := by decide +kernel
theorem dX7_link_2 : decode cX7_link 2 = .ok (.putfield 1, 3) := by decide +kernel
theorem dX7_link_5 : decode cX7_link 5 = .ok (.aload_n 0, 1) := by decide +kernel
theorem dX7_link_6 : decode cX7_link 6 = .ok (.iload_n 1, 1) := by decide +kernel
theorem dX7_link_7 : decode cX7_link 7 = .ok (.invokevirtual 136, 3) := by decide +kernel
theorem dX7_link_10 : decode cX7_link 10 = .ok (.ifCond .ne 15, 3) := by decide +kernel
theorem dX7_link_13 : decode cX7_link 13 = .ok (.iload_n 2, 1) := by decide +kernel
theorem dX7_link_14 : decode cX7_link 14 = .ok (.ifCond .lt 11, 3) := by decide +kernel
theorem dX7_link_17 : decode cX7_link 17 = .ok (.aload_n 0, 1) := by decide +kernel
theorem dX7_link_18 : decode cX7_link 18 = .ok (.iload_n 3, 1) := by decide +kernel
theorem dX7_link_19 : decode cX7_link 19 = .ok (.invokevirtual 153, 3) := by decide +kernel
theorem dX7_link_22 : decode cX7_link 22 = .ok (.ifCond .eq 8, 3) := by decide +kernel
theorem dX7_link_25 : decode cX7_link 25 = .ok (.aload_n 0, 1) := by decide +kernel
theorem dX7_link_26 : decode cX7_link 26 = .ok (.invokevirtual 139, 3) := by decide +kernel
theorem dX7_link_29 : decode cX7_link 29 = .ok (.ireturn, 1) := by decide +kernel
theorem dX7_link_30 : decode cX7_link 30 = .ok (.aload_n 0, 1) := by decide +kernel
theorem dX7_link_31 : decode cX7_link 31 = .ok (.getfield 64, 3) := by decide +kernel
theorem dX7_link_34 : decode cX7_link 34 = .ok (.iload_n 1, 1) := by decide +kernel
theorem dX7_link_35 : decode cX7_link 35 = .ok (.iaload, 1) := by decide +kernel
theorem dX7_link_36 : decode cX7_link 36 = .ok (.istore 4, 2) := by decide +kernel
theorem dX7_link_38 : decode cX7_link 38 = .ok (.iload 4, 2) := by decide +kernel
theorem dX7_link_40 : decode cX7_link 40 = .ok (.ifCond .eq 25, 3) := by decide +kernel
theorem dX7_link_43 : decode cX7_link 43 = .ok (.aload_n 0, 1) := by decide +kernel
theorem dX7_link_44 : decode cX7_link 44 = .ok (.getfield 13, 3) := by decide +kernel
theorem dX7_link_47 : decode cX7_link 47 = .ok (.iload 4, 2) := by decide +kernel
theorem dX7_link_49 : decode cX7_link 49 = .ok (.iaload, 1) := by decide +kernel
theorem dX7_link_50 : decode cX7_link 50 = .ok (.iconst 1, 1) := by decide +kernel
theorem dX7_link_51 : decode cX7_link 51 = .ok (.if_icmp .gt 14, 3) := by decide +kernel
theorem dX7_link_54 : decode cX7_link 54 = .ok (.iload_n 2, 1) := by decide +kernel
theorem dX7_link_55 : decode cX7_link 55 = .ok (.aload_n 0, 1) := by decide +kernel
theorem dX7_link_56 : decode cX7_link 56 = .ok (.getfield 20, 3) := by decide +kernel
theorem dX7_link_59 : decode cX7_link 59 = .ok (.iload 4, 2) := by decide +kernel
theorem dX7_link_61 : decode cX7_link 61 = .ok (.iaload, 1) := by decide +kernel
theorem dX7_link_62 : decode cX7_link 62 = .ok (.if_icmp .lt 8, 3) := by decide +kernel
theorem dX7_link_65 : decode cX7_link 65 = .ok (.aload_n 0, 1) := by decide +kernel
theorem dX7_link_66 : decode cX7_link 66 = .ok (.invokevirtual 160, 3) := by decide +kernel
theorem dX7_link_69 : decode cX7_link 69 = .ok (.ireturn, 1) := by decide +kernel
theorem dX7_link_70 : decode cX7_link 70 = .ok (.aload_n 0, 1) := by decide +kernel
theorem dX7_link_71 : decode cX7_link 71 = .ok (.getfield 57, 3) := by decide +kernel
theorem dX7_link_74 : decode cX7_link 74 = .ok (.aload_n 0, 1) := by decide +kernel
theorem dX7_link_75 : decode cX7_link 75 = .ok (.getfield 17, 3) := by decide +kernel
theorem dX7_link_78 : decode cX7_link 78 = .ok (.iload 4, 2) := by decide +kernel
theorem dX7_link_80 : decode cX7_link 80 = .ok (.iaload, 1) := by decide +kernel
theorem dX7_link_81 : decode cX7_link 81 = .ok (.iload_n 2, 1) := by decide +kernel
theorem dX7_link_82 : decode cX7_link 82 = .ok (.iadd, 1) := by decide +kernel
theorem dX7_link_83 : decode cX7_link 83 = .ok (.aload_n 0, 1) := by decide +kernel
theorem dX7_link_84 : decode cX7_link 84 = .ok (.iload_n 3, 1) := by decide +kernel
theorem dX7_link_85 : decode cX7_link 85 = .ok (.invokevirtual 163, 3) := by decide +kernel
theorem dX7_link_88 : decode cX7_link 88 = .ok (.i2l, 1) := by decide +kernel
theorem dX7_link_89 : decode cX7_link 89 = .ok (.lastore, 1) := by decide +kernel
theorem dX7_link_90 : decode cX7_link 90 = .ok (.aload_n 0, 1) := by decide +kernel
theorem dX7_link_91 : decode cX7_link 91 = .ok (.iload_n 3, 1) := by decide +kernel
theorem dX7_link_92 : decode cX7_link 92 = .ok (.invokevirtual 163, 3) := by decide +kernel
theorem dX7_link_95 : decode cX7_link 95 = .ok (.ifCond .ne 7, 3) := by decide +kernel
theorem dX7_link_98 : decode cX7_link 98 = .ok (.iconst 0, 1) := by decide +kernel
theorem dX7_link_99 : decode cX7_link 99 = .ok (.goto 4, 3) := by decide +kernel
theorem dX7_link_102 : decode cX7_link 102 = .ok (.iconst 1, 1) := by decide +kernel
theorem dX7_link_103 : decode cX7_link 103 = .ok (.ireturn, 1) := by decide +kernel
theorem dX7_fetch_0 : decode cX7_fetch 0 = .ok (.aload_n 0, 1) := by decide +kernel
theorem dX7_fetch_1 : decode cX7_fetch 1 = .ok (.iconst 0, 1) := by decide +kernel
theorem dX7_fetch_2 : decode cX7_fetch 2 = .ok (.putfield 1, 3) := by decide +kernel
theorem dX7_fetch_5 : decode cX7_fetch 5 = .ok (.aload_n 0, 1) := by decide +kernel
theorem dX7_fetch_6 : decode cX7_fetch 6 = .ok (.iload_n 1, 1) := by decide +kernel
theorem dX7_fetch_7 : decode cX7_fetch 7 = .ok (.invokevirtual 136, 3) := by decide +kernel
theorem dX7_fetch_10 : decode cX7_fetch 10 = .ok (.ifCond .ne 15, 3) := by decide +kernel
theorem dX7_fetch_13 : decode cX7_fetch 13 = .ok (.aload_n 0, 1) := by decide +kernel
theorem dX7_fetch_14 : decode cX7_fetch 14 = .ok (.iload_n 2, 1) := by decide +kernel
theorem dX7_fetch_15 : decode cX7_fetch 15 = .ok (.invokevirtual 136, 3) := by decide +kernel
theorem dX7_fetch_18 : decode cX7_fetch 18 = .ok (.ifCond .ne 7, 3) := by decide +kernel
theorem dX7_fetch_21 : decode cX7_fetch 21 = .ok (.iload_n 3, 1) := by decide +kernel
theorem dX7_fetch_22 : decode cX7_fetch 22 = .ok (.ifCond .ge 8, 3) := by decide +kernel
theorem dX7_fetch_25 : decode cX7_fetch 25 = .ok (.aload_n 0, 1) := by decide +kernel
theorem dX7_fetch_26 : decode cX7_fetch 26 = .ok (.invokevirtual 139, 3) := by decide +kernel
theorem dX7_fetch_29 : decode cX7_fetch 29 = .ok (.ireturn, 1) := by decide +kernel
theorem dX7_fetch_30 : decode cX7_fetch 30 = .ok (.aload_n 0, 1) := by decide +kernel
theorem dX7_fetch_31 : decode cX7_fetch 31 = .ok (.getfield 64, 3) := by decide +kernel
theorem dX7_fetch_34 : decode cX7_fetch 34 = .ok (.iload_n 2, 1) := by decide +kernel
theorem dX7_fetch_35 : decode cX7_fetch 35 = .ok (.iaload, 1) := by decide +kernel
theorem dX7_fetch_36 : decode cX7_fetch 36 = .ok (.istore 4, 2) := by decide +kernel
theorem dX7_fetch_38 : decode cX7_fetch 38 = .ok (.iload 4, 2) := by decide +kernel
theorem dX7_fetch_40 : decode cX7_fetch 40 = .ok (.ifCond .eq 25, 3) := by decide +kernel
theorem dX7_fetch_43 : decode cX7_fetch 43 = .ok (.aload_n 0, 1) := by decide +kernel
theorem dX7_fetch_44 : decode cX7_fetch 44 = .ok (.getfield 13, 3) := by decide +kernel
theorem dX7_fetch_47 : decode cX7_fetch 47 = .ok (.iload 4, 2) := by decide +kernel
theorem dX7_fetch_49 : decode cX7_fetch 49 = .ok (.iaload, 1) := by decide +kernel
theorem dX7_fetch_50 : decode cX7_fetch 50 = .ok (.iconst 1, 1) := by decide +kernel
theorem dX7_fetch_51 : decode cX7_fetch 51 = .ok (.if_icmp .gt 14, 3) := by decide +kernel
theorem dX7_fetch_54 : decode cX7_fetch 54 = .ok (.iload_n 3, 1) := by decide +kernel
theorem dX7_fetch_55 : decode cX7_fetch 55 = .ok (.aload_n 0, 1) := by decide +kernel
theorem dX7_fetch_56 : decode cX7_fetch 56 = .ok (.getfield 20, 3) := by decide +kernel
theorem dX7_fetch_59 : decode cX7_fetch 59 = .ok (.iload 4, 2) := by decide +kernel
theorem dX7_fetch_61 : decode cX7_fetch 61 = .ok (.iaload, 1) := by decide +kernel
theorem dX7_fetch_62 : decode cX7_fetch 62 = .ok (.if_icmp .lt 8, 3) := by decide +kernel
theorem dX7_fetch_65 : decode cX7_fetch 65 = .ok (.aload_n 0, 1) := by decide +kernel
theorem dX7_fetch_66 : decode cX7_fetch 66 = .ok (.invokevirtual 160, 3) := by decide +kernel
theorem dX7_fetch_69 : decode cX7_fetch 69 = .ok (.ireturn, 1) := by decide +kernel
theorem dX7_fetch_70 : decode cX7_fetch 70 = .ok (.aload_n 0, 1) := by decide +kernel
theorem dX7_fetch_71 : decode cX7_fetch 71 = .ok (.iload_n 1, 1) := by decide +kernel
theorem dX7_fetch_72 : decode cX7_fetch 72 = .ok (.aload_n 0, 1) := by decide +kernel
theorem dX7_fetch_73 : decode cX7_fetch 73 = .ok (.getfield 57, 3) := by decide +kernel
theorem dX7_fetch_76 : decode cX7_fetch 76 = .ok (.aload_n 0, 1) := by decide +kernel
theorem dX7_fetch_77 : decode cX7_fetch 77 = .ok (.getfield 17, 3) := by decide +kernel
theorem dX7_fetch_80 : decode cX7_fetch 80 = .ok (.iload 4, 2) := by decide +kernel
theorem dX7_fetch_82 : decode cX7_fetch 82 = .ok (.iaload, 1) := by decide +kernel
theorem dX7_fetch_83 : decode cX7_fetch 83 = .ok (.iload_n 3, 1) := by decide +kernel
theorem dX7_fetch_84 : decode cX7_fetch 84 = .ok (.iadd, 1) := by decide +kernel
theorem dX7_fetch_85 : decode cX7_fetch 85 = .ok (.laload, 1) := by decide +kernel
theorem dX7_fetch_86 : decode cX7_fetch 86 = .ok (.l2i, 1) := by decide +kernel
theorem dX7_fetch_87 : decode cX7_fetch 87 = .ok (.invokevirtual 170, 3) := by decide +kernel
theorem dX7_fetch_90 : decode cX7_fetch 90 = .ok (.ireturn, 1) := by decide +kernel
theorem dX7_noNumber_0 : decode cX7_noNumber 0 = .ok (.aload_n 0, 1) := by decide +kernel
theorem dX7_noNumber_1 : decode cX7_noNumber 1 = .ok (.iconst 0, 1) := by decide +kernel
theorem dX7_noNumber_2 : decode cX7_noNumber 2 = .ok (.putfield 1, 3) := by decide +kernel
theorem dX7_noNumber_5 : decode cX7_noNumber 5 = .ok (.aload_n 0, 1) := by decide +kernel
theorem dX7_noNumber_6 : decode cX7_noNumber 6 = .ok (.iload_n 1, 1) := by decide +kernel
theorem dX7_noNumber_7 : decode cX7_noNumber 7 = .ok (.invokevirtual 136, 3) := by decide +kernel
theorem dX7_noNumber_10 : decode cX7_noNumber 10 = .ok (.ifCond .ne 7, 3) := by decide +kernel
theorem dX7_noNumber_13 : decode cX7_noNumber 13 = .ok (.iload_n 2, 1) := by decide +kernel
theorem dX7_noNumber_14 : decode cX7_noNumber 14 = .ok (.ifCond .ge 11, 3) := by decide +kernel
theorem dX7_noNumber_17 : decode cX7_noNumber 17 = .ok (.aload_n 0, 1) := by decide +kernel
theorem dX7_noNumber_18 : decode cX7_noNumber 18 = .ok (.iconst 1, 1) := by decide +kernel
theorem dX7_noNumber_19 : decode cX7_noNumber 19 = .ok (.putfield 1, 3) := by decide +kernel
theorem dX7_noNumber_22 : decode cX7_noNumber 22 = .ok (.goto 61, 3) := by decide +kernel
theorem dX7_noNumber_25 : decode cX7_noNumber 25 = .ok (.aload_n 0, 1) := by decide +kernel
theorem dX7_noNumber_26 : decode cX7_noNumber 26 = .ok (.getfield 64, 3) := by decide +kernel
theorem dX7_noNumber_29 : decode cX7_noNumber 29 = .ok (.iload_n 1, 1) := by decide +kernel
theorem dX7_noNumber_30 : decode cX7_noNumber 30 = .ok (.iaload, 1) := by decide +kernel
theorem dX7_noNumber_31 : decode cX7_noNumber 31 = .ok (.ifCond .eq 47, 3) := by decide +kernel
theorem dX7_noNumber_34 : decode cX7_noNumber 34 = .ok (.aload_n 0, 1) := by decide +kernel
theorem dX7_noNumber_35 : decode cX7_noNumber 35 = .ok (.getfield 13, 3) := by decide +kernel
theorem dX7_noNumber_38 : decode cX7_noNumber 38 = .ok (.aload_n 0, 1) := by decide +kernel
theorem dX7_noNumber_39 : decode cX7_noNumber 39 = .ok (.getfield 64, 3) := by decide +kernel
theorem dX7_noNumber_42 : decode cX7_noNumber 42 = .ok (.iload_n 1, 1) := by decide +kernel
theorem dX7_noNumber_43 : decode cX7_noNumber 43 = .ok (.iaload, 1) := by decide +kernel
theorem dX7_noNumber_44 : decode cX7_noNumber 44 = .ok (.iaload, 1) := by decide +kernel
theorem dX7_noNumber_45 : decode cX7_noNumber 45 = .ok (.ifCond .eq 18, 3) := by decide +kernel
theorem dX7_noNumber_48 : decode cX7_noNumber 48 = .ok (.aload_n 0, 1) := by decide +kernel
theorem dX7_noNumber_49 : decode cX7_noNumber 49 = .ok (.getfield 13, 3) := by decide +kernel
theorem dX7_noNumber_52 : decode cX7_noNumber 52 = .ok (.aload_n 0, 1) := by decide +kernel
theorem dX7_noNumber_53 : decode cX7_noNumber 53 = .ok (.getfield 64, 3) := by decide +kernel
theorem dX7_noNumber_56 : decode cX7_noNumber 56 = .ok (.iload_n 1, 1) := by decide +kernel
theorem dX7_noNumber_57 : decode cX7_noNumber 57 = .ok (.iaload, 1) := by decide +kernel
theorem dX7_noNumber_58 : decode cX7_noNumber 58 = .ok (.iaload, 1) := by decide +kernel
theorem dX7_noNumber_59 : decode cX7_noNumber 59 = .ok (.iconst 2, 1) := by decide +kernel
theorem dX7_noNumber_60 : decode cX7_noNumber 60 = .ok (.if_icmp .ne 18, 3) := by decide +kernel
theorem dX7_noNumber_63 : decode cX7_noNumber 63 = .ok (.iload_n 2, 1) := by decide +kernel
theorem dX7_noNumber_64 : decode cX7_noNumber 64 = .ok (.aload_n 0, 1) := by decide +kernel
theorem dX7_noNumber_65 : decode cX7_noNumber 65 = .ok (.getfield 23, 3) := by decide +kernel
theorem dX7_noNumber_68 : decode cX7_noNumber 68 = .ok (.aload_n 0, 1) := by decide +kernel
theorem dX7_noNumber_69 : decode cX7_noNumber 69 = .ok (.getfield 64, 3) := by decide +kernel
theorem dX7_noNumber_72 : decode cX7_noNumber 72 = .ok (.iload_n 1, 1) := by decide +kernel
theorem dX7_noNumber_73 : decode cX7_noNumber 73 = .ok (.iaload, 1) := by decide +kernel
theorem dX7_noNumber_74 : decode cX7_noNumber 74 = .ok (.iaload, 1) := by decide +kernel
theorem dX7_noNumber_75 : decode cX7_noNumber 75 = .ok (.if_icmp .lt 8, 3) := by decide +kernel
theorem dX7_noNumber_78 : decode cX7_noNumber 78 = .ok (.aload_n 0, 1) := by decide +kernel
theorem dX7_noNumber_79 : decode cX7_noNumber 79 = .ok (.iconst 2, 1) := by decide +kernel
theorem dX7_noNumber_80 : decode cX7_noNumber 80 = .ok (.putfield 1, 3) := by decide +kernel
theorem dX7_noNumber_83 : decode cX7_noNumber 83 = .ok (.aload_n 0, 1) := by decide +kernel
theorem dX7_noNumber_84 : decode cX7_noNumber 84 = .ok (.getfield 1, 3) := by decide +kernel
theorem dX7_noNumber_87 : decode cX7_noNumber 87 = .ok (.ifCond .eq 7, 3) := by decide +kernel
theorem dX7_noNumber_90 : decode cX7_noNumber 90 = .ok (.iconst 1, 1) := by decide +kernel
theorem dX7_noNumber_91 : decode cX7_noNumber 91 = .ok (.goto 4, 3) := by decide +kernel
theorem dX7_noNumber_94 : decode cX7_noNumber 94 = .ok (.iconst 0, 1) := by decide +kernel
theorem dX7_noNumber_95 : decode cX7_noNumber 95 = .ok (.ireturn, 1) := by decide +kernel
theorem dX7_set_0 : decode cX7_set 0 = .ok (.aload_n 0, 1) := by decide +kernel
theorem dX7_set_1 : decode cX7_set 1 = .ok (.iload_n 1, 1) := by decide +kernel
theorem dX7_set_2 : decode cX7_set 2 = .ok (.iload_n 2, 1) := by decide +kernel
theorem dX7_set_3 : decode cX7_set 3 = .ok (.invokevirtual 173, 3) := by decide +kernel
theorem dX7_set_6 : decode cX7_set 6 = .ok (.ifCond .eq 5, 3) := by decide +kernel
theorem dX7_set_9 : decode cX7_set 9 = .ok (.lconst 0, 1) := by decide +kernel
theorem dX7_set_10 : decode cX7_set 10 = .ok (.lreturn, 1) := by decide +kernel
theorem dX7_set_11 : decode cX7_set 11 = .ok (.aload_n 0, 1) := by decide +kernel
theorem dX7_set_12 : decode cX7_set 12 = .ok (.getfield 17, 3) := by decide +kernel
theorem dX7_set_15 : decode cX7_set 15 = .ok (.aload_n 0, 1) := by decide +kernel
theorem dX7_set_16 : decode cX7_set 16 = .ok (.getfield 64, 3) := by decide +kernel
theorem dX7_set_19 : decode cX7_set 19 = .ok (.iload_n 1, 1) := by decide +kernel
theorem dX7_set_20 : decode cX7_set 20 = .ok (.iaload, 1) := by decide +kernel
theorem dX7_set_21 : decode cX7_set 21 = .ok (.iaload, 1) := by decide +kernel
theorem dX7_set_22 : decode cX7_set 22 = .ok (.aload_n 0, 1) := by decide +kernel
theorem dX7_set_23 : decode cX7_set 23 = .ok (.getfield 20, 3) := by decide +kernel
theorem dX7_set_26 : decode cX7_set 26 = .ok (.aload_n 0, 1) := by decide +kernel
theorem dX7_set_27 : decode cX7_set 27 = .ok (.getfield 64, 3) := by decide +kernel
theorem dX7_set_30 : decode cX7_set 30 = .ok (.iload_n 1, 1) := by decide +kernel
theorem dX7_set_31 : decode cX7_set 31 = .ok (.iaload, 1) := by decide +kernel
theorem dX7_set_32 : decode cX7_set 32 = .ok (.iaload, 1) := by decide +kernel
theorem dX7_set_33 : decode cX7_set 33 = .ok (.iadd, 1) := by decide +kernel
theorem dX7_set_34 : decode cX7_set 34 = .ok (.iload_n 2, 1) := by decide +kernel
theorem dX7_set_35 : decode cX7_set 35 = .ok (.iadd, 1) := by decide +kernel
theorem dX7_set_36 : decode cX7_set 36 = .ok (.istore 5, 2) := by decide +kernel
theorem dX7_set_38 : decode cX7_set 38 = .ok (.aload_n 0, 1) := by decide +kernel
theorem dX7_set_39 : decode cX7_set 39 = .ok (.getfield 57, 3) := by decide +kernel
theorem dX7_set_42 : decode cX7_set 42 = .ok (.iload 5, 2) := by decide +kernel
theorem dX7_set_44 : decode cX7_set 44 = .ok (.laload, 1) := by decide +kernel
theorem dX7_set_45 : decode cX7_set 45 = .ok (.lstore 6, 2) := by decide +kernel
theorem dX7_set_47 : decode cX7_set 47 = .ok (.aload_n 0, 1) := by decide +kernel
theorem dX7_set_48 : decode cX7_set 48 = .ok (.getfield 57, 3) := by decide +kernel
theorem dX7_set_51 : decode cX7_set 51 = .ok (.iload 5, 2) := by decide +kernel
theorem dX7_set_53 : decode cX7_set 53 = .ok (.lload_n 3, 1) := by decide +kernel
theorem dX7_set_54 : decode cX7_set 54 = .ok (.lastore, 1) := by decide +kernel
theorem dX7_set_55 : decode cX7_set 55 = .ok (.lload 6, 2) := by decide +kernel
theorem dX7_set_57 : decode cX7_set 57 = .ok (.lreturn, 1) := by decide +kernel
theorem dX7_get_0 : decode cX7_get 0 = .ok (.aload_n 0, 1) := by decide +kernel
theorem dX7_get_1 : decode cX7_get 1 = .ok (.iload_n 1, 1) := by decide +kernel
theorem dX7_get_2 : decode cX7_get 2 = .ok (.iload_n 2, 1) := by decide +kernel
theorem dX7_get_3 : decode cX7_get 3 = .ok (.invokevirtual 173, 3) := by decide +kernel
theorem dX7_get_6 : decode cX7_get 6 = .ok (.ifCond .eq 7, 3) := by decide +kernel
theorem dX7_get_9 : decode cX7_get 9 = .ok (.lconst 0, 1) := by decide +kernel
theorem dX7_get_10 : decode cX7_get 10 = .ok (.goto 33, 3) := by decide +kernel
theorem dX7_get_13 : decode cX7_get 13 = .ok (.aload_n 0, 1) := by decide +kernel
theorem dX7_get_14 : decode cX7_get 14 = .ok (.getfield 57, 3) := by decide +kernel
theorem dX7_get_17 : decode cX7_get 17 = .ok (.aload_n 0, 1) := by decide +kernel
theorem dX7_get_18 : decode cX7_get 18 = .ok (.getfield 17, 3) := by decide +kernel
theorem dX7_get_21 : decode cX7_get 21 = .ok (.aload_n 0, 1) := by decide +kernel
theorem dX7_get_22 : decode cX7_get 22 = .ok (.getfield 64, 3) := by decide +kernel
theorem dX7_get_25 : decode cX7_get 25 = .ok (.iload_n 1, 1) := by decide +kernel
theorem dX7_get_26 : decode cX7_get 26 = .ok (.iaload, 1) := by decide +kernel
theorem dX7_get_27 : decode cX7_get 27 = .ok (.iaload, 1) := by decide +kernel
theorem dX7_get_28 : decode cX7_get 28 = .ok (.aload_n 0, 1) := by decide +kernel
theorem dX7_get_29 : decode cX7_get 29 = .ok (.getfield 20, 3) := by decide +kernel
theorem dX7_get_32 : decode cX7_get 32 = .ok (.aload_n 0, 1) := by decide +kernel
theorem dX7_get_33 : decode cX7_get 33 = .ok (.getfield 64, 3) := by decide +kernel
theorem dX7_get_36 : decode cX7_get 36 = .ok (.iload_n 1, 1) := by decide +kernel
theorem dX7_get_37 : decode cX7_get 37 = .ok (.iaload, 1) := by decide +kernel
theorem dX7_get_38 : decode cX7_get 38 = .ok (.iaload, 1) := by decide +kernel
theorem dX7_get_39 : decode cX7_get 39 = .ok (.iadd, 1) := by decide +kernel
theorem dX7_get_40 : decode cX7_get 40 = .ok (.iload_n 2, 1) := by decide +kernel
theorem dX7_get_41 : decode cX7_get 41 = .ok (.iadd, 1) := by decide +kernel
theorem dX7_get_42 : decode cX7_get 42 = .ok (.laload, 1) := by decide +kernel
theorem dX7_get_43 : decode cX7_get 43 = .ok (.lreturn, 1) := by decide +kernel
theorem dX7_referent_0 : decode cX7_referent 0 = .ok (.aload_n 0, 1) := by decide +kernel
theorem dX7_referent_1 : decode cX7_referent 1 = .ok (.iconst 0, 1) := by decide +kernel
theorem dX7_referent_2 : decode cX7_referent 2 = .ok (.putfield 1, 3) := by decide +kernel
theorem dX7_referent_5 : decode cX7_referent 5 = .ok (.aload_n 0, 1) := by decide +kernel
theorem dX7_referent_6 : decode cX7_referent 6 = .ok (.iload_n 1, 1) := by decide +kernel
theorem dX7_referent_7 : decode cX7_referent 7 = .ok (.invokevirtual 136, 3) := by decide +kernel
theorem dX7_referent_10 : decode cX7_referent 10 = .ok (.ifCond .ne 11, 3) := by decide +kernel
theorem dX7_referent_13 : decode cX7_referent 13 = .ok (.aload_n 0, 1) := by decide +kernel
theorem dX7_referent_14 : decode cX7_referent 14 = .ok (.iload_n 2, 1) := by decide +kernel
theorem dX7_referent_15 : decode cX7_referent 15 = .ok (.invokevirtual 136, 3) := by decide +kernel
theorem dX7_referent_18 : decode cX7_referent 18 = .ok (.ifCond .eq 8, 3) := by decide +kernel
theorem dX7_referent_21 : decode cX7_referent 21 = .ok (.aload_n 0, 1) := by decide +kernel
theorem dX7_referent_22 : decode cX7_referent 22 = .ok (.invokevirtual 139, 3) := by decide +kernel
theorem dX7_referent_25 : decode cX7_referent 25 = .ok (.ireturn, 1) := by decide +kernel
theorem dX7_referent_26 : decode cX7_referent 26 = .ok (.aload_n 0, 1) := by decide +kernel
theorem dX7_referent_27 : decode cX7_referent 27 = .ok (.getfield 64, 3) := by decide +kernel
theorem dX7_referent_30 : decode cX7_referent 30 = .ok (.iload_n 2, 1) := by decide +kernel
theorem dX7_referent_31 : decode cX7_referent 31 = .ok (.iaload, 1) := by decide +kernel
theorem dX7_referent_32 : decode cX7_referent 32 = .ok (.istore 4, 2) := by decide +kernel
theorem dX7_referent_34 : decode cX7_referent 34 = .ok (.iload_n 3, 1) := by decide +kernel
theorem dX7_referent_35 : decode cX7_referent 35 = .ok (.ifCond .eq 16, 3) := by decide +kernel
theorem dX7_referent_38 : decode cX7_referent 38 = .ok (.aload_n 0, 1) := by decide +kernel
theorem dX7_referent_39 : decode cX7_referent 39 = .ok (.iload_n 2, 1) := by decide +kernel
theorem dX7_referent_40 : decode cX7_referent 40 = .ok (.bipush 7, 2) := by decide +kernel
theorem dX7_referent_42 : decode cX7_referent 42 = .ok (.invokevirtual 156, 3) := by decide +kernel
theorem dX7_referent_45 : decode cX7_referent 45 = .ok (.ifCond .ne 20, 3) := by decide +kernel
theorem dX7_referent_48 : decode cX7_referent 48 = .ok (.goto 12, 3) := by decide +kernel
theorem dX7_referent_51 : decode cX7_referent 51 = .ok (.aload_n 0, 1) := by decide +kernel
theorem dX7_referent_52 : decode cX7_referent 52 = .ok (.iload 4, 2) := by decide +kernel
theorem dX7_referent_54 : decode cX7_referent 54 = .ok (.invokevirtual 176, 3) := by decide +kernel
theorem dX7_referent_57 : decode cX7_referent 57 = .ok (.ifCond .ne 8, 3) := by decide +kernel
theorem dX7_referent_60 : decode cX7_referent 60 = .ok (.aload_n 0, 1) := by decide +kernel
theorem dX7_referent_61 : decode cX7_referent 61 = .ok (.invokevirtual 160, 3) := by decide +kernel
theorem dX7_referent_64 : decode cX7_referent 64 = .ok (.ireturn, 1) := by decide +kernel
theorem dX7_referent_65 : decode cX7_referent 65 = .ok (.aload_n 0, 1) := by decide +kernel
theorem dX7_referent_66 : decode cX7_referent 66 = .ok (.iload_n 1, 1) := by decide +kernel
theorem dX7_referent_67 : decode cX7_referent 67 = .ok (.iload_n 3, 1) := by decide +kernel
theorem dX7_referent_68 : decode cX7_referent 68 = .ok (.ifCond .eq 13, 3) := by decide +kernel
theorem dX7_referent_71 : decode cX7_referent 71 = .ok (.aload_n 0, 1) := by decide +kernel
theorem dX7_referent_72 : decode cX7_referent 72 = .ok (.getfield 35, 3) := by decide +kernel
theorem dX7_referent_75 : decode cX7_referent 75 = .ok (.iload 4, 2) := by decide +kernel
theorem dX7_referent_77 : decode cX7_referent 77 = .ok (.iaload, 1) := by decide +kernel
theorem dX7_referent_78 : decode cX7_referent 78 = .ok (.goto 26, 3) := by decide +kernel
theorem dX7_referent_81 : decode cX7_referent 81 = .ok (.aload_n 0, 1) := by decide +kernel
theorem dX7_referent_82 : decode cX7_referent 82 = .ok (.getfield 13, 3) := by decide +kernel
theorem dX7_referent_85 : decode cX7_referent 85 = .ok (.iload 4, 2) := by decide +kernel
theorem dX7_referent_87 : decode cX7_referent 87 = .ok (.iaload, 1) := by decide +kernel
theorem dX7_referent_88 : decode cX7_referent 88 = .ok (.bipush 6, 2) := by decide +kernel
theorem dX7_referent_90 : decode cX7_referent 90 = .ok (.if_icmp .ne 7, 3) := by decide +kernel
theorem dX7_referent_93 : decode cX7_referent 93 = .ok (.iconst 0, 1) := by decide +kernel
theorem dX7_referent_94 : decode cX7_referent 94 = .ok (.goto 10, 3) := by decide +kernel
theorem dX7_referent_97 : decode cX7_referent 97 = .ok (.aload_n 0, 1) := by decide +kernel
theorem dX7_referent_98 : decode cX7_referent 98 = .ok (.getfield 32, 3) := by decide +kernel
theorem dX7_referent_101 : decode cX7_referent 101 = .ok (.iload 4, 2) := by decide +kernel
theorem dX7_referent_103 : decode cX7_referent 103 = .ok (.iaload, 1) := by decide +kernel
theorem dX7_referent_104 : decode cX7_referent 104 = .ok (.invokevirtual 170, 3) := by decide +kernel
theorem dX7_referent_107 : decode cX7_referent 107 = .ok (.ireturn, 1) := by decide +kernel
theorem dX7_give_0 : decode cX7_give 0 = .ok (.aload_n 0, 1) := by decide +kernel
theorem dX7_give_1 : decode cX7_give 1 = .ok (.iconst 0, 1) := by decide +kernel
theorem dX7_give_2 : decode cX7_give 2 = .ok (.putfield 1, 3) := by decide +kernel
theorem dX7_give_5 : decode cX7_give 5 = .ok (.aload_n 0, 1) := by decide +kernel
theorem dX7_give_6 : decode cX7_give 6 = .ok (.iload_n 1, 1) := by decide +kernel
theorem dX7_give_7 : decode cX7_give 7 = .ok (.invokevirtual 136, 3) := by decide +kernel
theorem dX7_give_10 : decode cX7_give 10 = .ok (.ifCond .ne 11, 3) := by decide +kernel
theorem dX7_give_13 : decode cX7_give 13 = .ok (.aload_n 0, 1) := by decide +kernel
theorem dX7_give_14 : decode cX7_give 14 = .ok (.iload_n 2, 1) := by decide +kernel
theorem dX7_give_15 : decode cX7_give 15 = .ok (.invokevirtual 153, 3) := by decide +kernel
theorem dX7_give_18 : decode cX7_give 18 = .ok (.ifCond .eq 8, 3) := by decide +kernel
theorem dX7_give_21 : decode cX7_give 21 = .ok (.aload_n 0, 1) := by decide +kernel
theorem dX7_give_22 : decode cX7_give 22 = .ok (.invokevirtual 139, 3) := by decide +kernel
theorem dX7_give_25 : decode cX7_give 25 = .ok (.ireturn, 1) := by decide +kernel
theorem dX7_give_26 : decode cX7_give 26 = .ok (.aload_n 0, 1) := by decide +kernel
theorem dX7_give_27 : decode cX7_give 27 = .ok (.iload_n 1, 1) := by decide +kernel
theorem dX7_give_28 : decode cX7_give 28 = .ok (.bipush 7, 2) := by decide +kernel
theorem dX7_give_30 : decode cX7_give 30 = .ok (.invokevirtual 156, 3) := by decide +kernel
