theorem dX11_isKey_6 : decode cX11_isKey 6 = .ok (.iload 5, 2) := by decide +kernel
theorem dX11_isKey_8 : decode cX11_isKey 8 = .ok (.iload_n 3, 1) := by decide +kernel
theorem dX11_isKey_9 : decode cX11_isKey 9 = .ok (.if_icmp .ge 32, 3) := by decide +kernel
theorem dX11_isKey_12 : decode cX11_isKey 12 = .ok (.iload 4, 2) := by decide +kernel
theorem dX11_isKey_14 : decode cX11_isKey 14 = .ok (.ifCond .ne 14, 3) := by decide +kernel
theorem dX11_isKey_17 : decode cX11_isKey 17 = .ok (.aload_n 0, 1) := by decide +kernel
theorem dX11_isKey_18 : decode cX11_isKey 18 = .ok (.getfield 156, 3) := by decide +kernel
theorem dX11_isKey_21 : decode cX11_isKey 21 = .ok (.iload 5, 2) := by decide +kernel
theorem dX11_isKey_23 : decode cX11_isKey 23 = .ok (.iaload, 1) := by decide +kernel
theorem dX11_isKey_24 : decode cX11_isKey 24 = .ok (.iload_n 1, 1) := by decide +kernel
theorem dX11_isKey_25 : decode cX11_isKey 25 = .ok (.if_icmp .ne 7, 3) := by decide +kernel
theorem dX11_isKey_28 : decode cX11_isKey 28 = .ok (.iconst 1, 1) := by decide +kernel
theorem dX11_isKey_29 : decode cX11_isKey 29 = .ok (.goto 4, 3) := by decide +kernel
theorem dX11_isKey_32 : decode cX11_isKey 32 = .ok (.iconst 0, 1) := by decide +kernel
theorem dX11_isKey_33 : decode cX11_isKey 33 = .ok (.istore 4, 2) := by decide +kernel
theorem dX11_isKey_35 : decode cX11_isKey 35 = .ok (.iinc 5 1, 3) := by decide +kernel
theorem dX11_isKey_38 : decode cX11_isKey 38 = .ok (.goto (-32), 3) := by decide +kernel
theorem dX11_isKey_41 : decode cX11_isKey 41 = .ok (.iload 4, 2) := by decide +kernel
theorem dX11_isKey_43 : decode cX11_isKey 43 = .ok (.ireturn, 1) := by decide +kernel
theorem dX11_lays_0 : decode cX11_lays 0 = .ok (.bipush 12, 2) := by decide +kernel
theorem dX11_lays_2 : decode cX11_lays 2 = .ok (.aload_n 0, 1) := by decide +kernel
theorem dX11_lays_3 : decode cX11_lays 3 = .ok (.getfield 65, 3) := by decide +kernel
theorem dX11_lays_6 : decode cX11_lays 6 = .ok (.iload_n 1, 1) := by decide +kernel
theorem dX11_lays_7 : decode cX11_lays 7 = .ok (.iaload, 1) := by decide +kernel
theorem dX11_lays_8 : decode cX11_lays 8 = .ok (.imul, 1) := by decide +kernel
theorem dX11_lays_9 : decode cX11_lays 9 = .ok (.iload_n 2, 1) := by decide +kernel
theorem dX11_lays_10 : decode cX11_lays 10 = .ok (.iadd, 1) := by decide +kernel
theorem dX11_lays_11 : decode cX11_lays 11 = .ok (.istore_n 3, 1) := by decide +kernel
theorem dX11_lays_12 : decode cX11_lays 12 = .ok (.aload_n 0, 1) := by decide +kernel
theorem dX11_lays_13 : decode cX11_lays 13 = .ok (.getfield 141, 3) := by decide +kernel
theorem dX11_lays_16 : decode cX11_lays 16 = .ok (.iload_n 1, 1) := by decide +kernel
theorem dX11_lays_17 : decode cX11_lays 17 = .ok (.iaload, 1) := by decide +kernel
theorem dX11_lays_18 : decode cX11_lays 18 = .ok (.istore 4, 2) := by decide +kernel
theorem dX11_lays_20 : decode cX11_lays 20 = .ok (.iload 4, 2) := by decide +kernel
theorem dX11_lays_22 : decode cX11_lays 22 = .ok (.ifCond .le 98, 3) := by decide +kernel
theorem dX11_lays_25 : decode cX11_lays 25 = .ok (.aload_n 0, 1) := by decide +kernel
theorem dX11_lays_26 : decode cX11_lays 26 = .ok (.getfield 144, 3) := by decide +kernel
theorem dX11_lays_29 : decode cX11_lays 29 = .ok (.bipush 12, 2) := by decide +kernel
theorem dX11_lays_31 : decode cX11_lays 31 = .ok (.iload_n 1, 1) := by decide +kernel
theorem dX11_lays_32 : decode cX11_lays 32 = .ok (.imul, 1) := by decide +kernel
theorem dX11_lays_33 : decode cX11_lays 33 = .ok (.iload 4, 2) := by decide +kernel
theorem dX11_lays_35 : decode cX11_lays 35 = .ok (.iadd, 1) := by decide +kernel
theorem dX11_lays_36 : decode cX11_lays 36 = .ok (.iconst 1, 1) := by decide +kernel
theorem dX11_lays_37 : decode cX11_lays 37 = .ok (.isub, 1) := by decide +kernel
theorem dX11_lays_38 : decode cX11_lays 38 = .ok (.iaload, 1) := by decide +kernel
theorem dX11_lays_39 : decode cX11_lays 39 = .ok (.aload_n 0, 1) := by decide +kernel
theorem dX11_lays_40 : decode cX11_lays 40 = .ok (.getfield 13, 3) := by decide +kernel
theorem dX11_lays_43 : decode cX11_lays 43 = .ok (.iload_n 3, 1) := by decide +kernel
theorem dX11_lays_44 : decode cX11_lays 44 = .ok (.iaload, 1) := by decide +kernel
theorem dX11_lays_45 : decode cX11_lays 45 = .ok (.if_icmp .le 75, 3) := by decide +kernel
theorem dX11_lays_48 : decode cX11_lays 48 = .ok (.bipush 12, 2) := by decide +kernel
theorem dX11_lays_50 : decode cX11_lays 50 = .ok (.iload_n 1, 1) := by decide +kernel
theorem dX11_lays_51 : decode cX11_lays 51 = .ok (.imul, 1) := by decide +kernel
theorem dX11_lays_52 : decode cX11_lays 52 = .ok (.iload 4, 2) := by decide +kernel
theorem dX11_lays_54 : decode cX11_lays 54 = .ok (.iadd, 1) := by decide +kernel
theorem dX11_lays_55 : decode cX11_lays 55 = .ok (.istore 5, 2) := by decide +kernel
theorem dX11_lays_57 : decode cX11_lays 57 = .ok (.aload_n 0, 1) := by decide +kernel
theorem dX11_lays_58 : decode cX11_lays 58 = .ok (.getfield 144, 3) := by decide +kernel
theorem dX11_lays_61 : decode cX11_lays 61 = .ok (.iload 5, 2) := by decide +kernel
theorem dX11_lays_63 : decode cX11_lays 63 = .ok (.aload_n 0, 1) := by decide +kernel
theorem dX11_lays_64 : decode cX11_lays 64 = .ok (.getfield 144, 3) := by decide +kernel
theorem dX11_lays_67 : decode cX11_lays 67 = .ok (.iload 5, 2) := by decide +kernel
theorem dX11_lays_69 : decode cX11_lays 69 = .ok (.iconst 1, 1) := by decide +kernel
theorem dX11_lays_70 : decode cX11_lays 70 = .ok (.isub, 1) := by decide +kernel
theorem dX11_lays_71 : decode cX11_lays 71 = .ok (.iaload, 1) := by decide +kernel
theorem dX11_lays_72 : decode cX11_lays 72 = .ok (.iastore, 1) := by decide +kernel
theorem dX11_lays_73 : decode cX11_lays 73 = .ok (.iconst 0, 1) := by decide +kernel
theorem dX11_lays_74 : decode cX11_lays 74 = .ok (.istore 6, 2) := by decide +kernel
theorem dX11_lays_76 : decode cX11_lays 76 = .ok (.iload 6, 2) := by decide +kernel
theorem dX11_lays_78 : decode cX11_lays 78 = .ok (.iconst 4, 1) := by decide +kernel
theorem dX11_lays_79 : decode cX11_lays 79 = .ok (.if_icmp .ge 35, 3) := by decide +kernel
theorem dX11_lays_82 : decode cX11_lays 82 = .ok (.aload_n 0, 1) := by decide +kernel
theorem dX11_lays_83 : decode cX11_lays 83 = .ok (.getfield 147, 3) := by decide +kernel
theorem dX11_lays_86 : decode cX11_lays 86 = .ok (.iconst 4, 1) := by decide +kernel
theorem dX11_lays_87 : decode cX11_lays 87 = .ok (.iload 5, 2) := by decide +kernel
theorem dX11_lays_89 : decode cX11_lays 89 = .ok (.imul, 1) := by decide +kernel
theorem dX11_lays_90 : decode cX11_lays 90 = .ok (.iload 6, 2) := by decide +kernel
theorem dX11_lays_92 : decode cX11_lays 92 = .ok (.iadd, 1) := by decide +kernel
theorem dX11_lays_93 : decode cX11_lays 93 = .ok (.aload_n 0, 1) := by decide +kernel
theorem dX11_lays_94 : decode cX11_lays 94 = .ok (.getfield 147, 3) := by decide +kernel
theorem dX11_lays_97 : decode cX11_lays 97 = .ok (.iconst 4, 1) := by decide +kernel
theorem dX11_lays_98 : decode cX11_lays 98 = .ok (.iload 5, 2) := by decide +kernel
theorem dX11_lays_100 : decode cX11_lays 100 = .ok (.iconst 1, 1) := by decide +kernel
theorem dX11_lays_101 : decode cX11_lays 101 = .ok (.isub, 1) := by decide +kernel
theorem dX11_lays_102 : decode cX11_lays 102 = .ok (.imul, 1) := by decide +kernel
theorem dX11_lays_103 : decode cX11_lays 103 = .ok (.iload 6, 2) := by decide +kernel
theorem dX11_lays_105 : decode cX11_lays 105 = .ok (.iadd, 1) := by decide +kernel
theorem dX11_lays_106 : decode cX11_lays 106 = .ok (.iaload, 1) := by decide +kernel
theorem dX11_lays_107 : decode cX11_lays 107 = .ok (.iastore, 1) := by decide +kernel
theorem dX11_lays_108 : decode cX11_lays 108 = .ok (.iinc 6 1, 3) := by decide +kernel
theorem dX11_lays_111 : decode cX11_lays 111 = .ok (.goto (-35), 3) := by decide +kernel
theorem dX11_lays_114 : decode cX11_lays 114 = .ok (.iinc 4 (-1), 3) := by decide +kernel
theorem dX11_lays_117 : decode cX11_lays 117 = .ok (.goto (-97), 3) := by decide +kernel
theorem dX11_lays_120 : decode cX11_lays 120 = .ok (.aload_n 0, 1) := by decide +kernel
theorem dX11_lays_121 : decode cX11_lays 121 = .ok (.getfield 144, 3) := by decide +kernel
theorem dX11_lays_124 : decode cX11_lays 124 = .ok (.bipush 12, 2) := by decide +kernel
theorem dX11_lays_126 : decode cX11_lays 126 = .ok (.iload_n 1, 1) := by decide +kernel
theorem dX11_lays_127 : decode cX11_lays 127 = .ok (.imul, 1) := by decide +kernel
theorem dX11_lays_128 : decode cX11_lays 128 = .ok (.iload 4, 2) := by decide +kernel
theorem dX11_lays_130 : decode cX11_lays 130 = .ok (.iadd, 1) := by decide +kernel
theorem dX11_lays_131 : decode cX11_lays 131 = .ok (.aload_n 0, 1) := by decide +kernel
theorem dX11_lays_132 : decode cX11_lays 132 = .ok (.getfield 13, 3) := by decide +kernel
theorem dX11_lays_135 : decode cX11_lays 135 = .ok (.iload_n 3, 1) := by decide +kernel
theorem dX11_lays_136 : decode cX11_lays 136 = .ok (.iaload, 1) := by decide +kernel
theorem dX11_lays_137 : decode cX11_lays 137 = .ok (.iastore, 1) := by decide +kernel
theorem dX11_lays_138 : decode cX11_lays 138 = .ok (.iconst 0, 1) := by decide +kernel
theorem dX11_lays_139 : decode cX11_lays 139 = .ok (.istore 5, 2) := by decide +kernel
theorem dX11_lays_141 : decode cX11_lays 141 = .ok (.iload 5, 2) := by decide +kernel
theorem dX11_lays_143 : decode cX11_lays 143 = .ok (.iconst 4, 1) := by decide +kernel
theorem dX11_lays_144 : decode cX11_lays 144 = .ok (.if_icmp .ge 37, 3) := by decide +kernel
theorem dX11_lays_147 : decode cX11_lays 147 = .ok (.aload_n 0, 1) := by decide +kernel
theorem dX11_lays_148 : decode cX11_lays 148 = .ok (.getfield 147, 3) := by decide +kernel
theorem dX11_lays_151 : decode cX11_lays 151 = .ok (.iconst 4, 1) := by decide +kernel
theorem dX11_lays_152 : decode cX11_lays 152 = .ok (.bipush 12, 2) := by decide +kernel
theorem dX11_lays_154 : decode cX11_lays 154 = .ok (.iload_n 1, 1) := by decide +kernel
theorem dX11_lays_155 : decode cX11_lays 155 = .ok (.imul, 1) := by decide +kernel
theorem dX11_lays_156 : decode cX11_lays 156 = .ok (.iload 4, 2) := by decide +kernel
theorem dX11_lays_158 : decode cX11_lays 158 = .ok (.iadd, 1) := by decide +kernel
theorem dX11_lays_159 : decode cX11_lays 159 = .ok (.imul, 1) := by decide +kernel
theorem dX11_lays_160 : decode cX11_lays 160 = .ok (.iload 5, 2) := by decide +kernel
theorem dX11_lays_162 : decode cX11_lays 162 = .ok (.iadd, 1) := by decide +kernel
theorem dX11_lays_163 : decode cX11_lays 163 = .ok (.aload_n 0, 1) := by decide +kernel
theorem dX11_lays_164 : decode cX11_lays 164 = .ok (.getfield 16, 3) := by decide +kernel
theorem dX11_lays_167 : decode cX11_lays 167 = .ok (.iconst 4, 1) := by decide +kernel
theorem dX11_lays_168 : decode cX11_lays 168 = .ok (.iload_n 3, 1) := by decide +kernel
theorem dX11_lays_169 : decode cX11_lays 169 = .ok (.imul, 1) := by decide +kernel
theorem dX11_lays_170 : decode cX11_lays 170 = .ok (.iload 5, 2) := by decide +kernel
theorem dX11_lays_172 : decode cX11_lays 172 = .ok (.iadd, 1) := by decide +kernel
theorem dX11_lays_173 : decode cX11_lays 173 = .ok (.iaload, 1) := by decide +kernel
theorem dX11_lays_174 : decode cX11_lays 174 = .ok (.iastore, 1) := by decide +kernel
theorem dX11_lays_175 : decode cX11_lays 175 = .ok (.iinc 5 1, 3) := by decide +kernel
theorem dX11_lays_178 : decode cX11_lays 178 = .ok (.goto (-37), 3) := by decide +kernel
theorem dX11_lays_181 : decode cX11_lays 181 = .ok (.aload_n 0, 1) := by decide +kernel
theorem dX11_lays_182 : decode cX11_lays 182 = .ok (.getfield 141, 3) := by decide +kernel
theorem dX11_lays_185 : decode cX11_lays 185 = .ok (.iload_n 1, 1) := by decide +kernel
theorem dX11_lays_186 : decode cX11_lays 186 = .ok (.dup2, 1) := by decide +kernel
theorem dX11_lays_187 : decode cX11_lays 187 = .ok (.iaload, 1) := by decide +kernel
theorem dX11_lays_188 : decode cX11_lays 188 = .ok (.iconst 1, 1) := by decide +kernel
theorem dX11_lays_189 : decode cX11_lays 189 = .ok (.iadd, 1) := by decide +kernel
theorem dX11_lays_190 : decode cX11_lays 190 = .ok (.iastore, 1) := by decide +kernel
theorem dX11_lays_191 : decode cX11_lays 191 = .ok (.return_, 1) := by decide +kernel
theorem dX11_remembers_0 : decode cX11_remembers 0 = .ok (.aload_n 0, 1) := by decide +kernel
theorem dX11_remembers_1 : decode cX11_remembers 1 = .ok (.getfield 232, 3) := by decide +kernel
theorem dX11_remembers_4 : decode cX11_remembers 4 = .ok (.bipush 6, 2) := by decide +kernel
theorem dX11_remembers_6 : decode cX11_remembers 6 = .ok (.if_icmp .ne 35, 3) := by decide +kernel
theorem dX11_remembers_9 : decode cX11_remembers 9 = .ok (.iconst 1, 1) := by decide +kernel
theorem dX11_remembers_10 : decode cX11_remembers 10 = .ok (.istore_n 2, 1) := by decide +kernel
theorem dX11_remembers_11 : decode cX11_remembers 11 = .ok (.iload_n 2, 1) := by decide +kernel
theorem dX11_remembers_12 : decode cX11_remembers 12 = .ok (.bipush 6, 2) := by decide +kernel
theorem dX11_remembers_14 : decode cX11_remembers 14 = .ok (.if_icmp .ge 17, 3) := by decide +kernel
theorem dX11_remembers_17 : decode cX11_remembers 17 = .ok (.aload_n 0, 1) := by decide +kernel
theorem dX11_remembers_18 : decode cX11_remembers 18 = .ok (.iload_n 2, 1) := by decide +kernel
theorem dX11_remembers_19 : decode cX11_remembers 19 = .ok (.iload_n 2, 1) := by decide +kernel
theorem dX11_remembers_20 : decode cX11_remembers 20 = .ok (.iconst 1, 1) := by decide +kernel
theorem dX11_remembers_21 : decode cX11_remembers 21 = .ok (.isub, 1) := by decide +kernel
theorem dX11_remembers_22 : decode cX11_remembers 22 = .ok (.invokevirtual 238, 3) := by decide +kernel
theorem dX11_remembers_25 : decode cX11_remembers 25 = .ok (.iinc 2 1, 3) := by decide +kernel
theorem dX11_remembers_28 : decode cX11_remembers 28 = .ok (.goto (-17), 3) := by decide +kernel
theorem dX11_remembers_31 : decode cX11_remembers 31 = .ok (.aload_n 0, 1) := by decide +kernel
theorem dX11_remembers_32 : decode cX11_remembers 32 = .ok (.dup, 1) := by decide +kernel
theorem dX11_remembers_33 : decode cX11_remembers 33 = .ok (.getfield 232, 3) := by decide +kernel
theorem dX11_remembers_36 : decode cX11_remembers 36 = .ok (.iconst 1, 1) := by decide +kernel
theorem dX11_remembers_37 : decode cX11_remembers 37 = .ok (.isub, 1) := by decide +kernel
theorem dX11_remembers_38 : decode cX11_remembers 38 = .ok (.putfield 232, 3) := by decide +kernel
theorem dX11_remembers_41 : decode cX11_remembers 41 = .ok (.aload_n 0, 1) := by decide +kernel
theorem dX11_remembers_42 : decode cX11_remembers 42 = .ok (.getfield 232, 3) := by decide +kernel
theorem dX11_remembers_45 : decode cX11_remembers 45 = .ok (.istore_n 2, 1) := by decide +kernel
theorem dX11_remembers_46 : decode cX11_remembers 46 = .ok (.aload_n 0, 1) := by decide +kernel
theorem dX11_remembers_47 : decode cX11_remembers 47 = .ok (.dup, 1) := by decide +kernel
theorem dX11_remembers_48 : decode cX11_remembers 48 = .ok (.getfield 232, 3) := by decide +kernel
theorem dX11_remembers_51 : decode cX11_remembers 51 = .ok (.iconst 1, 1) := by decide +kernel
theorem dX11_remembers_52 : decode cX11_remembers 52 = .ok (.iadd, 1) := by decide +kernel
theorem dX11_remembers_53 : decode cX11_remembers 53 = .ok (.putfield 232, 3) := by decide +kernel
theorem dX11_remembers_56 : decode cX11_remembers 56 = .ok (.aload_n 0, 1) := by decide +kernel
theorem dX11_remembers_57 : decode cX11_remembers 57 = .ok (.getfield 102, 3) := by decide +kernel
theorem dX11_remembers_60 : decode cX11_remembers 60 = .ok (.iload_n 2, 1) := by decide +kernel
theorem dX11_remembers_61 : decode cX11_remembers 61 = .ok (.aload_n 0, 1) := by decide +kernel
theorem dX11_remembers_62 : decode cX11_remembers 62 = .ok (.getfield 65, 3) := by decide +kernel
theorem dX11_remembers_65 : decode cX11_remembers 65 = .ok (.iload_n 1, 1) := by decide +kernel
theorem dX11_remembers_66 : decode cX11_remembers 66 = .ok (.iaload, 1) := by decide +kernel
theorem dX11_remembers_67 : decode cX11_remembers 67 = .ok (.iastore, 1) := by decide +kernel
theorem dX11_remembers_68 : decode cX11_remembers 68 = .ok (.aload_n 0, 1) := by decide +kernel
theorem dX11_remembers_69 : decode cX11_remembers 69 = .ok (.getfield 105, 3) := by decide +kernel
theorem dX11_remembers_72 : decode cX11_remembers 72 = .ok (.iload_n 2, 1) := by decide +kernel
theorem dX11_remembers_73 : decode cX11_remembers 73 = .ok (.aload_n 0, 1) := by decide +kernel
theorem dX11_remembers_74 : decode cX11_remembers 74 = .ok (.getfield 235, 3) := by decide +kernel
theorem dX11_remembers_77 : decode cX11_remembers 77 = .ok (.iastore, 1) := by decide +kernel
theorem dX11_remembers_78 : decode cX11_remembers 78 = .ok (.aload_n 0, 1) := by decide +kernel
theorem dX11_remembers_79 : decode cX11_remembers 79 = .ok (.getfield 108, 3) := by decide +kernel
theorem dX11_remembers_82 : decode cX11_remembers 82 = .ok (.iload_n 2, 1) := by decide +kernel
theorem dX11_remembers_83 : decode cX11_remembers 83 = .ok (.aload_n 0, 1) := by decide +kernel
theorem dX11_remembers_84 : decode cX11_remembers 84 = .ok (.getfield 22, 3) := by decide +kernel
theorem dX11_remembers_87 : decode cX11_remembers 87 = .ok (.aload_n 0, 1) := by decide +kernel
theorem dX11_remembers_88 : decode cX11_remembers 88 = .ok (.getfield 65, 3) := by decide +kernel
theorem dX11_remembers_91 : decode cX11_remembers 91 = .ok (.iload_n 1, 1) := by decide +kernel
theorem dX11_remembers_92 : decode cX11_remembers 92 = .ok (.iaload, 1) := by decide +kernel
theorem dX11_remembers_93 : decode cX11_remembers 93 = .ok (.iaload, 1) := by decide +kernel
theorem dX11_remembers_94 : decode cX11_remembers 94 = .ok (.iastore, 1) := by decide +kernel
theorem dX11_remembers_95 : decode cX11_remembers 95 = .ok (.aload_n 0, 1) := by decide +kernel
theorem dX11_remembers_96 : decode cX11_remembers 96 = .ok (.getfield 111, 3) := by decide +kernel
theorem dX11_remembers_99 : decode cX11_remembers 99 = .ok (.iload_n 2, 1) := by decide +kernel
theorem dX11_remembers_100 : decode cX11_remembers 100 = .ok (.iconst (-1), 1) := by decide +kernel
theorem dX11_remembers_101 : decode cX11_remembers 101 = .ok (.iastore, 1) := by decide +kernel
theorem dX11_remembers_102 : decode cX11_remembers 102 = .ok (.aload_n 0, 1) := by decide +kernel
theorem dX11_remembers_103 : decode cX11_remembers 103 = .ok (.getfield 114, 3) := by decide +kernel
theorem dX11_remembers_106 : decode cX11_remembers 106 = .ok (.iload_n 2, 1) := by decide +kernel
theorem dX11_remembers_107 : decode cX11_remembers 107 = .ok (.iconst (-1), 1) := by decide +kernel
theorem dX11_remembers_108 : decode cX11_remembers 108 = .ok (.iastore, 1) := by decide +kernel
theorem dX11_remembers_109 : decode cX11_remembers 109 = .ok (.aload_n 0, 1) := by decide +kernel
theorem dX11_remembers_110 : decode cX11_remembers 110 = .ok (.getfield 117, 3) := by decide +kernel
theorem dX11_remembers_113 : decode cX11_remembers 113 = .ok (.iload_n 2, 1) := by decide +kernel
theorem dX11_remembers_114 : decode cX11_remembers 114 = .ok (.aload_n 0, 1) := by decide +kernel
theorem dX11_remembers_115 : decode cX11_remembers 115 = .ok (.getfield 141, 3) := by decide +kernel
theorem dX11_remembers_118 : decode cX11_remembers 118 = .ok (.iload_n 1, 1) := by decide +kernel
theorem dX11_remembers_119 : decode cX11_remembers 119 = .ok (.iaload, 1) := by decide +kernel
theorem dX11_remembers_120 : decode cX11_remembers 120 = .ok (.iastore, 1) := by decide +kernel
theorem dX11_remembers_121 : decode cX11_remembers 121 = .ok (.iconst 0, 1) := by decide +kernel
theorem dX11_remembers_122 : decode cX11_remembers 122 = .ok (.istore_n 3, 1) := by decide +kernel
theorem dX11_remembers_123 : decode cX11_remembers 123 = .ok (.iload_n 3, 1) := by decide +kernel
theorem dX11_remembers_124 : decode cX11_remembers 124 = .ok (.aload_n 0, 1) := by decide +kernel
theorem dX11_remembers_125 : decode cX11_remembers 125 = .ok (.getfield 141, 3) := by decide +kernel
theorem dX11_remembers_128 : decode cX11_remembers 128 = .ok (.iload_n 1, 1) := by decide +kernel
theorem dX11_remembers_129 : decode cX11_remembers 129 = .ok (.iaload, 1) := by decide +kernel
theorem dX11_remembers_130 : decode cX11_remembers 130 = .ok (.if_icmp .ge 31, 3) := by decide +kernel
theorem dX11_remembers_133 : decode cX11_remembers 133 = .ok (.aload_n 0, 1) := by decide +kernel
theorem dX11_remembers_134 : decode cX11_remembers 134 = .ok (.getfield 120, 3) := by decide +kernel
theorem dX11_remembers_137 : decode cX11_remembers 137 = .ok (.bipush 12, 2) := by decide +kernel
theorem dX11_remembers_139 : decode cX11_remembers 139 = .ok (.iload_n 2, 1) := by decide +kernel
theorem dX11_remembers_140 : decode cX11_remembers 140 = .ok (.imul, 1) := by decide +kernel
theorem dX11_remembers_141 : decode cX11_remembers 141 = .ok (.iload_n 3, 1) := by decide +kernel
theorem dX11_remembers_142 : decode cX11_remembers 142 = .ok (.iadd, 1) := by decide +kernel
theorem dX11_remembers_143 : decode cX11_remembers 143 = .ok (.aload_n 0, 1) := by decide +kernel
theorem dX11_remembers_144 : decode cX11_remembers 144 = .ok (.getfield 144, 3) := by decide +kernel
theorem dX11_remembers_147 : decode cX11_remembers 147 = .ok (.bipush 12, 2) := by decide +kernel
theorem dX11_remembers_149 : decode cX11_remembers 149 = .ok (.iload_n 1, 1) := by decide +kernel
theorem dX11_remembers_150 : decode cX11_remembers 150 = .ok (.imul, 1) := by decide +kernel
theorem dX11_remembers_151 : decode cX11_remembers 151 = .ok (.iload_n 3, 1) := by decide +kernel
theorem dX11_remembers_152 : decode cX11_remembers 152 = .ok (.iadd, 1) := by decide +kernel
theorem dX11_remembers_153 : decode cX11_remembers 153 = .ok (.iaload, 1) := by decide +kernel
theorem dX11_remembers_154 : decode cX11_remembers 154 = .ok (.iastore, 1) := by decide +kernel
theorem dX11_remembers_155 : decode cX11_remembers 155 = .ok (.iinc 3 1, 3) := by decide +kernel
theorem dX11_remembers_158 : decode cX11_remembers 158 = .ok (.goto (-35), 3) := by decide +kernel
theorem dX11_remembers_161 : decode cX11_remembers 161 = .ok (.iconst 0, 1) := by decide +kernel
theorem dX11_remembers_162 : decode cX11_remembers 162 = .ok (.istore_n 3, 1) := by decide +kernel
theorem dX11_remembers_163 : decode cX11_remembers 163 = .ok (.iload_n 3, 1) := by decide +kernel
theorem dX11_remembers_164 : decode cX11_remembers 164 = .ok (.aload_n 0, 1) := by decide +kernel
theorem dX11_remembers_165 : decode cX11_remembers 165 = .ok (.getfield 141, 3) := by decide +kernel
theorem dX11_remembers_168 : decode cX11_remembers 168 = .ok (.iload_n 1, 1) := by decide +kernel
theorem dX11_remembers_169 : decode cX11_remembers 169 = .ok (.iaload, 1) := by decide +kernel
theorem dX11_remembers_170 : decode cX11_remembers 170 = .ok (.iconst 4, 1) := by decide +kernel
theorem dX11_remembers_171 : decode cX11_remembers 171 = .ok (.imul, 1) := by decide +kernel
theorem dX11_remembers_172 : decode cX11_remembers 172 = .ok (.if_icmp .ge 31, 3) := by decide +kernel
theorem dX11_remembers_175 : decode cX11_remembers 175 = .ok (.aload_n 0, 1) := by decide +kernel
theorem dX11_remembers_176 : decode cX11_remembers 176 = .ok (.getfield 123, 3) := by decide +kernel
theorem dX11_remembers_179 : decode cX11_remembers 179 = .ok (.bipush 48, 2) := by decide +kernel
theorem dX11_remembers_181 : decode cX11_remembers 181 = .ok (.iload_n 2, 1) := by decide +kernel
theorem dX11_remembers_182 : decode cX11_remembers 182 = .ok (.imul, 1) := by decide +kernel
theorem dX11_remembers_183 : decode cX11_remembers 183 = .ok (.iload_n 3, 1) := by decide +kernel
theorem dX11_remembers_184 : decode cX11_remembers 184 = .ok (.iadd, 1) := by decide +kernel
theorem dX11_remembers_185 : decode cX11_remembers 185 = .ok (.aload_n 0, 1) := by decide +kernel
theorem dX11_remembers_186 : decode cX11_remembers 186 = .ok (.getfield 147, 3) := by decide +kernel
theorem dX11_remembers_189 : decode cX11_remembers 189 = .ok (.bipush 48, 2) := by decide +kernel
theorem dX11_remembers_191 : decode cX11_remembers 191 = .ok (.iload_n 1, 1) := by decide +kernel
theorem dX11_remembers_192 : decode cX11_remembers 192 = .ok (.imul, 1) := by decide +kernel
theorem dX11_remembers_193 : decode cX11_remembers 193 = .ok (.iload_n 3, 1) := by decide +kernel
theorem dX11_remembers_194 : decode cX11_remembers 194 = .ok (.iadd, 1) := by decide +kernel
theorem dX11_remembers_195 : decode cX11_remembers 195 = .ok (.iaload, 1) := by decide +kernel
theorem dX11_remembers_196 : decode cX11_remembers 196 = .ok (.iastore, 1) := by decide +kernel
theorem dX11_remembers_197 : decode cX11_remembers 197 = .ok (.iinc 3 1, 3) := by decide +kernel
theorem dX11_remembers_200 : decode cX11_remembers 200 = .ok (.goto (-37), 3) := by decide +kernel
theorem dX11_remembers_203 : decode cX11_remembers 203 = .ok (.aload_n 0, 1) := by decide +kernel
theorem dX11_remembers_204 : decode cX11_remembers 204 = .ok (.getfield 126, 3) := by decide +kernel
theorem dX11_remembers_207 : decode cX11_remembers 207 = .ok (.iload_n 2, 1) := by decide +kernel
theorem dX11_remembers_208 : decode cX11_remembers 208 = .ok (.iconst 0, 1) := by decide +kernel
theorem dX11_remembers_209 : decode cX11_remembers 209 = .ok (.iastore, 1) := by decide +kernel
theorem dX11_remembers_210 : decode cX11_remembers 210 = .ok (.iconst 0, 1) := by decide +kernel
theorem dX11_remembers_211 : decode cX11_remembers 211 = .ok (.istore_n 3, 1) := by decide +kernel
theorem dX11_remembers_212 : decode cX11_remembers 212 = .ok (.iload_n 3, 1) := by decide +kernel
theorem dX11_remembers_213 : decode cX11_remembers 213 = .ok (.aload_n 0, 1) := by decide +kernel
theorem dX11_remembers_214 : decode cX11_remembers 214 = .ok (.getfield 311, 3) := by decide +kernel
theorem dX11_remembers_217 : decode cX11_remembers 217 = .ok (.if_icmp .ge 79, 3) := by decide +kernel
theorem dX11_remembers_220 : decode cX11_remembers 220 = .ok (.aload_n 0, 1) := by decide +kernel
theorem dX11_remembers_221 : decode cX11_remembers 221 = .ok (.iload_n 3, 1) := by decide +kernel
theorem dX11_remembers_222 : decode cX11_remembers 222 = .ok (.iload_n 1, 1) := by decide +kernel
theorem dX11_remembers_223 : decode cX11_remembers 223 = .ok (.invokevirtual 324, 3) := by decide +kernel
theorem dX11_remembers_226 : decode cX11_remembers 226 = .ok (.ifCond .eq 64, 3) := by decide +kernel
theorem dX11_remembers_229 : decode cX11_remembers 229 = .ok (.iconst 4, 1) := by decide +kernel
theorem dX11_remembers_230 : decode cX11_remembers 230 = .ok (.iload_n 2, 1) := by decide +kernel
theorem dX11_remembers_231 : decode cX11_remembers 231 = .ok (.imul, 1) := by decide +kernel
theorem dX11_remembers_232 : decode cX11_remembers 232 = .ok (.aload_n 0, 1) := by decide +kernel
theorem dX11_remembers_233 : decode cX11_remembers 233 = .ok (.getfield 126, 3) := by decide +kernel
theorem dX11_remembers_236 : decode cX11_remembers 236 = .ok (.iload_n 2, 1) := by decide +kernel
theorem dX11_remembers_237 : decode cX11_remembers 237 = .ok (.iaload, 1) := by decide +kernel
theorem dX11_remembers_238 : decode cX11_remembers 238 = .ok (.iadd, 1) := by decide +kernel
theorem dX11_remembers_239 : decode cX11_remembers 239 = .ok (.istore 4, 2) := by decide +kernel
theorem dX11_remembers_241 : decode cX11_remembers 241 = .ok (.aload_n 0, 1) := by decide +kernel
theorem dX11_remembers_242 : decode cX11_remembers 242 = .ok (.getfield 129, 3) := by decide +kernel
theorem dX11_remembers_245 : decode cX11_remembers 245 = .ok (.iload 4, 2) := by decide +kernel
theorem dX11_remembers_247 : decode cX11_remembers 247 = .ok (.aload_n 0, 1) := by decide +kernel
theorem dX11_remembers_248 : decode cX11_remembers 248 = .ok (.getfield 83, 3) := by decide +kernel
theorem dX11_remembers_251 : decode cX11_remembers 251 = .ok (.iload_n 3, 1) := by decide +kernel
theorem dX11_remembers_252 : decode cX11_remembers 252 = .ok (.iaload, 1) := by decide +kernel
theorem dX11_remembers_253 : decode cX11_remembers 253 = .ok (.iastore, 1) := by decide +kernel
theorem dX11_remembers_254 : decode cX11_remembers 254 = .ok (.aload_n 0, 1) := by decide +kernel
theorem dX11_remembers_255 : decode cX11_remembers 255 = .ok (.getfield 132, 3) := by decide +kernel
theorem dX11_remembers_258 : decode cX11_remembers 258 = .ok (.iload 4, 2) := by decide +kernel
theorem dX11_remembers_260 : decode cX11_remembers 260 = .ok (.aload_n 0, 1) := by decide +kernel
theorem dX11_remembers_261 : decode cX11_remembers 261 = .ok (.getfield 86, 3) := by decide +kernel
theorem dX11_remembers_264 : decode cX11_remembers 264 = .ok (.iload_n 3, 1) := by decide +kernel
theorem dX11_remembers_265 : decode cX11_remembers 265 = .ok (.iaload, 1) := by decide +kernel
theorem dX11_remembers_266 : decode cX11_remembers 266 = .ok (.iastore, 1) := by decide +kernel
theorem dX11_remembers_267 : decode cX11_remembers 267 = .ok (.aload_n 0, 1) := by decide +kernel
theorem dX11_remembers_268 : decode cX11_remembers 268 = .ok (.getfield 135, 3) := by decide +kernel
theorem dX11_remembers_271 : decode cX11_remembers 271 = .ok (.iload 4, 2) := by decide +kernel
theorem dX11_remembers_273 : decode cX11_remembers 273 = .ok (.aload_n 0, 1) := by decide +kernel
theorem dX11_remembers_274 : decode cX11_remembers 274 = .ok (.getfield 89, 3) := by decide +kernel
theorem dX11_remembers_277 : decode cX11_remembers 277 = .ok (.iload_n 3, 1) := by decide +kernel
theorem dX11_remembers_278 : decode cX11_remembers 278 = .ok (.iaload, 1) := by decide +kernel
theorem dX11_remembers_279 : decode cX11_remembers 279 = .ok (.iastore, 1) := by decide +kernel
theorem dX11_remembers_280 : decode cX11_remembers 280 = .ok (.aload_n 0, 1) := by decide +kernel
theorem dX11_remembers_281 : decode cX11_remembers 281 = .ok (.getfield 126, 3) := by decide +kernel
theorem dX11_remembers_284 : decode cX11_remembers 284 = .ok (.iload_n 2, 1) := by decide +kernel
theorem dX11_remembers_285 : decode cX11_remembers 285 = .ok (.dup2, 1) := by decide +kernel
theorem dX11_remembers_286 : decode cX11_remembers 286 = .ok (.iaload, 1) := by decide +kernel
theorem dX11_remembers_287 : decode cX11_remembers 287 = .ok (.iconst 1, 1) := by decide +kernel
theorem dX11_remembers_288 : decode cX11_remembers 288 = .ok (.iadd, 1) := by decide +kernel
theorem dX11_remembers_289 : decode cX11_remembers 289 = .ok (.iastore, 1) := by decide +kernel
theorem dX11_remembers_290 : decode cX11_remembers 290 = .ok (.iinc 3 1, 3) := by decide +kernel
theorem dX11_remembers_293 : decode cX11_remembers 293 = .ok (.goto (-81), 3) := by decide +kernel
theorem dX11_remembers_296 : decode cX11_remembers 296 = .ok (.return_, 1) := by decide +kernel
theorem dX11_scans_0 : decode cX11_scans 0 = .ok (.aload_n 0, 1) := by decide +kernel
theorem dX11_scans_1 : decode cX11_scans 1 = .ok (.getfield 141, 3) := by decide +kernel
theorem dX11_scans_4 : decode cX11_scans 4 = .ok (.iload_n 1, 1) := by decide +kernel
theorem dX11_scans_5 : decode cX11_scans 5 = .ok (.iconst 0, 1) := by decide +kernel
theorem dX11_scans_6 : decode cX11_scans 6 = .ok (.iastore, 1) := by decide +kernel
theorem dX11_scans_7 : decode cX11_scans 7 = .ok (.aload_n 0, 1) := by decide +kernel
theorem dX11_scans_8 : decode cX11_scans 8 = .ok (.aload_n 0, 1) := by decide +kernel
theorem dX11_scans_9 : decode cX11_scans 9 = .ok (.getfield 65, 3) := by decide +kernel
theorem dX11_scans_12 : decode cX11_scans 12 = .ok (.iload_n 1, 1) := by decide +kernel
theorem dX11_scans_13 : decode cX11_scans 13 = .ok (.iaload, 1) := by decide +kernel
theorem dX11_scans_14 : decode cX11_scans 14 = .ok (.invokestatic 220, 3) := by decide +kernel
theorem dX11_scans_17 : decode cX11_scans 17 = .ok (.invokevirtual 367, 3) := by decide +kernel
theorem dX11_scans_20 : decode cX11_scans 20 = .ok (.ifCond .ne 5, 3) := by decide +kernel
theorem dX11_scans_23 : decode cX11_scans 23 = .ok (.iconst 1, 1) := by decide +kernel
theorem dX11_scans_24 : decode cX11_scans 24 = .ok (.ireturn, 1) := by decide +kernel
theorem dX11_scans_25 : decode cX11_scans 25 = .ok (.aload_n 0, 1) := by decide +kernel
theorem dX11_scans_26 : decode cX11_scans 26 = .ok (.iload_n 1, 1) := by decide +kernel
theorem dX11_scans_27 : decode cX11_scans 27 = .ok (.iconst (-1), 1) := by decide +kernel
theorem dX11_scans_28 : decode cX11_scans 28 = .ok (.iconst 0, 1) := by decide +kernel
theorem dX11_scans_29 : decode cX11_scans 29 = .ok (.iconst 0, 1) := by decide +kernel
theorem dX11_scans_30 : decode cX11_scans 30 = .ok (.invokevirtual 370, 3) := by decide +kernel
theorem dX11_scans_33 : decode cX11_scans 33 = .ok (.aload_n 0, 1) := by decide +kernel
theorem dX11_scans_34 : decode cX11_scans 34 = .ok (.getfield 352, 3) := by decide +kernel
theorem dX11_scans_37 : decode cX11_scans 37 = .ok (.ifCond .ne 47, 3) := by decide +kernel
theorem dX11_scans_40 : decode cX11_scans 40 = .ok (.aload_n 0, 1) := by decide +kernel
theorem dX11_scans_41 : decode cX11_scans 41 = .ok (.iload_n 1, 1) := by decide +kernel
theorem dX11_scans_42 : decode cX11_scans 42 = .ok (.invokevirtual 374, 3) := by decide +kernel
theorem dX11_scans_45 : decode cX11_scans 45 = .ok (.aload_n 0, 1) := by decide +kernel
theorem dX11_scans_46 : decode cX11_scans 46 = .ok (.getfield 62, 3) := by decide +kernel
theorem dX11_scans_49 : decode cX11_scans 49 = .ok (.aload_n 0, 1) := by decide +kernel
theorem dX11_scans_50 : decode cX11_scans 50 = .ok (.getfield 65, 3) := by decide +kernel
theorem dX11_scans_53 : decode cX11_scans 53 = .ok (.iload_n 1, 1) := by decide +kernel
theorem dX11_scans_54 : decode cX11_scans 54 = .ok (.iaload, 1) := by decide +kernel
theorem dX11_scans_55 : decode cX11_scans 55 = .ok (.aload_n 0, 1) := by decide +kernel
theorem dX11_scans_56 : decode cX11_scans 56 = .ok (.iload_n 1, 1) := by decide +kernel
theorem dX11_scans_57 : decode cX11_scans 57 = .ok (.invokevirtual 377, 3) := by decide +kernel
theorem dX11_scans_60 : decode cX11_scans 60 = .ok (.ifCond .ne 12, 3) := by decide +kernel
theorem dX11_scans_63 : decode cX11_scans 63 = .ok (.aload_n 0, 1) := by decide +kernel
theorem dX11_scans_64 : decode cX11_scans 64 = .ok (.getfield 141, 3) := by decide +kernel
theorem dX11_scans_67 : decode cX11_scans 67 = .ok (.iload_n 1, 1) := by decide +kernel
theorem dX11_scans_68 : decode cX11_scans 68 = .ok (.iaload, 1) := by decide +kernel
theorem dX11_scans_69 : decode cX11_scans 69 = .ok (.goto 14, 3) := by decide +kernel
theorem dX11_scans_72 : decode cX11_scans 72 = .ok (.aload_n 0, 1) := by decide +kernel
theorem dX11_scans_73 : decode cX11_scans 73 = .ok (.getfield 62, 3) := by decide +kernel
theorem dX11_scans_76 : decode cX11_scans 76 = .ok (.aload_n 0, 1) := by decide +kernel
theorem dX11_scans_77 : decode cX11_scans 77 = .ok (.getfield 65, 3) := by decide +kernel
theorem dX11_scans_80 : decode cX11_scans 80 = .ok (.iload_n 1, 1) := by decide +kernel
theorem dX11_scans_81 : decode cX11_scans 81 = .ok (.iaload, 1) := by decide +kernel
theorem dX11_scans_82 : decode cX11_scans 82 = .ok (.iaload, 1) := by decide +kernel
theorem dX11_scans_83 : decode cX11_scans 83 = .ok (.iastore, 1) := by decide +kernel
theorem dX11_scans_84 : decode cX11_scans 84 = .ok (.aload_n 0, 1) := by decide +kernel
theorem dX11_scans_85 : decode cX11_scans 85 = .ok (.getfield 352, 3) := by decide +kernel
theorem dX11_scans_88 : decode cX11_scans 88 = .ok (.ireturn, 1) := by decide +kernel
theorem dX11_follows_0 : decode cX11_follows 0 = .ok (.iload_n 0, 1) := by decide +kernel
theorem dX11_follows_1 : decode cX11_follows 1 = .ok (.iconst 1, 1) := by decide +kernel
theorem dX11_follows_2 : decode cX11_follows 2 = .ok (.if_icmp .ne 28, 3) := by decide +kernel
theorem dX11_follows_5 : decode cX11_follows 5 = .ok (.iload_n 2, 1) := by decide +kernel
theorem dX11_follows_6 : decode cX11_follows 6 = .ok (.iconst 1, 1) := by decide +kernel
theorem dX11_follows_7 : decode cX11_follows 7 = .ok (.if_icmp .ne 8, 3) := by decide +kernel
theorem dX11_follows_10 : decode cX11_follows 10 = .ok (.iload_n 3, 1) := by decide +kernel
theorem dX11_follows_11 : decode cX11_follows 11 = .ok (.iload_n 1, 1) := by decide +kernel
theorem dX11_follows_12 : decode cX11_follows 12 = .ok (.if_icmp .le 12, 3) := by decide +kernel
theorem dX11_follows_15 : decode cX11_follows 15 = .ok (.iload_n 2, 1) := by decide +kernel
theorem dX11_follows_16 : decode cX11_follows 16 = .ok (.ifCond .ne 12, 3) := by decide +kernel
theorem dX11_follows_19 : decode cX11_follows 19 = .ok (.iload_n 3, 1) := by decide +kernel
theorem dX11_follows_20 : decode cX11_follows 20 = .ok (.iload_n 1, 1) := by decide +kernel
theorem dX11_follows_21 : decode cX11_follows 21 = .ok (.if_icmp .ge 7, 3) := by decide +kernel
theorem dX11_follows_24 : decode cX11_follows 24 = .ok (.iconst 1, 1) := by decide +kernel
theorem dX11_follows_25 : decode cX11_follows 25 = .ok (.goto 4, 3) := by decide +kernel
theorem dX11_follows_28 : decode cX11_follows 28 = .ok (.iconst 0, 1) := by decide +kernel
theorem dX11_follows_29 : decode cX11_follows 29 = .ok (.ireturn, 1) := by decide +kernel
theorem dX11_follows_30 : decode cX11_follows 30 = .ok (.iload_n 0, 1) := by decide +kernel
theorem dX11_follows_31 : decode cX11_follows 31 = .ok (.iconst 2, 1) := by decide +kernel
theorem dX11_follows_32 : decode cX11_follows 32 = .ok (.if_icmp .ne 28, 3) := by decide +kernel
theorem dX11_follows_35 : decode cX11_follows 35 = .ok (.iload_n 2, 1) := by decide +kernel
theorem dX11_follows_36 : decode cX11_follows 36 = .ok (.iconst 2, 1) := by decide +kernel
theorem dX11_follows_37 : decode cX11_follows 37 = .ok (.if_icmp .ne 8, 3) := by decide +kernel
theorem dX11_follows_40 : decode cX11_follows 40 = .ok (.iload_n 3, 1) := by decide +kernel
theorem dX11_follows_41 : decode cX11_follows 41 = .ok (.iload_n 1, 1) := by decide +kernel
theorem dX11_follows_42 : decode cX11_follows 42 = .ok (.if_icmp .ge 12, 3) := by decide +kernel
theorem dX11_follows_45 : decode cX11_follows 45 = .ok (.iload_n 2, 1) := by decide +kernel
theorem dX11_follows_46 : decode cX11_follows 46 = .ok (.ifCond .ne 12, 3) := by decide +kernel
theorem dX11_follows_49 : decode cX11_follows 49 = .ok (.iload_n 3, 1) := by decide +kernel
theorem dX11_follows_50 : decode cX11_follows 50 = .ok (.iload_n 1, 1) := by decide +kernel
theorem dX11_follows_51 : decode cX11_follows 51 = .ok (.if_icmp .le 7, 3) := by decide +kernel
theorem dX11_follows_54 : decode cX11_follows 54 = .ok (.iconst 1, 1) := by decide +kernel
theorem dX11_follows_55 : decode cX11_follows 55 = .ok (.goto 4, 3) := by decide +kernel
theorem dX11_follows_58 : decode cX11_follows 58 = .ok (.iconst 0, 1) := by decide +kernel
theorem dX11_follows_59 : decode cX11_follows 59 = .ok (.ireturn, 1) := by decide +kernel
theorem dX11_follows_60 : decode cX11_follows 60 = .ok (.iload_n 2, 1) := by decide +kernel
theorem dX11_follows_61 : decode cX11_follows 61 = .ok (.iload_n 0, 1) := by decide +kernel
theorem dX11_follows_62 : decode cX11_follows 62 = .ok (.if_icmp .ne 12, 3) := by decide +kernel
theorem dX11_follows_65 : decode cX11_follows 65 = .ok (.iload_n 3, 1) := by decide +kernel
theorem dX11_follows_66 : decode cX11_follows 66 = .ok (.iload_n 1, 1) := by decide +kernel
theorem dX11_follows_67 : decode cX11_follows 67 = .ok (.if_icmp .ne 7, 3) := by decide +kernel
theorem dX11_follows_70 : decode cX11_follows 70 = .ok (.iconst 1, 1) := by decide +kernel
theorem dX11_follows_71 : decode cX11_follows 71 = .ok (.goto 4, 3) := by decide +kernel
theorem dX11_follows_74 : decode cX11_follows 74 = .ok (.iconst 0, 1) := by decide +kernel
theorem dX11_follows_75 : decode cX11_follows 75 = .ok (.ireturn, 1) := by decide +kernel
theorem dX11_canServe_0 : decode cX11_canServe 0 = .ok (.aload_n 0, 1) := by decide +kernel
theorem dX11_canServe_1 : decode cX11_canServe 1 = .ok (.getfield 102, 3) := by decide +kernel
theorem dX11_canServe_4 : decode cX11_canServe 4 = .ok (.iload_n 1, 1) := by decide +kernel
theorem dX11_canServe_5 : decode cX11_canServe 5 = .ok (.iaload, 1) := by decide +kernel
theorem dX11_canServe_6 : decode cX11_canServe 6 = .ok (.aload_n 0, 1) := by decide +kernel
theorem dX11_canServe_7 : decode cX11_canServe 7 = .ok (.getfield 65, 3) := by decide +kernel
theorem dX11_canServe_10 : decode cX11_canServe 10 = .ok (.iload_n 2, 1) := by decide +kernel
theorem dX11_canServe_11 : decode cX11_canServe 11 = .ok (.iaload, 1) := by decide +kernel
theorem dX11_canServe_12 : decode cX11_canServe 12 = .ok (.if_icmp .ne 25, 3) := by decide +kernel
theorem dX11_canServe_15 : decode cX11_canServe 15 = .ok (.aload_n 0, 1) := by decide +kernel
theorem dX11_canServe_16 : decode cX11_canServe 16 = .ok (.getfield 235, 3) := by decide +kernel
theorem dX11_canServe_19 : decode cX11_canServe 19 = .ok (.aload_n 0, 1) := by decide +kernel
theorem dX11_canServe_20 : decode cX11_canServe 20 = .ok (.getfield 105, 3) := by decide +kernel
theorem dX11_canServe_23 : decode cX11_canServe 23 = .ok (.iload_n 1, 1) := by decide +kernel
theorem dX11_canServe_24 : decode cX11_canServe 24 = .ok (.iaload, 1) := by decide +kernel
theorem dX11_canServe_25 : decode cX11_canServe 25 = .ok (.isub, 1) := by decide +kernel
theorem dX11_canServe_26 : decode cX11_canServe 26 = .ok (.aload_n 0, 1) := by decide +kernel
theorem dX11_canServe_27 : decode cX11_canServe 27 = .ok (.getfield 380, 3) := by decide +kernel
theorem dX11_canServe_30 : decode cX11_canServe 30 = .ok (.if_icmp .gt 7, 3) := by decide +kernel
theorem dX11_canServe_33 : decode cX11_canServe 33 = .ok (.iconst 1, 1) := by decide +kernel
theorem dX11_canServe_34 : decode cX11_canServe 34 = .ok (.goto 4, 3) := by decide +kernel
theorem dX11_canServe_37 : decode cX11_canServe 37 = .ok (.iconst 0, 1) := by decide +kernel
theorem dX11_canServe_38 : decode cX11_canServe 38 = .ok (.istore_n 3, 1) := by decide +kernel
theorem dX11_canServe_39 : decode cX11_canServe 39 = .ok (.iconst 4, 1) := by decide +kernel
theorem dX11_canServe_40 : decode cX11_canServe 40 = .ok (.iload_n 1, 1) := by decide +kernel
theorem dX11_canServe_41 : decode cX11_canServe 41 = .ok (.imul, 1) := by decide +kernel
theorem dX11_canServe_42 : decode cX11_canServe 42 = .ok (.istore 4, 2) := by decide +kernel
theorem dX11_canServe_44 : decode cX11_canServe 44 = .ok (.iload 4, 2) := by decide +kernel
theorem dX11_canServe_46 : decode cX11_canServe 46 = .ok (.iconst 4, 1) := by decide +kernel
theorem dX11_canServe_47 : decode cX11_canServe 47 = .ok (.iload_n 1, 1) := by decide +kernel
theorem dX11_canServe_48 : decode cX11_canServe 48 = .ok (.imul, 1) := by decide +kernel
theorem dX11_canServe_49 : decode cX11_canServe 49 = .ok (.aload_n 0, 1) := by decide +kernel
theorem dX11_canServe_50 : decode cX11_canServe 50 = .ok (.getfield 126, 3) := by decide +kernel
theorem dX11_canServe_53 : decode cX11_canServe 53 = .ok (.iload_n 1, 1) := by decide +kernel
theorem dX11_canServe_54 : decode cX11_canServe 54 = .ok (.iaload, 1) := by decide +kernel
theorem dX11_canServe_55 : decode cX11_canServe 55 = .ok (.iadd, 1) := by decide +kernel
theorem dX11_canServe_56 : decode cX11_canServe 56 = .ok (.if_icmp .ge 130, 3) := by decide +kernel
theorem dX11_canServe_59 : decode cX11_canServe 59 = .ok (.iconst 0, 1) := by decide +kernel
theorem dX11_canServe_60 : decode cX11_canServe 60 = .ok (.istore 5, 2) := by decide +kernel
theorem dX11_canServe_62 : decode cX11_canServe 62 = .ok (.iconst 0, 1) := by decide +kernel
theorem dX11_canServe_63 : decode cX11_canServe 63 = .ok (.istore 6, 2) := by decide +kernel
theorem dX11_canServe_65 : decode cX11_canServe 65 = .ok (.iload 6, 2) := by decide +kernel
theorem dX11_canServe_67 : decode cX11_canServe 67 = .ok (.aload_n 0, 1) := by decide +kernel
theorem dX11_canServe_68 : decode cX11_canServe 68 = .ok (.getfield 311, 3) := by decide +kernel
theorem dX11_canServe_71 : decode cX11_canServe 71 = .ok (.if_icmp .ge 94, 3) := by decide +kernel
theorem dX11_canServe_74 : decode cX11_canServe 74 = .ok (.aload_n 0, 1) := by decide +kernel
theorem dX11_canServe_75 : decode cX11_canServe 75 = .ok (.iload 6, 2) := by decide +kernel
theorem dX11_canServe_77 : decode cX11_canServe 77 = .ok (.iload_n 2, 1) := by decide +kernel
theorem dX11_canServe_78 : decode cX11_canServe 78 = .ok (.invokevirtual 324, 3) := by decide +kernel
theorem dX11_canServe_81 : decode cX11_canServe 81 = .ok (.ifCond .eq 24, 3) := by decide +kernel
theorem dX11_canServe_84 : decode cX11_canServe 84 = .ok (.aload_n 0, 1) := by decide +kernel
theorem dX11_canServe_85 : decode cX11_canServe 85 = .ok (.getfield 83, 3) := by decide +kernel
theorem dX11_canServe_88 : decode cX11_canServe 88 = .ok (.iload 6, 2) := by decide +kernel
theorem dX11_canServe_90 : decode cX11_canServe 90 = .ok (.iaload, 1) := by decide +kernel
theorem dX11_canServe_91 : decode cX11_canServe 91 = .ok (.aload_n 0, 1) := by decide +kernel
theorem dX11_canServe_92 : decode cX11_canServe 92 = .ok (.getfield 129, 3) := by decide +kernel
theorem dX11_canServe_95 : decode cX11_canServe 95 = .ok (.iload 4, 2) := by decide +kernel
theorem dX11_canServe_97 : decode cX11_canServe 97 = .ok (.iaload, 1) := by decide +kernel
theorem dX11_canServe_98 : decode cX11_canServe 98 = .ok (.if_icmp .ne 7, 3) := by decide +kernel
theorem dX11_canServe_101 : decode cX11_canServe 101 = .ok (.iconst 1, 1) := by decide +kernel
theorem dX11_canServe_102 : decode cX11_canServe 102 = .ok (.goto 4, 3) := by decide +kernel
theorem dX11_canServe_105 : decode cX11_canServe 105 = .ok (.iconst 0, 1) := by decide +kernel
theorem dX11_canServe_106 : decode cX11_canServe 106 = .ok (.istore 7, 2) := by decide +kernel
theorem dX11_canServe_108 : decode cX11_canServe 108 = .ok (.iload 5, 2) := by decide +kernel
theorem dX11_canServe_110 : decode cX11_canServe 110 = .ok (.ifCond .ne 42, 3) := by decide +kernel
theorem dX11_canServe_113 : decode cX11_canServe 113 = .ok (.iload 7, 2) := by decide +kernel
theorem dX11_canServe_115 : decode cX11_canServe 115 = .ok (.ifCond .eq 41, 3) := by decide +kernel
theorem dX11_canServe_118 : decode cX11_canServe 118 = .ok (.aload_n 0, 1) := by decide +kernel
theorem dX11_canServe_119 : decode cX11_canServe 119 = .ok (.getfield 132, 3) := by decide +kernel
theorem dX11_canServe_122 : decode cX11_canServe 122 = .ok (.iload 4, 2) := by decide +kernel
theorem dX11_canServe_124 : decode cX11_canServe 124 = .ok (.iaload, 1) := by decide +kernel
theorem dX11_canServe_125 : decode cX11_canServe 125 = .ok (.aload_n 0, 1) := by decide +kernel
theorem dX11_canServe_126 : decode cX11_canServe 126 = .ok (.getfield 135, 3) := by decide +kernel
theorem dX11_canServe_129 : decode cX11_canServe 129 = .ok (.iload 4, 2) := by decide +kernel
theorem dX11_canServe_131 : decode cX11_canServe 131 = .ok (.iaload, 1) := by decide +kernel
theorem dX11_canServe_132 : decode cX11_canServe 132 = .ok (.aload_n 0, 1) := by decide +kernel
theorem dX11_canServe_133 : decode cX11_canServe 133 = .ok (.getfield 86, 3) := by decide +kernel
theorem dX11_canServe_136 : decode cX11_canServe 136 = .ok (.iload 6, 2) := by decide +kernel
theorem dX11_canServe_138 : decode cX11_canServe 138 = .ok (.iaload, 1) := by decide +kernel
theorem dX11_canServe_139 : decode cX11_canServe 139 = .ok (.aload_n 0, 1) := by decide +kernel
theorem dX11_canServe_140 : decode cX11_canServe 140 = .ok (.getfield 89, 3) := by decide +kernel
theorem dX11_canServe_143 : decode cX11_canServe 143 = .ok (.iload 6, 2) := by decide +kernel
theorem dX11_canServe_145 : decode cX11_canServe 145 = .ok (.iaload, 1) := by decide +kernel
theorem dX11_canServe_146 : decode cX11_canServe 146 = .ok (.invokestatic 383, 3) := by decide +kernel
theorem dX11_canServe_149 : decode cX11_canServe 149 = .ok (.ifCond .eq 7, 3) := by decide +kernel
theorem dX11_canServe_152 : decode cX11_canServe 152 = .ok (.iconst 1, 1) := by decide +kernel
theorem dX11_canServe_153 : decode cX11_canServe 153 = .ok (.goto 4, 3) := by decide +kernel
theorem dX11_canServe_156 : decode cX11_canServe 156 = .ok (.iconst 0, 1) := by decide +kernel
theorem dX11_canServe_157 : decode cX11_canServe 157 = .ok (.istore 5, 2) := by decide +kernel
theorem dX11_canServe_159 : decode cX11_canServe 159 = .ok (.iinc 6 1, 3) := by decide +kernel
theorem dX11_canServe_162 : decode cX11_canServe 162 = .ok (.goto (-97), 3) := by decide +kernel
theorem dX11_canServe_165 : decode cX11_canServe 165 = .ok (.iload_n 3, 1) := by decide +kernel
theorem dX11_canServe_166 : decode cX11_canServe 166 = .ok (.ifCond .eq 12, 3) := by decide +kernel
theorem dX11_canServe_169 : decode cX11_canServe 169 = .ok (.iload 5, 2) := by decide +kernel
theorem dX11_canServe_171 : decode cX11_canServe 171 = .ok (.ifCond .eq 7, 3) := by decide +kernel
theorem dX11_canServe_174 : decode cX11_canServe 174 = .ok (.iconst 1, 1) := by decide +kernel
theorem dX11_canServe_175 : decode cX11_canServe 175 = .ok (.goto 4, 3) := by decide +kernel
theorem dX11_canServe_178 : decode cX11_canServe 178 = .ok (.iconst 0, 1) := by decide +kernel
theorem dX11_canServe_179 : decode cX11_canServe 179 = .ok (.istore_n 3, 1) := by decide +kernel
theorem dX11_canServe_180 : decode cX11_canServe 180 = .ok (.iinc 4 1, 3) := by decide +kernel
theorem dX11_canServe_183 : decode cX11_canServe 183 = .ok (.goto (-139), 3) := by decide +kernel
theorem dX11_canServe_186 : decode cX11_canServe 186 = .ok (.iload_n 3, 1) := by decide +kernel
theorem dX11_canServe_187 : decode cX11_canServe 187 = .ok (.ireturn, 1) := by decide +kernel
theorem dX11_entryFor_0 : decode cX11_entryFor 0 = .ok (.iconst (-1), 1) := by decide +kernel
theorem dX11_entryFor_1 : decode cX11_entryFor 1 = .ok (.istore_n 2, 1) := by decide +kernel
theorem dX11_entryFor_2 : decode cX11_entryFor 2 = .ok (.iconst 0, 1) := by decide +kernel
theorem dX11_entryFor_3 : decode cX11_entryFor 3 = .ok (.istore_n 3, 1) := by decide +kernel
theorem dX11_entryFor_4 : decode cX11_entryFor 4 = .ok (.iload_n 3, 1) := by decide +kernel
theorem dX11_entryFor_5 : decode cX11_entryFor 5 = .ok (.aload_n 0, 1) := by decide +kernel
theorem dX11_entryFor_6 : decode cX11_entryFor 6 = .ok (.getfield 232, 3) := by decide +kernel
theorem dX11_entryFor_9 : decode cX11_entryFor 9 = .ok (.if_icmp .ge 24, 3) := by decide +kernel
theorem dX11_entryFor_12 : decode cX11_entryFor 12 = .ok (.aload_n 0, 1) := by decide +kernel
theorem dX11_entryFor_13 : decode cX11_entryFor 13 = .ok (.iload_n 3, 1) := by decide +kernel
theorem dX11_entryFor_14 : decode cX11_entryFor 14 = .ok (.iload_n 1, 1) := by decide +kernel
theorem dX11_entryFor_15 : decode cX11_entryFor 15 = .ok (.invokevirtual 387, 3) := by decide +kernel
theorem dX11_entryFor_18 : decode cX11_entryFor 18 = .ok (.ifCond .eq 7, 3) := by decide +kernel
theorem dX11_entryFor_21 : decode cX11_entryFor 21 = .ok (.iload_n 3, 1) := by decide +kernel
theorem dX11_entryFor_22 : decode cX11_entryFor 22 = .ok (.goto 4, 3) := by decide +kernel
theorem dX11_entryFor_25 : decode cX11_entryFor 25 = .ok (.iload_n 2, 1) := by decide +kernel
theorem dX11_entryFor_26 : decode cX11_entryFor 26 = .ok (.istore_n 2, 1) := by decide +kernel
theorem dX11_entryFor_27 : decode cX11_entryFor 27 = .ok (.iinc 3 1, 3) := by decide +kernel
theorem dX11_entryFor_30 : decode cX11_entryFor 30 = .ok (.goto (-26), 3) := by decide +kernel
theorem dX11_entryFor_33 : decode cX11_entryFor 33 = .ok (.iload_n 2, 1) := by decide +kernel
theorem dX11_entryFor_34 : decode cX11_entryFor 34 = .ok (.ireturn, 1) := by decide +kernel
theorem dX11_serves_0 : decode cX11_serves 0 = .ok (.aload_n 0, 1) := by decide +kernel
theorem dX11_serves_1 : decode cX11_serves 1 = .ok (.getfield 141, 3) := by decide +kernel
theorem dX11_serves_4 : decode cX11_serves 4 = .ok (.iload_n 2, 1) := by decide +kernel
theorem dX11_serves_5 : decode cX11_serves 5 = .ok (.aload_n 0, 1) := by decide +kernel
theorem dX11_serves_6 : decode cX11_serves 6 = .ok (.getfield 117, 3) := by decide +kernel
theorem dX11_serves_9 : decode cX11_serves 9 = .ok (.iload_n 1, 1) := by decide +kernel
theorem dX11_serves_10 : decode cX11_serves 10 = .ok (.iaload, 1) := by decide +kernel
theorem dX11_serves_11 : decode cX11_serves 11 = .ok (.iastore, 1) := by decide +kernel
theorem dX11_serves_12 : decode cX11_serves 12 = .ok (.iconst 0, 1) := by decide +kernel
theorem dX11_serves_13 : decode cX11_serves 13 = .ok (.istore_n 3, 1) := by decide +kernel
theorem dX11_serves_14 : decode cX11_serves 14 = .ok (.iload_n 3, 1) := by decide +kernel
theorem dX11_serves_15 : decode cX11_serves 15 = .ok (.bipush 12, 2) := by decide +kernel
theorem dX11_serves_17 : decode cX11_serves 17 = .ok (.if_icmp .ge 31, 3) := by decide +kernel
theorem dX11_serves_20 : decode cX11_serves 20 = .ok (.aload_n 0, 1) := by decide +kernel
theorem dX11_serves_21 : decode cX11_serves 21 = .ok (.getfield 144, 3) := by decide +kernel
theorem dX11_serves_24 : decode cX11_serves 24 = .ok (.bipush 12, 2) := by decide +kernel
theorem dX11_serves_26 : decode cX11_serves 26 = .ok (.iload_n 2, 1) := by decide +kernel
theorem dX11_serves_27 : decode cX11_serves 27 = .ok (.imul, 1) := by decide +kernel
theorem dX11_serves_28 : decode cX11_serves 28 = .ok (.iload_n 3, 1) := by decide +kernel
theorem dX11_serves_29 : decode cX11_serves 29 = .ok (.iadd, 1) := by decide +kernel
theorem dX11_serves_30 : decode cX11_serves 30 = .ok (.aload_n 0, 1) := by decide +kernel
theorem dX11_serves_31 : decode cX11_serves 31 = .ok (.getfield 120, 3) := by decide +kernel
theorem dX11_serves_34 : decode cX11_serves 34 = .ok (.bipush 12, 2) := by decide +kernel
theorem dX11_serves_36 : decode cX11_serves 36 = .ok (.iload_n 1, 1) := by decide +kernel
theorem dX11_serves_37 : decode cX11_serves 37 = .ok (.imul, 1) := by decide +kernel
theorem dX11_serves_38 : decode cX11_serves 38 = .ok (.iload_n 3, 1) := by decide +kernel
theorem dX11_serves_39 : decode cX11_serves 39 = .ok (.iadd, 1) := by decide +kernel
theorem dX11_serves_40 : decode cX11_serves 40 = .ok (.iaload, 1) := by decide +kernel
theorem dX11_serves_41 : decode cX11_serves 41 = .ok (.iastore, 1) := by decide +kernel
theorem dX11_serves_42 : decode cX11_serves 42 = .ok (.iinc 3 1, 3) := by decide +kernel
theorem dX11_serves_45 : decode cX11_serves 45 = .ok (.goto (-31), 3) := by decide +kernel
theorem dX11_serves_48 : decode cX11_serves 48 = .ok (.iconst 0, 1) := by decide +kernel
theorem dX11_serves_49 : decode cX11_serves 49 = .ok (.istore_n 3, 1) := by decide +kernel
theorem dX11_serves_50 : decode cX11_serves 50 = .ok (.iload_n 3, 1) := by decide +kernel
theorem dX11_serves_51 : decode cX11_serves 51 = .ok (.bipush 48, 2) := by decide +kernel
theorem dX11_serves_53 : decode cX11_serves 53 = .ok (.if_icmp .ge 31, 3) := by decide +kernel
theorem dX11_serves_56 : decode cX11_serves 56 = .ok (.aload_n 0, 1) := by decide +kernel
theorem dX11_serves_57 : decode cX11_serves 57 = .ok (.getfield 147, 3) := by decide +kernel
theorem dX11_serves_60 : decode cX11_serves 60 = .ok (.bipush 48, 2) := by decide +kernel
theorem dX11_serves_62 : decode cX11_serves 62 = .ok (.iload_n 2, 1) := by decide +kernel
theorem dX11_serves_63 : decode cX11_serves 63 = .ok (.imul, 1) := by decide +kernel
theorem dX11_serves_64 : decode cX11_serves 64 = .ok (.iload_n 3, 1) := by decide +kernel
theorem dX11_serves_65 : decode cX11_serves 65 = .ok (.iadd, 1) := by decide +kernel
theorem dX11_serves_66 : decode cX11_serves 66 = .ok (.aload_n 0, 1) := by decide +kernel
theorem dX11_serves_67 : decode cX11_serves 67 = .ok (.getfield 123, 3) := by decide +kernel
theorem dX11_serves_70 : decode cX11_serves 70 = .ok (.bipush 48, 2) := by decide +kernel
theorem dX11_serves_72 : decode cX11_serves 72 = .ok (.iload_n 1, 1) := by decide +kernel
theorem dX11_serves_73 : decode cX11_serves 73 = .ok (.imul, 1) := by decide +kernel
theorem dX11_serves_74 : decode cX11_serves 74 = .ok (.iload_n 3, 1) := by decide +kernel
theorem dX11_serves_75 : decode cX11_serves 75 = .ok (.iadd, 1) := by decide +kernel
theorem dX11_serves_76 : decode cX11_serves 76 = .ok (.iaload, 1) := by decide +kernel
theorem dX11_serves_77 : decode cX11_serves 77 = .ok (.iastore, 1) := by decide +kernel
theorem dX11_serves_78 : decode cX11_serves 78 = .ok (.iinc 3 1, 3) := by decide +kernel
theorem dX11_serves_81 : decode cX11_serves 81 = .ok (.goto (-31), 3) := by decide +kernel
theorem dX11_serves_84 : decode cX11_serves 84 = .ok (.aload_n 0, 1) := by decide +kernel
theorem dX11_serves_85 : decode cX11_serves 85 = .ok (.getfield 150, 3) := by decide +kernel
theorem dX11_serves_88 : decode cX11_serves 88 = .ok (.iload_n 2, 1) := by decide +kernel
theorem dX11_serves_89 : decode cX11_serves 89 = .ok (.aload_n 0, 1) := by decide +kernel
theorem dX11_serves_90 : decode cX11_serves 90 = .ok (.getfield 108, 3) := by decide +kernel
theorem dX11_serves_93 : decode cX11_serves 93 = .ok (.iload_n 1, 1) := by decide +kernel
theorem dX11_serves_94 : decode cX11_serves 94 = .ok (.iaload, 1) := by decide +kernel
theorem dX11_serves_95 : decode cX11_serves 95 = .ok (.iastore, 1) := by decide +kernel
theorem dX11_serves_96 : decode cX11_serves 96 = .ok (.aload_n 0, 1) := by decide +kernel
theorem dX11_serves_97 : decode cX11_serves 97 = .ok (.getfield 153, 3) := by decide +kernel
theorem dX11_serves_100 : decode cX11_serves 100 = .ok (.iload_n 2, 1) := by decide +kernel
theorem dX11_serves_101 : decode cX11_serves 101 = .ok (.aload_n 0, 1) := by decide +kernel
theorem dX11_serves_102 : decode cX11_serves 102 = .ok (.getfield 111, 3) := by decide +kernel
theorem dX11_serves_105 : decode cX11_serves 105 = .ok (.iload_n 1, 1) := by decide +kernel
theorem dX11_serves_106 : decode cX11_serves 106 = .ok (.iaload, 1) := by decide +kernel
theorem dX11_serves_107 : decode cX11_serves 107 = .ok (.iconst (-1), 1) := by decide +kernel
theorem dX11_serves_108 : decode cX11_serves 108 = .ok (.if_icmp .ne 10, 3) := by decide +kernel
theorem dX11_serves_111 : decode cX11_serves 111 = .ok (.aload_n 0, 1) := by decide +kernel
theorem dX11_serves_112 : decode cX11_serves 112 = .ok (.getfield 242, 3) := by decide +kernel
theorem dX11_serves_115 : decode cX11_serves 115 = .ok (.goto 9, 3) := by decide +kernel
theorem dX11_serves_118 : decode cX11_serves 118 = .ok (.aload_n 0, 1) := by decide +kernel
theorem dX11_serves_119 : decode cX11_serves 119 = .ok (.getfield 111, 3) := by decide +kernel
theorem dX11_serves_122 : decode cX11_serves 122 = .ok (.iload_n 1, 1) := by decide +kernel
theorem dX11_serves_123 : decode cX11_serves 123 = .ok (.iaload, 1) := by decide +kernel
theorem dX11_serves_124 : decode cX11_serves 124 = .ok (.iastore, 1) := by decide +kernel
theorem dX11_serves_125 : decode cX11_serves 125 = .ok (.return_, 1) := by decide +kernel
theorem dX11_guess_0 : decode cX11_guess 0 = .ok (.aload_n 0, 1) := by decide +kernel
theorem dX11_guess_1 : decode cX11_guess 1 = .ok (.getfield 62, 3) := by decide +kernel
theorem dX11_guess_4 : decode cX11_guess 4 = .ok (.aload_n 0, 1) := by decide +kernel
theorem dX11_guess_5 : decode cX11_guess 5 = .ok (.getfield 65, 3) := by decide +kernel
theorem dX11_guess_8 : decode cX11_guess 8 = .ok (.iload_n 1, 1) := by decide +kernel
theorem dX11_guess_9 : decode cX11_guess 9 = .ok (.iaload, 1) := by decide +kernel
theorem dX11_guess_10 : decode cX11_guess 10 = .ok (.iaload, 1) := by decide +kernel
theorem dX11_guess_11 : decode cX11_guess 11 = .ok (.istore_n 2, 1) := by decide +kernel
theorem dX11_guess_12 : decode cX11_guess 12 = .ok (.aload_n 0, 1) := by decide +kernel
theorem dX11_guess_13 : decode cX11_guess 13 = .ok (.iload_n 1, 1) := by decide +kernel
theorem dX11_guess_14 : decode cX11_guess 14 = .ok (.invokevirtual 377, 3) := by decide +kernel
theorem dX11_guess_17 : decode cX11_guess 17 = .ok (.istore_n 3, 1) := by decide +kernel
theorem dX11_guess_18 : decode cX11_guess 18 = .ok (.iload_n 3, 1) := by decide +kernel
theorem dX11_guess_19 : decode cX11_guess 19 = .ok (.ifCond .le 13, 3) := by decide +kernel
theorem dX11_guess_22 : decode cX11_guess 22 = .ok (.iload_n 2, 1) := by decide +kernel
theorem dX11_guess_23 : decode cX11_guess 23 = .ok (.iconst 2, 1) := by decide +kernel
theorem dX11_guess_24 : decode cX11_guess 24 = .ok (.idiv, 1) := by decide +kernel
theorem dX11_guess_25 : decode cX11_guess 25 = .ok (.istore_n 2, 1) := by decide +kernel
theorem dX11_guess_26 : decode cX11_guess 26 = .ok (.iinc 3 (-1), 3) := by decide +kernel
theorem dX11_guess_29 : decode cX11_guess 29 = .ok (.goto (-11), 3) := by decide +kernel
theorem dX11_guess_32 : decode cX11_guess 32 = .ok (.iload_n 2, 1) := by decide +kernel
theorem dX11_guess_33 : decode cX11_guess 33 = .ok (.iconst 1, 1) := by decide +kernel
theorem dX11_guess_34 : decode cX11_guess 34 = .ok (.if_icmp .ge 7, 3) := by decide +kernel
theorem dX11_guess_37 : decode cX11_guess 37 = .ok (.iconst 1, 1) := by decide +kernel
theorem dX11_guess_38 : decode cX11_guess 38 = .ok (.goto 4, 3) := by decide +kernel
theorem dX11_guess_41 : decode cX11_guess 41 = .ok (.iload_n 2, 1) := by decide +kernel
theorem dX11_guess_42 : decode cX11_guess 42 = .ok (.ireturn, 1) := by decide +kernel
theorem dX11_linkOf_0 : decode cX11_linkOf 0 = .ok (.iconst (-1), 1) := by decide +kernel
theorem dX11_linkOf_1 : decode cX11_linkOf 1 = .ok (.istore_n 2, 1) := by decide +kernel
theorem dX11_linkOf_2 : decode cX11_linkOf 2 = .ok (.aload_n 0, 1) := by decide +kernel
theorem dX11_linkOf_3 : decode cX11_linkOf 3 = .ok (.getfield 308, 3) := by decide +kernel
theorem dX11_linkOf_6 : decode cX11_linkOf 6 = .ok (.iconst 1, 1) := by decide +kernel
theorem dX11_linkOf_7 : decode cX11_linkOf 7 = .ok (.isub, 1) := by decide +kernel
theorem dX11_linkOf_8 : decode cX11_linkOf 8 = .ok (.istore_n 3, 1) := by decide +kernel
theorem dX11_linkOf_9 : decode cX11_linkOf 9 = .ok (.iload_n 3, 1) := by decide +kernel
theorem dX11_linkOf_10 : decode cX11_linkOf 10 = .ok (.ifCond .lt 75, 3) := by decide +kernel
theorem dX11_linkOf_13 : decode cX11_linkOf 13 = .ok (.aload_n 0, 1) := by decide +kernel
theorem dX11_linkOf_14 : decode cX11_linkOf 14 = .ok (.getfield 68, 3) := by decide +kernel
theorem dX11_linkOf_17 : decode cX11_linkOf 17 = .ok (.iload_n 3, 1) := by decide +kernel
theorem dX11_linkOf_18 : decode cX11_linkOf 18 = .ok (.iaload, 1) := by decide +kernel
theorem dX11_linkOf_19 : decode cX11_linkOf 19 = .ok (.iload_n 1, 1) := by decide +kernel
theorem dX11_linkOf_20 : decode cX11_linkOf 20 = .ok (.if_icmp .ne 17, 3) := by decide +kernel
theorem dX11_linkOf_23 : decode cX11_linkOf 23 = .ok (.aload_n 0, 1) := by decide +kernel
theorem dX11_linkOf_24 : decode cX11_linkOf 24 = .ok (.getfield 138, 3) := by decide +kernel
theorem dX11_linkOf_27 : decode cX11_linkOf 27 = .ok (.aload_n 0, 1) := by decide +kernel
theorem dX11_linkOf_28 : decode cX11_linkOf 28 = .ok (.getfield 74, 3) := by decide +kernel
theorem dX11_linkOf_31 : decode cX11_linkOf 31 = .ok (.iload_n 3, 1) := by decide +kernel
theorem dX11_linkOf_32 : decode cX11_linkOf 32 = .ok (.iaload, 1) := by decide +kernel
theorem dX11_linkOf_33 : decode cX11_linkOf 33 = .ok (.baload, 1) := by decide +kernel
theorem dX11_linkOf_34 : decode cX11_linkOf 34 = .ok (.ifCond .ne 27, 3) := by decide +kernel
theorem dX11_linkOf_37 : decode cX11_linkOf 37 = .ok (.aload_n 0, 1) := by decide +kernel
theorem dX11_linkOf_38 : decode cX11_linkOf 38 = .ok (.getfield 74, 3) := by decide +kernel
theorem dX11_linkOf_41 : decode cX11_linkOf 41 = .ok (.iload_n 3, 1) := by decide +kernel
theorem dX11_linkOf_42 : decode cX11_linkOf 42 = .ok (.iaload, 1) := by decide +kernel
theorem dX11_linkOf_43 : decode cX11_linkOf 43 = .ok (.iload_n 1, 1) := by decide +kernel
theorem dX11_linkOf_44 : decode cX11_linkOf 44 = .ok (.if_icmp .ne 21, 3) := by decide +kernel
theorem dX11_linkOf_47 : decode cX11_linkOf 47 = .ok (.aload_n 0, 1) := by decide +kernel
theorem dX11_linkOf_48 : decode cX11_linkOf 48 = .ok (.getfield 138, 3) := by decide +kernel
theorem dX11_linkOf_51 : decode cX11_linkOf 51 = .ok (.aload_n 0, 1) := by decide +kernel
theorem dX11_linkOf_52 : decode cX11_linkOf 52 = .ok (.getfield 68, 3) := by decide +kernel
theorem dX11_linkOf_55 : decode cX11_linkOf 55 = .ok (.iload_n 3, 1) := by decide +kernel
theorem dX11_linkOf_56 : decode cX11_linkOf 56 = .ok (.iaload, 1) := by decide +kernel
theorem dX11_linkOf_57 : decode cX11_linkOf 57 = .ok (.baload, 1) := by decide +kernel
theorem dX11_linkOf_58 : decode cX11_linkOf 58 = .ok (.ifCond .eq 7, 3) := by decide +kernel
theorem dX11_linkOf_61 : decode cX11_linkOf 61 = .ok (.iconst 1, 1) := by decide +kernel
theorem dX11_linkOf_62 : decode cX11_linkOf 62 = .ok (.goto 4, 3) := by decide +kernel
theorem dX11_linkOf_65 : decode cX11_linkOf 65 = .ok (.iconst 0, 1) := by decide +kernel
theorem dX11_linkOf_66 : decode cX11_linkOf 66 = .ok (.istore 4, 2) := by decide +kernel
theorem dX11_linkOf_68 : decode cX11_linkOf 68 = .ok (.iload 4, 2) := by decide +kernel
theorem dX11_linkOf_70 : decode cX11_linkOf 70 = .ok (.ifCond .eq 7, 3) := by decide +kernel
theorem dX11_linkOf_73 : decode cX11_linkOf 73 = .ok (.iload_n 3, 1) := by decide +kernel
theorem dX11_linkOf_74 : decode cX11_linkOf 74 = .ok (.goto 4, 3) := by decide +kernel
theorem dX11_linkOf_77 : decode cX11_linkOf 77 = .ok (.iload_n 2, 1) := by decide +kernel
theorem dX11_linkOf_78 : decode cX11_linkOf 78 = .ok (.istore_n 2, 1) := by decide +kernel
theorem dX11_linkOf_79 : decode cX11_linkOf 79 = .ok (.iinc 3 (-1), 3) := by decide +kernel
theorem dX11_linkOf_82 : decode cX11_linkOf 82 = .ok (.goto (-73), 3) := by decide +kernel
theorem dX11_linkOf_85 : decode cX11_linkOf 85 = .ok (.iload_n 2, 1) := by decide +kernel
theorem dX11_linkOf_86 : decode cX11_linkOf 86 = .ok (.ireturn, 1) := by decide +kernel
theorem dX11_nextSeat_0 : decode cX11_nextSeat 0 = .ok (.iconst (-1), 1) := by decide +kernel
theorem dX11_nextSeat_1 : decode cX11_nextSeat 1 = .ok (.istore_n 1, 1) := by decide +kernel
theorem dX11_nextSeat_2 : decode cX11_nextSeat 2 = .ok (.iconst 0, 1) := by decide +kernel
theorem dX11_nextSeat_3 : decode cX11_nextSeat 3 = .ok (.istore_n 2, 1) := by decide +kernel
theorem dX11_nextSeat_4 : decode cX11_nextSeat 4 = .ok (.iconst 0, 1) := by decide +kernel
theorem dX11_nextSeat_5 : decode cX11_nextSeat 5 = .ok (.istore_n 3, 1) := by decide +kernel
theorem dX11_nextSeat_6 : decode cX11_nextSeat 6 = .ok (.iload_n 3, 1) := by decide +kernel
theorem dX11_nextSeat_7 : decode cX11_nextSeat 7 = .ok (.aload_n 0, 1) := by decide +kernel
theorem dX11_nextSeat_8 : decode cX11_nextSeat 8 = .ok (.getfield 299, 3) := by decide +kernel
theorem dX11_nextSeat_11 : decode cX11_nextSeat 11 = .ok (.if_icmp .ge 100, 3) := by decide +kernel
theorem dX11_nextSeat_14 : decode cX11_nextSeat 14 = .ok (.aload_n 0, 1) := by decide +kernel
theorem dX11_nextSeat_15 : decode cX11_nextSeat 15 = .ok (.getfield 138, 3) := by decide +kernel
theorem dX11_nextSeat_18 : decode cX11_nextSeat 18 = .ok (.iload_n 3, 1) := by decide +kernel
theorem dX11_nextSeat_19 : decode cX11_nextSeat 19 = .ok (.baload, 1) := by decide +kernel
theorem dX11_nextSeat_20 : decode cX11_nextSeat 20 = .ok (.ifCond .ne 85, 3) := by decide +kernel
theorem dX11_nextSeat_23 : decode cX11_nextSeat 23 = .ok (.aload_n 0, 1) := by decide +kernel
theorem dX11_nextSeat_24 : decode cX11_nextSeat 24 = .ok (.iload_n 3, 1) := by decide +kernel
theorem dX11_nextSeat_25 : decode cX11_nextSeat 25 = .ok (.invokevirtual 390, 3) := by decide +kernel
theorem dX11_nextSeat_28 : decode cX11_nextSeat 28 = .ok (.iconst (-1), 1) := by decide +kernel
theorem dX11_nextSeat_29 : decode cX11_nextSeat 29 = .ok (.if_icmp .eq 7, 3) := by decide +kernel
theorem dX11_nextSeat_32 : decode cX11_nextSeat 32 = .ok (.iconst 1, 1) := by decide +kernel
theorem dX11_nextSeat_33 : decode cX11_nextSeat 33 = .ok (.goto 4, 3) := by decide +kernel
theorem dX11_nextSeat_36 : decode cX11_nextSeat 36 = .ok (.iconst 0, 1) := by decide +kernel
theorem dX11_nextSeat_37 : decode cX11_nextSeat 37 = .ok (.istore 4, 2) := by decide +kernel
theorem dX11_nextSeat_39 : decode cX11_nextSeat 39 = .ok (.iload_n 1, 1) := by decide +kernel
theorem dX11_nextSeat_40 : decode cX11_nextSeat 40 = .ok (.iconst (-1), 1) := by decide +kernel
theorem dX11_nextSeat_41 : decode cX11_nextSeat 41 = .ok (.if_icmp .eq 31, 3) := by decide +kernel
theorem dX11_nextSeat_44 : decode cX11_nextSeat 44 = .ok (.iload 4, 2) := by decide +kernel
theorem dX11_nextSeat_46 : decode cX11_nextSeat 46 = .ok (.ifCond .eq 7, 3) := by decide +kernel
theorem dX11_nextSeat_49 : decode cX11_nextSeat 49 = .ok (.iload_n 2, 1) := by decide +kernel
theorem dX11_nextSeat_50 : decode cX11_nextSeat 50 = .ok (.ifCond .eq 22, 3) := by decide +kernel
theorem dX11_nextSeat_53 : decode cX11_nextSeat 53 = .ok (.iload 4, 2) := by decide +kernel
theorem dX11_nextSeat_55 : decode cX11_nextSeat 55 = .ok (.iload_n 2, 1) := by decide +kernel
theorem dX11_nextSeat_56 : decode cX11_nextSeat 56 = .ok (.if_icmp .ne 20, 3) := by decide +kernel
theorem dX11_nextSeat_59 : decode cX11_nextSeat 59 = .ok (.aload_n 0, 1) := by decide +kernel
theorem dX11_nextSeat_60 : decode cX11_nextSeat 60 = .ok (.iload_n 3, 1) := by decide +kernel
theorem dX11_nextSeat_61 : decode cX11_nextSeat 61 = .ok (.invokevirtual 393, 3) := by decide +kernel
theorem dX11_nextSeat_64 : decode cX11_nextSeat 64 = .ok (.aload_n 0, 1) := by decide +kernel
theorem dX11_nextSeat_65 : decode cX11_nextSeat 65 = .ok (.iload_n 1, 1) := by decide +kernel
theorem dX11_nextSeat_66 : decode cX11_nextSeat 66 = .ok (.invokevirtual 393, 3) := by decide +kernel
theorem dX11_nextSeat_69 : decode cX11_nextSeat 69 = .ok (.if_icmp .ge 7, 3) := by decide +kernel
theorem dX11_nextSeat_72 : decode cX11_nextSeat 72 = .ok (.iconst 1, 1) := by decide +kernel
theorem dX11_nextSeat_73 : decode cX11_nextSeat 73 = .ok (.goto 4, 3) := by decide +kernel
theorem dX11_nextSeat_76 : decode cX11_nextSeat 76 = .ok (.iconst 0, 1) := by decide +kernel
theorem dX11_nextSeat_77 : decode cX11_nextSeat 77 = .ok (.istore 5, 2) := by decide +kernel
theorem dX11_nextSeat_79 : decode cX11_nextSeat 79 = .ok (.iload 5, 2) := by decide +kernel
theorem dX11_nextSeat_81 : decode cX11_nextSeat 81 = .ok (.ifCond .eq 7, 3) := by decide +kernel
theorem dX11_nextSeat_84 : decode cX11_nextSeat 84 = .ok (.iload_n 3, 1) := by decide +kernel
theorem dX11_nextSeat_85 : decode cX11_nextSeat 85 = .ok (.goto 4, 3) := by decide +kernel
theorem dX11_nextSeat_88 : decode cX11_nextSeat 88 = .ok (.iload_n 1, 1) := by decide +kernel
theorem dX11_nextSeat_89 : decode cX11_nextSeat 89 = .ok (.istore_n 1, 1) := by decide +kernel
theorem dX11_nextSeat_90 : decode cX11_nextSeat 90 = .ok (.iload_n 2, 1) := by decide +kernel
theorem dX11_nextSeat_91 : decode cX11_nextSeat 91 = .ok (.ifCond .ne 8, 3) := by decide +kernel
theorem dX11_nextSeat_94 : decode cX11_nextSeat 94 = .ok (.iload 4, 2) := by decide +kernel
theorem dX11_nextSeat_96 : decode cX11_nextSeat 96 = .ok (.ifCond .eq 7, 3) := by decide +kernel
theorem dX11_nextSeat_99 : decode cX11_nextSeat 99 = .ok (.iconst 1, 1) := by decide +kernel
theorem dX11_nextSeat_100 : decode cX11_nextSeat 100 = .ok (.goto 4, 3) := by decide +kernel
theorem dX11_nextSeat_103 : decode cX11_nextSeat 103 = .ok (.iconst 0, 1) := by decide +kernel
theorem dX11_nextSeat_104 : decode cX11_nextSeat 104 = .ok (.istore_n 2, 1) := by decide +kernel
theorem dX11_nextSeat_105 : decode cX11_nextSeat 105 = .ok (.iinc 3 1, 3) := by decide +kernel
theorem dX11_nextSeat_108 : decode cX11_nextSeat 108 = .ok (.goto (-102), 3) := by decide +kernel
theorem dX11_nextSeat_111 : decode cX11_nextSeat 111 = .ok (.iload_n 1, 1) := by decide +kernel
theorem dX11_nextSeat_112 : decode cX11_nextSeat 112 = .ok (.ireturn, 1) := by decide +kernel
theorem dX11_laysKeys_0 : decode cX11_laysKeys 0 = .ok (.aload_n 0, 1) := by decide +kernel
theorem dX11_laysKeys_1 : decode cX11_laysKeys 1 = .ok (.iconst 0, 1) := by decide +kernel
theorem dX11_laysKeys_2 : decode cX11_laysKeys 2 = .ok (.putfield 396, 3) := by decide +kernel
theorem dX11_laysKeys_5 : decode cX11_laysKeys 5 = .ok (.iconst 0, 1) := by decide +kernel
theorem dX11_laysKeys_6 : decode cX11_laysKeys 6 = .ok (.istore_n 3, 1) := by decide +kernel
theorem dX11_laysKeys_7 : decode cX11_laysKeys 7 = .ok (.iload_n 3, 1) := by decide +kernel
theorem dX11_laysKeys_8 : decode cX11_laysKeys 8 = .ok (.aload_n 0, 1) := by decide +kernel
theorem dX11_laysKeys_9 : decode cX11_laysKeys 9 = .ok (.getfield 141, 3) := by decide +kernel
theorem dX11_laysKeys_12 : decode cX11_laysKeys 12 = .ok (.iload_n 1, 1) := by decide +kernel
theorem dX11_laysKeys_13 : decode cX11_laysKeys 13 = .ok (.iaload, 1) := by decide +kernel
theorem dX11_laysKeys_14 : decode cX11_laysKeys 14 = .ok (.if_icmp .ge 123, 3) := by decide +kernel
theorem dX11_laysKeys_17 : decode cX11_laysKeys 17 = .ok (.aload_n 0, 1) := by decide +kernel
theorem dX11_laysKeys_18 : decode cX11_laysKeys 18 = .ok (.getfield 147, 3) := by decide +kernel
theorem dX11_laysKeys_21 : decode cX11_laysKeys 21 = .ok (.iconst 4, 1) := by decide +kernel
theorem dX11_laysKeys_22 : decode cX11_laysKeys 22 = .ok (.bipush 12, 2) := by decide +kernel
theorem dX11_laysKeys_24 : decode cX11_laysKeys 24 = .ok (.iload_n 1, 1) := by decide +kernel
theorem dX11_laysKeys_25 : decode cX11_laysKeys 25 = .ok (.imul, 1) := by decide +kernel
theorem dX11_laysKeys_26 : decode cX11_laysKeys 26 = .ok (.iload_n 3, 1) := by decide +kernel
theorem dX11_laysKeys_27 : decode cX11_laysKeys 27 = .ok (.iadd, 1) := by decide +kernel
theorem dX11_laysKeys_28 : decode cX11_laysKeys 28 = .ok (.imul, 1) := by decide +kernel
theorem dX11_laysKeys_29 : decode cX11_laysKeys 29 = .ok (.iload_n 2, 1) := by decide +kernel
theorem dX11_laysKeys_30 : decode cX11_laysKeys 30 = .ok (.iadd, 1) := by decide +kernel
theorem dX11_laysKeys_31 : decode cX11_laysKeys 31 = .ok (.iaload, 1) := by decide +kernel
theorem dX11_laysKeys_32 : decode cX11_laysKeys 32 = .ok (.istore 4, 2) := by decide +kernel
theorem dX11_laysKeys_34 : decode cX11_laysKeys 34 = .ok (.iload 4, 2) := by decide +kernel
theorem dX11_laysKeys_36 : decode cX11_laysKeys 36 = .ok (.invokestatic 228, 3) := by decide +kernel
theorem dX11_laysKeys_39 : decode cX11_laysKeys 39 = .ok (.ifCond .eq 92, 3) := by decide +kernel
theorem dX11_laysKeys_42 : decode cX11_laysKeys 42 = .ok (.aload_n 0, 1) := by decide +kernel
theorem dX11_laysKeys_43 : decode cX11_laysKeys 43 = .ok (.iload_n 1, 1) := by decide +kernel
theorem dX11_laysKeys_44 : decode cX11_laysKeys 44 = .ok (.iload_n 3, 1) := by decide +kernel
theorem dX11_laysKeys_45 : decode cX11_laysKeys 45 = .ok (.invokevirtual 399, 3) := by decide +kernel
theorem dX11_laysKeys_48 : decode cX11_laysKeys 48 = .ok (.ifCond .eq 83, 3) := by decide +kernel
theorem dX11_laysKeys_51 : decode cX11_laysKeys 51 = .ok (.aload_n 0, 1) := by decide +kernel
theorem dX11_laysKeys_52 : decode cX11_laysKeys 52 = .ok (.iload 4, 2) := by decide +kernel
theorem dX11_laysKeys_54 : decode cX11_laysKeys 54 = .ok (.iconst 0, 1) := by decide +kernel
theorem dX11_laysKeys_55 : decode cX11_laysKeys 55 = .ok (.aload_n 0, 1) := by decide +kernel
theorem dX11_laysKeys_56 : decode cX11_laysKeys 56 = .ok (.getfield 396, 3) := by decide +kernel
theorem dX11_laysKeys_59 : decode cX11_laysKeys 59 = .ok (.invokevirtual 358, 3) := by decide +kernel
theorem dX11_laysKeys_62 : decode cX11_laysKeys 62 = .ok (.ifCond .ne 69, 3) := by decide +kernel
theorem dX11_laysKeys_65 : decode cX11_laysKeys 65 = .ok (.aload_n 0, 1) := by decide +kernel
theorem dX11_laysKeys_66 : decode cX11_laysKeys 66 = .ok (.getfield 396, 3) := by decide +kernel
theorem dX11_laysKeys_69 : decode cX11_laysKeys 69 = .ok (.istore 5, 2) := by decide +kernel
theorem dX11_laysKeys_71 : decode cX11_laysKeys 71 = .ok (.iload 5, 2) := by decide +kernel
theorem dX11_laysKeys_73 : decode cX11_laysKeys 73 = .ok (.ifCond .le 39, 3) := by decide +kernel
theorem dX11_laysKeys_76 : decode cX11_laysKeys 76 = .ok (.aload_n 0, 1) := by decide +kernel
theorem dX11_laysKeys_77 : decode cX11_laysKeys 77 = .ok (.getfield 156, 3) := by decide +kernel
theorem dX11_laysKeys_80 : decode cX11_laysKeys 80 = .ok (.iload 5, 2) := by decide +kernel
theorem dX11_laysKeys_82 : decode cX11_laysKeys 82 = .ok (.iconst 1, 1) := by decide +kernel
theorem dX11_laysKeys_83 : decode cX11_laysKeys 83 = .ok (.isub, 1) := by decide +kernel
theorem dX11_laysKeys_84 : decode cX11_laysKeys 84 = .ok (.iaload, 1) := by decide +kernel
theorem dX11_laysKeys_85 : decode cX11_laysKeys 85 = .ok (.iload 4, 2) := by decide +kernel
theorem dX11_laysKeys_87 : decode cX11_laysKeys 87 = .ok (.if_icmp .le 25, 3) := by decide +kernel
theorem dX11_laysKeys_90 : decode cX11_laysKeys 90 = .ok (.aload_n 0, 1) := by decide +kernel
theorem dX11_laysKeys_91 : decode cX11_laysKeys 91 = .ok (.getfield 156, 3) := by decide +kernel
theorem dX11_laysKeys_94 : decode cX11_laysKeys 94 = .ok (.iload 5, 2) := by decide +kernel
theorem dX11_laysKeys_96 : decode cX11_laysKeys 96 = .ok (.aload_n 0, 1) := by decide +kernel
theorem dX11_laysKeys_97 : decode cX11_laysKeys 97 = .ok (.getfield 156, 3) := by decide +kernel
theorem dX11_laysKeys_100 : decode cX11_laysKeys 100 = .ok (.iload 5, 2) := by decide +kernel
theorem dX11_laysKeys_102 : decode cX11_laysKeys 102 = .ok (.iconst 1, 1) := by decide +kernel
theorem dX11_laysKeys_103 : decode cX11_laysKeys 103 = .ok (.isub, 1) := by decide +kernel
theorem dX11_laysKeys_104 : decode cX11_laysKeys 104 = .ok (.iaload, 1) := by decide +kernel
theorem dX11_laysKeys_105 : decode cX11_laysKeys 105 = .ok (.iastore, 1) := by decide +kernel
theorem dX11_laysKeys_106 : decode cX11_laysKeys 106 = .ok (.iinc 5 (-1), 3) := by decide +kernel
theorem dX11_laysKeys_109 : decode cX11_laysKeys 109 = .ok (.goto (-38), 3) := by decide +kernel
theorem dX11_laysKeys_112 : decode cX11_laysKeys 112 = .ok (.aload_n 0, 1) := by decide +kernel
theorem dX11_laysKeys_113 : decode cX11_laysKeys 113 = .ok (.getfield 156, 3) := by decide +kernel
theorem dX11_laysKeys_116 : decode cX11_laysKeys 116 = .ok (.iload 5, 2) := by decide +kernel
theorem dX11_laysKeys_118 : decode cX11_laysKeys 118 = .ok (.iload 4, 2) := by decide +kernel
theorem dX11_laysKeys_120 : decode cX11_laysKeys 120 = .ok (.iastore, 1) := by decide +kernel
theorem dX11_laysKeys_121 : decode cX11_laysKeys 121 = .ok (.aload_n 0, 1) := by decide +kernel
theorem dX11_laysKeys_122 : decode cX11_laysKeys 122 = .ok (.dup, 1) := by decide +kernel
theorem dX11_laysKeys_123 : decode cX11_laysKeys 123 = .ok (.getfield 396, 3) := by decide +kernel
theorem dX11_laysKeys_126 : decode cX11_laysKeys 126 = .ok (.iconst 1, 1) := by decide +kernel
theorem dX11_laysKeys_127 : decode cX11_laysKeys 127 = .ok (.iadd, 1) := by decide +kernel
theorem dX11_laysKeys_128 : decode cX11_laysKeys 128 = .ok (.putfield 396, 3) := by decide +kernel
theorem dX11_laysKeys_131 : decode cX11_laysKeys 131 = .ok (.iinc 3 1, 3) := by decide +kernel
theorem dX11_laysKeys_134 : decode cX11_laysKeys 134 = .ok (.goto (-127), 3) := by decide +kernel
theorem dX11_laysKeys_137 : decode cX11_laysKeys 137 = .ok (.return_, 1) := by decide +kernel
theorem dX11_canBind_0 : decode cX11_canBind 0 = .ok (.aload_n 0, 1) := by decide +kernel
theorem dX11_canBind_1 : decode cX11_canBind 1 = .ok (.getfield 68, 3) := by decide +kernel
theorem dX11_canBind_4 : decode cX11_canBind 4 = .ok (.iload_n 2, 1) := by decide +kernel
theorem dX11_canBind_5 : decode cX11_canBind 5 = .ok (.iaload, 1) := by decide +kernel
theorem dX11_canBind_6 : decode cX11_canBind 6 = .ok (.iload_n 1, 1) := by decide +kernel
theorem dX11_canBind_7 : decode cX11_canBind 7 = .ok (.if_icmp .ne 7, 3) := by decide +kernel
theorem dX11_canBind_10 : decode cX11_canBind 10 = .ok (.iconst 1, 1) := by decide +kernel
theorem dX11_canBind_11 : decode cX11_canBind 11 = .ok (.goto 4, 3) := by decide +kernel
theorem dX11_canBind_14 : decode cX11_canBind 14 = .ok (.iconst 0, 1) := by decide +kernel
theorem dX11_canBind_15 : decode cX11_canBind 15 = .ok (.istore_n 3, 1) := by decide +kernel
theorem dX11_canBind_16 : decode cX11_canBind 16 = .ok (.iload_n 3, 1) := by decide +kernel
theorem dX11_canBind_17 : decode cX11_canBind 17 = .ok (.ifCond .eq 12, 3) := by decide +kernel
theorem dX11_canBind_20 : decode cX11_canBind 20 = .ok (.aload_n 0, 1) := by decide +kernel
theorem dX11_canBind_21 : decode cX11_canBind 21 = .ok (.getfield 71, 3) := by decide +kernel
theorem dX11_canBind_24 : decode cX11_canBind 24 = .ok (.iload_n 2, 1) := by decide +kernel
theorem dX11_canBind_25 : decode cX11_canBind 25 = .ok (.iaload, 1) := by decide +kernel
theorem dX11_canBind_26 : decode cX11_canBind 26 = .ok (.goto 9, 3) := by decide +kernel
theorem dX11_canBind_29 : decode cX11_canBind 29 = .ok (.aload_n 0, 1) := by decide +kernel
theorem dX11_canBind_30 : decode cX11_canBind 30 = .ok (.getfield 77, 3) := by decide +kernel
theorem dX11_canBind_33 : decode cX11_canBind 33 = .ok (.iload_n 2, 1) := by decide +kernel
theorem dX11_canBind_34 : decode cX11_canBind 34 = .ok (.iaload, 1) := by decide +kernel
theorem dX11_canBind_35 : decode cX11_canBind 35 = .ok (.istore 4, 2) := by decide +kernel
theorem dX11_canBind_37 : decode cX11_canBind 37 = .ok (.iload_n 3, 1) := by decide +kernel
theorem dX11_canBind_38 : decode cX11_canBind 38 = .ok (.ifCond .eq 12, 3) := by decide +kernel
theorem dX11_canBind_41 : decode cX11_canBind 41 = .ok (.aload_n 0, 1) := by decide +kernel
theorem dX11_canBind_42 : decode cX11_canBind 42 = .ok (.getfield 74, 3) := by decide +kernel
theorem dX11_canBind_45 : decode cX11_canBind 45 = .ok (.iload_n 2, 1) := by decide +kernel
theorem dX11_canBind_46 : decode cX11_canBind 46 = .ok (.iaload, 1) := by decide +kernel
theorem dX11_canBind_47 : decode cX11_canBind 47 = .ok (.goto 9, 3) := by decide +kernel
theorem dX11_canBind_50 : decode cX11_canBind 50 = .ok (.aload_n 0, 1) := by decide +kernel
theorem dX11_canBind_51 : decode cX11_canBind 51 = .ok (.getfield 68, 3) := by decide +kernel
theorem dX11_canBind_54 : decode cX11_canBind 54 = .ok (.iload_n 2, 1) := by decide +kernel
theorem dX11_canBind_55 : decode cX11_canBind 55 = .ok (.iaload, 1) := by decide +kernel
theorem dX11_canBind_56 : decode cX11_canBind 56 = .ok (.istore 5, 2) := by decide +kernel
theorem dX11_canBind_58 : decode cX11_canBind 58 = .ok (.aload_n 0, 1) := by decide +kernel
theorem dX11_canBind_59 : decode cX11_canBind 59 = .ok (.getfield 65, 3) := by decide +kernel
theorem dX11_canBind_62 : decode cX11_canBind 62 = .ok (.iload_n 1, 1) := by decide +kernel
theorem dX11_canBind_63 : decode cX11_canBind 63 = .ok (.iaload, 1) := by decide +kernel
theorem dX11_canBind_64 : decode cX11_canBind 64 = .ok (.invokestatic 220, 3) := by decide +kernel
theorem dX11_canBind_67 : decode cX11_canBind 67 = .ok (.istore 6, 2) := by decide +kernel
theorem dX11_canBind_69 : decode cX11_canBind 69 = .ok (.iload 6, 2) := by decide +kernel
theorem dX11_canBind_71 : decode cX11_canBind 71 = .ok (.iload 4, 2) := by decide +kernel
theorem dX11_canBind_73 : decode cX11_canBind 73 = .ok (.iconst 0, 1) := by decide +kernel
theorem dX11_canBind_74 : decode cX11_canBind 74 = .ok (.invokestatic 321, 3) := by decide +kernel
theorem dX11_canBind_77 : decode cX11_canBind 77 = .ok (.ifCond .eq 19, 3) := by decide +kernel
theorem dX11_canBind_80 : decode cX11_canBind 80 = .ok (.aload_n 0, 1) := by decide +kernel
theorem dX11_canBind_81 : decode cX11_canBind 81 = .ok (.aload_n 0, 1) := by decide +kernel
theorem dX11_canBind_82 : decode cX11_canBind 82 = .ok (.getfield 65, 3) := by decide +kernel
theorem dX11_canBind_85 : decode cX11_canBind 85 = .ok (.iload 5, 2) := by decide +kernel
theorem dX11_canBind_87 : decode cX11_canBind 87 = .ok (.iaload, 1) := by decide +kernel
theorem dX11_canBind_88 : decode cX11_canBind 88 = .ok (.iload 6, 2) := by decide +kernel
theorem dX11_canBind_90 : decode cX11_canBind 90 = .ok (.invokevirtual 293, 3) := by decide +kernel
theorem dX11_canBind_93 : decode cX11_canBind 93 = .ok (.ifCond .eq 5, 3) := by decide +kernel
theorem dX11_canBind_96 : decode cX11_canBind 96 = .ok (.iconst 0, 1) := by decide +kernel
theorem dX11_canBind_97 : decode cX11_canBind 97 = .ok (.ireturn, 1) := by decide +kernel
theorem dX11_canBind_98 : decode cX11_canBind 98 = .ok (.aload_n 0, 1) := by decide +kernel
theorem dX11_canBind_99 : decode cX11_canBind 99 = .ok (.iload 5, 2) := by decide +kernel
theorem dX11_canBind_101 : decode cX11_canBind 101 = .ok (.iload_n 3, 1) := by decide +kernel
theorem dX11_canBind_102 : decode cX11_canBind 102 = .ok (.ifCond .eq 12, 3) := by decide +kernel
theorem dX11_canBind_105 : decode cX11_canBind 105 = .ok (.aload_n 0, 1) := by decide +kernel
theorem dX11_canBind_106 : decode cX11_canBind 106 = .ok (.getfield 77, 3) := by decide +kernel
theorem dX11_canBind_109 : decode cX11_canBind 109 = .ok (.iload_n 2, 1) := by decide +kernel
theorem dX11_canBind_110 : decode cX11_canBind 110 = .ok (.iaload, 1) := by decide +kernel
theorem dX11_canBind_111 : decode cX11_canBind 111 = .ok (.goto 9, 3) := by decide +kernel
theorem dX11_canBind_114 : decode cX11_canBind 114 = .ok (.aload_n 0, 1) := by decide +kernel
theorem dX11_canBind_115 : decode cX11_canBind 115 = .ok (.getfield 71, 3) := by decide +kernel
theorem dX11_canBind_118 : decode cX11_canBind 118 = .ok (.iload_n 2, 1) := by decide +kernel
theorem dX11_canBind_119 : decode cX11_canBind 119 = .ok (.iaload, 1) := by decide +kernel
theorem dX11_canBind_120 : decode cX11_canBind 120 = .ok (.invokevirtual 402, 3) := by decide +kernel
theorem dX11_canBind_123 : decode cX11_canBind 123 = .ok (.aload_n 0, 1) := by decide +kernel
theorem dX11_canBind_124 : decode cX11_canBind 124 = .ok (.getfield 396, 3) := by decide +kernel
theorem dX11_canBind_127 : decode cX11_canBind 127 = .ok (.iconst 3, 1) := by decide +kernel
theorem dX11_canBind_128 : decode cX11_canBind 128 = .ok (.iadd, 1) := by decide +kernel
theorem dX11_canBind_129 : decode cX11_canBind 129 = .ok (.iconst 4, 1) := by decide +kernel
theorem dX11_canBind_130 : decode cX11_canBind 130 = .ok (.idiv, 1) := by decide +kernel
theorem dX11_canBind_131 : decode cX11_canBind 131 = .ok (.aload_n 0, 1) := by decide +kernel
theorem dX11_canBind_132 : decode cX11_canBind 132 = .ok (.getfield 53, 3) := by decide +kernel
theorem dX11_canBind_135 : decode cX11_canBind 135 = .ok (.iload 6, 2) := by decide +kernel
theorem dX11_canBind_137 : decode cX11_canBind 137 = .ok (.iaload, 1) := by decide +kernel
theorem dX11_canBind_138 : decode cX11_canBind 138 = .ok (.imul, 1) := by decide +kernel
theorem dX11_canBind_139 : decode cX11_canBind 139 = .ok (.aload_n 0, 1) := by decide +kernel
theorem dX11_canBind_140 : decode cX11_canBind 140 = .ok (.getfield 396, 3) := by decide +kernel
theorem dX11_canBind_143 : decode cX11_canBind 143 = .ok (.aload_n 0, 1) := by decide +kernel
theorem dX11_canBind_144 : decode cX11_canBind 144 = .ok (.getfield 56, 3) := by decide +kernel
theorem dX11_canBind_147 : decode cX11_canBind 147 = .ok (.iload 6, 2) := by decide +kernel
theorem dX11_canBind_149 : decode cX11_canBind 149 = .ok (.iaload, 1) := by decide +kernel
theorem dX11_canBind_150 : decode cX11_canBind 150 = .ok (.imul, 1) := by decide +kernel
theorem dX11_canBind_151 : decode cX11_canBind 151 = .ok (.iadd, 1) := by decide +kernel
theorem dX11_canBind_152 : decode cX11_canBind 152 = .ok (.aload_n 0, 1) := by decide +kernel
theorem dX11_canBind_153 : decode cX11_canBind 153 = .ok (.getfield 53, 3) := by decide +kernel
theorem dX11_canBind_156 : decode cX11_canBind 156 = .ok (.iload 6, 2) := by decide +kernel
theorem dX11_canBind_158 : decode cX11_canBind 158 = .ok (.iaload, 1) := by decide +kernel
theorem dX11_canBind_159 : decode cX11_canBind 159 = .ok (.aload_n 0, 1) := by decide +kernel
theorem dX11_canBind_160 : decode cX11_canBind 160 = .ok (.iload_n 1, 1) := by decide +kernel
theorem dX11_canBind_161 : decode cX11_canBind 161 = .ok (.invokevirtual 393, 3) := by decide +kernel
theorem dX11_canBind_164 : decode cX11_canBind 164 = .ok (.aload_n 0, 1) := by decide +kernel
theorem dX11_canBind_165 : decode cX11_canBind 165 = .ok (.getfield 56, 3) := by decide +kernel
theorem dX11_canBind_168 : decode cX11_canBind 168 = .ok (.iload 6, 2) := by decide +kernel
theorem dX11_canBind_170 : decode cX11_canBind 170 = .ok (.iaload, 1) := by decide +kernel
theorem dX11_canBind_171 : decode cX11_canBind 171 = .ok (.imul, 1) := by decide +kernel
theorem dX11_canBind_172 : decode cX11_canBind 172 = .ok (.iadd, 1) := by decide +kernel
theorem dX11_canBind_173 : decode cX11_canBind 173 = .ok (.if_icmp .ge 7, 3) := by decide +kernel
theorem dX11_canBind_176 : decode cX11_canBind 176 = .ok (.iconst 1, 1) := by decide +kernel
theorem dX11_canBind_177 : decode cX11_canBind 177 = .ok (.goto 4, 3) := by decide +kernel
theorem dX11_canBind_180 : decode cX11_canBind 180 = .ok (.iconst 0, 1) := by decide +kernel
theorem dX11_canBind_181 : decode cX11_canBind 181 = .ok (.ireturn, 1) := by decide +kernel
theorem dX11_binds_0 : decode cX11_binds 0 = .ok (.aload_n 0, 1) := by decide +kernel
theorem dX11_binds_1 : decode cX11_binds 1 = .ok (.getfield 65, 3) := by decide +kernel
theorem dX11_binds_4 : decode cX11_binds 4 = .ok (.iload_n 1, 1) := by decide +kernel
theorem dX11_binds_5 : decode cX11_binds 5 = .ok (.iaload, 1) := by decide +kernel
theorem dX11_binds_6 : decode cX11_binds 6 = .ok (.invokestatic 220, 3) := by decide +kernel
theorem dX11_binds_9 : decode cX11_binds 9 = .ok (.istore_n 3, 1) := by decide +kernel
theorem dX11_binds_10 : decode cX11_binds 10 = .ok (.aload_n 0, 1) := by decide +kernel
theorem dX11_binds_11 : decode cX11_binds 11 = .ok (.getfield 53, 3) := by decide +kernel
theorem dX11_binds_14 : decode cX11_binds 14 = .ok (.iload_n 3, 1) := by decide +kernel
theorem dX11_binds_15 : decode cX11_binds 15 = .ok (.iaload, 1) := by decide +kernel
theorem dX11_binds_16 : decode cX11_binds 16 = .ok (.aload_n 0, 1) := by decide +kernel
theorem dX11_binds_17 : decode cX11_binds 17 = .ok (.iload_n 1, 1) := by decide +kernel
theorem dX11_binds_18 : decode cX11_binds 18 = .ok (.invokevirtual 393, 3) := by decide +kernel
theorem dX11_binds_21 : decode cX11_binds 21 = .ok (.aload_n 0, 1) := by decide +kernel
theorem dX11_binds_22 : decode cX11_binds 22 = .ok (.getfield 56, 3) := by decide +kernel
theorem dX11_binds_25 : decode cX11_binds 25 = .ok (.iload_n 3, 1) := by decide +kernel
theorem dX11_binds_26 : decode cX11_binds 26 = .ok (.iaload, 1) := by decide +kernel
theorem dX11_binds_27 : decode cX11_binds 27 = .ok (.imul, 1) := by decide +kernel
theorem dX11_binds_28 : decode cX11_binds 28 = .ok (.iadd, 1) := by decide +kernel
theorem dX11_binds_29 : decode cX11_binds 29 = .ok (.istore 4, 2) := by decide +kernel
theorem dX11_binds_31 : decode cX11_binds 31 = .ok (.iconst 0, 1) := by decide +kernel
theorem dX11_binds_32 : decode cX11_binds 32 = .ok (.istore 5, 2) := by decide +kernel
theorem dX11_binds_34 : decode cX11_binds 34 = .ok (.aload_n 0, 1) := by decide +kernel
theorem dX11_binds_35 : decode cX11_binds 35 = .ok (.getfield 141, 3) := by decide +kernel
theorem dX11_binds_38 : decode cX11_binds 38 = .ok (.iload_n 1, 1) := by decide +kernel
theorem dX11_binds_39 : decode cX11_binds 39 = .ok (.iconst 0, 1) := by decide +kernel
theorem dX11_binds_40 : decode cX11_binds 40 = .ok (.iastore, 1) := by decide +kernel
theorem dX11_binds_41 : decode cX11_binds 41 = .ok (.iconst 0, 1) := by decide +kernel
theorem dX11_binds_42 : decode cX11_binds 42 = .ok (.istore 6, 2) := by decide +kernel
theorem dX11_binds_44 : decode cX11_binds 44 = .ok (.iload 6, 2) := by decide +kernel
theorem dX11_binds_46 : decode cX11_binds 46 = .ok (.aload_n 0, 1) := by decide +kernel
theorem dX11_binds_47 : decode cX11_binds 47 = .ok (.getfield 396, 3) := by decide +kernel
theorem dX11_binds_50 : decode cX11_binds 50 = .ok (.if_icmp .ge 108, 3) := by decide +kernel
theorem dX11_binds_53 : decode cX11_binds 53 = .ok (.aload_n 0, 1) := by decide +kernel
theorem dX11_binds_54 : decode cX11_binds 54 = .ok (.iload_n 3, 1) := by decide +kernel
theorem dX11_binds_55 : decode cX11_binds 55 = .ok (.invokevirtual 367, 3) := by decide +kernel
theorem dX11_binds_58 : decode cX11_binds 58 = .ok (.ifCond .ne 6, 3) := by decide +kernel
theorem dX11_binds_61 : decode cX11_binds 61 = .ok (.bipush 11, 2) := by decide +kernel
theorem dX11_binds_63 : decode cX11_binds 63 = .ok (.ireturn, 1) := by decide +kernel
theorem dX11_binds_64 : decode cX11_binds 64 = .ok (.iload 6, 2) := by decide +kernel
theorem dX11_binds_66 : decode cX11_binds 66 = .ok (.iconst 4, 1) := by decide +kernel
theorem dX11_binds_67 : decode cX11_binds 67 = .ok (.iadd, 1) := by decide +kernel
theorem dX11_binds_68 : decode cX11_binds 68 = .ok (.aload_n 0, 1) := by decide +kernel
theorem dX11_binds_69 : decode cX11_binds 69 = .ok (.getfield 396, 3) := by decide +kernel
theorem dX11_binds_72 : decode cX11_binds 72 = .ok (.if_icmp .ge 10, 3) := by decide +kernel
theorem dX11_binds_75 : decode cX11_binds 75 = .ok (.iload 6, 2) := by decide +kernel
theorem dX11_binds_77 : decode cX11_binds 77 = .ok (.iconst 4, 1) := by decide +kernel
theorem dX11_binds_78 : decode cX11_binds 78 = .ok (.iadd, 1) := by decide +kernel
theorem dX11_binds_79 : decode cX11_binds 79 = .ok (.goto 7, 3) := by decide +kernel
theorem dX11_binds_82 : decode cX11_binds 82 = .ok (.aload_n 0, 1) := by decide +kernel
theorem dX11_binds_83 : decode cX11_binds 83 = .ok (.getfield 396, 3) := by decide +kernel
theorem dX11_binds_86 : decode cX11_binds 86 = .ok (.istore 7, 2) := by decide +kernel
theorem dX11_binds_88 : decode cX11_binds 88 = .ok (.aload_n 0, 1) := by decide +kernel
theorem dX11_binds_89 : decode cX11_binds 89 = .ok (.iload_n 1, 1) := by decide +kernel
theorem dX11_binds_90 : decode cX11_binds 90 = .ok (.iload_n 2, 1) := by decide +kernel
theorem dX11_binds_91 : decode cX11_binds 91 = .ok (.iload 6, 2) := by decide +kernel
theorem dX11_binds_93 : decode cX11_binds 93 = .ok (.iload 7, 2) := by decide +kernel
theorem dX11_binds_95 : decode cX11_binds 95 = .ok (.invokevirtual 370, 3) := by decide +kernel
theorem dX11_binds_98 : decode cX11_binds 98 = .ok (.iload 5, 2) := by decide +kernel
theorem dX11_binds_100 : decode cX11_binds 100 = .ok (.ifCond .ne 10, 3) := by decide +kernel
theorem dX11_binds_103 : decode cX11_binds 103 = .ok (.aload_n 0, 1) := by decide +kernel
theorem dX11_binds_104 : decode cX11_binds 104 = .ok (.getfield 352, 3) := by decide +kernel
theorem dX11_binds_107 : decode cX11_binds 107 = .ok (.ifCond .eq 7, 3) := by decide +kernel
theorem dX11_binds_110 : decode cX11_binds 110 = .ok (.iconst 1, 1) := by decide +kernel
theorem dX11_binds_111 : decode cX11_binds 111 = .ok (.goto 4, 3) := by decide +kernel
theorem dX11_binds_114 : decode cX11_binds 114 = .ok (.iconst 0, 1) := by decide +kernel
theorem dX11_binds_115 : decode cX11_binds 115 = .ok (.istore 5, 2) := by decide +kernel
theorem dX11_binds_117 : decode cX11_binds 117 = .ok (.iload 7, 2) := by decide +kernel
theorem dX11_binds_119 : decode cX11_binds 119 = .ok (.aload_n 0, 1) := by decide +kernel
theorem dX11_binds_120 : decode cX11_binds 120 = .ok (.getfield 396, 3) := by decide +kernel
theorem dX11_binds_123 : decode cX11_binds 123 = .ok (.if_icmp .ge 29, 3) := by decide +kernel
theorem dX11_binds_126 : decode cX11_binds 126 = .ok (.aload_n 0, 1) := by decide +kernel
theorem dX11_binds_127 : decode cX11_binds 127 = .ok (.getfield 345, 3) := by decide +kernel
theorem dX11_binds_130 : decode cX11_binds 130 = .ok (.iload 4, 2) := by decide +kernel
theorem dX11_binds_132 : decode cX11_binds 132 = .ok (.if_icmp .lt 20, 3) := by decide +kernel
theorem dX11_binds_135 : decode cX11_binds 135 = .ok (.iconst 2, 1) := by decide +kernel
theorem dX11_binds_136 : decode cX11_binds 136 = .ok (.aload_n 0, 1) := by decide +kernel
theorem dX11_binds_137 : decode cX11_binds 137 = .ok (.iload_n 1, 1) := by decide +kernel
theorem dX11_binds_138 : decode cX11_binds 138 = .ok (.invokevirtual 405, 3) := by decide +kernel
theorem dX11_binds_141 : decode cX11_binds 141 = .ok (.ifCond .eq 8, 3) := by decide +kernel
theorem dX11_binds_144 : decode cX11_binds 144 = .ok (.bipush 10, 2) := by decide +kernel
theorem dX11_binds_146 : decode cX11_binds 146 = .ok (.goto 4, 3) := by decide +kernel
theorem dX11_binds_149 : decode cX11_binds 149 = .ok (.iconst 0, 1) := by decide +kernel
theorem dX11_binds_150 : decode cX11_binds 150 = .ok (.iadd, 1) := by decide +kernel
theorem dX11_binds_151 : decode cX11_binds 151 = .ok (.ireturn, 1) := by decide +kernel
theorem dX11_binds_152 : decode cX11_binds 152 = .ok (.iinc 6 4, 3) := by decide +kernel
theorem dX11_binds_155 : decode cX11_binds 155 = .ok (.goto (-111), 3) := by decide +kernel
theorem dX11_binds_158 : decode cX11_binds 158 = .ok (.iconst 1, 1) := by decide +kernel
theorem dX11_binds_159 : decode cX11_binds 159 = .ok (.iload 5, 2) := by decide +kernel
theorem dX11_binds_161 : decode cX11_binds 161 = .ok (.ifCond .eq 8, 3) := by decide +kernel
theorem dX11_binds_164 : decode cX11_binds 164 = .ok (.bipush 10, 2) := by decide +kernel
theorem dX11_binds_166 : decode cX11_binds 166 = .ok (.goto 4, 3) := by decide +kernel
theorem dX11_binds_169 : decode cX11_binds 169 = .ok (.iconst 0, 1) := by decide +kernel
theorem dX11_binds_170 : decode cX11_binds 170 = .ok (.iadd, 1) := by decide +kernel
theorem dX11_binds_171 : decode cX11_binds 171 = .ok (.ireturn, 1) := by decide +kernel
theorem dX11_takes_0 : decode cX11_takes 0 = .ok (.aload_n 0, 1) := by decide +kernel
theorem dX11_takes_1 : decode cX11_takes 1 = .ok (.iconst 0, 1) := by decide +kernel
theorem dX11_takes_2 : decode cX11_takes 2 = .ok (.putfield 345, 3) := by decide +kernel
theorem dX11_takes_5 : decode cX11_takes 5 = .ok (.aload_n 0, 1) := by decide +kernel
theorem dX11_takes_6 : decode cX11_takes 6 = .ok (.iload_n 1, 1) := by decide +kernel
theorem dX11_takes_7 : decode cX11_takes 7 = .ok (.invokevirtual 408, 3) := by decide +kernel
theorem dX11_takes_10 : decode cX11_takes 10 = .ok (.istore_n 2, 1) := by decide +kernel
theorem dX11_takes_11 : decode cX11_takes 11 = .ok (.aload_n 0, 1) := by decide +kernel
theorem dX11_takes_12 : decode cX11_takes 12 = .ok (.iload_n 1, 1) := by decide +kernel
theorem dX11_takes_13 : decode cX11_takes 13 = .ok (.invokevirtual 390, 3) := by decide +kernel
theorem dX11_takes_16 : decode cX11_takes 16 = .ok (.istore_n 3, 1) := by decide +kernel
theorem dX11_takes_17 : decode cX11_takes 17 = .ok (.iconst 0, 1) := by decide +kernel
theorem dX11_takes_18 : decode cX11_takes 18 = .ok (.istore 4, 2) := by decide +kernel
theorem dX11_takes_20 : decode cX11_takes 20 = .ok (.iload_n 2, 1) := by decide +kernel
theorem dX11_takes_21 : decode cX11_takes 21 = .ok (.iconst (-1), 1) := by decide +kernel
theorem dX11_takes_22 : decode cX11_takes 22 = .ok (.if_icmp .eq 12, 3) := by decide +kernel
theorem dX11_takes_25 : decode cX11_takes 25 = .ok (.aload_n 0, 1) := by decide +kernel
theorem dX11_takes_26 : decode cX11_takes 26 = .ok (.iload_n 2, 1) := by decide +kernel
theorem dX11_takes_27 : decode cX11_takes 27 = .ok (.iload_n 1, 1) := by decide +kernel
theorem dX11_takes_28 : decode cX11_takes 28 = .ok (.invokevirtual 411, 3) := by decide +kernel
theorem dX11_takes_31 : decode cX11_takes 31 = .ok (.goto 97, 3) := by decide +kernel
theorem dX11_takes_34 : decode cX11_takes 34 = .ok (.iload_n 3, 1) := by decide +kernel
theorem dX11_takes_35 : decode cX11_takes 35 = .ok (.iconst (-1), 1) := by decide +kernel
theorem dX11_takes_36 : decode cX11_takes 36 = .ok (.if_icmp .eq 47, 3) := by decide +kernel
theorem dX11_takes_39 : decode cX11_takes 39 = .ok (.aload_n 0, 1) := by decide +kernel
theorem dX11_takes_40 : decode cX11_takes 40 = .ok (.iload_n 1, 1) := by decide +kernel
theorem dX11_takes_41 : decode cX11_takes 41 = .ok (.iload_n 3, 1) := by decide +kernel
theorem dX11_takes_42 : decode cX11_takes 42 = .ok (.invokevirtual 414, 3) := by decide +kernel
theorem dX11_takes_45 : decode cX11_takes 45 = .ok (.ifCond .eq 38, 3) := by decide +kernel
theorem dX11_takes_48 : decode cX11_takes 48 = .ok (.aload_n 0, 1) := by decide +kernel
theorem dX11_takes_49 : decode cX11_takes 49 = .ok (.iload_n 1, 1) := by decide +kernel
theorem dX11_takes_50 : decode cX11_takes 50 = .ok (.aload_n 0, 1) := by decide +kernel
theorem dX11_takes_51 : decode cX11_takes 51 = .ok (.getfield 68, 3) := by decide +kernel
theorem dX11_takes_54 : decode cX11_takes 54 = .ok (.iload_n 3, 1) := by decide +kernel
theorem dX11_takes_55 : decode cX11_takes 55 = .ok (.iaload, 1) := by decide +kernel
theorem dX11_takes_56 : decode cX11_takes 56 = .ok (.iload_n 1, 1) := by decide +kernel
theorem dX11_takes_57 : decode cX11_takes 57 = .ok (.if_icmp .ne 12, 3) := by decide +kernel
theorem dX11_takes_60 : decode cX11_takes 60 = .ok (.aload_n 0, 1) := by decide +kernel
theorem dX11_takes_61 : decode cX11_takes 61 = .ok (.getfield 71, 3) := by decide +kernel
theorem dX11_takes_64 : decode cX11_takes 64 = .ok (.iload_n 3, 1) := by decide +kernel
theorem dX11_takes_65 : decode cX11_takes 65 = .ok (.iaload, 1) := by decide +kernel
theorem dX11_takes_66 : decode cX11_takes 66 = .ok (.goto 9, 3) := by decide +kernel
theorem dX11_takes_69 : decode cX11_takes 69 = .ok (.aload_n 0, 1) := by decide +kernel
theorem dX11_takes_70 : decode cX11_takes 70 = .ok (.getfield 77, 3) := by decide +kernel
theorem dX11_takes_73 : decode cX11_takes 73 = .ok (.iload_n 3, 1) := by decide +kernel
theorem dX11_takes_74 : decode cX11_takes 74 = .ok (.iaload, 1) := by decide +kernel
theorem dX11_takes_75 : decode cX11_takes 75 = .ok (.invokevirtual 417, 3) := by decide +kernel
theorem dX11_takes_78 : decode cX11_takes 78 = .ok (.istore 4, 2) := by decide +kernel
theorem dX11_takes_80 : decode cX11_takes 80 = .ok (.goto 21, 3) := by decide +kernel
theorem dX11_takes_83 : decode cX11_takes 83 = .ok (.iconst 3, 1) := by decide +kernel
theorem dX11_takes_84 : decode cX11_takes 84 = .ok (.aload_n 0, 1) := by decide +kernel
theorem dX11_takes_85 : decode cX11_takes 85 = .ok (.iload_n 1, 1) := by decide +kernel
theorem dX11_takes_86 : decode cX11_takes 86 = .ok (.invokevirtual 405, 3) := by decide +kernel
theorem dX11_takes_89 : decode cX11_takes 89 = .ok (.ifCond .eq 8, 3) := by decide +kernel
theorem dX11_takes_92 : decode cX11_takes 92 = .ok (.bipush 10, 2) := by decide +kernel
theorem dX11_takes_94 : decode cX11_takes 94 = .ok (.goto 4, 3) := by decide +kernel
theorem dX11_takes_97 : decode cX11_takes 97 = .ok (.iconst 0, 1) := by decide +kernel
theorem dX11_takes_98 : decode cX11_takes 98 = .ok (.iadd, 1) := by decide +kernel
theorem dX11_takes_99 : decode cX11_takes 99 = .ok (.istore 4, 2) := by decide +kernel
theorem dX11_takes_101 : decode cX11_takes 101 = .ok (.aload_n 0, 1) := by decide +kernel
theorem dX11_takes_102 : decode cX11_takes 102 = .ok (.getfield 150, 3) := by decide +kernel
theorem dX11_takes_105 : decode cX11_takes 105 = .ok (.iload_n 1, 1) := by decide +kernel
theorem dX11_takes_106 : decode cX11_takes 106 = .ok (.aload_n 0, 1) := by decide +kernel
theorem dX11_takes_107 : decode cX11_takes 107 = .ok (.getfield 22, 3) := by decide +kernel
theorem dX11_takes_110 : decode cX11_takes 110 = .ok (.aload_n 0, 1) := by decide +kernel
theorem dX11_takes_111 : decode cX11_takes 111 = .ok (.getfield 65, 3) := by decide +kernel
theorem dX11_takes_114 : decode cX11_takes 114 = .ok (.iload_n 1, 1) := by decide +kernel
theorem dX11_takes_115 : decode cX11_takes 115 = .ok (.iaload, 1) := by decide +kernel
theorem dX11_takes_116 : decode cX11_takes 116 = .ok (.iaload, 1) := by decide +kernel
theorem dX11_takes_117 : decode cX11_takes 117 = .ok (.iastore, 1) := by decide +kernel
theorem dX11_takes_118 : decode cX11_takes 118 = .ok (.aload_n 0, 1) := by decide +kernel
theorem dX11_takes_119 : decode cX11_takes 119 = .ok (.getfield 153, 3) := by decide +kernel
theorem dX11_takes_122 : decode cX11_takes 122 = .ok (.iload_n 1, 1) := by decide +kernel
theorem dX11_takes_123 : decode cX11_takes 123 = .ok (.aload_n 0, 1) := by decide +kernel
theorem dX11_takes_124 : decode cX11_takes 124 = .ok (.getfield 242, 3) := by decide +kernel
theorem dX11_takes_127 : decode cX11_takes 127 = .ok (.iastore, 1) := by decide +kernel
theorem dX11_takes_128 : decode cX11_takes 128 = .ok (.aload_n 0, 1) := by decide +kernel
theorem dX11_takes_129 : decode cX11_takes 129 = .ok (.getfield 138, 3) := by decide +kernel
theorem dX11_takes_132 : decode cX11_takes 132 = .ok (.iload_n 1, 1) := by decide +kernel
theorem dX11_takes_133 : decode cX11_takes 133 = .ok (.iconst 1, 1) := by decide +kernel
theorem dX11_takes_134 : decode cX11_takes 134 = .ok (.bastore, 1) := by decide +kernel
theorem dX11_takes_135 : decode cX11_takes 135 = .ok (.aload_n 0, 1) := by decide +kernel
theorem dX11_takes_136 : decode cX11_takes 136 = .ok (.dup, 1) := by decide +kernel
theorem dX11_takes_137 : decode cX11_takes 137 = .ok (.getfield 420, 3) := by decide +kernel
theorem dX11_takes_140 : decode cX11_takes 140 = .ok (.iload 4, 2) := by decide +kernel
theorem dX11_takes_142 : decode cX11_takes 142 = .ok (.bipush 10, 2) := by decide +kernel
theorem dX11_takes_144 : decode cX11_takes 144 = .ok (.if_icmp .lt 9, 3) := by decide +kernel
theorem dX11_takes_147 : decode cX11_takes 147 = .ok (.iconst 1, 1) := by decide +kernel
theorem dX11_takes_148 : decode cX11_takes 148 = .ok (.iload_n 1, 1) := by decide +kernel
theorem dX11_takes_149 : decode cX11_takes 149 = .ok (.ishl, 1) := by decide +kernel
theorem dX11_takes_150 : decode cX11_takes 150 = .ok (.goto 4, 3) := by decide +kernel
theorem dX11_takes_153 : decode cX11_takes 153 = .ok (.iconst 0, 1) := by decide +kernel
theorem dX11_takes_154 : decode cX11_takes 154 = .ok (.ior, 1) := by decide +kernel
theorem dX11_takes_155 : decode cX11_takes 155 = .ok (.putfield 420, 3) := by decide +kernel
theorem dX11_takes_158 : decode cX11_takes 158 = .ok (.aload_n 0, 1) := by decide +kernel
theorem dX11_takes_159 : decode cX11_takes 159 = .ok (.getfield 186, 3) := by decide +kernel
theorem dX11_takes_162 : decode cX11_takes 162 = .ok (.aload_n 0, 1) := by decide +kernel
theorem dX11_takes_163 : decode cX11_takes 163 = .ok (.getfield 423, 3) := by decide +kernel
theorem dX11_takes_166 : decode cX11_takes 166 = .ok (.bipush 10, 2) := by decide +kernel
theorem dX11_takes_168 : decode cX11_takes 168 = .ok (.iload_n 1, 1) := by decide +kernel
theorem dX11_takes_169 : decode cX11_takes 169 = .ok (.imul, 1) := by decide +kernel
theorem dX11_takes_170 : decode cX11_takes 170 = .ok (.iload 4, 2) := by decide +kernel
theorem dX11_takes_172 : decode cX11_takes 172 = .ok (.bipush 10, 2) := by decide +kernel
theorem dX11_takes_174 : decode cX11_takes 174 = .ok (.irem, 1) := by decide +kernel
theorem dX11_takes_175 : decode cX11_takes 175 = .ok (.iadd, 1) := by decide +kernel
theorem dX11_takes_176 : decode cX11_takes 176 = .ok (.iastore, 1) := by decide +kernel
theorem dX11_takes_177 : decode cX11_takes 177 = .ok (.aload_n 0, 1) := by decide +kernel
theorem dX11_takes_178 : decode cX11_takes 178 = .ok (.dup, 1) := by decide +kernel
theorem dX11_takes_179 : decode cX11_takes 179 = .ok (.getfield 423, 3) := by decide +kernel
theorem dX11_takes_182 : decode cX11_takes 182 = .ok (.iconst 1, 1) := by decide +kernel
theorem dX11_takes_183 : decode cX11_takes 183 = .ok (.iadd, 1) := by decide +kernel
theorem dX11_takes_184 : decode cX11_takes 184 = .ok (.putfield 423, 3) := by decide +kernel
theorem dX11_takes_187 : decode cX11_takes 187 = .ok (.return_, 1) := by decide +kernel
theorem dX11_laysRow_0 : decode cX11_laysRow 0 = .ok (.iconst 4, 1) := by decide +kernel
theorem dX11_laysRow_1 : decode cX11_laysRow 1 = .ok (.bipush 12, 2) := by decide +kernel
theorem dX11_laysRow_3 : decode cX11_laysRow 3 = .ok (.iload_n 1, 1) := by decide +kernel
theorem dX11_laysRow_4 : decode cX11_laysRow 4 = .ok (.imul, 1) := by decide +kernel
theorem dX11_laysRow_5 : decode cX11_laysRow 5 = .ok (.aload_n 0, 1) := by decide +kernel
theorem dX11_laysRow_6 : decode cX11_laysRow 6 = .ok (.getfield 159, 3) := by decide +kernel
theorem dX11_laysRow_9 : decode cX11_laysRow 9 = .ok (.iload_n 1, 1) := by decide +kernel
theorem dX11_laysRow_10 : decode cX11_laysRow 10 = .ok (.iaload, 1) := by decide +kernel
theorem dX11_laysRow_11 : decode cX11_laysRow 11 = .ok (.iadd, 1) := by decide +kernel
theorem dX11_laysRow_12 : decode cX11_laysRow 12 = .ok (.imul, 1) := by decide +kernel
theorem dX11_laysRow_13 : decode cX11_laysRow 13 = .ok (.istore 4, 2) := by decide +kernel
theorem dX11_laysRow_15 : decode cX11_laysRow 15 = .ok (.iconst 0, 1) := by decide +kernel
theorem dX11_laysRow_16 : decode cX11_laysRow 16 = .ok (.istore 5, 2) := by decide +kernel
theorem dX11_laysRow_18 : decode cX11_laysRow 18 = .ok (.iload 5, 2) := by decide +kernel
theorem dX11_laysRow_20 : decode cX11_laysRow 20 = .ok (.iconst 4, 1) := by decide +kernel
theorem dX11_laysRow_21 : decode cX11_laysRow 21 = .ok (.if_icmp .ge 63, 3) := by decide +kernel
theorem dX11_laysRow_24 : decode cX11_laysRow 24 = .ok (.aload_n 0, 1) := by decide +kernel
theorem dX11_laysRow_25 : decode cX11_laysRow 25 = .ok (.getfield 162, 3) := by decide +kernel
theorem dX11_laysRow_28 : decode cX11_laysRow 28 = .ok (.iload 4, 2) := by decide +kernel
theorem dX11_laysRow_30 : decode cX11_laysRow 30 = .ok (.iload 5, 2) := by decide +kernel
theorem dX11_laysRow_32 : decode cX11_laysRow 32 = .ok (.iadd, 1) := by decide +kernel
theorem dX11_laysRow_33 : decode cX11_laysRow 33 = .ok (.iload_n 2, 1) := by decide +kernel
theorem dX11_laysRow_34 : decode cX11_laysRow 34 = .ok (.ifCond .eq 22, 3) := by decide +kernel
theorem dX11_laysRow_37 : decode cX11_laysRow 37 = .ok (.aload_n 0, 1) := by decide +kernel
theorem dX11_laysRow_38 : decode cX11_laysRow 38 = .ok (.getfield 147, 3) := by decide +kernel
theorem dX11_laysRow_41 : decode cX11_laysRow 41 = .ok (.iconst 4, 1) := by decide +kernel
theorem dX11_laysRow_42 : decode cX11_laysRow 42 = .ok (.bipush 12, 2) := by decide +kernel
theorem dX11_laysRow_44 : decode cX11_laysRow 44 = .ok (.iload_n 1, 1) := by decide +kernel
theorem dX11_laysRow_45 : decode cX11_laysRow 45 = .ok (.imul, 1) := by decide +kernel
theorem dX11_laysRow_46 : decode cX11_laysRow 46 = .ok (.iload_n 3, 1) := by decide +kernel
theorem dX11_laysRow_47 : decode cX11_laysRow 47 = .ok (.iadd, 1) := by decide +kernel
theorem dX11_laysRow_48 : decode cX11_laysRow 48 = .ok (.imul, 1) := by decide +kernel
theorem dX11_laysRow_49 : decode cX11_laysRow 49 = .ok (.iload 5, 2) := by decide +kernel
theorem dX11_laysRow_51 : decode cX11_laysRow 51 = .ok (.iadd, 1) := by decide +kernel
theorem dX11_laysRow_52 : decode cX11_laysRow 52 = .ok (.iaload, 1) := by decide +kernel
theorem dX11_laysRow_53 : decode cX11_laysRow 53 = .ok (.goto 24, 3) := by decide +kernel
theorem dX11_laysRow_56 : decode cX11_laysRow 56 = .ok (.aload_n 0, 1) := by decide +kernel
theorem dX11_laysRow_57 : decode cX11_laysRow 57 = .ok (.getfield 16, 3) := by decide +kernel
theorem dX11_laysRow_60 : decode cX11_laysRow 60 = .ok (.iconst 4, 1) := by decide +kernel
theorem dX11_laysRow_61 : decode cX11_laysRow 61 = .ok (.bipush 12, 2) := by decide +kernel
theorem dX11_laysRow_63 : decode cX11_laysRow 63 = .ok (.aload_n 0, 1) := by decide +kernel
theorem dX11_laysRow_64 : decode cX11_laysRow 64 = .ok (.getfield 65, 3) := by decide +kernel
theorem dX11_laysRow_67 : decode cX11_laysRow 67 = .ok (.iload_n 1, 1) := by decide +kernel
theorem dX11_laysRow_68 : decode cX11_laysRow 68 = .ok (.iaload, 1) := by decide +kernel
theorem dX11_laysRow_69 : decode cX11_laysRow 69 = .ok (.imul, 1) := by decide +kernel
theorem dX11_laysRow_70 : decode cX11_laysRow 70 = .ok (.iload_n 3, 1) := by decide +kernel
theorem dX11_laysRow_71 : decode cX11_laysRow 71 = .ok (.iadd, 1) := by decide +kernel
theorem dX11_laysRow_72 : decode cX11_laysRow 72 = .ok (.imul, 1) := by decide +kernel
theorem dX11_laysRow_73 : decode cX11_laysRow 73 = .ok (.iload 5, 2) := by decide +kernel
theorem dX11_laysRow_75 : decode cX11_laysRow 75 = .ok (.iadd, 1) := by decide +kernel
theorem dX11_laysRow_76 : decode cX11_laysRow 76 = .ok (.iaload, 1) := by decide +kernel
theorem dX11_laysRow_77 : decode cX11_laysRow 77 = .ok (.iastore, 1) := by decide +kernel
theorem dX11_laysRow_78 : decode cX11_laysRow 78 = .ok (.iinc 5 1, 3) := by decide +kernel
theorem dX11_laysRow_81 : decode cX11_laysRow 81 = .ok (.goto (-63), 3) := by decide +kernel
theorem dX11_laysRow_84 : decode cX11_laysRow 84 = .ok (.iconst 1, 1) := by decide +kernel
theorem dX11_laysRow_85 : decode cX11_laysRow 85 = .ok (.istore 5, 2) := by decide +kernel
theorem dX11_laysRow_87 : decode cX11_laysRow 87 = .ok (.iconst 0, 1) := by decide +kernel
theorem dX11_laysRow_88 : decode cX11_laysRow 88 = .ok (.istore 6, 2) := by decide +kernel
theorem dX11_laysRow_90 : decode cX11_laysRow 90 = .ok (.iload 6, 2) := by decide +kernel
theorem dX11_laysRow_92 : decode cX11_laysRow 92 = .ok (.aload_n 0, 1) := by decide +kernel
theorem dX11_laysRow_93 : decode cX11_laysRow 93 = .ok (.getfield 311, 3) := by decide +kernel
theorem dX11_laysRow_96 : decode cX11_laysRow 96 = .ok (.if_icmp .ge 67, 3) := by decide +kernel
theorem dX11_laysRow_99 : decode cX11_laysRow 99 = .ok (.iload 5, 2) := by decide +kernel
theorem dX11_laysRow_101 : decode cX11_laysRow 101 = .ok (.ifCond .eq 53, 3) := by decide +kernel
theorem dX11_laysRow_104 : decode cX11_laysRow 104 = .ok (.aload_n 0, 1) := by decide +kernel
theorem dX11_laysRow_105 : decode cX11_laysRow 105 = .ok (.getfield 80, 3) := by decide +kernel
theorem dX11_laysRow_108 : decode cX11_laysRow 108 = .ok (.iload 6, 2) := by decide +kernel
theorem dX11_laysRow_110 : decode cX11_laysRow 110 = .ok (.iaload, 1) := by decide +kernel
theorem dX11_laysRow_111 : decode cX11_laysRow 111 = .ok (.iload_n 1, 1) := by decide +kernel
theorem dX11_laysRow_112 : decode cX11_laysRow 112 = .ok (.if_icmp .ne 38, 3) := by decide +kernel
theorem dX11_laysRow_115 : decode cX11_laysRow 115 = .ok (.aload_n 0, 1) := by decide +kernel
theorem dX11_laysRow_116 : decode cX11_laysRow 116 = .ok (.getfield 86, 3) := by decide +kernel
theorem dX11_laysRow_119 : decode cX11_laysRow 119 = .ok (.iload 6, 2) := by decide +kernel
theorem dX11_laysRow_121 : decode cX11_laysRow 121 = .ok (.iaload, 1) := by decide +kernel
theorem dX11_laysRow_122 : decode cX11_laysRow 122 = .ok (.aload_n 0, 1) := by decide +kernel
theorem dX11_laysRow_123 : decode cX11_laysRow 123 = .ok (.getfield 89, 3) := by decide +kernel
theorem dX11_laysRow_126 : decode cX11_laysRow 126 = .ok (.iload 6, 2) := by decide +kernel
theorem dX11_laysRow_128 : decode cX11_laysRow 128 = .ok (.iaload, 1) := by decide +kernel
theorem dX11_laysRow_129 : decode cX11_laysRow 129 = .ok (.aload_n 0, 1) := by decide +kernel
theorem dX11_laysRow_130 : decode cX11_laysRow 130 = .ok (.getfield 162, 3) := by decide +kernel
theorem dX11_laysRow_133 : decode cX11_laysRow 133 = .ok (.iload 4, 2) := by decide +kernel
theorem dX11_laysRow_135 : decode cX11_laysRow 135 = .ok (.aload_n 0, 1) := by decide +kernel
theorem dX11_laysRow_136 : decode cX11_laysRow 136 = .ok (.getfield 83, 3) := by decide +kernel
theorem dX11_laysRow_139 : decode cX11_laysRow 139 = .ok (.iload 6, 2) := by decide +kernel
theorem dX11_laysRow_141 : decode cX11_laysRow 141 = .ok (.iaload, 1) := by decide +kernel
theorem dX11_laysRow_142 : decode cX11_laysRow 142 = .ok (.iadd, 1) := by decide +kernel
theorem dX11_laysRow_143 : decode cX11_laysRow 143 = .ok (.iaload, 1) := by decide +kernel
theorem dX11_laysRow_144 : decode cX11_laysRow 144 = .ok (.invokestatic 327, 3) := by decide +kernel
theorem dX11_laysRow_147 : decode cX11_laysRow 147 = .ok (.ifCond .eq 7, 3) := by decide +kernel
theorem dX11_laysRow_150 : decode cX11_laysRow 150 = .ok (.iconst 1, 1) := by decide +kernel
theorem dX11_laysRow_151 : decode cX11_laysRow 151 = .ok (.goto 4, 3) := by decide +kernel
theorem dX11_laysRow_154 : decode cX11_laysRow 154 = .ok (.iconst 0, 1) := by decide +kernel
theorem dX11_laysRow_155 : decode cX11_laysRow 155 = .ok (.istore 5, 2) := by decide +kernel
theorem dX11_laysRow_157 : decode cX11_laysRow 157 = .ok (.iinc 6 1, 3) := by decide +kernel
theorem dX11_laysRow_160 : decode cX11_laysRow 160 = .ok (.goto (-70), 3) := by decide +kernel
theorem dX11_laysRow_163 : decode cX11_laysRow 163 = .ok (.aload_n 0, 1) := by decide +kernel
theorem dX11_laysRow_164 : decode cX11_laysRow 164 = .ok (.getfield 159, 3) := by decide +kernel
theorem dX11_laysRow_167 : decode cX11_laysRow 167 = .ok (.iload_n 1, 1) := by decide +kernel
theorem dX11_laysRow_168 : decode cX11_laysRow 168 = .ok (.dup2, 1) := by decide +kernel
theorem dX11_laysRow_169 : decode cX11_laysRow 169 = .ok (.iaload, 1) := by decide +kernel
theorem dX11_laysRow_170 : decode cX11_laysRow 170 = .ok (.iload 5, 2) := by decide +kernel
theorem dX11_laysRow_172 : decode cX11_laysRow 172 = .ok (.ifCond .eq 7, 3) := by decide +kernel
theorem dX11_laysRow_175 : decode cX11_laysRow 175 = .ok (.iconst 1, 1) := by decide +kernel
theorem dX11_laysRow_176 : decode cX11_laysRow 176 = .ok (.goto 4, 3) := by decide +kernel
theorem dX11_laysRow_179 : decode cX11_laysRow 179 = .ok (.iconst 0, 1) := by decide +kernel
theorem dX11_laysRow_180 : decode cX11_laysRow 180 = .ok (.iadd, 1) := by decide +kernel
theorem dX11_laysRow_181 : decode cX11_laysRow 181 = .ok (.iastore, 1) := by decide +kernel
theorem dX11_laysRow_182 : decode cX11_laysRow 182 = .ok (.return_, 1) := by decide +kernel
theorem dX11_cellAt_0 : decode cX11_cellAt 0 = .ok (.aload_n 0, 1) := by decide +kernel
theorem dX11_cellAt_1 : decode cX11_cellAt 1 = .ok (.getfield 162, 3) := by decide +kernel
theorem dX11_cellAt_4 : decode cX11_cellAt 4 = .ok (.iconst 4, 1) := by decide +kernel
theorem dX11_cellAt_5 : decode cX11_cellAt 5 = .ok (.bipush 12, 2) := by decide +kernel
theorem dX11_cellAt_7 : decode cX11_cellAt 7 = .ok (.iload_n 1, 1) := by decide +kernel
theorem dX11_cellAt_8 : decode cX11_cellAt 8 = .ok (.imul, 1) := by decide +kernel
theorem dX11_cellAt_9 : decode cX11_cellAt 9 = .ok (.aload_n 0, 1) := by decide +kernel
theorem dX11_cellAt_10 : decode cX11_cellAt 10 = .ok (.getfield 165, 3) := by decide +kernel
theorem dX11_cellAt_13 : decode cX11_cellAt 13 = .ok (.iload_n 1, 1) := by decide +kernel
theorem dX11_cellAt_14 : decode cX11_cellAt 14 = .ok (.iaload, 1) := by decide +kernel
theorem dX11_cellAt_15 : decode cX11_cellAt 15 = .ok (.iadd, 1) := by decide +kernel
theorem dX11_cellAt_16 : decode cX11_cellAt 16 = .ok (.imul, 1) := by decide +kernel
theorem dX11_cellAt_17 : decode cX11_cellAt 17 = .ok (.iload_n 2, 1) := by decide +kernel
theorem dX11_cellAt_18 : decode cX11_cellAt 18 = .ok (.iadd, 1) := by decide +kernel
theorem dX11_cellAt_19 : decode cX11_cellAt 19 = .ok (.iaload, 1) := by decide +kernel
theorem dX11_cellAt_20 : decode cX11_cellAt 20 = .ok (.ireturn, 1) := by decide +kernel
theorem dX11_areLinked_0 : decode cX11_areLinked 0 = .ok (.iconst 1, 1) := by decide +kernel
theorem dX11_areLinked_1 : decode cX11_areLinked 1 = .ok (.istore_n 1, 1) := by decide +kernel
theorem dX11_areLinked_2 : decode cX11_areLinked 2 = .ok (.iconst 0, 1) := by decide +kernel
theorem dX11_areLinked_3 : decode cX11_areLinked 3 = .ok (.istore_n 2, 1) := by decide +kernel
theorem dX11_areLinked_4 : decode cX11_areLinked 4 = .ok (.iload_n 2, 1) := by decide +kernel
theorem dX11_areLinked_5 : decode cX11_areLinked 5 = .ok (.aload_n 0, 1) := by decide +kernel
theorem dX11_areLinked_6 : decode cX11_areLinked 6 = .ok (.getfield 308, 3) := by decide +kernel
theorem dX11_areLinked_9 : decode cX11_areLinked 9 = .ok (.if_icmp .ge 63, 3) := by decide +kernel
theorem dX11_areLinked_12 : decode cX11_areLinked 12 = .ok (.aload_n 0, 1) := by decide +kernel
theorem dX11_areLinked_13 : decode cX11_areLinked 13 = .ok (.aload_n 0, 1) := by decide +kernel
theorem dX11_areLinked_14 : decode cX11_areLinked 14 = .ok (.getfield 68, 3) := by decide +kernel
theorem dX11_areLinked_17 : decode cX11_areLinked 17 = .ok (.iload_n 2, 1) := by decide +kernel
theorem dX11_areLinked_18 : decode cX11_areLinked 18 = .ok (.iaload, 1) := by decide +kernel
theorem dX11_areLinked_19 : decode cX11_areLinked 19 = .ok (.aload_n 0, 1) := by decide +kernel
theorem dX11_areLinked_20 : decode cX11_areLinked 20 = .ok (.getfield 71, 3) := by decide +kernel
theorem dX11_areLinked_23 : decode cX11_areLinked 23 = .ok (.iload_n 2, 1) := by decide +kernel
theorem dX11_areLinked_24 : decode cX11_areLinked 24 = .ok (.iaload, 1) := by decide +kernel
theorem dX11_areLinked_25 : decode cX11_areLinked 25 = .ok (.invokevirtual 426, 3) := by decide +kernel
theorem dX11_areLinked_28 : decode cX11_areLinked 28 = .ok (.istore_n 3, 1) := by decide +kernel
theorem dX11_areLinked_29 : decode cX11_areLinked 29 = .ok (.iload_n 1, 1) := by decide +kernel
theorem dX11_areLinked_30 : decode cX11_areLinked 30 = .ok (.ifCond .eq 34, 3) := by decide +kernel
theorem dX11_areLinked_33 : decode cX11_areLinked 33 = .ok (.iload_n 3, 1) := by decide +kernel
theorem dX11_areLinked_34 : decode cX11_areLinked 34 = .ok (.invokestatic 228, 3) := by decide +kernel
theorem dX11_areLinked_37 : decode cX11_areLinked 37 = .ok (.ifCond .eq 27, 3) := by decide +kernel
theorem dX11_areLinked_40 : decode cX11_areLinked 40 = .ok (.iload_n 3, 1) := by decide +kernel
theorem dX11_areLinked_41 : decode cX11_areLinked 41 = .ok (.aload_n 0, 1) := by decide +kernel
theorem dX11_areLinked_42 : decode cX11_areLinked 42 = .ok (.aload_n 0, 1) := by decide +kernel
theorem dX11_areLinked_43 : decode cX11_areLinked 43 = .ok (.getfield 74, 3) := by decide +kernel
theorem dX11_areLinked_46 : decode cX11_areLinked 46 = .ok (.iload_n 2, 1) := by decide +kernel
theorem dX11_areLinked_47 : decode cX11_areLinked 47 = .ok (.iaload, 1) := by decide +kernel
theorem dX11_areLinked_48 : decode cX11_areLinked 48 = .ok (.aload_n 0, 1) := by decide +kernel
theorem dX11_areLinked_49 : decode cX11_areLinked 49 = .ok (.getfield 77, 3) := by decide +kernel
theorem dX11_areLinked_52 : decode cX11_areLinked 52 = .ok (.iload_n 2, 1) := by decide +kernel
theorem dX11_areLinked_53 : decode cX11_areLinked 53 = .ok (.iaload, 1) := by decide +kernel
theorem dX11_areLinked_54 : decode cX11_areLinked 54 = .ok (.invokevirtual 426, 3) := by decide +kernel
theorem dX11_areLinked_57 : decode cX11_areLinked 57 = .ok (.if_icmp .ne 7, 3) := by decide +kernel
theorem dX11_areLinked_60 : decode cX11_areLinked 60 = .ok (.iconst 1, 1) := by decide +kernel
theorem dX11_areLinked_61 : decode cX11_areLinked 61 = .ok (.goto 4, 3) := by decide +kernel
theorem dX11_areLinked_64 : decode cX11_areLinked 64 = .ok (.iconst 0, 1) := by decide +kernel
theorem dX11_areLinked_65 : decode cX11_areLinked 65 = .ok (.istore_n 1, 1) := by decide +kernel
theorem dX11_areLinked_66 : decode cX11_areLinked 66 = .ok (.iinc 2 1, 3) := by decide +kernel
theorem dX11_areLinked_69 : decode cX11_areLinked 69 = .ok (.goto (-65), 3) := by decide +kernel
theorem dX11_areLinked_72 : decode cX11_areLinked 72 = .ok (.iload_n 1, 1) := by decide +kernel
theorem dX11_areLinked_73 : decode cX11_areLinked 73 = .ok (.ireturn, 1) := by decide +kernel
theorem dX11_goesOn_0 : decode cX11_goesOn 0 = .ok (.aload_n 0, 1) := by decide +kernel
theorem dX11_goesOn_1 : decode cX11_goesOn 1 = .ok (.getfield 299, 3) := by decide +kernel
theorem dX11_goesOn_4 : decode cX11_goesOn 4 = .ok (.iconst 1, 1) := by decide +kernel
theorem dX11_goesOn_5 : decode cX11_goesOn 5 = .ok (.isub, 1) := by decide +kernel
theorem dX11_goesOn_6 : decode cX11_goesOn 6 = .ok (.istore_n 1, 1) := by decide +kernel
theorem dX11_goesOn_7 : decode cX11_goesOn 7 = .ok (.aload_n 0, 1) := by decide +kernel
theorem dX11_goesOn_8 : decode cX11_goesOn 8 = .ok (.getfield 165, 3) := by decide +kernel
theorem dX11_goesOn_11 : decode cX11_goesOn 11 = .ok (.iload_n 1, 1) := by decide +kernel
theorem dX11_goesOn_12 : decode cX11_goesOn 12 = .ok (.dup2, 1) := by decide +kernel
theorem dX11_goesOn_13 : decode cX11_goesOn 13 = .ok (.iaload, 1) := by decide +kernel
theorem dX11_goesOn_14 : decode cX11_goesOn 14 = .ok (.iconst 1, 1) := by decide +kernel
theorem dX11_goesOn_15 : decode cX11_goesOn 15 = .ok (.iadd, 1) := by decide +kernel
theorem dX11_goesOn_16 : decode cX11_goesOn 16 = .ok (.iastore, 1) := by decide +kernel
theorem dX11_goesOn_17 : decode cX11_goesOn 17 = .ok (.iload_n 1, 1) := by decide +kernel
theorem dX11_goesOn_18 : decode cX11_goesOn 18 = .ok (.ifCond .le 41, 3) := by decide +kernel
theorem dX11_goesOn_21 : decode cX11_goesOn 21 = .ok (.aload_n 0, 1) := by decide +kernel
theorem dX11_goesOn_22 : decode cX11_goesOn 22 = .ok (.getfield 165, 3) := by decide +kernel
theorem dX11_goesOn_25 : decode cX11_goesOn 25 = .ok (.iload_n 1, 1) := by decide +kernel
theorem dX11_goesOn_26 : decode cX11_goesOn 26 = .ok (.iaload, 1) := by decide +kernel
theorem dX11_goesOn_27 : decode cX11_goesOn 27 = .ok (.aload_n 0, 1) := by decide +kernel
theorem dX11_goesOn_28 : decode cX11_goesOn 28 = .ok (.getfield 159, 3) := by decide +kernel
theorem dX11_goesOn_31 : decode cX11_goesOn 31 = .ok (.iload_n 1, 1) := by decide +kernel
theorem dX11_goesOn_32 : decode cX11_goesOn 32 = .ok (.iaload, 1) := by decide +kernel
theorem dX11_goesOn_33 : decode cX11_goesOn 33 = .ok (.if_icmp .ne 26, 3) := by decide +kernel
theorem dX11_goesOn_36 : decode cX11_goesOn 36 = .ok (.aload_n 0, 1) := by decide +kernel
theorem dX11_goesOn_37 : decode cX11_goesOn 37 = .ok (.getfield 165, 3) := by decide +kernel
theorem dX11_goesOn_40 : decode cX11_goesOn 40 = .ok (.iload_n 1, 1) := by decide +kernel
theorem dX11_goesOn_41 : decode cX11_goesOn 41 = .ok (.iconst 0, 1) := by decide +kernel
theorem dX11_goesOn_42 : decode cX11_goesOn 42 = .ok (.iastore, 1) := by decide +kernel
theorem dX11_goesOn_43 : decode cX11_goesOn 43 = .ok (.iinc 1 (-1), 3) := by decide +kernel
theorem dX11_goesOn_46 : decode cX11_goesOn 46 = .ok (.aload_n 0, 1) := by decide +kernel
theorem dX11_goesOn_47 : decode cX11_goesOn 47 = .ok (.getfield 165, 3) := by decide +kernel
theorem dX11_goesOn_50 : decode cX11_goesOn 50 = .ok (.iload_n 1, 1) := by decide +kernel
theorem dX11_goesOn_51 : decode cX11_goesOn 51 = .ok (.dup2, 1) := by decide +kernel
theorem dX11_goesOn_52 : decode cX11_goesOn 52 = .ok (.iaload, 1) := by decide +kernel
theorem dX11_goesOn_53 : decode cX11_goesOn 53 = .ok (.iconst 1, 1) := by decide +kernel
theorem dX11_goesOn_54 : decode cX11_goesOn 54 = .ok (.iadd, 1) := by decide +kernel
theorem dX11_goesOn_55 : decode cX11_goesOn 55 = .ok (.iastore, 1) := by decide +kernel
theorem dX11_goesOn_56 : decode cX11_goesOn 56 = .ok (.goto (-39), 3) := by decide +kernel
theorem dX11_goesOn_59 : decode cX11_goesOn 59 = .ok (.aload_n 0, 1) := by decide +kernel
theorem dX11_goesOn_60 : decode cX11_goesOn 60 = .ok (.getfield 165, 3) := by decide +kernel
theorem dX11_goesOn_63 : decode cX11_goesOn 63 = .ok (.iconst 0, 1) := by decide +kernel
theorem dX11_goesOn_64 : decode cX11_goesOn 64 = .ok (.iaload, 1) := by decide +kernel
theorem dX11_goesOn_65 : decode cX11_goesOn 65 = .ok (.aload_n 0, 1) := by decide +kernel
theorem dX11_goesOn_66 : decode cX11_goesOn 66 = .ok (.getfield 159, 3) := by decide +kernel
theorem dX11_goesOn_69 : decode cX11_goesOn 69 = .ok (.iconst 0, 1) := by decide +kernel
theorem dX11_goesOn_70 : decode cX11_goesOn 70 = .ok (.iaload, 1) := by decide +kernel
theorem dX11_goesOn_71 : decode cX11_goesOn 71 = .ok (.if_icmp .ge 7, 3) := by decide +kernel
theorem dX11_goesOn_74 : decode cX11_goesOn 74 = .ok (.iconst 1, 1) := by decide +kernel
theorem dX11_goesOn_75 : decode cX11_goesOn 75 = .ok (.goto 4, 3) := by decide +kernel
theorem dX11_goesOn_78 : decode cX11_goesOn 78 = .ok (.iconst 0, 1) := by decide +kernel
theorem dX11_goesOn_79 : decode cX11_goesOn 79 = .ok (.ireturn, 1) := by decide +kernel
theorem dX11_addsMatch_0 : decode cX11_addsMatch 0 = .ok (.iconst 0, 1) := by decide +kernel
theorem dX11_addsMatch_1 : decode cX11_addsMatch 1 = .ok (.istore_n 1, 1) := by decide +kernel
theorem dX11_addsMatch_2 : decode cX11_addsMatch 2 = .ok (.iload_n 1, 1) := by decide +kernel
theorem dX11_addsMatch_3 : decode cX11_addsMatch 3 = .ok (.aload_n 0, 1) := by decide +kernel
theorem dX11_addsMatch_4 : decode cX11_addsMatch 4 = .ok (.getfield 314, 3) := by decide +kernel
theorem dX11_addsMatch_7 : decode cX11_addsMatch 7 = .ok (.if_icmp .ge 49, 3) := by decide +kernel
theorem dX11_addsMatch_10 : decode cX11_addsMatch 10 = .ok (.aload_n 0, 1) := by decide +kernel
theorem dX11_addsMatch_11 : decode cX11_addsMatch 11 = .ok (.getfield 429, 3) := by decide +kernel
theorem dX11_addsMatch_14 : decode cX11_addsMatch 14 = .ok (.aload_n 0, 1) := by decide +kernel
theorem dX11_addsMatch_15 : decode cX11_addsMatch 15 = .ok (.getfield 98, 3) := by decide +kernel
theorem dX11_addsMatch_18 : decode cX11_addsMatch 18 = .ok (.if_icmp .ge 38, 3) := by decide +kernel
theorem dX11_addsMatch_21 : decode cX11_addsMatch 21 = .ok (.aload_n 0, 1) := by decide +kernel
theorem dX11_addsMatch_22 : decode cX11_addsMatch 22 = .ok (.getfield 168, 3) := by decide +kernel
theorem dX11_addsMatch_25 : decode cX11_addsMatch 25 = .ok (.iconst 3, 1) := by decide +kernel
theorem dX11_addsMatch_26 : decode cX11_addsMatch 26 = .ok (.aload_n 0, 1) := by decide +kernel
theorem dX11_addsMatch_27 : decode cX11_addsMatch 27 = .ok (.getfield 429, 3) := by decide +kernel
theorem dX11_addsMatch_30 : decode cX11_addsMatch 30 = .ok (.imul, 1) := by decide +kernel
theorem dX11_addsMatch_31 : decode cX11_addsMatch 31 = .ok (.iload_n 1, 1) := by decide +kernel
theorem dX11_addsMatch_32 : decode cX11_addsMatch 32 = .ok (.iadd, 1) := by decide +kernel
theorem dX11_addsMatch_33 : decode cX11_addsMatch 33 = .ok (.aload_n 0, 1) := by decide +kernel
theorem dX11_addsMatch_34 : decode cX11_addsMatch 34 = .ok (.aload_n 0, 1) := by decide +kernel
theorem dX11_addsMatch_35 : decode cX11_addsMatch 35 = .ok (.getfield 92, 3) := by decide +kernel
theorem dX11_addsMatch_38 : decode cX11_addsMatch 38 = .ok (.iload_n 1, 1) := by decide +kernel
theorem dX11_addsMatch_39 : decode cX11_addsMatch 39 = .ok (.iaload, 1) := by decide +kernel
theorem dX11_addsMatch_40 : decode cX11_addsMatch 40 = .ok (.aload_n 0, 1) := by decide +kernel
theorem dX11_addsMatch_41 : decode cX11_addsMatch 41 = .ok (.getfield 95, 3) := by decide +kernel
theorem dX11_addsMatch_44 : decode cX11_addsMatch 44 = .ok (.iload_n 1, 1) := by decide +kernel
theorem dX11_addsMatch_45 : decode cX11_addsMatch 45 = .ok (.iaload, 1) := by decide +kernel
theorem dX11_addsMatch_46 : decode cX11_addsMatch 46 = .ok (.invokevirtual 426, 3) := by decide +kernel
theorem dX11_addsMatch_49 : decode cX11_addsMatch 49 = .ok (.iastore, 1) := by decide +kernel
theorem dX11_addsMatch_50 : decode cX11_addsMatch 50 = .ok (.iinc 1 1, 3) := by decide +kernel
theorem dX11_addsMatch_53 : decode cX11_addsMatch 53 = .ok (.goto (-51), 3) := by decide +kernel
theorem dX11_addsMatch_56 : decode cX11_addsMatch 56 = .ok (.aload_n 0, 1) := by decide +kernel
theorem dX11_addsMatch_57 : decode cX11_addsMatch 57 = .ok (.dup, 1) := by decide +kernel
theorem dX11_addsMatch_58 : decode cX11_addsMatch 58 = .ok (.getfield 429, 3) := by decide +kernel
theorem dX11_addsMatch_61 : decode cX11_addsMatch 61 = .ok (.aload_n 0, 1) := by decide +kernel
theorem dX11_addsMatch_62 : decode cX11_addsMatch 62 = .ok (.getfield 429, 3) := by decide +kernel
theorem dX11_addsMatch_65 : decode cX11_addsMatch 65 = .ok (.aload_n 0, 1) := by decide +kernel
theorem dX11_addsMatch_66 : decode cX11_addsMatch 66 = .ok (.getfield 98, 3) := by decide +kernel
theorem dX11_addsMatch_69 : decode cX11_addsMatch 69 = .ok (.if_icmp .ge 7, 3) := by decide +kernel
theorem dX11_addsMatch_72 : decode cX11_addsMatch 72 = .ok (.iconst 1, 1) := by decide +kernel
theorem dX11_addsMatch_73 : decode cX11_addsMatch 73 = .ok (.goto 4, 3) := by decide +kernel
theorem dX11_addsMatch_76 : decode cX11_addsMatch 76 = .ok (.iconst 0, 1) := by decide +kernel
theorem dX11_addsMatch_77 : decode cX11_addsMatch 77 = .ok (.iadd, 1) := by decide +kernel
theorem dX11_addsMatch_78 : decode cX11_addsMatch 78 = .ok (.putfield 429, 3) := by decide +kernel
theorem dX11_addsMatch_81 : decode cX11_addsMatch 81 = .ok (.return_, 1) := by decide +kernel
theorem dX11_addsToGroup_0 : decode cX11_addsToGroup 0 = .ok (.aload_n 0, 1) := by decide +kernel
theorem dX11_addsToGroup_1 : decode cX11_addsToGroup 1 = .ok (.aload_n 0, 1) := by decide +kernel
theorem dX11_addsToGroup_2 : decode cX11_addsToGroup 2 = .ok (.getfield 92, 3) := by decide +kernel
theorem dX11_addsToGroup_5 : decode cX11_addsToGroup 5 = .ok (.iconst 0, 1) := by decide +kernel
theorem dX11_addsToGroup_6 : decode cX11_addsToGroup 6 = .ok (.iaload, 1) := by decide +kernel
theorem dX11_addsToGroup_7 : decode cX11_addsToGroup 7 = .ok (.aload_n 0, 1) := by decide +kernel
theorem dX11_addsToGroup_8 : decode cX11_addsToGroup 8 = .ok (.getfield 95, 3) := by decide +kernel
theorem dX11_addsToGroup_11 : decode cX11_addsToGroup 11 = .ok (.iconst 0, 1) := by decide +kernel
theorem dX11_addsToGroup_12 : decode cX11_addsToGroup 12 = .ok (.iaload, 1) := by decide +kernel
theorem dX11_addsToGroup_13 : decode cX11_addsToGroup 13 = .ok (.invokevirtual 426, 3) := by decide +kernel
theorem dX11_addsToGroup_16 : decode cX11_addsToGroup 16 = .ok (.istore_n 1, 1) := by decide +kernel
theorem dX11_addsToGroup_17 : decode cX11_addsToGroup 17 = .ok (.aload_n 0, 1) := by decide +kernel
theorem dX11_addsToGroup_18 : decode cX11_addsToGroup 18 = .ok (.aload_n 0, 1) := by decide +kernel
theorem dX11_addsToGroup_19 : decode cX11_addsToGroup 19 = .ok (.getfield 92, 3) := by decide +kernel
theorem dX11_addsToGroup_22 : decode cX11_addsToGroup 22 = .ok (.aload_n 0, 1) := by decide +kernel
theorem dX11_addsToGroup_23 : decode cX11_addsToGroup 23 = .ok (.getfield 314, 3) := by decide +kernel
theorem dX11_addsToGroup_26 : decode cX11_addsToGroup 26 = .ok (.iconst 1, 1) := by decide +kernel
theorem dX11_addsToGroup_27 : decode cX11_addsToGroup 27 = .ok (.isub, 1) := by decide +kernel
theorem dX11_addsToGroup_28 : decode cX11_addsToGroup 28 = .ok (.iaload, 1) := by decide +kernel
theorem dX11_addsToGroup_29 : decode cX11_addsToGroup 29 = .ok (.aload_n 0, 1) := by decide +kernel
theorem dX11_addsToGroup_30 : decode cX11_addsToGroup 30 = .ok (.getfield 95, 3) := by decide +kernel
theorem dX11_addsToGroup_33 : decode cX11_addsToGroup 33 = .ok (.aload_n 0, 1) := by decide +kernel
theorem dX11_addsToGroup_34 : decode cX11_addsToGroup 34 = .ok (.getfield 314, 3) := by decide +kernel
theorem dX11_addsToGroup_37 : decode cX11_addsToGroup 37 = .ok (.iconst 1, 1) := by decide +kernel
theorem dX11_addsToGroup_38 : decode cX11_addsToGroup 38 = .ok (.isub, 1) := by decide +kernel
theorem dX11_addsToGroup_39 : decode cX11_addsToGroup 39 = .ok (.iaload, 1) := by decide +kernel
theorem dX11_addsToGroup_40 : decode cX11_addsToGroup 40 = .ok (.invokevirtual 426, 3) := by decide +kernel
theorem dX11_addsToGroup_43 : decode cX11_addsToGroup 43 = .ok (.istore_n 2, 1) := by decide +kernel
theorem dX11_addsToGroup_44 : decode cX11_addsToGroup 44 = .ok (.iconst (-1), 1) := by decide +kernel
theorem dX11_addsToGroup_45 : decode cX11_addsToGroup 45 = .ok (.istore_n 3, 1) := by decide +kernel
theorem dX11_addsToGroup_46 : decode cX11_addsToGroup 46 = .ok (.iconst 0, 1) := by decide +kernel
theorem dX11_addsToGroup_47 : decode cX11_addsToGroup 47 = .ok (.istore 4, 2) := by decide +kernel
theorem dX11_addsToGroup_49 : decode cX11_addsToGroup 49 = .ok (.iload 4, 2) := by decide +kernel
theorem dX11_addsToGroup_51 : decode cX11_addsToGroup 51 = .ok (.aload_n 0, 1) := by decide +kernel
theorem dX11_addsToGroup_52 : decode cX11_addsToGroup 52 = .ok (.getfield 432, 3) := by decide +kernel
theorem dX11_addsToGroup_55 : decode cX11_addsToGroup 55 = .ok (.if_icmp .ge 27, 3) := by decide +kernel
theorem dX11_addsToGroup_58 : decode cX11_addsToGroup 58 = .ok (.aload_n 0, 1) := by decide +kernel
theorem dX11_addsToGroup_59 : decode cX11_addsToGroup 59 = .ok (.getfield 171, 3) := by decide +kernel
theorem dX11_addsToGroup_62 : decode cX11_addsToGroup 62 = .ok (.iload 4, 2) := by decide +kernel
theorem dX11_addsToGroup_64 : decode cX11_addsToGroup 64 = .ok (.iaload, 1) := by decide +kernel
theorem dX11_addsToGroup_65 : decode cX11_addsToGroup 65 = .ok (.iload_n 1, 1) := by decide +kernel
theorem dX11_addsToGroup_66 : decode cX11_addsToGroup 66 = .ok (.if_icmp .ne 8, 3) := by decide +kernel
theorem dX11_addsToGroup_69 : decode cX11_addsToGroup 69 = .ok (.iload 4, 2) := by decide +kernel
theorem dX11_addsToGroup_71 : decode cX11_addsToGroup 71 = .ok (.goto 4, 3) := by decide +kernel
theorem dX11_addsToGroup_74 : decode cX11_addsToGroup 74 = .ok (.iload_n 3, 1) := by decide +kernel
theorem dX11_addsToGroup_75 : decode cX11_addsToGroup 75 = .ok (.istore_n 3, 1) := by decide +kernel
theorem dX11_addsToGroup_76 : decode cX11_addsToGroup 76 = .ok (.iinc 4 1, 3) := by decide +kernel
theorem dX11_addsToGroup_79 : decode cX11_addsToGroup 79 = .ok (.goto (-30), 3) := by decide +kernel
theorem dX11_addsToGroup_82 : decode cX11_addsToGroup 82 = .ok (.iload_n 3, 1) := by decide +kernel
theorem dX11_addsToGroup_83 : decode cX11_addsToGroup 83 = .ok (.iconst (-1), 1) := by decide +kernel
theorem dX11_addsToGroup_84 : decode cX11_addsToGroup 84 = .ok (.if_icmp .ne 39, 3) := by decide +kernel
theorem dX11_addsToGroup_87 : decode cX11_addsToGroup 87 = .ok (.aload_n 0, 1) := by decide +kernel
theorem dX11_addsToGroup_88 : decode cX11_addsToGroup 88 = .ok (.getfield 432, 3) := by decide +kernel
theorem dX11_addsToGroup_91 : decode cX11_addsToGroup 91 = .ok (.istore_n 3, 1) := by decide +kernel
theorem dX11_addsToGroup_92 : decode cX11_addsToGroup 92 = .ok (.aload_n 0, 1) := by decide +kernel
theorem dX11_addsToGroup_93 : decode cX11_addsToGroup 93 = .ok (.getfield 171, 3) := by decide +kernel
theorem dX11_addsToGroup_96 : decode cX11_addsToGroup 96 = .ok (.iload_n 3, 1) := by decide +kernel
theorem dX11_addsToGroup_97 : decode cX11_addsToGroup 97 = .ok (.iload_n 1, 1) := by decide +kernel
theorem dX11_addsToGroup_98 : decode cX11_addsToGroup 98 = .ok (.iastore, 1) := by decide +kernel
theorem dX11_addsToGroup_99 : decode cX11_addsToGroup 99 = .ok (.aload_n 0, 1) := by decide +kernel
theorem dX11_addsToGroup_100 : decode cX11_addsToGroup 100 = .ok (.getfield 174, 3) := by decide +kernel
theorem dX11_addsToGroup_103 : decode cX11_addsToGroup 103 = .ok (.iload_n 3, 1) := by decide +kernel
theorem dX11_addsToGroup_104 : decode cX11_addsToGroup 104 = .ok (.iconst 0, 1) := by decide +kernel
theorem dX11_addsToGroup_105 : decode cX11_addsToGroup 105 = .ok (.iastore, 1) := by decide +kernel
theorem dX11_addsToGroup_106 : decode cX11_addsToGroup 106 = .ok (.aload_n 0, 1) := by decide +kernel
theorem dX11_addsToGroup_107 : decode cX11_addsToGroup 107 = .ok (.getfield 177, 3) := by decide +kernel
theorem dX11_addsToGroup_110 : decode cX11_addsToGroup 110 = .ok (.iload_n 3, 1) := by decide +kernel
theorem dX11_addsToGroup_111 : decode cX11_addsToGroup 111 = .ok (.iconst 0, 1) := by decide +kernel
theorem dX11_addsToGroup_112 : decode cX11_addsToGroup 112 = .ok (.iastore, 1) := by decide +kernel
theorem dX11_addsToGroup_113 : decode cX11_addsToGroup 113 = .ok (.aload_n 0, 1) := by decide +kernel
theorem dX11_addsToGroup_114 : decode cX11_addsToGroup 114 = .ok (.dup, 1) := by decide +kernel
theorem dX11_addsToGroup_115 : decode cX11_addsToGroup 115 = .ok (.getfield 432, 3) := by decide +kernel
theorem dX11_addsToGroup_118 : decode cX11_addsToGroup 118 = .ok (.iconst 1, 1) := by decide +kernel
theorem dX11_addsToGroup_119 : decode cX11_addsToGroup 119 = .ok (.iadd, 1) := by decide +kernel
theorem dX11_addsToGroup_120 : decode cX11_addsToGroup 120 = .ok (.putfield 432, 3) := by decide +kernel
theorem dX11_addsToGroup_123 : decode cX11_addsToGroup 123 = .ok (.aload_n 0, 1) := by decide +kernel
theorem dX11_addsToGroup_124 : decode cX11_addsToGroup 124 = .ok (.getfield 174, 3) := by decide +kernel
theorem dX11_addsToGroup_127 : decode cX11_addsToGroup 127 = .ok (.iload_n 3, 1) := by decide +kernel
theorem dX11_addsToGroup_128 : decode cX11_addsToGroup 128 = .ok (.dup2, 1) := by decide +kernel
theorem dX11_addsToGroup_129 : decode cX11_addsToGroup 129 = .ok (.iaload, 1) := by decide +kernel
theorem dX11_addsToGroup_130 : decode cX11_addsToGroup 130 = .ok (.iconst 1, 1) := by decide +kernel
theorem dX11_addsToGroup_131 : decode cX11_addsToGroup 131 = .ok (.iadd, 1) := by decide +kernel
theorem dX11_addsToGroup_132 : decode cX11_addsToGroup 132 = .ok (.iastore, 1) := by decide +kernel
theorem dX11_addsToGroup_133 : decode cX11_addsToGroup 133 = .ok (.aload_n 0, 1) := by decide +kernel
theorem dX11_addsToGroup_134 : decode cX11_addsToGroup 134 = .ok (.getfield 177, 3) := by decide +kernel
theorem dX11_addsToGroup_137 : decode cX11_addsToGroup 137 = .ok (.iload_n 3, 1) := by decide +kernel
theorem dX11_addsToGroup_138 : decode cX11_addsToGroup 138 = .ok (.dup2, 1) := by decide +kernel
theorem dX11_addsToGroup_139 : decode cX11_addsToGroup 139 = .ok (.iaload, 1) := by decide +kernel
theorem dX11_addsToGroup_140 : decode cX11_addsToGroup 140 = .ok (.iload_n 2, 1) := by decide +kernel
theorem dX11_addsToGroup_141 : decode cX11_addsToGroup 141 = .ok (.invokestatic 228, 3) := by decide +kernel
theorem dX11_addsToGroup_144 : decode cX11_addsToGroup 144 = .ok (.ifCond .eq 7, 3) := by decide +kernel
theorem dX11_addsToGroup_147 : decode cX11_addsToGroup 147 = .ok (.iload_n 2, 1) := by decide +kernel
theorem dX11_addsToGroup_148 : decode cX11_addsToGroup 148 = .ok (.goto 4, 3) := by decide +kernel
theorem dX11_addsToGroup_151 : decode cX11_addsToGroup 151 = .ok (.iconst 0, 1) := by decide +kernel
theorem dX11_addsToGroup_152 : decode cX11_addsToGroup 152 = .ok (.iadd, 1) := by decide +kernel
theorem dX11_addsToGroup_153 : decode cX11_addsToGroup 153 = .ok (.iastore, 1) := by decide +kernel
theorem dX11_addsToGroup_154 : decode cX11_addsToGroup 154 = .ok (.return_, 1) := by decide +kernel
theorem dX11_rankOf_0 : decode cX11_rankOf 0 = .ok (.iload_n 0, 1) := by decide +kernel
theorem dX11_rankOf_1 : decode cX11_rankOf 1 = .ok (.sipush 5001, 3) := by decide +kernel
theorem dX11_rankOf_4 : decode cX11_rankOf 4 = .ok (.if_icmp .ne 9, 3) := by decide +kernel
theorem dX11_rankOf_7 : decode cX11_rankOf 7 = .ok (.sipush (-2000), 3) := by decide +kernel
theorem dX11_rankOf_10 : decode cX11_rankOf 10 = .ok (.goto 17, 3) := by decide +kernel
theorem dX11_rankOf_13 : decode cX11_rankOf 13 = .ok (.iload_n 0, 1) := by decide +kernel
theorem dX11_rankOf_14 : decode cX11_rankOf 14 = .ok (.sipush 5000, 3) := by decide +kernel
theorem dX11_rankOf_17 : decode cX11_rankOf 17 = .ok (.if_icmp .ne 9, 3) := by decide +kernel
theorem dX11_rankOf_20 : decode cX11_rankOf 20 = .ok (.sipush (-1500), 3) := by decide +kernel
theorem dX11_rankOf_23 : decode cX11_rankOf 23 = .ok (.goto 4, 3) := by decide +kernel
theorem dX11_rankOf_26 : decode cX11_rankOf 26 = .ok (.iload_n 0, 1) := by decide +kernel
theorem dX11_rankOf_27 : decode cX11_rankOf 27 = .ok (.ireturn, 1) := by decide +kernel
theorem dX11_makesGroups_0 : decode cX11_makesGroups 0 = .ok (.aload_n 0, 1) := by decide +kernel
theorem dX11_makesGroups_1 : decode cX11_makesGroups 1 = .ok (.iconst 0, 1) := by decide +kernel
theorem dX11_makesGroups_2 : decode cX11_makesGroups 2 = .ok (.putfield 429, 3) := by decide +kernel
theorem dX11_makesGroups_5 : decode cX11_makesGroups 5 = .ok (.iconst 0, 1) := by decide +kernel
theorem dX11_makesGroups_6 : decode cX11_makesGroups 6 = .ok (.istore_n 1, 1) := by decide +kernel
theorem dX11_makesGroups_7 : decode cX11_makesGroups 7 = .ok (.iload_n 1, 1) := by decide +kernel
theorem dX11_makesGroups_8 : decode cX11_makesGroups 8 = .ok (.aload_n 0, 1) := by decide +kernel
theorem dX11_makesGroups_9 : decode cX11_makesGroups 9 = .ok (.getfield 432, 3) := by decide +kernel
theorem dX11_makesGroups_12 : decode cX11_makesGroups 12 = .ok (.if_icmp .ge 141, 3) := by decide +kernel
theorem dX11_makesGroups_15 : decode cX11_makesGroups 15 = .ok (.iload_n 1, 1) := by decide +kernel
theorem dX11_makesGroups_16 : decode cX11_makesGroups 16 = .ok (.aload_n 0, 1) := by decide +kernel
theorem dX11_makesGroups_17 : decode cX11_makesGroups 17 = .ok (.getfield 98, 3) := by decide +kernel
theorem dX11_makesGroups_20 : decode cX11_makesGroups 20 = .ok (.if_icmp .ge 133, 3) := by decide +kernel
theorem dX11_makesGroups_23 : decode cX11_makesGroups 23 = .ok (.iconst 0, 1) := by decide +kernel
theorem dX11_makesGroups_24 : decode cX11_makesGroups 24 = .ok (.istore_n 2, 1) := by decide +kernel
theorem dX11_makesGroups_25 : decode cX11_makesGroups 25 = .ok (.iload_n 2, 1) := by decide +kernel
theorem dX11_makesGroups_26 : decode cX11_makesGroups 26 = .ok (.aload_n 0, 1) := by decide +kernel
theorem dX11_makesGroups_27 : decode cX11_makesGroups 27 = .ok (.getfield 432, 3) := by decide +kernel
theorem dX11_makesGroups_30 : decode cX11_makesGroups 30 = .ok (.if_icmp .ge 117, 3) := by decide +kernel
theorem dX11_makesGroups_33 : decode cX11_makesGroups 33 = .ok (.iconst 0, 1) := by decide +kernel
theorem dX11_makesGroups_34 : decode cX11_makesGroups 34 = .ok (.istore_n 3, 1) := by decide +kernel
theorem dX11_makesGroups_35 : decode cX11_makesGroups 35 = .ok (.iconst 0, 1) := by decide +kernel
theorem dX11_makesGroups_36 : decode cX11_makesGroups 36 = .ok (.istore 4, 2) := by decide +kernel
theorem dX11_makesGroups_38 : decode cX11_makesGroups 38 = .ok (.iload 4, 2) := by decide +kernel
theorem dX11_makesGroups_40 : decode cX11_makesGroups 40 = .ok (.aload_n 0, 1) := by decide +kernel
theorem dX11_makesGroups_41 : decode cX11_makesGroups 41 = .ok (.getfield 432, 3) := by decide +kernel
theorem dX11_makesGroups_44 : decode cX11_makesGroups 44 = .ok (.if_icmp .ge 39, 3) := by decide +kernel
theorem dX11_makesGroups_47 : decode cX11_makesGroups 47 = .ok (.iload_n 3, 1) := by decide +kernel
theorem dX11_makesGroups_48 : decode cX11_makesGroups 48 = .ok (.aload_n 0, 1) := by decide +kernel
theorem dX11_makesGroups_49 : decode cX11_makesGroups 49 = .ok (.getfield 171, 3) := by decide +kernel
theorem dX11_makesGroups_52 : decode cX11_makesGroups 52 = .ok (.iload 4, 2) := by decide +kernel
theorem dX11_makesGroups_54 : decode cX11_makesGroups 54 = .ok (.iaload, 1) := by decide +kernel
theorem dX11_makesGroups_55 : decode cX11_makesGroups 55 = .ok (.invokestatic 435, 3) := by decide +kernel
theorem dX11_makesGroups_58 : decode cX11_makesGroups 58 = .ok (.aload_n 0, 1) := by decide +kernel
theorem dX11_makesGroups_59 : decode cX11_makesGroups 59 = .ok (.getfield 171, 3) := by decide +kernel
theorem dX11_makesGroups_62 : decode cX11_makesGroups 62 = .ok (.iload_n 2, 1) := by decide +kernel
theorem dX11_makesGroups_63 : decode cX11_makesGroups 63 = .ok (.iaload, 1) := by decide +kernel
theorem dX11_makesGroups_64 : decode cX11_makesGroups 64 = .ok (.invokestatic 435, 3) := by decide +kernel
theorem dX11_makesGroups_67 : decode cX11_makesGroups 67 = .ok (.if_icmp .ge 7, 3) := by decide +kernel
theorem dX11_makesGroups_70 : decode cX11_makesGroups 70 = .ok (.iconst 1, 1) := by decide +kernel
theorem dX11_makesGroups_71 : decode cX11_makesGroups 71 = .ok (.goto 4, 3) := by decide +kernel
theorem dX11_makesGroups_74 : decode cX11_makesGroups 74 = .ok (.iconst 0, 1) := by decide +kernel
theorem dX11_makesGroups_75 : decode cX11_makesGroups 75 = .ok (.iadd, 1) := by decide +kernel
theorem dX11_makesGroups_76 : decode cX11_makesGroups 76 = .ok (.istore_n 3, 1) := by decide +kernel
theorem dX11_makesGroups_77 : decode cX11_makesGroups 77 = .ok (.iinc 4 1, 3) := by decide +kernel
theorem dX11_makesGroups_80 : decode cX11_makesGroups 80 = .ok (.goto (-42), 3) := by decide +kernel
theorem dX11_makesGroups_83 : decode cX11_makesGroups 83 = .ok (.iload_n 3, 1) := by decide +kernel
theorem dX11_makesGroups_84 : decode cX11_makesGroups 84 = .ok (.iload_n 1, 1) := by decide +kernel
theorem dX11_makesGroups_85 : decode cX11_makesGroups 85 = .ok (.if_icmp .ne 56, 3) := by decide +kernel
theorem dX11_makesGroups_88 : decode cX11_makesGroups 88 = .ok (.aload_n 0, 1) := by decide +kernel
theorem dX11_makesGroups_89 : decode cX11_makesGroups 89 = .ok (.getfield 168, 3) := by decide +kernel
theorem dX11_makesGroups_92 : decode cX11_makesGroups 92 = .ok (.iconst 3, 1) := by decide +kernel
theorem dX11_makesGroups_93 : decode cX11_makesGroups 93 = .ok (.iload_n 1, 1) := by decide +kernel
theorem dX11_makesGroups_94 : decode cX11_makesGroups 94 = .ok (.imul, 1) := by decide +kernel
theorem dX11_makesGroups_95 : decode cX11_makesGroups 95 = .ok (.aload_n 0, 1) := by decide +kernel
theorem dX11_makesGroups_96 : decode cX11_makesGroups 96 = .ok (.getfield 171, 3) := by decide +kernel
theorem dX11_makesGroups_99 : decode cX11_makesGroups 99 = .ok (.iload_n 2, 1) := by decide +kernel
theorem dX11_makesGroups_100 : decode cX11_makesGroups 100 = .ok (.iaload, 1) := by decide +kernel
theorem dX11_makesGroups_101 : decode cX11_makesGroups 101 = .ok (.iastore, 1) := by decide +kernel
theorem dX11_makesGroups_102 : decode cX11_makesGroups 102 = .ok (.aload_n 0, 1) := by decide +kernel
theorem dX11_makesGroups_103 : decode cX11_makesGroups 103 = .ok (.getfield 168, 3) := by decide +kernel
theorem dX11_makesGroups_106 : decode cX11_makesGroups 106 = .ok (.iconst 3, 1) := by decide +kernel
theorem dX11_makesGroups_107 : decode cX11_makesGroups 107 = .ok (.iload_n 1, 1) := by decide +kernel
theorem dX11_makesGroups_108 : decode cX11_makesGroups 108 = .ok (.imul, 1) := by decide +kernel
theorem dX11_makesGroups_109 : decode cX11_makesGroups 109 = .ok (.iconst 1, 1) := by decide +kernel
theorem dX11_makesGroups_110 : decode cX11_makesGroups 110 = .ok (.iadd, 1) := by decide +kernel
theorem dX11_makesGroups_111 : decode cX11_makesGroups 111 = .ok (.aload_n 0, 1) := by decide +kernel
theorem dX11_makesGroups_112 : decode cX11_makesGroups 112 = .ok (.getfield 174, 3) := by decide +kernel
theorem dX11_makesGroups_115 : decode cX11_makesGroups 115 = .ok (.iload_n 2, 1) := by decide +kernel
theorem dX11_makesGroups_116 : decode cX11_makesGroups 116 = .ok (.iaload, 1) := by decide +kernel
theorem dX11_makesGroups_117 : decode cX11_makesGroups 117 = .ok (.iastore, 1) := by decide +kernel
theorem dX11_makesGroups_118 : decode cX11_makesGroups 118 = .ok (.aload_n 0, 1) := by decide +kernel
theorem dX11_makesGroups_119 : decode cX11_makesGroups 119 = .ok (.getfield 168, 3) := by decide +kernel
theorem dX11_makesGroups_122 : decode cX11_makesGroups 122 = .ok (.iconst 3, 1) := by decide +kernel
theorem dX11_makesGroups_123 : decode cX11_makesGroups 123 = .ok (.iload_n 1, 1) := by decide +kernel
theorem dX11_makesGroups_124 : decode cX11_makesGroups 124 = .ok (.imul, 1) := by decide +kernel
theorem dX11_makesGroups_125 : decode cX11_makesGroups 125 = .ok (.iconst 2, 1) := by decide +kernel
theorem dX11_makesGroups_126 : decode cX11_makesGroups 126 = .ok (.iadd, 1) := by decide +kernel
theorem dX11_makesGroups_127 : decode cX11_makesGroups 127 = .ok (.aload_n 0, 1) := by decide +kernel
theorem dX11_makesGroups_128 : decode cX11_makesGroups 128 = .ok (.getfield 177, 3) := by decide +kernel
theorem dX11_makesGroups_131 : decode cX11_makesGroups 131 = .ok (.iload_n 2, 1) := by decide +kernel
theorem dX11_makesGroups_132 : decode cX11_makesGroups 132 = .ok (.iaload, 1) := by decide +kernel
theorem dX11_makesGroups_133 : decode cX11_makesGroups 133 = .ok (.iastore, 1) := by decide +kernel
theorem dX11_makesGroups_134 : decode cX11_makesGroups 134 = .ok (.aload_n 0, 1) := by decide +kernel
theorem dX11_makesGroups_135 : decode cX11_makesGroups 135 = .ok (.iload_n 1, 1) := by decide +kernel
theorem dX11_makesGroups_136 : decode cX11_makesGroups 136 = .ok (.iconst 1, 1) := by decide +kernel
theorem dX11_makesGroups_137 : decode cX11_makesGroups 137 = .ok (.iadd, 1) := by decide +kernel
theorem dX11_makesGroups_138 : decode cX11_makesGroups 138 = .ok (.putfield 429, 3) := by decide +kernel
theorem dX11_makesGroups_141 : decode cX11_makesGroups 141 = .ok (.iinc 2 1, 3) := by decide +kernel
theorem dX11_makesGroups_144 : decode cX11_makesGroups 144 = .ok (.goto (-119), 3) := by decide +kernel
theorem dX11_makesGroups_147 : decode cX11_makesGroups 147 = .ok (.iinc 1 1, 3) := by decide +kernel
theorem dX11_makesGroups_150 : decode cX11_makesGroups 150 = .ok (.goto (-143), 3) := by decide +kernel
theorem dX11_makesGroups_153 : decode cX11_makesGroups 153 = .ok (.return_, 1) := by decide +kernel
theorem dX11_makes_0 : decode cX11_makes 0 = .ok (.iconst 1, 1) := by decide +kernel
theorem dX11_makes_1 : decode cX11_makes 1 = .ok (.istore_n 2, 1) := by decide +kernel
theorem dX11_makes_2 : decode cX11_makes 2 = .ok (.iconst 0, 1) := by decide +kernel
theorem dX11_makes_3 : decode cX11_makes 3 = .ok (.istore_n 3, 1) := by decide +kernel
theorem dX11_makes_4 : decode cX11_makes 4 = .ok (.iload_n 3, 1) := by decide +kernel
theorem dX11_makes_5 : decode cX11_makes 5 = .ok (.aload_n 0, 1) := by decide +kernel
theorem dX11_makes_6 : decode cX11_makes 6 = .ok (.getfield 299, 3) := by decide +kernel
theorem dX11_makes_9 : decode cX11_makes 9 = .ok (.if_icmp .ge 88, 3) := by decide +kernel
theorem dX11_makes_12 : decode cX11_makes 12 = .ok (.aload_n 0, 1) := by decide +kernel
theorem dX11_makes_13 : decode cX11_makes 13 = .ok (.getfield 159, 3) := by decide +kernel
theorem dX11_makes_16 : decode cX11_makes 16 = .ok (.iload_n 3, 1) := by decide +kernel
theorem dX11_makes_17 : decode cX11_makes 17 = .ok (.iconst 0, 1) := by decide +kernel
theorem dX11_makes_18 : decode cX11_makes 18 = .ok (.iastore, 1) := by decide +kernel
theorem dX11_makes_19 : decode cX11_makes 19 = .ok (.aload_n 0, 1) := by decide +kernel
theorem dX11_makes_20 : decode cX11_makes 20 = .ok (.getfield 165, 3) := by decide +kernel
theorem dX11_makes_23 : decode cX11_makes 23 = .ok (.iload_n 3, 1) := by decide +kernel
theorem dX11_makes_24 : decode cX11_makes 24 = .ok (.iconst 0, 1) := by decide +kernel
theorem dX11_makes_25 : decode cX11_makes 25 = .ok (.iastore, 1) := by decide +kernel
theorem dX11_makes_26 : decode cX11_makes 26 = .ok (.iconst 0, 1) := by decide +kernel
theorem dX11_makes_27 : decode cX11_makes 27 = .ok (.istore 4, 2) := by decide +kernel
theorem dX11_makes_29 : decode cX11_makes 29 = .ok (.iload 4, 2) := by decide +kernel
theorem dX11_makes_31 : decode cX11_makes 31 = .ok (.iload_n 1, 1) := by decide +kernel
theorem dX11_makes_32 : decode cX11_makes 32 = .ok (.ifCond .eq 12, 3) := by decide +kernel
theorem dX11_makes_35 : decode cX11_makes 35 = .ok (.aload_n 0, 1) := by decide +kernel
theorem dX11_makes_36 : decode cX11_makes 36 = .ok (.getfield 141, 3) := by decide +kernel
theorem dX11_makes_39 : decode cX11_makes 39 = .ok (.iload_n 3, 1) := by decide +kernel
theorem dX11_makes_40 : decode cX11_makes 40 = .ok (.iaload, 1) := by decide +kernel
theorem dX11_makes_41 : decode cX11_makes 41 = .ok (.goto 14, 3) := by decide +kernel
theorem dX11_makes_44 : decode cX11_makes 44 = .ok (.aload_n 0, 1) := by decide +kernel
theorem dX11_makes_45 : decode cX11_makes 45 = .ok (.getfield 7, 3) := by decide +kernel
theorem dX11_makes_48 : decode cX11_makes 48 = .ok (.aload_n 0, 1) := by decide +kernel
theorem dX11_makes_49 : decode cX11_makes 49 = .ok (.getfield 65, 3) := by decide +kernel
theorem dX11_makes_52 : decode cX11_makes 52 = .ok (.iload_n 3, 1) := by decide +kernel
theorem dX11_makes_53 : decode cX11_makes 53 = .ok (.iaload, 1) := by decide +kernel
theorem dX11_makes_54 : decode cX11_makes 54 = .ok (.iaload, 1) := by decide +kernel
theorem dX11_makes_55 : decode cX11_makes 55 = .ok (.if_icmp .ge 17, 3) := by decide +kernel
theorem dX11_makes_58 : decode cX11_makes 58 = .ok (.aload_n 0, 1) := by decide +kernel
theorem dX11_makes_59 : decode cX11_makes 59 = .ok (.iload_n 3, 1) := by decide +kernel
theorem dX11_makes_60 : decode cX11_makes 60 = .ok (.iload_n 1, 1) := by decide +kernel
theorem dX11_makes_61 : decode cX11_makes 61 = .ok (.iload 4, 2) := by decide +kernel
theorem dX11_makes_63 : decode cX11_makes 63 = .ok (.invokevirtual 438, 3) := by decide +kernel
theorem dX11_makes_66 : decode cX11_makes 66 = .ok (.iinc 4 1, 3) := by decide +kernel
theorem dX11_makes_69 : decode cX11_makes 69 = .ok (.goto (-40), 3) := by decide +kernel
theorem dX11_makes_72 : decode cX11_makes 72 = .ok (.iload_n 2, 1) := by decide +kernel
theorem dX11_makes_73 : decode cX11_makes 73 = .ok (.ifCond .eq 16, 3) := by decide +kernel
theorem dX11_makes_76 : decode cX11_makes 76 = .ok (.aload_n 0, 1) := by decide +kernel
theorem dX11_makes_77 : decode cX11_makes 77 = .ok (.getfield 159, 3) := by decide +kernel
theorem dX11_makes_80 : decode cX11_makes 80 = .ok (.iload_n 3, 1) := by decide +kernel
theorem dX11_makes_81 : decode cX11_makes 81 = .ok (.iaload, 1) := by decide +kernel
theorem dX11_makes_82 : decode cX11_makes 82 = .ok (.ifCond .le 7, 3) := by decide +kernel
theorem dX11_makes_85 : decode cX11_makes 85 = .ok (.iconst 1, 1) := by decide +kernel
theorem dX11_makes_86 : decode cX11_makes 86 = .ok (.goto 4, 3) := by decide +kernel
theorem dX11_makes_89 : decode cX11_makes 89 = .ok (.iconst 0, 1) := by decide +kernel
theorem dX11_makes_90 : decode cX11_makes 90 = .ok (.istore_n 2, 1) := by decide +kernel
theorem dX11_makes_91 : decode cX11_makes 91 = .ok (.iinc 3 1, 3) := by decide +kernel
theorem dX11_makes_94 : decode cX11_makes 94 = .ok (.goto (-90), 3) := by decide +kernel
theorem dX11_makes_97 : decode cX11_makes 97 = .ok (.aload_n 0, 1) := by decide +kernel
theorem dX11_makes_98 : decode cX11_makes 98 = .ok (.iconst 0, 1) := by decide +kernel
theorem dX11_makes_99 : decode cX11_makes 99 = .ok (.putfield 429, 3) := by decide +kernel
theorem dX11_makes_102 : decode cX11_makes 102 = .ok (.aload_n 0, 1) := by decide +kernel
theorem dX11_makes_103 : decode cX11_makes 103 = .ok (.iconst 0, 1) := by decide +kernel
theorem dX11_makes_104 : decode cX11_makes 104 = .ok (.putfield 432, 3) := by decide +kernel
theorem dX11_makes_107 : decode cX11_makes 107 = .ok (.aload_n 0, 1) := by decide +kernel
theorem dX11_makes_108 : decode cX11_makes 108 = .ok (.aload_n 0, 1) := by decide +kernel
theorem dX11_makes_109 : decode cX11_makes 109 = .ok (.getfield 317, 3) := by decide +kernel
theorem dX11_makes_112 : decode cX11_makes 112 = .ok (.ifCond .eq 7, 3) := by decide +kernel
theorem dX11_makes_115 : decode cX11_makes 115 = .ok (.iconst 3, 1) := by decide +kernel
theorem dX11_makes_116 : decode cX11_makes 116 = .ok (.goto 7, 3) := by decide +kernel
theorem dX11_makes_119 : decode cX11_makes 119 = .ok (.aload_n 0, 1) := by decide +kernel
theorem dX11_makes_120 : decode cX11_makes 120 = .ok (.getfield 314, 3) := by decide +kernel
theorem dX11_makes_123 : decode cX11_makes 123 = .ok (.putfield 442, 3) := by decide +kernel
theorem dX11_makes_126 : decode cX11_makes 126 = .ok (.iload_n 2, 1) := by decide +kernel
theorem dX11_makes_127 : decode cX11_makes 127 = .ok (.ifCond .eq 43, 3) := by decide +kernel
theorem dX11_makes_130 : decode cX11_makes 130 = .ok (.aload_n 0, 1) := by decide +kernel
theorem dX11_makes_131 : decode cX11_makes 131 = .ok (.invokevirtual 445, 3) := by decide +kernel
theorem dX11_makes_134 : decode cX11_makes 134 = .ok (.ifCond .eq 17, 3) := by decide +kernel
theorem dX11_makes_137 : decode cX11_makes 137 = .ok (.aload_n 0, 1) := by decide +kernel
theorem dX11_makes_138 : decode cX11_makes 138 = .ok (.getfield 317, 3) := by decide +kernel
theorem dX11_makes_141 : decode cX11_makes 141 = .ok (.ifCond .eq 10, 3) := by decide +kernel
theorem dX11_makes_144 : decode cX11_makes 144 = .ok (.aload_n 0, 1) := by decide +kernel
theorem dX11_makes_145 : decode cX11_makes 145 = .ok (.invokevirtual 449, 3) := by decide +kernel
theorem dX11_makes_148 : decode cX11_makes 148 = .ok (.goto 14, 3) := by decide +kernel
theorem dX11_makes_151 : decode cX11_makes 151 = .ok (.aload_n 0, 1) := by decide +kernel
theorem dX11_makes_152 : decode cX11_makes 152 = .ok (.invokevirtual 445, 3) := by decide +kernel
theorem dX11_makes_155 : decode cX11_makes 155 = .ok (.ifCond .eq 7, 3) := by decide +kernel
theorem dX11_makes_158 : decode cX11_makes 158 = .ok (.aload_n 0, 1) := by decide +kernel
theorem dX11_makes_159 : decode cX11_makes 159 = .ok (.invokevirtual 452, 3) := by decide +kernel
theorem dX11_makes_162 : decode cX11_makes 162 = .ok (.aload_n 0, 1) := by decide +kernel
theorem dX11_makes_163 : decode cX11_makes 163 = .ok (.invokevirtual 455, 3) := by decide +kernel
theorem dX11_makes_166 : decode cX11_makes 166 = .ok (.istore_n 2, 1) := by decide +kernel
theorem dX11_makes_167 : decode cX11_makes 167 = .ok (.goto (-41), 3) := by decide +kernel
theorem dX11_makes_170 : decode cX11_makes 170 = .ok (.aload_n 0, 1) := by decide +kernel
theorem dX11_makes_171 : decode cX11_makes 171 = .ok (.getfield 317, 3) := by decide +kernel
theorem dX11_makes_174 : decode cX11_makes 174 = .ok (.ifCond .eq 7, 3) := by decide +kernel
theorem dX11_makes_177 : decode cX11_makes 177 = .ok (.aload_n 0, 1) := by decide +kernel
theorem dX11_makes_178 : decode cX11_makes 178 = .ok (.invokevirtual 458, 3) := by decide +kernel
theorem dX11_makes_181 : decode cX11_makes 181 = .ok (.return_, 1) := by decide +kernel
theorem dX11_isDrafted_0 : decode cX11_isDrafted 0 = .ok (.aload_n 0, 1) := by decide +kernel
theorem dX11_isDrafted_1 : decode cX11_isDrafted 1 = .ok (.getfield 299, 3) := by decide +kernel
theorem dX11_isDrafted_4 : decode cX11_isDrafted 4 = .ok (.ifCond .le 14, 3) := by decide +kernel
theorem dX11_isDrafted_7 : decode cX11_isDrafted 7 = .ok (.aload_n 0, 1) := by decide +kernel
theorem dX11_isDrafted_8 : decode cX11_isDrafted 8 = .ok (.getfield 314, 3) := by decide +kernel
theorem dX11_isDrafted_11 : decode cX11_isDrafted 11 = .ok (.ifCond .le 7, 3) := by decide +kernel
theorem dX11_isDrafted_14 : decode cX11_isDrafted 14 = .ok (.iconst 1, 1) := by decide +kernel
theorem dX11_isDrafted_15 : decode cX11_isDrafted 15 = .ok (.goto 4, 3) := by decide +kernel
theorem dX11_isDrafted_18 : decode cX11_isDrafted 18 = .ok (.iconst 0, 1) := by decide +kernel
theorem dX11_isDrafted_19 : decode cX11_isDrafted 19 = .ok (.ireturn, 1) := by decide +kernel
theorem dX11_claimed_0 : decode cX11_claimed 0 = .ok (.iconst 0, 1) := by decide +kernel
theorem dX11_claimed_1 : decode cX11_claimed 1 = .ok (.istore_n 1, 1) := by decide +kernel
theorem dX11_claimed_2 : decode cX11_claimed 2 = .ok (.aload_n 0, 1) := by decide +kernel
theorem dX11_claimed_3 : decode cX11_claimed 3 = .ok (.getfield 242, 3) := by decide +kernel
theorem dX11_claimed_6 : decode cX11_claimed 6 = .ok (.istore_n 2, 1) := by decide +kernel
theorem dX11_claimed_7 : decode cX11_claimed 7 = .ok (.iconst 0, 1) := by decide +kernel
theorem dX11_claimed_8 : decode cX11_claimed 8 = .ok (.istore_n 3, 1) := by decide +kernel
theorem dX11_claimed_9 : decode cX11_claimed 9 = .ok (.iload_n 3, 1) := by decide +kernel
theorem dX11_claimed_10 : decode cX11_claimed 10 = .ok (.aload_n 0, 1) := by decide +kernel
theorem dX11_claimed_11 : decode cX11_claimed 11 = .ok (.getfield 299, 3) := by decide +kernel
theorem dX11_claimed_14 : decode cX11_claimed 14 = .ok (.if_icmp .ge 51, 3) := by decide +kernel
theorem dX11_claimed_17 : decode cX11_claimed 17 = .ok (.aload_n 0, 1) := by decide +kernel
theorem dX11_claimed_18 : decode cX11_claimed 18 = .ok (.getfield 150, 3) := by decide +kernel
theorem dX11_claimed_21 : decode cX11_claimed 21 = .ok (.iload_n 3, 1) := by decide +kernel
theorem dX11_claimed_22 : decode cX11_claimed 22 = .ok (.iaload, 1) := by decide +kernel
theorem dX11_claimed_23 : decode cX11_claimed 23 = .ok (.iload_n 1, 1) := by decide +kernel
theorem dX11_claimed_24 : decode cX11_claimed 24 = .ok (.if_icmp .le 12, 3) := by decide +kernel
theorem dX11_claimed_27 : decode cX11_claimed 27 = .ok (.aload_n 0, 1) := by decide +kernel
theorem dX11_claimed_28 : decode cX11_claimed 28 = .ok (.getfield 150, 3) := by decide +kernel
theorem dX11_claimed_31 : decode cX11_claimed 31 = .ok (.iload_n 3, 1) := by decide +kernel
theorem dX11_claimed_32 : decode cX11_claimed 32 = .ok (.iaload, 1) := by decide +kernel
theorem dX11_claimed_33 : decode cX11_claimed 33 = .ok (.goto 4, 3) := by decide +kernel
theorem dX11_claimed_36 : decode cX11_claimed 36 = .ok (.iload_n 1, 1) := by decide +kernel
theorem dX11_claimed_37 : decode cX11_claimed 37 = .ok (.istore_n 1, 1) := by decide +kernel
theorem dX11_claimed_38 : decode cX11_claimed 38 = .ok (.aload_n 0, 1) := by decide +kernel
theorem dX11_claimed_39 : decode cX11_claimed 39 = .ok (.getfield 153, 3) := by decide +kernel
theorem dX11_claimed_42 : decode cX11_claimed 42 = .ok (.iload_n 3, 1) := by decide +kernel
theorem dX11_claimed_43 : decode cX11_claimed 43 = .ok (.iaload, 1) := by decide +kernel
theorem dX11_claimed_44 : decode cX11_claimed 44 = .ok (.iload_n 2, 1) := by decide +kernel
theorem dX11_claimed_45 : decode cX11_claimed 45 = .ok (.if_icmp .ge 12, 3) := by decide +kernel
theorem dX11_claimed_48 : decode cX11_claimed 48 = .ok (.aload_n 0, 1) := by decide +kernel
theorem dX11_claimed_49 : decode cX11_claimed 49 = .ok (.getfield 153, 3) := by decide +kernel
theorem dX11_claimed_52 : decode cX11_claimed 52 = .ok (.iload_n 3, 1) := by decide +kernel
theorem dX11_claimed_53 : decode cX11_claimed 53 = .ok (.iaload, 1) := by decide +kernel
theorem dX11_claimed_54 : decode cX11_claimed 54 = .ok (.goto 4, 3) := by decide +kernel
theorem dX11_claimed_57 : decode cX11_claimed 57 = .ok (.iload_n 2, 1) := by decide +kernel
theorem dX11_claimed_58 : decode cX11_claimed 58 = .ok (.istore_n 2, 1) := by decide +kernel
theorem dX11_claimed_59 : decode cX11_claimed 59 = .ok (.iinc 3 1, 3) := by decide +kernel
theorem dX11_claimed_62 : decode cX11_claimed 62 = .ok (.goto (-53), 3) := by decide +kernel
theorem dX11_claimed_65 : decode cX11_claimed 65 = .ok (.aload_n 0, 1) := by decide +kernel
theorem dX11_claimed_66 : decode cX11_claimed 66 = .ok (.getfield 420, 3) := by decide +kernel
theorem dX11_claimed_69 : decode cX11_claimed 69 = .ok (.ifCond .ne 12, 3) := by decide +kernel
theorem dX11_claimed_72 : decode cX11_claimed 72 = .ok (.iload_n 1, 1) := by decide +kernel
theorem dX11_claimed_73 : decode cX11_claimed 73 = .ok (.iload_n 2, 1) := by decide +kernel
theorem dX11_claimed_74 : decode cX11_claimed 74 = .ok (.if_icmp .gt 7, 3) := by decide +kernel
theorem dX11_claimed_77 : decode cX11_claimed 77 = .ok (.iload_n 2, 1) := by decide +kernel
theorem dX11_claimed_78 : decode cX11_claimed 78 = .ok (.goto 4, 3) := by decide +kernel
theorem dX11_claimed_81 : decode cX11_claimed 81 = .ok (.iconst (-1), 1) := by decide +kernel
theorem dX11_claimed_82 : decode cX11_claimed 82 = .ok (.ireturn, 1) := by decide +kernel
theorem dX11_ask_0 : decode cX11_ask 0 = .ok (.aload_n 0, 1) := by decide +kernel
theorem dX11_ask_1 : decode cX11_ask 1 = .ok (.iload_n 1, 1) := by decide +kernel
theorem dX11_ask_2 : decode cX11_ask 2 = .ok (.iconst 0, 1) := by decide +kernel
theorem dX11_ask_3 : decode cX11_ask 3 = .ok (.sipush 200, 3) := by decide +kernel
theorem dX11_ask_6 : decode cX11_ask 6 = .ok (.invokestatic 216, 3) := by decide +kernel
theorem dX11_ask_9 : decode cX11_ask 9 = .ok (.ifCond .eq 14, 3) := by decide +kernel
theorem dX11_ask_12 : decode cX11_ask 12 = .ok (.iload_n 2, 1) := by decide +kernel
theorem dX11_ask_13 : decode cX11_ask 13 = .ok (.iconst 0, 1) := by decide +kernel
theorem dX11_ask_14 : decode cX11_ask 14 = .ok (.sipush 200, 3) := by decide +kernel
theorem dX11_ask_17 : decode cX11_ask 17 = .ok (.invokestatic 216, 3) := by decide +kernel
theorem dX11_ask_20 : decode cX11_ask 20 = .ok (.ifCond .ne 7, 3) := by decide +kernel
theorem dX11_ask_23 : decode cX11_ask 23 = .ok (.iconst 1, 1) := by decide +kernel
theorem dX11_ask_24 : decode cX11_ask 24 = .ok (.goto 15, 3) := by decide +kernel
theorem dX11_ask_27 : decode cX11_ask 27 = .ok (.aload_n 0, 1) := by decide +kernel
theorem dX11_ask_28 : decode cX11_ask 28 = .ok (.invokevirtual 461, 3) := by decide +kernel
theorem dX11_ask_31 : decode cX11_ask 31 = .ok (.ifCond .eq 7, 3) := by decide +kernel
theorem dX11_ask_34 : decode cX11_ask 34 = .ok (.iconst 0, 1) := by decide +kernel
theorem dX11_ask_35 : decode cX11_ask 35 = .ok (.goto 4, 3) := by decide +kernel
theorem dX11_ask_38 : decode cX11_ask 38 = .ok (.iconst 2, 1) := by decide +kernel
theorem dX11_ask_39 : decode cX11_ask 39 = .ok (.putfield 213, 3) := by decide +kernel
theorem dX11_ask_42 : decode cX11_ask 42 = .ok (.aload_n 0, 1) := by decide +kernel
theorem dX11_ask_43 : decode cX11_ask 43 = .ok (.getfield 213, 3) := by decide +kernel
theorem dX11_ask_46 : decode cX11_ask 46 = .ok (.ifCond .le 5, 3) := by decide +kernel
theorem dX11_ask_49 : decode cX11_ask 49 = .ok (.iconst 0, 1) := by decide +kernel
theorem dX11_ask_50 : decode cX11_ask 50 = .ok (.ireturn, 1) := by decide +kernel
theorem dX11_ask_51 : decode cX11_ask 51 = .ok (.aload_n 0, 1) := by decide +kernel
theorem dX11_ask_52 : decode cX11_ask 52 = .ok (.aload_n 0, 1) := by decide +kernel
theorem dX11_ask_53 : decode cX11_ask 53 = .ok (.getfield 235, 3) := by decide +kernel
theorem dX11_ask_56 : decode cX11_ask 56 = .ok (.putfield 330, 3) := by decide +kernel
theorem dX11_ask_59 : decode cX11_ask 59 = .ok (.aload_n 0, 1) := by decide +kernel
theorem dX11_ask_60 : decode cX11_ask 60 = .ok (.iload_n 1, 1) := by decide +kernel
theorem dX11_ask_61 : decode cX11_ask 61 = .ok (.putfield 380, 3) := by decide +kernel
theorem dX11_ask_64 : decode cX11_ask 64 = .ok (.aload_n 0, 1) := by decide +kernel
theorem dX11_ask_65 : decode cX11_ask 65 = .ok (.iload_n 2, 1) := by decide +kernel
theorem dX11_ask_66 : decode cX11_ask 66 = .ok (.putfield 333, 3) := by decide +kernel
theorem dX11_ask_69 : decode cX11_ask 69 = .ok (.aload_n 0, 1) := by decide +kernel
theorem dX11_ask_70 : decode cX11_ask 70 = .ok (.iconst 0, 1) := by decide +kernel
theorem dX11_ask_71 : decode cX11_ask 71 = .ok (.putfield 420, 3) := by decide +kernel
theorem dX11_ask_74 : decode cX11_ask 74 = .ok (.aload_n 0, 1) := by decide +kernel
theorem dX11_ask_75 : decode cX11_ask 75 = .ok (.iconst 0, 1) := by decide +kernel
theorem dX11_ask_76 : decode cX11_ask 76 = .ok (.putfield 342, 3) := by decide +kernel
theorem dX11_ask_79 : decode cX11_ask 79 = .ok (.aload_n 0, 1) := by decide +kernel
theorem dX11_ask_80 : decode cX11_ask 80 = .ok (.iconst 0, 1) := by decide +kernel
theorem dX11_ask_81 : decode cX11_ask 81 = .ok (.putfield 336, 3) := by decide +kernel
theorem dX11_ask_84 : decode cX11_ask 84 = .ok (.aload_n 0, 1) := by decide +kernel
theorem dX11_ask_85 : decode cX11_ask 85 = .ok (.iconst 0, 1) := by decide +kernel
theorem dX11_ask_86 : decode cX11_ask 86 = .ok (.putfield 364, 3) := by decide +kernel
theorem dX11_ask_89 : decode cX11_ask 89 = .ok (.aload_n 0, 1) := by decide +kernel
theorem dX11_ask_90 : decode cX11_ask 90 = .ok (.iconst 0, 1) := by decide +kernel
theorem dX11_ask_91 : decode cX11_ask 91 = .ok (.putfield 423, 3) := by decide +kernel
theorem dX11_ask_94 : decode cX11_ask 94 = .ok (.iconst 0, 1) := by decide +kernel
theorem dX11_ask_95 : decode cX11_ask 95 = .ok (.istore_n 3, 1) := by decide +kernel
theorem dX11_ask_96 : decode cX11_ask 96 = .ok (.iload_n 3, 1) := by decide +kernel
theorem dX11_ask_97 : decode cX11_ask 97 = .ok (.iconst 3, 1) := by decide +kernel
theorem dX11_ask_98 : decode cX11_ask 98 = .ok (.if_icmp .ge 16, 3) := by decide +kernel
theorem dX11_ask_101 : decode cX11_ask 101 = .ok (.aload_n 0, 1) := by decide +kernel
theorem dX11_ask_102 : decode cX11_ask 102 = .ok (.getfield 138, 3) := by decide +kernel
theorem dX11_ask_105 : decode cX11_ask 105 = .ok (.iload_n 3, 1) := by decide +kernel
theorem dX11_ask_106 : decode cX11_ask 106 = .ok (.iconst 0, 1) := by decide +kernel
theorem dX11_ask_107 : decode cX11_ask 107 = .ok (.bastore, 1) := by decide +kernel
theorem dX11_ask_108 : decode cX11_ask 108 = .ok (.iinc 3 1, 3) := by decide +kernel
theorem dX11_ask_111 : decode cX11_ask 111 = .ok (.goto (-15), 3) := by decide +kernel
theorem dX11_ask_114 : decode cX11_ask 114 = .ok (.aload_n 0, 1) := by decide +kernel
theorem dX11_ask_115 : decode cX11_ask 115 = .ok (.getfield 423, 3) := by decide +kernel
theorem dX11_ask_118 : decode cX11_ask 118 = .ok (.aload_n 0, 1) := by decide +kernel
theorem dX11_ask_119 : decode cX11_ask 119 = .ok (.getfield 299, 3) := by decide +kernel
theorem dX11_ask_122 : decode cX11_ask 122 = .ok (.if_icmp .ge 14, 3) := by decide +kernel
theorem dX11_ask_125 : decode cX11_ask 125 = .ok (.aload_n 0, 1) := by decide +kernel
theorem dX11_ask_126 : decode cX11_ask 126 = .ok (.aload_n 0, 1) := by decide +kernel
theorem dX11_ask_127 : decode cX11_ask 127 = .ok (.invokevirtual 464, 3) := by decide +kernel
theorem dX11_ask_130 : decode cX11_ask 130 = .ok (.invokevirtual 468, 3) := by decide +kernel
theorem dX11_ask_133 : decode cX11_ask 133 = .ok (.goto (-19), 3) := by decide +kernel
theorem dX11_ask_136 : decode cX11_ask 136 = .ok (.aload_n 0, 1) := by decide +kernel
theorem dX11_ask_137 : decode cX11_ask 137 = .ok (.iconst 1, 1) := by decide +kernel
theorem dX11_ask_138 : decode cX11_ask 138 = .ok (.invokevirtual 471, 3) := by decide +kernel
theorem dX11_ask_141 : decode cX11_ask 141 = .ok (.aload_n 0, 1) := by decide +kernel
theorem dX11_ask_142 : decode cX11_ask 142 = .ok (.aload_n 0, 1) := by decide +kernel
theorem dX11_ask_143 : decode cX11_ask 143 = .ok (.getfield 429, 3) := by decide +kernel
theorem dX11_ask_146 : decode cX11_ask 146 = .ok (.putfield 475, 3) := by decide +kernel
theorem dX11_ask_149 : decode cX11_ask 149 = .ok (.aload_n 0, 1) := by decide +kernel
theorem dX11_ask_150 : decode cX11_ask 150 = .ok (.aload_n 0, 1) := by decide +kernel
theorem dX11_ask_151 : decode cX11_ask 151 = .ok (.getfield 442, 3) := by decide +kernel
theorem dX11_ask_154 : decode cX11_ask 154 = .ok (.putfield 478, 3) := by decide +kernel
theorem dX11_ask_157 : decode cX11_ask 157 = .ok (.iconst 0, 1) := by decide +kernel
theorem dX11_ask_158 : decode cX11_ask 158 = .ok (.istore_n 3, 1) := by decide +kernel
theorem dX11_ask_159 : decode cX11_ask 159 = .ok (.iload_n 3, 1) := by decide +kernel
theorem dX11_ask_160 : decode cX11_ask 160 = .ok (.bipush 120, 2) := by decide +kernel
theorem dX11_ask_162 : decode cX11_ask 162 = .ok (.if_icmp .ge 21, 3) := by decide +kernel
theorem dX11_ask_165 : decode cX11_ask 165 = .ok (.aload_n 0, 1) := by decide +kernel
theorem dX11_ask_166 : decode cX11_ask 166 = .ok (.getfield 180, 3) := by decide +kernel
theorem dX11_ask_169 : decode cX11_ask 169 = .ok (.iload_n 3, 1) := by decide +kernel
theorem dX11_ask_170 : decode cX11_ask 170 = .ok (.aload_n 0, 1) := by decide +kernel
theorem dX11_ask_171 : decode cX11_ask 171 = .ok (.getfield 168, 3) := by decide +kernel
theorem dX11_ask_174 : decode cX11_ask 174 = .ok (.iload_n 3, 1) := by decide +kernel
theorem dX11_ask_175 : decode cX11_ask 175 = .ok (.iaload, 1) := by decide +kernel
theorem dX11_ask_176 : decode cX11_ask 176 = .ok (.iastore, 1) := by decide +kernel
theorem dX11_ask_177 : decode cX11_ask 177 = .ok (.iinc 3 1, 3) := by decide +kernel
theorem dX11_ask_180 : decode cX11_ask 180 = .ok (.goto (-21), 3) := by decide +kernel
theorem dX11_ask_183 : decode cX11_ask 183 = .ok (.aload_n 0, 1) := by decide +kernel
theorem dX11_ask_184 : decode cX11_ask 184 = .ok (.aload_n 0, 1) := by decide +kernel
theorem dX11_ask_185 : decode cX11_ask 185 = .ok (.invokevirtual 481, 3) := by decide +kernel
theorem dX11_ask_188 : decode cX11_ask 188 = .ok (.putfield 183, 3) := by decide +kernel
theorem dX11_ask_191 : decode cX11_ask 191 = .ok (.aload_n 0, 1) := by decide +kernel
theorem dX11_ask_192 : decode cX11_ask 192 = .ok (.getfield 475, 3) := by decide +kernel
theorem dX11_ask_195 : decode cX11_ask 195 = .ok (.ireturn, 1) := by decide +kernel
theorem dX11_answers_0 : decode cX11_answers 0 = .ok (.aload_n 0, 1) := by decide +kernel
theorem dX11_answers_1 : decode cX11_answers 1 = .ok (.iconst 0, 1) := by decide +kernel
theorem dX11_answers_2 : decode cX11_answers 2 = .ok (.putfield 213, 3) := by decide +kernel
theorem dX11_answers_5 : decode cX11_answers 5 = .ok (.aload_n 0, 1) := by decide +kernel
theorem dX11_answers_6 : decode cX11_answers 6 = .ok (.getfield 475, 3) := by decide +kernel
theorem dX11_answers_9 : decode cX11_answers 9 = .ok (.ireturn, 1) := by decide +kernel
theorem dX11_answer_0 : decode cX11_answer 0 = .ok (.aload_n 0, 1) := by decide +kernel
theorem dX11_answer_1 : decode cX11_answer 1 = .ok (.iload_n 1, 1) := by decide +kernel
theorem dX11_answer_2 : decode cX11_answer 2 = .ok (.iconst 0, 1) := by decide +kernel
theorem dX11_answer_3 : decode cX11_answer 3 = .ok (.aload_n 0, 1) := by decide +kernel
theorem dX11_answer_4 : decode cX11_answer 4 = .ok (.getfield 475, 3) := by decide +kernel
theorem dX11_answer_7 : decode cX11_answer 7 = .ok (.iconst 1, 1) := by decide +kernel
theorem dX11_answer_8 : decode cX11_answer 8 = .ok (.isub, 1) := by decide +kernel
theorem dX11_answer_9 : decode cX11_answer 9 = .ok (.invokestatic 216, 3) := by decide +kernel
theorem dX11_answer_12 : decode cX11_answer 12 = .ok (.ifCond .eq 21, 3) := by decide +kernel
theorem dX11_answer_15 : decode cX11_answer 15 = .ok (.iload_n 2, 1) := by decide +kernel
theorem dX11_answer_16 : decode cX11_answer 16 = .ok (.iconst 0, 1) := by decide +kernel
theorem dX11_answer_17 : decode cX11_answer 17 = .ok (.aload_n 0, 1) := by decide +kernel
theorem dX11_answer_18 : decode cX11_answer 18 = .ok (.getfield 478, 3) := by decide +kernel
theorem dX11_answer_21 : decode cX11_answer 21 = .ok (.iconst 1, 1) := by decide +kernel
theorem dX11_answer_22 : decode cX11_answer 22 = .ok (.isub, 1) := by decide +kernel
theorem dX11_answer_23 : decode cX11_answer 23 = .ok (.invokestatic 216, 3) := by decide +kernel
theorem dX11_answer_26 : decode cX11_answer 26 = .ok (.ifCond .eq 7, 3) := by decide +kernel
theorem dX11_answer_29 : decode cX11_answer 29 = .ok (.iconst 0, 1) := by decide +kernel
theorem dX11_answer_30 : decode cX11_answer 30 = .ok (.goto 4, 3) := by decide +kernel
theorem dX11_answer_33 : decode cX11_answer 33 = .ok (.iconst 1, 1) := by decide +kernel
theorem dX11_answer_34 : decode cX11_answer 34 = .ok (.putfield 213, 3) := by decide +kernel
theorem dX11_answer_37 : decode cX11_answer 37 = .ok (.aload_n 0, 1) := by decide +kernel
theorem dX11_answer_38 : decode cX11_answer 38 = .ok (.getfield 213, 3) := by decide +kernel
theorem dX11_answer_41 : decode cX11_answer 41 = .ok (.ifCond .le 7, 3) := by decide +kernel
theorem dX11_answer_44 : decode cX11_answer 44 = .ok (.iconst 0, 1) := by decide +kernel
theorem dX11_answer_45 : decode cX11_answer 45 = .ok (.goto 13, 3) := by decide +kernel
theorem dX11_answer_48 : decode cX11_answer 48 = .ok (.aload_n 0, 1) := by decide +kernel
theorem dX11_answer_49 : decode cX11_answer 49 = .ok (.getfield 180, 3) := by decide +kernel
theorem dX11_answer_52 : decode cX11_answer 52 = .ok (.iconst 3, 1) := by decide +kernel
theorem dX11_answer_53 : decode cX11_answer 53 = .ok (.iload_n 1, 1) := by decide +kernel
theorem dX11_answer_54 : decode cX11_answer 54 = .ok (.imul, 1) := by decide +kernel
theorem dX11_answer_55 : decode cX11_answer 55 = .ok (.iload_n 2, 1) := by decide +kernel
theorem dX11_answer_56 : decode cX11_answer 56 = .ok (.iadd, 1) := by decide +kernel
theorem dX11_answer_57 : decode cX11_answer 57 = .ok (.iaload, 1) := by decide +kernel
theorem dX11_answer_58 : decode cX11_answer 58 = .ok (.ireturn, 1) := by decide +kernel
theorem dX11_missing_0 : decode cX11_missing 0 = .ok (.aload_n 0, 1) := by decide +kernel
theorem dX11_missing_1 : decode cX11_missing 1 = .ok (.iconst 0, 1) := by decide +kernel
theorem dX11_missing_2 : decode cX11_missing 2 = .ok (.putfield 213, 3) := by decide +kernel
theorem dX11_missing_5 : decode cX11_missing 5 = .ok (.aload_n 0, 1) := by decide +kernel
theorem dX11_missing_6 : decode cX11_missing 6 = .ok (.getfield 420, 3) := by decide +kernel
theorem dX11_missing_9 : decode cX11_missing 9 = .ok (.ireturn, 1) := by decide +kernel
theorem dX11_claims_0 : decode cX11_claims 0 = .ok (.aload_n 0, 1) := by decide +kernel
theorem dX11_claims_1 : decode cX11_claims 1 = .ok (.iconst 0, 1) := by decide +kernel
theorem dX11_claims_2 : decode cX11_claims 2 = .ok (.putfield 213, 3) := by decide +kernel
theorem dX11_claims_5 : decode cX11_claims 5 = .ok (.aload_n 0, 1) := by decide +kernel
theorem dX11_claims_6 : decode cX11_claims 6 = .ok (.getfield 183, 3) := by decide +kernel
theorem dX11_claims_9 : decode cX11_claims 9 = .ok (.ireturn, 1) := by decide +kernel
theorem dX11_cost_0 : decode cX11_cost 0 = .ok (.aload_n 0, 1) := by decide +kernel
theorem dX11_cost_1 : decode cX11_cost 1 = .ok (.iconst 0, 1) := by decide +kernel
theorem dX11_cost_2 : decode cX11_cost 2 = .ok (.putfield 213, 3) := by decide +kernel
theorem dX11_cost_5 : decode cX11_cost 5 = .ok (.aload_n 0, 1) := by decide +kernel
theorem dX11_cost_6 : decode cX11_cost 6 = .ok (.getfield 342, 3) := by decide +kernel
theorem dX11_cost_9 : decode cX11_cost 9 = .ok (.ireturn, 1) := by decide +kernel
theorem dX11_attempts_0 : decode cX11_attempts 0 = .ok (.aload_n 0, 1) := by decide +kernel
theorem dX11_attempts_1 : decode cX11_attempts 1 = .ok (.iconst 0, 1) := by decide +kernel
theorem dX11_attempts_2 : decode cX11_attempts 2 = .ok (.putfield 213, 3) := by decide +kernel
theorem dX11_attempts_5 : decode cX11_attempts 5 = .ok (.aload_n 0, 1) := by decide +kernel
theorem dX11_attempts_6 : decode cX11_attempts 6 = .ok (.getfield 336, 3) := by decide +kernel
theorem dX11_attempts_9 : decode cX11_attempts 9 = .ok (.ireturn, 1) := by decide +kernel
theorem dX11_shipped_0 : decode cX11_shipped 0 = .ok (.aload_n 0, 1) := by decide +kernel
theorem dX11_shipped_1 : decode cX11_shipped 1 = .ok (.iconst 0, 1) := by decide +kernel
theorem dX11_shipped_2 : decode cX11_shipped 2 = .ok (.putfield 213, 3) := by decide +kernel
theorem dX11_shipped_5 : decode cX11_shipped 5 = .ok (.aload_n 0, 1) := by decide +kernel
theorem dX11_shipped_6 : decode cX11_shipped 6 = .ok (.getfield 364, 3) := by decide +kernel
theorem dX11_shipped_9 : decode cX11_shipped 9 = .ok (.ireturn, 1) := by decide +kernel
theorem dX11_taken_0 : decode cX11_taken 0 = .ok (.aload_n 0, 1) := by decide +kernel
theorem dX11_taken_1 : decode cX11_taken 1 = .ok (.iload_n 1, 1) := by decide +kernel
theorem dX11_taken_2 : decode cX11_taken 2 = .ok (.iconst 0, 1) := by decide +kernel
theorem dX11_taken_3 : decode cX11_taken 3 = .ok (.aload_n 0, 1) := by decide +kernel
theorem dX11_taken_4 : decode cX11_taken 4 = .ok (.getfield 423, 3) := by decide +kernel
theorem dX11_taken_7 : decode cX11_taken 7 = .ok (.iconst 1, 1) := by decide +kernel
theorem dX11_taken_8 : decode cX11_taken 8 = .ok (.isub, 1) := by decide +kernel
theorem dX11_taken_9 : decode cX11_taken 9 = .ok (.invokestatic 216, 3) := by decide +kernel
theorem dX11_taken_12 : decode cX11_taken 12 = .ok (.ifCond .eq 7, 3) := by decide +kernel
theorem dX11_taken_15 : decode cX11_taken 15 = .ok (.iconst 0, 1) := by decide +kernel
theorem dX11_taken_16 : decode cX11_taken 16 = .ok (.goto 4, 3) := by decide +kernel
theorem dX11_taken_19 : decode cX11_taken 19 = .ok (.iconst 1, 1) := by decide +kernel
theorem dX11_taken_20 : decode cX11_taken 20 = .ok (.putfield 213, 3) := by decide +kernel
theorem dX11_taken_23 : decode cX11_taken 23 = .ok (.aload_n 0, 1) := by decide +kernel
theorem dX11_taken_24 : decode cX11_taken 24 = .ok (.getfield 213, 3) := by decide +kernel
theorem dX11_taken_27 : decode cX11_taken 27 = .ok (.ifCond .le 7, 3) := by decide +kernel
theorem dX11_taken_30 : decode cX11_taken 30 = .ok (.iconst 0, 1) := by decide +kernel
theorem dX11_taken_31 : decode cX11_taken 31 = .ok (.goto 9, 3) := by decide +kernel
theorem dX11_taken_34 : decode cX11_taken 34 = .ok (.aload_n 0, 1) := by decide +kernel
theorem dX11_taken_35 : decode cX11_taken 35 = .ok (.getfield 186, 3) := by decide +kernel
theorem dX11_taken_38 : decode cX11_taken 38 = .ok (.iload_n 1, 1) := by decide +kernel
theorem dX11_taken_39 : decode cX11_taken 39 = .ok (.iaload, 1) := by decide +kernel
theorem dX11_taken_40 : decode cX11_taken 40 = .ok (.ireturn, 1) := by decide +kernel
theorem dX11_size_0 : decode cX11_size 0 = .ok (.aload_n 0, 1) := by decide +kernel
theorem dX11_size_1 : decode cX11_size 1 = .ok (.iload_n 1, 1) := by decide +kernel
theorem dX11_size_2 : decode cX11_size 2 = .ok (.invokestatic 270, 3) := by decide +kernel
theorem dX11_size_5 : decode cX11_size 5 = .ok (.ifCond .eq 7, 3) := by decide +kernel
theorem dX11_size_8 : decode cX11_size 8 = .ok (.iconst 0, 1) := by decide +kernel
theorem dX11_size_9 : decode cX11_size 9 = .ok (.goto 4, 3) := by decide +kernel
theorem dX11_size_12 : decode cX11_size 12 = .ok (.iconst 1, 1) := by decide +kernel
theorem dX11_size_13 : decode cX11_size 13 = .ok (.putfield 213, 3) := by decide +kernel
theorem dX11_size_16 : decode cX11_size 16 = .ok (.aload_n 0, 1) := by decide +kernel
theorem dX11_size_17 : decode cX11_size 17 = .ok (.getfield 213, 3) := by decide +kernel
theorem dX11_size_20 : decode cX11_size 20 = .ok (.ifCond .le 7, 3) := by decide +kernel
theorem dX11_size_23 : decode cX11_size 23 = .ok (.iconst 0, 1) := by decide +kernel
theorem dX11_size_24 : decode cX11_size 24 = .ok (.goto 9, 3) := by decide +kernel
theorem dX11_size_27 : decode cX11_size 27 = .ok (.aload_n 0, 1) := by decide +kernel
theorem dX11_size_28 : decode cX11_size 28 = .ok (.getfield 62, 3) := by decide +kernel
theorem dX11_size_31 : decode cX11_size 31 = .ok (.iload_n 1, 1) := by decide +kernel
theorem dX11_size_32 : decode cX11_size 32 = .ok (.iaload, 1) := by decide +kernel
theorem dX11_size_33 : decode cX11_size 33 = .ok (.ireturn, 1) := by decide +kernel
theorem dX11_entries_0 : decode cX11_entries 0 = .ok (.aload_n 0, 1) := by decide +kernel
theorem dX11_entries_1 : decode cX11_entries 1 = .ok (.iconst 0, 1) := by decide +kernel
theorem dX11_entries_2 : decode cX11_entries 2 = .ok (.putfield 213, 3) := by decide +kernel
theorem dX11_entries_5 : decode cX11_entries 5 = .ok (.aload_n 0, 1) := by decide +kernel
theorem dX11_entries_6 : decode cX11_entries 6 = .ok (.getfield 232, 3) := by decide +kernel
theorem dX11_entries_9 : decode cX11_entries 9 = .ok (.ireturn, 1) := by decide +kernel
theorem dX11_answersAnew_0 : decode cX11_answersAnew 0 = .ok (.aload_n 0, 1) := by decide +kernel
theorem dX11_answersAnew_1 : decode cX11_answersAnew 1 = .ok (.aload_n 0, 1) := by decide +kernel
theorem dX11_answersAnew_2 : decode cX11_answersAnew 2 = .ok (.invokevirtual 461, 3) := by decide +kernel
theorem dX11_answersAnew_5 : decode cX11_answersAnew 5 = .ok (.ifCond .eq 7, 3) := by decide +kernel
theorem dX11_answersAnew_8 : decode cX11_answersAnew 8 = .ok (.iconst 0, 1) := by decide +kernel
theorem dX11_answersAnew_9 : decode cX11_answersAnew 9 = .ok (.goto 4, 3) := by decide +kernel
theorem dX11_answersAnew_12 : decode cX11_answersAnew 12 = .ok (.iconst 1, 1) := by decide +kernel
theorem dX11_answersAnew_13 : decode cX11_answersAnew 13 = .ok (.putfield 213, 3) := by decide +kernel
theorem dX11_answersAnew_16 : decode cX11_answersAnew 16 = .ok (.aload_n 0, 1) := by decide +kernel
theorem dX11_answersAnew_17 : decode cX11_answersAnew 17 = .ok (.getfield 213, 3) := by decide +kernel
theorem dX11_answersAnew_20 : decode cX11_answersAnew 20 = .ok (.ifCond .le 5, 3) := by decide +kernel
theorem dX11_answersAnew_23 : decode cX11_answersAnew 23 = .ok (.iconst 0, 1) := by decide +kernel
theorem dX11_answersAnew_24 : decode cX11_answersAnew 24 = .ok (.ireturn, 1) := by decide +kernel
theorem dX11_answersAnew_25 : decode cX11_answersAnew 25 = .ok (.aload_n 0, 1) := by decide +kernel
theorem dX11_answersAnew_26 : decode cX11_answersAnew 26 = .ok (.iconst 0, 1) := by decide +kernel
theorem dX11_answersAnew_27 : decode cX11_answersAnew 27 = .ok (.invokevirtual 471, 3) := by decide +kernel
theorem dX11_answersAnew_30 : decode cX11_answersAnew 30 = .ok (.aload_n 0, 1) := by decide +kernel
theorem dX11_answersAnew_31 : decode cX11_answersAnew 31 = .ok (.getfield 429, 3) := by decide +kernel
theorem dX11_answersAnew_34 : decode cX11_answersAnew 34 = .ok (.ireturn, 1) := by decide +kernel
theorem dX11_answerAnew_0 : decode cX11_answerAnew 0 = .ok (.aload_n 0, 1) := by decide +kernel
theorem dX11_answerAnew_1 : decode cX11_answerAnew 1 = .ok (.aload_n 0, 1) := by decide +kernel
theorem dX11_answerAnew_2 : decode cX11_answerAnew 2 = .ok (.invokevirtual 461, 3) := by decide +kernel
theorem dX11_answerAnew_5 : decode cX11_answerAnew 5 = .ok (.ifCond .eq 7, 3) := by decide +kernel
theorem dX11_answerAnew_8 : decode cX11_answerAnew 8 = .ok (.iconst 0, 1) := by decide +kernel
theorem dX11_answerAnew_9 : decode cX11_answerAnew 9 = .ok (.goto 4, 3) := by decide +kernel
theorem dX11_answerAnew_12 : decode cX11_answerAnew 12 = .ok (.iconst 1, 1) := by decide +kernel
theorem dX11_answerAnew_13 : decode cX11_answerAnew 13 = .ok (.putfield 213, 3) := by decide +kernel
theorem dX11_answerAnew_16 : decode cX11_answerAnew 16 = .ok (.aload_n 0, 1) := by decide +kernel
theorem dX11_answerAnew_17 : decode cX11_answerAnew 17 = .ok (.getfield 213, 3) := by decide +kernel
theorem dX11_answerAnew_20 : decode cX11_answerAnew 20 = .ok (.ifCond .le 5, 3) := by decide +kernel
theorem dX11_answerAnew_23 : decode cX11_answerAnew 23 = .ok (.iconst 0, 1) := by decide +kernel
theorem dX11_answerAnew_24 : decode cX11_answerAnew 24 = .ok (.ireturn, 1) := by decide +kernel
theorem dX11_answerAnew_25 : decode cX11_answerAnew 25 = .ok (.aload_n 0, 1) := by decide +kernel
theorem dX11_answerAnew_26 : decode cX11_answerAnew 26 = .ok (.iconst 0, 1) := by decide +kernel
theorem dX11_answerAnew_27 : decode cX11_answerAnew 27 = .ok (.invokevirtual 471, 3) := by decide +kernel
theorem dX11_answerAnew_30 : decode cX11_answerAnew 30 = .ok (.aload_n 0, 1) := by decide +kernel
theorem dX11_answerAnew_31 : decode cX11_answerAnew 31 = .ok (.iload_n 1, 1) := by decide +kernel
theorem dX11_answerAnew_32 : decode cX11_answerAnew 32 = .ok (.iconst 0, 1) := by decide +kernel
theorem dX11_answerAnew_33 : decode cX11_answerAnew 33 = .ok (.aload_n 0, 1) := by decide +kernel
theorem dX11_answerAnew_34 : decode cX11_answerAnew 34 = .ok (.getfield 429, 3) := by decide +kernel
theorem dX11_answerAnew_37 : decode cX11_answerAnew 37 = .ok (.iconst 1, 1) := by decide +kernel
theorem dX11_answerAnew_38 : decode cX11_answerAnew 38 = .ok (.isub, 1) := by decide +kernel
theorem dX11_answerAnew_39 : decode cX11_answerAnew 39 = .ok (.invokestatic 216, 3) := by decide +kernel
theorem dX11_answerAnew_42 : decode cX11_answerAnew 42 = .ok (.ifCond .eq 21, 3) := by decide +kernel
theorem dX11_answerAnew_45 : decode cX11_answerAnew 45 = .ok (.iload_n 2, 1) := by decide +kernel
theorem dX11_answerAnew_46 : decode cX11_answerAnew 46 = .ok (.iconst 0, 1) := by decide +kernel
theorem dX11_answerAnew_47 : decode cX11_answerAnew 47 = .ok (.aload_n 0, 1) := by decide +kernel
theorem dX11_answerAnew_48 : decode cX11_answerAnew 48 = .ok (.getfield 442, 3) := by decide +kernel
theorem dX11_answerAnew_51 : decode cX11_answerAnew 51 = .ok (.iconst 1, 1) := by decide +kernel
theorem dX11_answerAnew_52 : decode cX11_answerAnew 52 = .ok (.isub, 1) := by decide +kernel
theorem dX11_answerAnew_53 : decode cX11_answerAnew 53 = .ok (.invokestatic 216, 3) := by decide +kernel
theorem dX11_answerAnew_56 : decode cX11_answerAnew 56 = .ok (.ifCond .eq 7, 3) := by decide +kernel
theorem dX11_answerAnew_59 : decode cX11_answerAnew 59 = .ok (.iconst 0, 1) := by decide +kernel
theorem dX11_answerAnew_60 : decode cX11_answerAnew 60 = .ok (.goto 4, 3) := by decide +kernel
theorem dX11_answerAnew_63 : decode cX11_answerAnew 63 = .ok (.iconst 2, 1) := by decide +kernel
theorem dX11_answerAnew_64 : decode cX11_answerAnew 64 = .ok (.putfield 213, 3) := by decide +kernel
theorem dX11_answerAnew_67 : decode cX11_answerAnew 67 = .ok (.aload_n 0, 1) := by decide +kernel
theorem dX11_answerAnew_68 : decode cX11_answerAnew 68 = .ok (.getfield 213, 3) := by decide +kernel
theorem dX11_answerAnew_71 : decode cX11_answerAnew 71 = .ok (.ifCond .le 7, 3) := by decide +kernel
theorem dX11_answerAnew_74 : decode cX11_answerAnew 74 = .ok (.iconst 0, 1) := by decide +kernel
theorem dX11_answerAnew_75 : decode cX11_answerAnew 75 = .ok (.goto 13, 3) := by decide +kernel
theorem dX11_answerAnew_78 : decode cX11_answerAnew 78 = .ok (.aload_n 0, 1) := by decide +kernel
theorem dX11_answerAnew_79 : decode cX11_answerAnew 79 = .ok (.getfield 168, 3) := by decide +kernel
theorem dX11_answerAnew_82 : decode cX11_answerAnew 82 = .ok (.iconst 3, 1) := by decide +kernel
theorem dX11_answerAnew_83 : decode cX11_answerAnew 83 = .ok (.iload_n 1, 1) := by decide +kernel
theorem dX11_answerAnew_84 : decode cX11_answerAnew 84 = .ok (.imul, 1) := by decide +kernel
theorem dX11_answerAnew_85 : decode cX11_answerAnew 85 = .ok (.iload_n 2, 1) := by decide +kernel
theorem dX11_answerAnew_86 : decode cX11_answerAnew 86 = .ok (.iadd, 1) := by decide +kernel
theorem dX11_answerAnew_87 : decode cX11_answerAnew 87 = .ok (.iaload, 1) := by decide +kernel
theorem dX11_answerAnew_88 : decode cX11_answerAnew 88 = .ok (.ireturn, 1) := by decide +kernel
theorem dX11_step_0 : decode cX11_step 0 = .ok (.iload_n 1, 1) := by decide +kernel
theorem dX11_step_1 : decode cX11_step 1 = .ok (.iconst 0, 1) := by decide +kernel
theorem dX11_step_2 : decode cX11_step 2 = .ok (.iconst 2, 1) := by decide +kernel
theorem dX11_step_3 : decode cX11_step 3 = .ok (.invokestatic 216, 3) := by decide +kernel
theorem dX11_step_6 : decode cX11_step 6 = .ok (.ifCond .eq 31, 3) := by decide +kernel
theorem dX11_step_9 : decode cX11_step 9 = .ok (.iload_n 1, 1) := by decide +kernel
theorem dX11_step_10 : decode cX11_step 10 = .ok (.ifCond .eq 8, 3) := by decide +kernel
theorem dX11_step_13 : decode cX11_step 13 = .ok (.iload 6, 2) := by decide +kernel
theorem dX11_step_15 : decode cX11_step 15 = .ok (.ifCond .ne 22, 3) := by decide +kernel
theorem dX11_step_18 : decode cX11_step 18 = .ok (.iload_n 1, 1) := by decide +kernel
theorem dX11_step_19 : decode cX11_step 19 = .ok (.iconst 2, 1) := by decide +kernel
theorem dX11_step_20 : decode cX11_step 20 = .ok (.if_icmp .ne 13, 3) := by decide +kernel
theorem dX11_step_23 : decode cX11_step 23 = .ok (.iload 4, 2) := by decide +kernel
theorem dX11_step_25 : decode cX11_step 25 = .ok (.ifCond .ne 12, 3) := by decide +kernel
theorem dX11_step_28 : decode cX11_step 28 = .ok (.iload 5, 2) := by decide +kernel
theorem dX11_step_30 : decode cX11_step 30 = .ok (.ifCond .ne 7, 3) := by decide +kernel
theorem dX11_step_33 : decode cX11_step 33 = .ok (.iconst 1, 1) := by decide +kernel
theorem dX11_step_34 : decode cX11_step 34 = .ok (.goto 4, 3) := by decide +kernel
theorem dX11_step_37 : decode cX11_step 37 = .ok (.iconst 0, 1) := by decide +kernel
theorem dX11_step_38 : decode cX11_step 38 = .ok (.istore 7, 2) := by decide +kernel
theorem dX11_step_40 : decode cX11_step 40 = .ok (.aload_n 0, 1) := by decide +kernel
theorem dX11_step_41 : decode cX11_step 41 = .ok (.iload_n 2, 1) := by decide +kernel
theorem dX11_step_42 : decode cX11_step 42 = .ok (.invokestatic 270, 3) := by decide +kernel
theorem dX11_step_45 : decode cX11_step 45 = .ok (.ifCond .ne 7, 3) := by decide +kernel
theorem dX11_step_48 : decode cX11_step 48 = .ok (.iconst 1, 1) := by decide +kernel
theorem dX11_step_49 : decode cX11_step 49 = .ok (.goto 25, 3) := by decide +kernel
theorem dX11_step_52 : decode cX11_step 52 = .ok (.iload 7, 2) := by decide +kernel
theorem dX11_step_54 : decode cX11_step 54 = .ok (.ifCond .ne 7, 3) := by decide +kernel
theorem dX11_step_57 : decode cX11_step 57 = .ok (.iconst 2, 1) := by decide +kernel
theorem dX11_step_58 : decode cX11_step 58 = .ok (.goto 16, 3) := by decide +kernel
theorem dX11_step_61 : decode cX11_step 61 = .ok (.aload_n 0, 1) := by decide +kernel
theorem dX11_step_62 : decode cX11_step 62 = .ok (.getfield 484, 3) := by decide +kernel
theorem dX11_step_65 : decode cX11_step 65 = .ok (.iconst 4, 1) := by decide +kernel
theorem dX11_step_66 : decode cX11_step 66 = .ok (.if_icmp .ne 7, 3) := by decide +kernel
theorem dX11_step_69 : decode cX11_step 69 = .ok (.iconst 3, 1) := by decide +kernel
theorem dX11_step_70 : decode cX11_step 70 = .ok (.goto 4, 3) := by decide +kernel
theorem dX11_step_73 : decode cX11_step 73 = .ok (.iconst 0, 1) := by decide +kernel
theorem dX11_step_74 : decode cX11_step 74 = .ok (.putfield 213, 3) := by decide +kernel
theorem dX11_step_77 : decode cX11_step 77 = .ok (.aload_n 0, 1) := by decide +kernel
theorem dX11_step_78 : decode cX11_step 78 = .ok (.getfield 213, 3) := by decide +kernel
theorem dX11_step_81 : decode cX11_step 81 = .ok (.ifCond .le 5, 3) := by decide +kernel
