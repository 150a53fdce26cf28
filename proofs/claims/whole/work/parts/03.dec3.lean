theorem dX9_log_83 : decode cX9_log 83 = .ok (.getfield 60, 3) := by decide +kernel
theorem dX9_log_86 : decode cX9_log 86 = .ok (.iload_n 3, 1) := by decide +kernel
theorem dX9_log_87 : decode cX9_log 87 = .ok (.iaload, 1) := by decide +kernel
theorem dX9_log_88 : decode cX9_log 88 = .ok (.i2l, 1) := by decide +kernel
theorem dX9_log_89 : decode cX9_log 89 = .ok (.goto 9, 3) := by decide +kernel
theorem dX9_log_92 : decode cX9_log 92 = .ok (.aload_n 0, 1) := by decide +kernel
theorem dX9_log_93 : decode cX9_log 93 = .ok (.getfield 63, 3) := by decide +kernel
theorem dX9_log_96 : decode cX9_log 96 = .ok (.iload_n 3, 1) := by decide +kernel
theorem dX9_log_97 : decode cX9_log 97 = .ok (.laload, 1) := by decide +kernel
theorem dX9_log_98 : decode cX9_log 98 = .ok (.lreturn, 1) := by decide +kernel
theorem dX9_mark_0 : decode cX9_mark 0 = .ok (.aload_n 0, 1) := by decide +kernel
theorem dX9_mark_1 : decode cX9_mark 1 = .ok (.getfield 124, 3) := by decide +kernel
theorem dX9_mark_4 : decode cX9_mark 4 = .ok (.iconst 3, 1) := by decide +kernel
theorem dX9_mark_5 : decode cX9_mark 5 = .ok (.if_icmp .ne 6, 3) := by decide +kernel
theorem dX9_mark_8 : decode cX9_mark 8 = .ok (.bipush (-107), 2) := by decide +kernel
theorem dX9_mark_10 : decode cX9_mark 10 = .ok (.ireturn, 1) := by decide +kernel
theorem dX9_mark_11 : decode cX9_mark 11 = .ok (.aload_n 0, 1) := by decide +kernel
theorem dX9_mark_12 : decode cX9_mark 12 = .ok (.getfield 124, 3) := by decide +kernel
theorem dX9_mark_15 : decode cX9_mark 15 = .ok (.istore_n 1, 1) := by decide +kernel
theorem dX9_mark_16 : decode cX9_mark 16 = .ok (.iconst 0, 1) := by decide +kernel
theorem dX9_mark_17 : decode cX9_mark 17 = .ok (.istore_n 2, 1) := by decide +kernel
theorem dX9_mark_18 : decode cX9_mark 18 = .ok (.iload_n 2, 1) := by decide +kernel
theorem dX9_mark_19 : decode cX9_mark 19 = .ok (.bipush 100, 2) := by decide +kernel
theorem dX9_mark_21 : decode cX9_mark 21 = .ok (.if_icmp .ge 43, 3) := by decide +kernel
theorem dX9_mark_24 : decode cX9_mark 24 = .ok (.aload_n 0, 1) := by decide +kernel
theorem dX9_mark_25 : decode cX9_mark 25 = .ok (.getfield 78, 3) := by decide +kernel
theorem dX9_mark_28 : decode cX9_mark 28 = .ok (.bipush 100, 2) := by decide +kernel
theorem dX9_mark_30 : decode cX9_mark 30 = .ok (.iload_n 1, 1) := by decide +kernel
theorem dX9_mark_31 : decode cX9_mark 31 = .ok (.imul, 1) := by decide +kernel
theorem dX9_mark_32 : decode cX9_mark 32 = .ok (.iload_n 2, 1) := by decide +kernel
theorem dX9_mark_33 : decode cX9_mark 33 = .ok (.iadd, 1) := by decide +kernel
theorem dX9_mark_34 : decode cX9_mark 34 = .ok (.aload_n 0, 1) := by decide +kernel
theorem dX9_mark_35 : decode cX9_mark 35 = .ok (.getfield 32, 3) := by decide +kernel
theorem dX9_mark_38 : decode cX9_mark 38 = .ok (.iload_n 2, 1) := by decide +kernel
theorem dX9_mark_39 : decode cX9_mark 39 = .ok (.iaload, 1) := by decide +kernel
theorem dX9_mark_40 : decode cX9_mark 40 = .ok (.iastore, 1) := by decide +kernel
theorem dX9_mark_41 : decode cX9_mark 41 = .ok (.aload_n 0, 1) := by decide +kernel
theorem dX9_mark_42 : decode cX9_mark 42 = .ok (.getfield 81, 3) := by decide +kernel
theorem dX9_mark_45 : decode cX9_mark 45 = .ok (.bipush 100, 2) := by decide +kernel
theorem dX9_mark_47 : decode cX9_mark 47 = .ok (.iload_n 1, 1) := by decide +kernel
theorem dX9_mark_48 : decode cX9_mark 48 = .ok (.imul, 1) := by decide +kernel
theorem dX9_mark_49 : decode cX9_mark 49 = .ok (.iload_n 2, 1) := by decide +kernel
theorem dX9_mark_50 : decode cX9_mark 50 = .ok (.iadd, 1) := by decide +kernel
theorem dX9_mark_51 : decode cX9_mark 51 = .ok (.aload_n 0, 1) := by decide +kernel
theorem dX9_mark_52 : decode cX9_mark 52 = .ok (.getfield 35, 3) := by decide +kernel
theorem dX9_mark_55 : decode cX9_mark 55 = .ok (.iload_n 2, 1) := by decide +kernel
theorem dX9_mark_56 : decode cX9_mark 56 = .ok (.laload, 1) := by decide +kernel
theorem dX9_mark_57 : decode cX9_mark 57 = .ok (.lastore, 1) := by decide +kernel
theorem dX9_mark_58 : decode cX9_mark 58 = .ok (.iinc 2 1, 3) := by decide +kernel
theorem dX9_mark_61 : decode cX9_mark 61 = .ok (.goto (-43), 3) := by decide +kernel
theorem dX9_mark_64 : decode cX9_mark 64 = .ok (.iconst 0, 1) := by decide +kernel
theorem dX9_mark_65 : decode cX9_mark 65 = .ok (.istore_n 2, 1) := by decide +kernel
theorem dX9_mark_66 : decode cX9_mark 66 = .ok (.iload_n 2, 1) := by decide +kernel
theorem dX9_mark_67 : decode cX9_mark 67 = .ok (.aload_n 0, 1) := by decide +kernel
theorem dX9_mark_68 : decode cX9_mark 68 = .ok (.getfield 109, 3) := by decide +kernel
theorem dX9_mark_71 : decode cX9_mark 71 = .ok (.if_icmp .ge 63, 3) := by decide +kernel
theorem dX9_mark_74 : decode cX9_mark 74 = .ok (.aload_n 0, 1) := by decide +kernel
theorem dX9_mark_75 : decode cX9_mark 75 = .ok (.getfield 69, 3) := by decide +kernel
theorem dX9_mark_78 : decode cX9_mark 78 = .ok (.sipush 400, 3) := by decide +kernel
theorem dX9_mark_81 : decode cX9_mark 81 = .ok (.iload_n 1, 1) := by decide +kernel
theorem dX9_mark_82 : decode cX9_mark 82 = .ok (.imul, 1) := by decide +kernel
theorem dX9_mark_83 : decode cX9_mark 83 = .ok (.iload_n 2, 1) := by decide +kernel
theorem dX9_mark_84 : decode cX9_mark 84 = .ok (.iadd, 1) := by decide +kernel
theorem dX9_mark_85 : decode cX9_mark 85 = .ok (.aload_n 0, 1) := by decide +kernel
theorem dX9_mark_86 : decode cX9_mark 86 = .ok (.getfield 23, 3) := by decide +kernel
theorem dX9_mark_89 : decode cX9_mark 89 = .ok (.iload_n 2, 1) := by decide +kernel
theorem dX9_mark_90 : decode cX9_mark 90 = .ok (.iaload, 1) := by decide +kernel
theorem dX9_mark_91 : decode cX9_mark 91 = .ok (.iastore, 1) := by decide +kernel
theorem dX9_mark_92 : decode cX9_mark 92 = .ok (.aload_n 0, 1) := by decide +kernel
theorem dX9_mark_93 : decode cX9_mark 93 = .ok (.getfield 72, 3) := by decide +kernel
theorem dX9_mark_96 : decode cX9_mark 96 = .ok (.sipush 400, 3) := by decide +kernel
theorem dX9_mark_99 : decode cX9_mark 99 = .ok (.iload_n 1, 1) := by decide +kernel
theorem dX9_mark_100 : decode cX9_mark 100 = .ok (.imul, 1) := by decide +kernel
theorem dX9_mark_101 : decode cX9_mark 101 = .ok (.iload_n 2, 1) := by decide +kernel
theorem dX9_mark_102 : decode cX9_mark 102 = .ok (.iadd, 1) := by decide +kernel
theorem dX9_mark_103 : decode cX9_mark 103 = .ok (.aload_n 0, 1) := by decide +kernel
theorem dX9_mark_104 : decode cX9_mark 104 = .ok (.getfield 26, 3) := by decide +kernel
theorem dX9_mark_107 : decode cX9_mark 107 = .ok (.iload_n 2, 1) := by decide +kernel
theorem dX9_mark_108 : decode cX9_mark 108 = .ok (.iaload, 1) := by decide +kernel
theorem dX9_mark_109 : decode cX9_mark 109 = .ok (.iastore, 1) := by decide +kernel
theorem dX9_mark_110 : decode cX9_mark 110 = .ok (.aload_n 0, 1) := by decide +kernel
theorem dX9_mark_111 : decode cX9_mark 111 = .ok (.getfield 75, 3) := by decide +kernel
theorem dX9_mark_114 : decode cX9_mark 114 = .ok (.sipush 400, 3) := by decide +kernel
theorem dX9_mark_117 : decode cX9_mark 117 = .ok (.iload_n 1, 1) := by decide +kernel
theorem dX9_mark_118 : decode cX9_mark 118 = .ok (.imul, 1) := by decide +kernel
theorem dX9_mark_119 : decode cX9_mark 119 = .ok (.iload_n 2, 1) := by decide +kernel
theorem dX9_mark_120 : decode cX9_mark 120 = .ok (.iadd, 1) := by decide +kernel
theorem dX9_mark_121 : decode cX9_mark 121 = .ok (.aload_n 0, 1) := by decide +kernel
theorem dX9_mark_122 : decode cX9_mark 122 = .ok (.getfield 29, 3) := by decide +kernel
theorem dX9_mark_125 : decode cX9_mark 125 = .ok (.iload_n 2, 1) := by decide +kernel
theorem dX9_mark_126 : decode cX9_mark 126 = .ok (.baload, 1) := by decide +kernel
theorem dX9_mark_127 : decode cX9_mark 127 = .ok (.bastore, 1) := by decide +kernel
theorem dX9_mark_128 : decode cX9_mark 128 = .ok (.iinc 2 1, 3) := by decide +kernel
theorem dX9_mark_131 : decode cX9_mark 131 = .ok (.goto (-65), 3) := by decide +kernel
theorem dX9_mark_134 : decode cX9_mark 134 = .ok (.iconst 0, 1) := by decide +kernel
theorem dX9_mark_135 : decode cX9_mark 135 = .ok (.istore_n 2, 1) := by decide +kernel
theorem dX9_mark_136 : decode cX9_mark 136 = .ok (.iload_n 2, 1) := by decide +kernel
theorem dX9_mark_137 : decode cX9_mark 137 = .ok (.aload_n 0, 1) := by decide +kernel
theorem dX9_mark_138 : decode cX9_mark 138 = .ok (.getfield 118, 3) := by decide +kernel
theorem dX9_mark_141 : decode cX9_mark 141 = .ok (.if_icmp .ge 43, 3) := by decide +kernel
theorem dX9_mark_144 : decode cX9_mark 144 = .ok (.aload_n 0, 1) := by decide +kernel
theorem dX9_mark_145 : decode cX9_mark 145 = .ok (.getfield 90, 3) := by decide +kernel
theorem dX9_mark_148 : decode cX9_mark 148 = .ok (.bipush 40, 2) := by decide +kernel
theorem dX9_mark_150 : decode cX9_mark 150 = .ok (.iload_n 1, 1) := by decide +kernel
theorem dX9_mark_151 : decode cX9_mark 151 = .ok (.imul, 1) := by decide +kernel
theorem dX9_mark_152 : decode cX9_mark 152 = .ok (.iload_n 2, 1) := by decide +kernel
theorem dX9_mark_153 : decode cX9_mark 153 = .ok (.iadd, 1) := by decide +kernel
theorem dX9_mark_154 : decode cX9_mark 154 = .ok (.aload_n 0, 1) := by decide +kernel
theorem dX9_mark_155 : decode cX9_mark 155 = .ok (.getfield 48, 3) := by decide +kernel
theorem dX9_mark_158 : decode cX9_mark 158 = .ok (.iload_n 2, 1) := by decide +kernel
theorem dX9_mark_159 : decode cX9_mark 159 = .ok (.iaload, 1) := by decide +kernel
theorem dX9_mark_160 : decode cX9_mark 160 = .ok (.iastore, 1) := by decide +kernel
theorem dX9_mark_161 : decode cX9_mark 161 = .ok (.aload_n 0, 1) := by decide +kernel
theorem dX9_mark_162 : decode cX9_mark 162 = .ok (.getfield 93, 3) := by decide +kernel
theorem dX9_mark_165 : decode cX9_mark 165 = .ok (.bipush 40, 2) := by decide +kernel
theorem dX9_mark_167 : decode cX9_mark 167 = .ok (.iload_n 1, 1) := by decide +kernel
theorem dX9_mark_168 : decode cX9_mark 168 = .ok (.imul, 1) := by decide +kernel
theorem dX9_mark_169 : decode cX9_mark 169 = .ok (.iload_n 2, 1) := by decide +kernel
theorem dX9_mark_170 : decode cX9_mark 170 = .ok (.iadd, 1) := by decide +kernel
theorem dX9_mark_171 : decode cX9_mark 171 = .ok (.aload_n 0, 1) := by decide +kernel
theorem dX9_mark_172 : decode cX9_mark 172 = .ok (.getfield 51, 3) := by decide +kernel
theorem dX9_mark_175 : decode cX9_mark 175 = .ok (.iload_n 2, 1) := by decide +kernel
theorem dX9_mark_176 : decode cX9_mark 176 = .ok (.iaload, 1) := by decide +kernel
theorem dX9_mark_177 : decode cX9_mark 177 = .ok (.iastore, 1) := by decide +kernel
theorem dX9_mark_178 : decode cX9_mark 178 = .ok (.iinc 2 1, 3) := by decide +kernel
theorem dX9_mark_181 : decode cX9_mark 181 = .ok (.goto (-45), 3) := by decide +kernel
theorem dX9_mark_184 : decode cX9_mark 184 = .ok (.aload_n 0, 1) := by decide +kernel
theorem dX9_mark_185 : decode cX9_mark 185 = .ok (.getfield 66, 3) := by decide +kernel
theorem dX9_mark_188 : decode cX9_mark 188 = .ok (.iload_n 1, 1) := by decide +kernel
theorem dX9_mark_189 : decode cX9_mark 189 = .ok (.aload_n 0, 1) := by decide +kernel
theorem dX9_mark_190 : decode cX9_mark 190 = .ok (.getfield 109, 3) := by decide +kernel
theorem dX9_mark_193 : decode cX9_mark 193 = .ok (.iastore, 1) := by decide +kernel
theorem dX9_mark_194 : decode cX9_mark 194 = .ok (.aload_n 0, 1) := by decide +kernel
theorem dX9_mark_195 : decode cX9_mark 195 = .ok (.getfield 87, 3) := by decide +kernel
theorem dX9_mark_198 : decode cX9_mark 198 = .ok (.iload_n 1, 1) := by decide +kernel
theorem dX9_mark_199 : decode cX9_mark 199 = .ok (.aload_n 0, 1) := by decide +kernel
theorem dX9_mark_200 : decode cX9_mark 200 = .ok (.getfield 118, 3) := by decide +kernel
theorem dX9_mark_203 : decode cX9_mark 203 = .ok (.iastore, 1) := by decide +kernel
theorem dX9_mark_204 : decode cX9_mark 204 = .ok (.aload_n 0, 1) := by decide +kernel
theorem dX9_mark_205 : decode cX9_mark 205 = .ok (.getfield 84, 3) := by decide +kernel
theorem dX9_mark_208 : decode cX9_mark 208 = .ok (.iload_n 1, 1) := by decide +kernel
theorem dX9_mark_209 : decode cX9_mark 209 = .ok (.aload_n 0, 1) := by decide +kernel
theorem dX9_mark_210 : decode cX9_mark 210 = .ok (.getfield 115, 3) := by decide +kernel
theorem dX9_mark_213 : decode cX9_mark 213 = .ok (.iastore, 1) := by decide +kernel
theorem dX9_mark_214 : decode cX9_mark 214 = .ok (.aload_n 0, 1) := by decide +kernel
theorem dX9_mark_215 : decode cX9_mark 215 = .ok (.dup, 1) := by decide +kernel
theorem dX9_mark_216 : decode cX9_mark 216 = .ok (.getfield 124, 3) := by decide +kernel
theorem dX9_mark_219 : decode cX9_mark 219 = .ok (.iconst 1, 1) := by decide +kernel
theorem dX9_mark_220 : decode cX9_mark 220 = .ok (.iadd, 1) := by decide +kernel
theorem dX9_mark_221 : decode cX9_mark 221 = .ok (.putfield 124, 3) := by decide +kernel
theorem dX9_mark_224 : decode cX9_mark 224 = .ok (.iload_n 1, 1) := by decide +kernel
theorem dX9_mark_225 : decode cX9_mark 225 = .ok (.ireturn, 1) := by decide +kernel
theorem dX9_restore_0 : decode cX9_restore 0 = .ok (.iload_n 1, 1) := by decide +kernel
theorem dX9_restore_1 : decode cX9_restore 1 = .ok (.i2l, 1) := by decide +kernel
theorem dX9_restore_2 : decode cX9_restore 2 = .ok (.lconst 0, 1) := by decide +kernel
theorem dX9_restore_3 : decode cX9_restore 3 = .ok (.aload_n 0, 1) := by decide +kernel
theorem dX9_restore_4 : decode cX9_restore 4 = .ok (.getfield 124, 3) := by decide +kernel
theorem dX9_restore_7 : decode cX9_restore 7 = .ok (.iconst 1, 1) := by decide +kernel
theorem dX9_restore_8 : decode cX9_restore 8 = .ok (.isub, 1) := by decide +kernel
theorem dX9_restore_9 : decode cX9_restore 9 = .ok (.i2l, 1) := by decide +kernel
theorem dX9_restore_10 : decode cX9_restore 10 = .ok (.invokestatic 147, 3) := by decide +kernel
theorem dX9_restore_13 : decode cX9_restore 13 = .ok (.ifCond .ne 6, 3) := by decide +kernel
theorem dX9_restore_16 : decode cX9_restore 16 = .ok (.bipush (-101), 2) := by decide +kernel
theorem dX9_restore_18 : decode cX9_restore 18 = .ok (.ireturn, 1) := by decide +kernel
theorem dX9_restore_19 : decode cX9_restore 19 = .ok (.iload_n 2, 1) := by decide +kernel
theorem dX9_restore_20 : decode cX9_restore 20 = .ok (.iconst 1, 1) := by decide +kernel
theorem dX9_restore_21 : decode cX9_restore 21 = .ok (.if_icmp .ge 6, 3) := by decide +kernel
theorem dX9_restore_24 : decode cX9_restore 24 = .ok (.bipush (-102), 2) := by decide +kernel
theorem dX9_restore_26 : decode cX9_restore 26 = .ok (.ireturn, 1) := by decide +kernel
theorem dX9_restore_27 : decode cX9_restore 27 = .ok (.iload_n 2, 1) := by decide +kernel
theorem dX9_restore_28 : decode cX9_restore 28 = .ok (.aload_n 0, 1) := by decide +kernel
theorem dX9_restore_29 : decode cX9_restore 29 = .ok (.getfield 137, 3) := by decide +kernel
theorem dX9_restore_32 : decode cX9_restore 32 = .ok (.if_icmp .le 6, 3) := by decide +kernel
theorem dX9_restore_35 : decode cX9_restore 35 = .ok (.bipush (-105), 2) := by decide +kernel
theorem dX9_restore_37 : decode cX9_restore 37 = .ok (.ireturn, 1) := by decide +kernel
theorem dX9_restore_38 : decode cX9_restore 38 = .ok (.iconst 0, 1) := by decide +kernel
theorem dX9_restore_39 : decode cX9_restore 39 = .ok (.istore_n 3, 1) := by decide +kernel
theorem dX9_restore_40 : decode cX9_restore 40 = .ok (.iload_n 3, 1) := by decide +kernel
theorem dX9_restore_41 : decode cX9_restore 41 = .ok (.bipush 100, 2) := by decide +kernel
theorem dX9_restore_43 : decode cX9_restore 43 = .ok (.if_icmp .ge 43, 3) := by decide +kernel
theorem dX9_restore_46 : decode cX9_restore 46 = .ok (.aload_n 0, 1) := by decide +kernel
theorem dX9_restore_47 : decode cX9_restore 47 = .ok (.getfield 32, 3) := by decide +kernel
theorem dX9_restore_50 : decode cX9_restore 50 = .ok (.iload_n 3, 1) := by decide +kernel
theorem dX9_restore_51 : decode cX9_restore 51 = .ok (.aload_n 0, 1) := by decide +kernel
theorem dX9_restore_52 : decode cX9_restore 52 = .ok (.getfield 78, 3) := by decide +kernel
theorem dX9_restore_55 : decode cX9_restore 55 = .ok (.bipush 100, 2) := by decide +kernel
theorem dX9_restore_57 : decode cX9_restore 57 = .ok (.iload_n 1, 1) := by decide +kernel
theorem dX9_restore_58 : decode cX9_restore 58 = .ok (.imul, 1) := by decide +kernel
theorem dX9_restore_59 : decode cX9_restore 59 = .ok (.iload_n 3, 1) := by decide +kernel
theorem dX9_restore_60 : decode cX9_restore 60 = .ok (.iadd, 1) := by decide +kernel
theorem dX9_restore_61 : decode cX9_restore 61 = .ok (.iaload, 1) := by decide +kernel
theorem dX9_restore_62 : decode cX9_restore 62 = .ok (.iastore, 1) := by decide +kernel
theorem dX9_restore_63 : decode cX9_restore 63 = .ok (.aload_n 0, 1) := by decide +kernel
theorem dX9_restore_64 : decode cX9_restore 64 = .ok (.getfield 35, 3) := by decide +kernel
theorem dX9_restore_67 : decode cX9_restore 67 = .ok (.iload_n 3, 1) := by decide +kernel
theorem dX9_restore_68 : decode cX9_restore 68 = .ok (.aload_n 0, 1) := by decide +kernel
theorem dX9_restore_69 : decode cX9_restore 69 = .ok (.getfield 81, 3) := by decide +kernel
theorem dX9_restore_72 : decode cX9_restore 72 = .ok (.bipush 100, 2) := by decide +kernel
theorem dX9_restore_74 : decode cX9_restore 74 = .ok (.iload_n 1, 1) := by decide +kernel
theorem dX9_restore_75 : decode cX9_restore 75 = .ok (.imul, 1) := by decide +kernel
theorem dX9_restore_76 : decode cX9_restore 76 = .ok (.iload_n 3, 1) := by decide +kernel
theorem dX9_restore_77 : decode cX9_restore 77 = .ok (.iadd, 1) := by decide +kernel
theorem dX9_restore_78 : decode cX9_restore 78 = .ok (.laload, 1) := by decide +kernel
theorem dX9_restore_79 : decode cX9_restore 79 = .ok (.lastore, 1) := by decide +kernel
theorem dX9_restore_80 : decode cX9_restore 80 = .ok (.iinc 3 1, 3) := by decide +kernel
theorem dX9_restore_83 : decode cX9_restore 83 = .ok (.goto (-43), 3) := by decide +kernel
theorem dX9_restore_86 : decode cX9_restore 86 = .ok (.aload_n 0, 1) := by decide +kernel
theorem dX9_restore_87 : decode cX9_restore 87 = .ok (.aload_n 0, 1) := by decide +kernel
theorem dX9_restore_88 : decode cX9_restore 88 = .ok (.getfield 66, 3) := by decide +kernel
theorem dX9_restore_91 : decode cX9_restore 91 = .ok (.iload_n 1, 1) := by decide +kernel
theorem dX9_restore_92 : decode cX9_restore 92 = .ok (.iaload, 1) := by decide +kernel
theorem dX9_restore_93 : decode cX9_restore 93 = .ok (.putfield 109, 3) := by decide +kernel
theorem dX9_restore_96 : decode cX9_restore 96 = .ok (.iconst 0, 1) := by decide +kernel
theorem dX9_restore_97 : decode cX9_restore 97 = .ok (.istore_n 3, 1) := by decide +kernel
theorem dX9_restore_98 : decode cX9_restore 98 = .ok (.iload_n 3, 1) := by decide +kernel
theorem dX9_restore_99 : decode cX9_restore 99 = .ok (.aload_n 0, 1) := by decide +kernel
theorem dX9_restore_100 : decode cX9_restore 100 = .ok (.getfield 109, 3) := by decide +kernel
theorem dX9_restore_103 : decode cX9_restore 103 = .ok (.if_icmp .ge 63, 3) := by decide +kernel
theorem dX9_restore_106 : decode cX9_restore 106 = .ok (.aload_n 0, 1) := by decide +kernel
theorem dX9_restore_107 : decode cX9_restore 107 = .ok (.getfield 23, 3) := by decide +kernel
theorem dX9_restore_110 : decode cX9_restore 110 = .ok (.iload_n 3, 1) := by decide +kernel
theorem dX9_restore_111 : decode cX9_restore 111 = .ok (.aload_n 0, 1) := by decide +kernel
theorem dX9_restore_112 : decode cX9_restore 112 = .ok (.getfield 69, 3) := by decide +kernel
theorem dX9_restore_115 : decode cX9_restore 115 = .ok (.sipush 400, 3) := by decide +kernel
theorem dX9_restore_118 : decode cX9_restore 118 = .ok (.iload_n 1, 1) := by decide +kernel
theorem dX9_restore_119 : decode cX9_restore 119 = .ok (.imul, 1) := by decide +kernel
theorem dX9_restore_120 : decode cX9_restore 120 = .ok (.iload_n 3, 1) := by decide +kernel
theorem dX9_restore_121 : decode cX9_restore 121 = .ok (.iadd, 1) := by decide +kernel
theorem dX9_restore_122 : decode cX9_restore 122 = .ok (.iaload, 1) := by decide +kernel
theorem dX9_restore_123 : decode cX9_restore 123 = .ok (.iastore, 1) := by decide +kernel
theorem dX9_restore_124 : decode cX9_restore 124 = .ok (.aload_n 0, 1) := by decide +kernel
theorem dX9_restore_125 : decode cX9_restore 125 = .ok (.getfield 26, 3) := by decide +kernel
theorem dX9_restore_128 : decode cX9_restore 128 = .ok (.iload_n 3, 1) := by decide +kernel
theorem dX9_restore_129 : decode cX9_restore 129 = .ok (.aload_n 0, 1) := by decide +kernel
theorem dX9_restore_130 : decode cX9_restore 130 = .ok (.getfield 72, 3) := by decide +kernel
theorem dX9_restore_133 : decode cX9_restore 133 = .ok (.sipush 400, 3) := by decide +kernel
theorem dX9_restore_136 : decode cX9_restore 136 = .ok (.iload_n 1, 1) := by decide +kernel
theorem dX9_restore_137 : decode cX9_restore 137 = .ok (.imul, 1) := by decide +kernel
theorem dX9_restore_138 : decode cX9_restore 138 = .ok (.iload_n 3, 1) := by decide +kernel
theorem dX9_restore_139 : decode cX9_restore 139 = .ok (.iadd, 1) := by decide +kernel
theorem dX9_restore_140 : decode cX9_restore 140 = .ok (.iaload, 1) := by decide +kernel
theorem dX9_restore_141 : decode cX9_restore 141 = .ok (.iastore, 1) := by decide +kernel
theorem dX9_restore_142 : decode cX9_restore 142 = .ok (.aload_n 0, 1) := by decide +kernel
theorem dX9_restore_143 : decode cX9_restore 143 = .ok (.getfield 29, 3) := by decide +kernel
theorem dX9_restore_146 : decode cX9_restore 146 = .ok (.iload_n 3, 1) := by decide +kernel
theorem dX9_restore_147 : decode cX9_restore 147 = .ok (.aload_n 0, 1) := by decide +kernel
theorem dX9_restore_148 : decode cX9_restore 148 = .ok (.getfield 75, 3) := by decide +kernel
theorem dX9_restore_151 : decode cX9_restore 151 = .ok (.sipush 400, 3) := by decide +kernel
theorem dX9_restore_154 : decode cX9_restore 154 = .ok (.iload_n 1, 1) := by decide +kernel
theorem dX9_restore_155 : decode cX9_restore 155 = .ok (.imul, 1) := by decide +kernel
theorem dX9_restore_156 : decode cX9_restore 156 = .ok (.iload_n 3, 1) := by decide +kernel
theorem dX9_restore_157 : decode cX9_restore 157 = .ok (.iadd, 1) := by decide +kernel
theorem dX9_restore_158 : decode cX9_restore 158 = .ok (.baload, 1) := by decide +kernel
theorem dX9_restore_159 : decode cX9_restore 159 = .ok (.bastore, 1) := by decide +kernel
theorem dX9_restore_160 : decode cX9_restore 160 = .ok (.iinc 3 1, 3) := by decide +kernel
theorem dX9_restore_163 : decode cX9_restore 163 = .ok (.goto (-65), 3) := by decide +kernel
theorem dX9_restore_166 : decode cX9_restore 166 = .ok (.aload_n 0, 1) := by decide +kernel
theorem dX9_restore_167 : decode cX9_restore 167 = .ok (.aload_n 0, 1) := by decide +kernel
theorem dX9_restore_168 : decode cX9_restore 168 = .ok (.getfield 87, 3) := by decide +kernel
theorem dX9_restore_171 : decode cX9_restore 171 = .ok (.iload_n 1, 1) := by decide +kernel
theorem dX9_restore_172 : decode cX9_restore 172 = .ok (.iaload, 1) := by decide +kernel
theorem dX9_restore_173 : decode cX9_restore 173 = .ok (.putfield 118, 3) := by decide +kernel
theorem dX9_restore_176 : decode cX9_restore 176 = .ok (.iconst 0, 1) := by decide +kernel
theorem dX9_restore_177 : decode cX9_restore 177 = .ok (.istore_n 3, 1) := by decide +kernel
theorem dX9_restore_178 : decode cX9_restore 178 = .ok (.iload_n 3, 1) := by decide +kernel
theorem dX9_restore_179 : decode cX9_restore 179 = .ok (.aload_n 0, 1) := by decide +kernel
theorem dX9_restore_180 : decode cX9_restore 180 = .ok (.getfield 118, 3) := by decide +kernel
theorem dX9_restore_183 : decode cX9_restore 183 = .ok (.if_icmp .ge 43, 3) := by decide +kernel
theorem dX9_restore_186 : decode cX9_restore 186 = .ok (.aload_n 0, 1) := by decide +kernel
theorem dX9_restore_187 : decode cX9_restore 187 = .ok (.getfield 48, 3) := by decide +kernel
theorem dX9_restore_190 : decode cX9_restore 190 = .ok (.iload_n 3, 1) := by decide +kernel
theorem dX9_restore_191 : decode cX9_restore 191 = .ok (.aload_n 0, 1) := by decide +kernel
theorem dX9_restore_192 : decode cX9_restore 192 = .ok (.getfield 90, 3) := by decide +kernel
theorem dX9_restore_195 : decode cX9_restore 195 = .ok (.bipush 40, 2) := by decide +kernel
theorem dX9_restore_197 : decode cX9_restore 197 = .ok (.iload_n 1, 1) := by decide +kernel
theorem dX9_restore_198 : decode cX9_restore 198 = .ok (.imul, 1) := by decide +kernel
theorem dX9_restore_199 : decode cX9_restore 199 = .ok (.iload_n 3, 1) := by decide +kernel
theorem dX9_restore_200 : decode cX9_restore 200 = .ok (.iadd, 1) := by decide +kernel
theorem dX9_restore_201 : decode cX9_restore 201 = .ok (.iaload, 1) := by decide +kernel
theorem dX9_restore_202 : decode cX9_restore 202 = .ok (.iastore, 1) := by decide +kernel
theorem dX9_restore_203 : decode cX9_restore 203 = .ok (.aload_n 0, 1) := by decide +kernel
theorem dX9_restore_204 : decode cX9_restore 204 = .ok (.getfield 51, 3) := by decide +kernel
theorem dX9_restore_207 : decode cX9_restore 207 = .ok (.iload_n 3, 1) := by decide +kernel
theorem dX9_restore_208 : decode cX9_restore 208 = .ok (.aload_n 0, 1) := by decide +kernel
theorem dX9_restore_209 : decode cX9_restore 209 = .ok (.getfield 93, 3) := by decide +kernel
theorem dX9_restore_212 : decode cX9_restore 212 = .ok (.bipush 40, 2) := by decide +kernel
theorem dX9_restore_214 : decode cX9_restore 214 = .ok (.iload_n 1, 1) := by decide +kernel
theorem dX9_restore_215 : decode cX9_restore 215 = .ok (.imul, 1) := by decide +kernel
theorem dX9_restore_216 : decode cX9_restore 216 = .ok (.iload_n 3, 1) := by decide +kernel
theorem dX9_restore_217 : decode cX9_restore 217 = .ok (.iadd, 1) := by decide +kernel
theorem dX9_restore_218 : decode cX9_restore 218 = .ok (.iaload, 1) := by decide +kernel
theorem dX9_restore_219 : decode cX9_restore 219 = .ok (.iastore, 1) := by decide +kernel
theorem dX9_restore_220 : decode cX9_restore 220 = .ok (.iinc 3 1, 3) := by decide +kernel
theorem dX9_restore_223 : decode cX9_restore 223 = .ok (.goto (-45), 3) := by decide +kernel
theorem dX9_restore_226 : decode cX9_restore 226 = .ok (.aload_n 0, 1) := by decide +kernel
theorem dX9_restore_227 : decode cX9_restore 227 = .ok (.aload_n 0, 1) := by decide +kernel
theorem dX9_restore_228 : decode cX9_restore 228 = .ok (.getfield 84, 3) := by decide +kernel
theorem dX9_restore_231 : decode cX9_restore 231 = .ok (.iload_n 1, 1) := by decide +kernel
theorem dX9_restore_232 : decode cX9_restore 232 = .ok (.iaload, 1) := by decide +kernel
theorem dX9_restore_233 : decode cX9_restore 233 = .ok (.putfield 115, 3) := by decide +kernel
theorem dX9_restore_236 : decode cX9_restore 236 = .ok (.aload_n 0, 1) := by decide +kernel
theorem dX9_restore_237 : decode cX9_restore 237 = .ok (.iload_n 2, 1) := by decide +kernel
theorem dX9_restore_238 : decode cX9_restore 238 = .ok (.invokevirtual 192, 3) := by decide +kernel
theorem dX9_restore_241 : decode cX9_restore 241 = .ok (.iconst 0, 1) := by decide +kernel
theorem dX9_restore_242 : decode cX9_restore 242 = .ok (.istore_n 3, 1) := by decide +kernel
theorem dX9_restore_243 : decode cX9_restore 243 = .ok (.iload_n 3, 1) := by decide +kernel
theorem dX9_restore_244 : decode cX9_restore 244 = .ok (.aload_n 0, 1) := by decide +kernel
theorem dX9_restore_245 : decode cX9_restore 245 = .ok (.getfield 134, 3) := by decide +kernel
theorem dX9_restore_248 : decode cX9_restore 248 = .ok (.if_icmp .ge 38, 3) := by decide +kernel
theorem dX9_restore_251 : decode cX9_restore 251 = .ok (.aload_n 0, 1) := by decide +kernel
theorem dX9_restore_252 : decode cX9_restore 252 = .ok (.getfield 7, 3) := by decide +kernel
theorem dX9_restore_255 : decode cX9_restore 255 = .ok (.iload_n 3, 1) := by decide +kernel
theorem dX9_restore_256 : decode cX9_restore 256 = .ok (.aload_n 0, 1) := by decide +kernel
theorem dX9_restore_257 : decode cX9_restore 257 = .ok (.getfield 96, 3) := by decide +kernel
theorem dX9_restore_260 : decode cX9_restore 260 = .ok (.iload_n 3, 1) := by decide +kernel
theorem dX9_restore_261 : decode cX9_restore 261 = .ok (.iaload, 1) := by decide +kernel
theorem dX9_restore_262 : decode cX9_restore 262 = .ok (.iastore, 1) := by decide +kernel
theorem dX9_restore_263 : decode cX9_restore 263 = .ok (.aload_n 0, 1) := by decide +kernel
theorem dX9_restore_264 : decode cX9_restore 264 = .ok (.getfield 13, 3) := by decide +kernel
theorem dX9_restore_267 : decode cX9_restore 267 = .ok (.iload_n 3, 1) := by decide +kernel
theorem dX9_restore_268 : decode cX9_restore 268 = .ok (.dup2, 1) := by decide +kernel
theorem dX9_restore_269 : decode cX9_restore 269 = .ok (.iaload, 1) := by decide +kernel
theorem dX9_restore_270 : decode cX9_restore 270 = .ok (.iconst 1, 1) := by decide +kernel
theorem dX9_restore_271 : decode cX9_restore 271 = .ok (.iadd, 1) := by decide +kernel
theorem dX9_restore_272 : decode cX9_restore 272 = .ok (.iastore, 1) := by decide +kernel
theorem dX9_restore_273 : decode cX9_restore 273 = .ok (.aload_n 0, 1) := by decide +kernel
theorem dX9_restore_274 : decode cX9_restore 274 = .ok (.getfield 16, 3) := by decide +kernel
theorem dX9_restore_277 : decode cX9_restore 277 = .ok (.iload_n 3, 1) := by decide +kernel
theorem dX9_restore_278 : decode cX9_restore 278 = .ok (.iconst 0, 1) := by decide +kernel
theorem dX9_restore_279 : decode cX9_restore 279 = .ok (.iastore, 1) := by decide +kernel
theorem dX9_restore_280 : decode cX9_restore 280 = .ok (.iinc 3 1, 3) := by decide +kernel
theorem dX9_restore_283 : decode cX9_restore 283 = .ok (.goto (-40), 3) := by decide +kernel
theorem dX9_restore_286 : decode cX9_restore 286 = .ok (.aload_n 0, 1) := by decide +kernel
theorem dX9_restore_287 : decode cX9_restore 287 = .ok (.iload_n 2, 1) := by decide +kernel
theorem dX9_restore_288 : decode cX9_restore 288 = .ok (.putfield 140, 3) := by decide +kernel
theorem dX9_restore_291 : decode cX9_restore 291 = .ok (.aload_n 0, 1) := by decide +kernel
theorem dX9_restore_292 : decode cX9_restore 292 = .ok (.iconst 0, 1) := by decide +kernel
theorem dX9_restore_293 : decode cX9_restore 293 = .ok (.putfield 112, 3) := by decide +kernel
theorem dX9_restore_296 : decode cX9_restore 296 = .ok (.aload_n 0, 1) := by decide +kernel
theorem dX9_restore_297 : decode cX9_restore 297 = .ok (.iconst 0, 1) := by decide +kernel
theorem dX9_restore_298 : decode cX9_restore 298 = .ok (.putfield 121, 3) := by decide +kernel
theorem dX9_restore_301 : decode cX9_restore 301 = .ok (.aload_n 0, 1) := by decide +kernel
theorem dX9_restore_302 : decode cX9_restore 302 = .ok (.invokevirtual 224, 3) := by decide +kernel
theorem dX9_restore_305 : decode cX9_restore 305 = .ok (.ireturn, 1) := by decide +kernel
theorem dX9_waiting_0 : decode cX9_waiting 0 = .ok (.iconst 0, 1) := by decide +kernel
theorem dX9_waiting_1 : decode cX9_waiting 1 = .ok (.istore_n 1, 1) := by decide +kernel
theorem dX9_waiting_2 : decode cX9_waiting 2 = .ok (.iconst 0, 1) := by decide +kernel
theorem dX9_waiting_3 : decode cX9_waiting 3 = .ok (.istore_n 2, 1) := by decide +kernel
theorem dX9_waiting_4 : decode cX9_waiting 4 = .ok (.iload_n 2, 1) := by decide +kernel
theorem dX9_waiting_5 : decode cX9_waiting 5 = .ok (.aload_n 0, 1) := by decide +kernel
theorem dX9_waiting_6 : decode cX9_waiting 6 = .ok (.getfield 109, 3) := by decide +kernel
theorem dX9_waiting_9 : decode cX9_waiting 9 = .ok (.if_icmp .ge 26, 3) := by decide +kernel
theorem dX9_waiting_12 : decode cX9_waiting 12 = .ok (.iload_n 1, 1) := by decide +kernel
theorem dX9_waiting_13 : decode cX9_waiting 13 = .ok (.aload_n 0, 1) := by decide +kernel
theorem dX9_waiting_14 : decode cX9_waiting 14 = .ok (.getfield 29, 3) := by decide +kernel
theorem dX9_waiting_17 : decode cX9_waiting 17 = .ok (.iload_n 2, 1) := by decide +kernel
theorem dX9_waiting_18 : decode cX9_waiting 18 = .ok (.baload, 1) := by decide +kernel
theorem dX9_waiting_19 : decode cX9_waiting 19 = .ok (.ifCond .eq 7, 3) := by decide +kernel
theorem dX9_waiting_22 : decode cX9_waiting 22 = .ok (.iconst 1, 1) := by decide +kernel
theorem dX9_waiting_23 : decode cX9_waiting 23 = .ok (.goto 4, 3) := by decide +kernel
theorem dX9_waiting_26 : decode cX9_waiting 26 = .ok (.iconst 0, 1) := by decide +kernel
theorem dX9_waiting_27 : decode cX9_waiting 27 = .ok (.iadd, 1) := by decide +kernel
theorem dX9_waiting_28 : decode cX9_waiting 28 = .ok (.istore_n 1, 1) := by decide +kernel
theorem dX9_waiting_29 : decode cX9_waiting 29 = .ok (.iinc 2 1, 3) := by decide +kernel
theorem dX9_waiting_32 : decode cX9_waiting 32 = .ok (.goto (-28), 3) := by decide +kernel
theorem dX9_waiting_35 : decode cX9_waiting 35 = .ok (.iload_n 1, 1) := by decide +kernel
theorem dX9_waiting_36 : decode cX9_waiting 36 = .ok (.ireturn, 1) := by decide +kernel
theorem dX9_digest_0 : decode cX9_digest 0 = .ok (.bipush 17, 2) := by decide +kernel
theorem dX9_digest_2 : decode cX9_digest 2 = .ok (.istore_n 1, 1) := by decide +kernel
theorem dX9_digest_3 : decode cX9_digest 3 = .ok (.iconst 0, 1) := by decide +kernel
theorem dX9_digest_4 : decode cX9_digest 4 = .ok (.istore_n 2, 1) := by decide +kernel
theorem dX9_digest_5 : decode cX9_digest 5 = .ok (.iload_n 2, 1) := by decide +kernel
theorem dX9_digest_6 : decode cX9_digest 6 = .ok (.aload_n 0, 1) := by decide +kernel
theorem dX9_digest_7 : decode cX9_digest 7 = .ok (.getfield 134, 3) := by decide +kernel
theorem dX9_digest_10 : decode cX9_digest 10 = .ok (.if_icmp .ge 31, 3) := by decide +kernel
theorem dX9_digest_13 : decode cX9_digest 13 = .ok (.bipush 31, 2) := by decide +kernel
theorem dX9_digest_15 : decode cX9_digest 15 = .ok (.iload_n 1, 1) := by decide +kernel
theorem dX9_digest_16 : decode cX9_digest 16 = .ok (.imul, 1) := by decide +kernel
theorem dX9_digest_17 : decode cX9_digest 17 = .ok (.bipush 100, 2) := by decide +kernel
theorem dX9_digest_19 : decode cX9_digest 19 = .ok (.aload_n 0, 1) := by decide +kernel
theorem dX9_digest_20 : decode cX9_digest 20 = .ok (.getfield 7, 3) := by decide +kernel
theorem dX9_digest_23 : decode cX9_digest 23 = .ok (.iload_n 2, 1) := by decide +kernel
theorem dX9_digest_24 : decode cX9_digest 24 = .ok (.iaload, 1) := by decide +kernel
theorem dX9_digest_25 : decode cX9_digest 25 = .ok (.imul, 1) := by decide +kernel
theorem dX9_digest_26 : decode cX9_digest 26 = .ok (.iadd, 1) := by decide +kernel
theorem dX9_digest_27 : decode cX9_digest 27 = .ok (.aload_n 0, 1) := by decide +kernel
theorem dX9_digest_28 : decode cX9_digest 28 = .ok (.getfield 13, 3) := by decide +kernel
theorem dX9_digest_31 : decode cX9_digest 31 = .ok (.iload_n 2, 1) := by decide +kernel
theorem dX9_digest_32 : decode cX9_digest 32 = .ok (.iaload, 1) := by decide +kernel
theorem dX9_digest_33 : decode cX9_digest 33 = .ok (.iadd, 1) := by decide +kernel
theorem dX9_digest_34 : decode cX9_digest 34 = .ok (.istore_n 1, 1) := by decide +kernel
theorem dX9_digest_35 : decode cX9_digest 35 = .ok (.iinc 2 1, 3) := by decide +kernel
theorem dX9_digest_38 : decode cX9_digest 38 = .ok (.goto (-33), 3) := by decide +kernel
theorem dX9_digest_41 : decode cX9_digest 41 = .ok (.iload_n 1, 1) := by decide +kernel
theorem dX9_digest_42 : decode cX9_digest 42 = .ok (.ireturn, 1) := by decide +kernel
theorem dX9_told_0 : decode cX9_told 0 = .ok (.iload_n 1, 1) := by decide +kernel
theorem dX9_told_1 : decode cX9_told 1 = .ok (.tableswitch 123 0 11 #[63, 68, 73, 78, 83, 88, 93, 98, 103, 108, 113, 118], 63) := by decide +kernel
theorem dX9_told_64 : decode cX9_told 64 = .ok (.aload_n 0, 1) := by decide +kernel
theorem dX9_told_65 : decode cX9_told 65 = .ok (.getfield 134, 3) := by decide +kernel
theorem dX9_told_68 : decode cX9_told 68 = .ok (.ireturn, 1) := by decide +kernel
theorem dX9_told_69 : decode cX9_told 69 = .ok (.aload_n 0, 1) := by decide +kernel
theorem dX9_told_70 : decode cX9_told 70 = .ok (.getfield 137, 3) := by decide +kernel
theorem dX9_told_73 : decode cX9_told 73 = .ok (.ireturn, 1) := by decide +kernel
theorem dX9_told_74 : decode cX9_told 74 = .ok (.aload_n 0, 1) := by decide +kernel
theorem dX9_told_75 : decode cX9_told 75 = .ok (.getfield 140, 3) := by decide +kernel
theorem dX9_told_78 : decode cX9_told 78 = .ok (.ireturn, 1) := by decide +kernel
theorem dX9_told_79 : decode cX9_told 79 = .ok (.aload_n 0, 1) := by decide +kernel
theorem dX9_told_80 : decode cX9_told 80 = .ok (.getfield 109, 3) := by decide +kernel
theorem dX9_told_83 : decode cX9_told 83 = .ok (.ireturn, 1) := by decide +kernel
theorem dX9_told_84 : decode cX9_told 84 = .ok (.aload_n 0, 1) := by decide +kernel
theorem dX9_told_85 : decode cX9_told 85 = .ok (.invokevirtual 224, 3) := by decide +kernel
theorem dX9_told_88 : decode cX9_told 88 = .ok (.ireturn, 1) := by decide +kernel
theorem dX9_told_89 : decode cX9_told 89 = .ok (.aload_n 0, 1) := by decide +kernel
theorem dX9_told_90 : decode cX9_told 90 = .ok (.getfield 112, 3) := by decide +kernel
theorem dX9_told_93 : decode cX9_told 93 = .ok (.ireturn, 1) := by decide +kernel
theorem dX9_told_94 : decode cX9_told 94 = .ok (.aload_n 0, 1) := by decide +kernel
theorem dX9_told_95 : decode cX9_told 95 = .ok (.invokevirtual 171, 3) := by decide +kernel
theorem dX9_told_98 : decode cX9_told 98 = .ok (.ireturn, 1) := by decide +kernel
theorem dX9_told_99 : decode cX9_told 99 = .ok (.aload_n 0, 1) := by decide +kernel
theorem dX9_told_100 : decode cX9_told 100 = .ok (.getfield 118, 3) := by decide +kernel
theorem dX9_told_103 : decode cX9_told 103 = .ok (.ireturn, 1) := by decide +kernel
theorem dX9_told_104 : decode cX9_told 104 = .ok (.aload_n 0, 1) := by decide +kernel
theorem dX9_told_105 : decode cX9_told 105 = .ok (.getfield 115, 3) := by decide +kernel
theorem dX9_told_108 : decode cX9_told 108 = .ok (.ireturn, 1) := by decide +kernel
theorem dX9_told_109 : decode cX9_told 109 = .ok (.aload_n 0, 1) := by decide +kernel
theorem dX9_told_110 : decode cX9_told 110 = .ok (.invokevirtual 221, 3) := by decide +kernel
theorem dX9_told_113 : decode cX9_told 113 = .ok (.ireturn, 1) := by decide +kernel
theorem dX9_told_114 : decode cX9_told 114 = .ok (.aload_n 0, 1) := by decide +kernel
theorem dX9_told_115 : decode cX9_told 115 = .ok (.getfield 124, 3) := by decide +kernel
theorem dX9_told_118 : decode cX9_told 118 = .ok (.ireturn, 1) := by decide +kernel
theorem dX9_told_119 : decode cX9_told 119 = .ok (.aload_n 0, 1) := by decide +kernel
theorem dX9_told_120 : decode cX9_told 120 = .ok (.getfield 127, 3) := by decide +kernel
theorem dX9_told_123 : decode cX9_told 123 = .ok (.ireturn, 1) := by decide +kernel
theorem dX9_told_124 : decode cX9_told 124 = .ok (.bipush (-102), 2) := by decide +kernel
theorem dX9_told_126 : decode cX9_told 126 = .ok (.ireturn, 1) := by decide +kernel
theorem dX9_clear_0 : decode cX9_clear 0 = .ok (.aload_n 0, 1) := by decide +kernel
theorem dX9_clear_1 : decode cX9_clear 1 = .ok (.getfield 109, 3) := by decide +kernel
theorem dX9_clear_4 : decode cX9_clear 4 = .ok (.istore_n 1, 1) := by decide +kernel
theorem dX9_clear_5 : decode cX9_clear 5 = .ok (.aload_n 0, 1) := by decide +kernel
theorem dX9_clear_6 : decode cX9_clear 6 = .ok (.invokevirtual 102, 3) := by decide +kernel
theorem dX9_clear_9 : decode cX9_clear 9 = .ok (.iload_n 1, 1) := by decide +kernel
theorem dX9_clear_10 : decode cX9_clear 10 = .ok (.ireturn, 1) := by decide +kernel
theorem dJ9_floorMod_7cf53_0 : decode cJ9_floorMod_7cf53 0 = .ok (.iload_n 0, 1) := by decide +kernel
theorem dJ9_floorMod_7cf53_1 : decode cJ9_floorMod_7cf53 1 = .ok (.iload_n 1, 1) := by decide +kernel
theorem dJ9_floorMod_7cf53_2 : decode cJ9_floorMod_7cf53 2 = .ok (.irem, 1) := by decide +kernel
theorem dJ9_floorMod_7cf53_3 : decode cJ9_floorMod_7cf53 3 = .ok (.istore_n 2, 1) := by decide +kernel
theorem dJ9_floorMod_7cf53_4 : decode cJ9_floorMod_7cf53 4 = .ok (.iload_n 0, 1) := by decide +kernel
theorem dJ9_floorMod_7cf53_5 : decode cJ9_floorMod_7cf53 5 = .ok (.iload_n 1, 1) := by decide +kernel
theorem dJ9_floorMod_7cf53_6 : decode cJ9_floorMod_7cf53 6 = .ok (.ixor, 1) := by decide +kernel
theorem dJ9_floorMod_7cf53_7 : decode cJ9_floorMod_7cf53 7 = .ok (.ifCond .ge 11, 3) := by decide +kernel
theorem dJ9_floorMod_7cf53_10 : decode cJ9_floorMod_7cf53 10 = .ok (.iload_n 2, 1) := by decide +kernel
theorem dJ9_floorMod_7cf53_11 : decode cJ9_floorMod_7cf53 11 = .ok (.ifCond .eq 7, 3) := by decide +kernel
theorem dJ9_floorMod_7cf53_14 : decode cJ9_floorMod_7cf53 14 = .ok (.iload_n 2, 1) := by decide +kernel
theorem dJ9_floorMod_7cf53_15 : decode cJ9_floorMod_7cf53 15 = .ok (.iload_n 1, 1) := by decide +kernel
theorem dJ9_floorMod_7cf53_16 : decode cJ9_floorMod_7cf53 16 = .ok (.iadd, 1) := by decide +kernel
theorem dJ9_floorMod_7cf53_17 : decode cJ9_floorMod_7cf53 17 = .ok (.ireturn, 1) := by decide +kernel
theorem dJ9_floorMod_7cf53_18 : decode cJ9_floorMod_7cf53 18 = .ok (.iload_n 2, 1) := by decide +kernel
theorem dJ9_floorMod_7cf53_19 : decode cJ9_floorMod_7cf53 19 = .ok (.ireturn, 1) := by decide +kernel
theorem dJ9_min_7cf53_0 : decode cJ9_min_7cf53 0 = .ok (.iload_n 0, 1) := by decide +kernel
theorem dJ9_min_7cf53_1 : decode cJ9_min_7cf53 1 = .ok (.iload_n 1, 1) := by decide +kernel
theorem dJ9_min_7cf53_2 : decode cJ9_min_7cf53 2 = .ok (.if_icmp .gt 7, 3) := by decide +kernel
theorem dJ9_min_7cf53_5 : decode cJ9_min_7cf53 5 = .ok (.iload_n 0, 1) := by decide +kernel
theorem dJ9_min_7cf53_6 : decode cJ9_min_7cf53 6 = .ok (.goto 4, 3) := by decide +kernel
theorem dJ9_min_7cf53_9 : decode cJ9_min_7cf53 9 = .ok (.iload_n 1, 1) := by decide +kernel
theorem dJ9_min_7cf53_10 : decode cJ9_min_7cf53 10 = .ok (.ireturn, 1) := by decide +kernel
theorem dJ7_fill_d0a16_0 : decode cJ7_fill_d0a16 0 = .ok (.iconst 0, 1) := by decide +kernel
theorem dJ7_fill_d0a16_1 : decode cJ7_fill_d0a16 1 = .ok (.istore_n 3, 1) := by decide +kernel
theorem dJ7_fill_d0a16_2 : decode cJ7_fill_d0a16 2 = .ok (.aload_n 0, 1) := by decide +kernel
theorem dJ7_fill_d0a16_3 : decode cJ7_fill_d0a16 3 = .ok (.arraylength, 1) := by decide +kernel
theorem dJ7_fill_d0a16_4 : decode cJ7_fill_d0a16 4 = .ok (.istore 4, 2) := by decide +kernel
theorem dJ7_fill_d0a16_6 : decode cJ7_fill_d0a16 6 = .ok (.iload_n 3, 1) := by decide +kernel
theorem dJ7_fill_d0a16_7 : decode cJ7_fill_d0a16 7 = .ok (.iload 4, 2) := by decide +kernel
theorem dJ7_fill_d0a16_9 : decode cJ7_fill_d0a16 9 = .ok (.if_icmp .ge 13, 3) := by decide +kernel
theorem dJ7_fill_d0a16_12 : decode cJ7_fill_d0a16 12 = .ok (.aload_n 0, 1) := by decide +kernel
theorem dJ7_fill_d0a16_13 : decode cJ7_fill_d0a16 13 = .ok (.iload_n 3, 1) := by decide +kernel
theorem dJ7_fill_d0a16_14 : decode cJ7_fill_d0a16 14 = .ok (.lload_n 1, 1) := by decide +kernel
theorem dJ7_fill_d0a16_15 : decode cJ7_fill_d0a16 15 = .ok (.lastore, 1) := by decide +kernel
theorem dJ7_fill_d0a16_16 : decode cJ7_fill_d0a16 16 = .ok (.iinc 3 1, 3) := by decide +kernel
theorem dJ7_fill_d0a16_19 : decode cJ7_fill_d0a16 19 = .ok (.goto (-13), 3) := by decide +kernel
theorem dJ7_fill_d0a16_22 : decode cJ7_fill_d0a16 22 = .ok (.return_, 1) := by decide +kernel
theorem dJ7_fill_53178_0 : decode cJ7_fill_53178 0 = .ok (.iconst 0, 1) := by decide +kernel
theorem dJ7_fill_53178_1 : decode cJ7_fill_53178 1 = .ok (.istore_n 2, 1) := by decide +kernel
theorem dJ7_fill_53178_2 : decode cJ7_fill_53178 2 = .ok (.aload_n 0, 1) := by decide +kernel
theorem dJ7_fill_53178_3 : decode cJ7_fill_53178 3 = .ok (.arraylength, 1) := by decide +kernel
theorem dJ7_fill_53178_4 : decode cJ7_fill_53178 4 = .ok (.istore_n 3, 1) := by decide +kernel
theorem dJ7_fill_53178_5 : decode cJ7_fill_53178 5 = .ok (.iload_n 2, 1) := by decide +kernel
theorem dJ7_fill_53178_6 : decode cJ7_fill_53178 6 = .ok (.iload_n 3, 1) := by decide +kernel
theorem dJ7_fill_53178_7 : decode cJ7_fill_53178 7 = .ok (.if_icmp .ge 13, 3) := by decide +kernel
theorem dJ7_fill_53178_10 : decode cJ7_fill_53178 10 = .ok (.aload_n 0, 1) := by decide +kernel
theorem dJ7_fill_53178_11 : decode cJ7_fill_53178 11 = .ok (.iload_n 2, 1) := by decide +kernel
theorem dJ7_fill_53178_12 : decode cJ7_fill_53178 12 = .ok (.iload_n 1, 1) := by decide +kernel
theorem dJ7_fill_53178_13 : decode cJ7_fill_53178 13 = .ok (.iastore, 1) := by decide +kernel
theorem dJ7_fill_53178_14 : decode cJ7_fill_53178 14 = .ok (.iinc 2 1, 3) := by decide +kernel
theorem dJ7_fill_53178_17 : decode cJ7_fill_53178 17 = .ok (.goto (-12), 3) := by decide +kernel
theorem dJ7_fill_53178_20 : decode cJ7_fill_53178 20 = .ok (.return_, 1) := by decide +kernel
theorem dL_law_0 : decode cL_law 0 = .ok (.new 7, 3) := by decide +kernel
theorem dL_law_3 : decode cL_law 3 = .ok (.dup, 1) := by decide +kernel
theorem dL_law_4 : decode cL_law 4 = .ok (.invokespecial 9, 3) := by decide +kernel
theorem dL_law_7 : decode cL_law 7 = .ok (.astore_n 1, 1) := by decide +kernel
theorem dL_law_8 : decode cL_law 8 = .ok (.new 10, 3) := by decide +kernel
theorem dL_law_11 : decode cL_law 11 = .ok (.dup, 1) := by decide +kernel
theorem dL_law_12 : decode cL_law 12 = .ok (.invokespecial 12, 3) := by decide +kernel
theorem dL_law_15 : decode cL_law 15 = .ok (.astore_n 2, 1) := by decide +kernel
theorem dL_law_16 : decode cL_law 16 = .ok (.iconst 0, 1) := by decide +kernel
theorem dL_law_17 : decode cL_law 17 = .ok (.istore_n 3, 1) := by decide +kernel
theorem dL_law_18 : decode cL_law 18 = .ok (.iload_n 3, 1) := by decide +kernel
theorem dL_law_19 : decode cL_law 19 = .ok (.aload_n 0, 1) := by decide +kernel
theorem dL_law_20 : decode cL_law 20 = .ok (.arraylength, 1) := by decide +kernel
theorem dL_law_21 : decode cL_law 21 = .ok (.iconst 4, 1) := by decide +kernel
theorem dL_law_22 : decode cL_law 22 = .ok (.isub, 1) := by decide +kernel
theorem dL_law_23 : decode cL_law 23 = .ok (.if_icmp .gt 736, 3) := by decide +kernel
theorem dL_law_26 : decode cL_law 26 = .ok (.aload_n 0, 1) := by decide +kernel
theorem dL_law_27 : decode cL_law 27 = .ok (.iload_n 3, 1) := by decide +kernel
theorem dL_law_28 : decode cL_law 28 = .ok (.iaload, 1) := by decide +kernel
theorem dL_law_29 : decode cL_law 29 = .ok (.bipush 31, 2) := by decide +kernel
theorem dL_law_31 : decode cL_law 31 = .ok (.iand, 1) := by decide +kernel
theorem dL_law_32 : decode cL_law 32 = .ok (.tableswitch 721 0 22 #[108, 141, 164, 187, 220, 243, 286, 319, 342, 366, 399, 432, 455, 479, 502, 535, 558, 592, 626, 639, 672, 685, 708], 108) := by decide +kernel
theorem dL_law_140 : decode cL_law 140 = .ok (.aload_n 1, 1) := by decide +kernel
theorem dL_law_141 : decode cL_law 141 = .ok (.aload_n 0, 1) := by decide +kernel
theorem dL_law_142 : decode cL_law 142 = .ok (.iload_n 3, 1) := by decide +kernel
theorem dL_law_143 : decode cL_law 143 = .ok (.iconst 1, 1) := by decide +kernel
theorem dL_law_144 : decode cL_law 144 = .ok (.iadd, 1) := by decide +kernel
theorem dL_law_145 : decode cL_law 145 = .ok (.iaload, 1) := by decide +kernel
theorem dL_law_146 : decode cL_law 146 = .ok (.aload_n 0, 1) := by decide +kernel
theorem dL_law_147 : decode cL_law 147 = .ok (.iload_n 3, 1) := by decide +kernel
theorem dL_law_148 : decode cL_law 148 = .ok (.iconst 2, 1) := by decide +kernel
theorem dL_law_149 : decode cL_law 149 = .ok (.iadd, 1) := by decide +kernel
theorem dL_law_150 : decode cL_law 150 = .ok (.iaload, 1) := by decide +kernel
theorem dL_law_151 : decode cL_law 151 = .ok (.invokevirtual 13, 3) := by decide +kernel
theorem dL_law_154 : decode cL_law 154 = .ok (.aload_n 2, 1) := by decide +kernel
theorem dL_law_155 : decode cL_law 155 = .ok (.aload_n 0, 1) := by decide +kernel
theorem dL_law_156 : decode cL_law 156 = .ok (.iload_n 3, 1) := by decide +kernel
theorem dL_law_157 : decode cL_law 157 = .ok (.iconst 1, 1) := by decide +kernel
theorem dL_law_158 : decode cL_law 158 = .ok (.iadd, 1) := by decide +kernel
theorem dL_law_159 : decode cL_law 159 = .ok (.iaload, 1) := by decide +kernel
theorem dL_law_160 : decode cL_law 160 = .ok (.aload_n 0, 1) := by decide +kernel
theorem dL_law_161 : decode cL_law 161 = .ok (.iload_n 3, 1) := by decide +kernel
theorem dL_law_162 : decode cL_law 162 = .ok (.iconst 2, 1) := by decide +kernel
theorem dL_law_163 : decode cL_law 163 = .ok (.iadd, 1) := by decide +kernel
theorem dL_law_164 : decode cL_law 164 = .ok (.iaload, 1) := by decide +kernel
theorem dL_law_165 : decode cL_law 165 = .ok (.invokevirtual 17, 3) := by decide +kernel
theorem dL_law_168 : decode cL_law 168 = .ok (.if_icmp .eq 585, 3) := by decide +kernel
theorem dL_law_171 : decode cL_law 171 = .ok (.iconst 0, 1) := by decide +kernel
theorem dL_law_172 : decode cL_law 172 = .ok (.ireturn, 1) := by decide +kernel
theorem dL_law_173 : decode cL_law 173 = .ok (.aload_n 1, 1) := by decide +kernel
theorem dL_law_174 : decode cL_law 174 = .ok (.aload_n 0, 1) := by decide +kernel
theorem dL_law_175 : decode cL_law 175 = .ok (.iload_n 3, 1) := by decide +kernel
theorem dL_law_176 : decode cL_law 176 = .ok (.iconst 1, 1) := by decide +kernel
theorem dL_law_177 : decode cL_law 177 = .ok (.iadd, 1) := by decide +kernel
theorem dL_law_178 : decode cL_law 178 = .ok (.iaload, 1) := by decide +kernel
theorem dL_law_179 : decode cL_law 179 = .ok (.invokevirtual 18, 3) := by decide +kernel
theorem dL_law_182 : decode cL_law 182 = .ok (.aload_n 2, 1) := by decide +kernel
theorem dL_law_183 : decode cL_law 183 = .ok (.aload_n 0, 1) := by decide +kernel
theorem dL_law_184 : decode cL_law 184 = .ok (.iload_n 3, 1) := by decide +kernel
theorem dL_law_185 : decode cL_law 185 = .ok (.iconst 1, 1) := by decide +kernel
theorem dL_law_186 : decode cL_law 186 = .ok (.iadd, 1) := by decide +kernel
theorem dL_law_187 : decode cL_law 187 = .ok (.iaload, 1) := by decide +kernel
theorem dL_law_188 : decode cL_law 188 = .ok (.invokevirtual 22, 3) := by decide +kernel
theorem dL_law_191 : decode cL_law 191 = .ok (.if_icmp .eq 562, 3) := by decide +kernel
theorem dL_law_194 : decode cL_law 194 = .ok (.iconst 0, 1) := by decide +kernel
theorem dL_law_195 : decode cL_law 195 = .ok (.ireturn, 1) := by decide +kernel
theorem dL_law_196 : decode cL_law 196 = .ok (.aload_n 1, 1) := by decide +kernel
theorem dL_law_197 : decode cL_law 197 = .ok (.aload_n 0, 1) := by decide +kernel
theorem dL_law_198 : decode cL_law 198 = .ok (.iload_n 3, 1) := by decide +kernel
theorem dL_law_199 : decode cL_law 199 = .ok (.iconst 1, 1) := by decide +kernel
theorem dL_law_200 : decode cL_law 200 = .ok (.iadd, 1) := by decide +kernel
theorem dL_law_201 : decode cL_law 201 = .ok (.iaload, 1) := by decide +kernel
theorem dL_law_202 : decode cL_law 202 = .ok (.invokevirtual 23, 3) := by decide +kernel
theorem dL_law_205 : decode cL_law 205 = .ok (.aload_n 2, 1) := by decide +kernel
theorem dL_law_206 : decode cL_law 206 = .ok (.aload_n 0, 1) := by decide +kernel
theorem dL_law_207 : decode cL_law 207 = .ok (.iload_n 3, 1) := by decide +kernel
theorem dL_law_208 : decode cL_law 208 = .ok (.iconst 1, 1) := by decide +kernel
theorem dL_law_209 : decode cL_law 209 = .ok (.iadd, 1) := by decide +kernel
theorem dL_law_210 : decode cL_law 210 = .ok (.iaload, 1) := by decide +kernel
theorem dL_law_211 : decode cL_law 211 = .ok (.invokevirtual 26, 3) := by decide +kernel
theorem dL_law_214 : decode cL_law 214 = .ok (.if_icmp .eq 539, 3) := by decide +kernel
theorem dL_law_217 : decode cL_law 217 = .ok (.iconst 0, 1) := by decide +kernel
theorem dL_law_218 : decode cL_law 218 = .ok (.ireturn, 1) := by decide +kernel
theorem dL_law_219 : decode cL_law 219 = .ok (.aload_n 1, 1) := by decide +kernel
theorem dL_law_220 : decode cL_law 220 = .ok (.aload_n 0, 1) := by decide +kernel
theorem dL_law_221 : decode cL_law 221 = .ok (.iload_n 3, 1) := by decide +kernel
theorem dL_law_222 : decode cL_law 222 = .ok (.iconst 1, 1) := by decide +kernel
theorem dL_law_223 : decode cL_law 223 = .ok (.iadd, 1) := by decide +kernel
theorem dL_law_224 : decode cL_law 224 = .ok (.iaload, 1) := by decide +kernel
theorem dL_law_225 : decode cL_law 225 = .ok (.aload_n 0, 1) := by decide +kernel
theorem dL_law_226 : decode cL_law 226 = .ok (.iload_n 3, 1) := by decide +kernel
theorem dL_law_227 : decode cL_law 227 = .ok (.iconst 2, 1) := by decide +kernel
theorem dL_law_228 : decode cL_law 228 = .ok (.iadd, 1) := by decide +kernel
theorem dL_law_229 : decode cL_law 229 = .ok (.iaload, 1) := by decide +kernel
theorem dL_law_230 : decode cL_law 230 = .ok (.invokevirtual 27, 3) := by decide +kernel
theorem dL_law_233 : decode cL_law 233 = .ok (.aload_n 2, 1) := by decide +kernel
theorem dL_law_234 : decode cL_law 234 = .ok (.aload_n 0, 1) := by decide +kernel
theorem dL_law_235 : decode cL_law 235 = .ok (.iload_n 3, 1) := by decide +kernel
theorem dL_law_236 : decode cL_law 236 = .ok (.iconst 1, 1) := by decide +kernel
theorem dL_law_237 : decode cL_law 237 = .ok (.iadd, 1) := by decide +kernel
theorem dL_law_238 : decode cL_law 238 = .ok (.iaload, 1) := by decide +kernel
theorem dL_law_239 : decode cL_law 239 = .ok (.aload_n 0, 1) := by decide +kernel
theorem dL_law_240 : decode cL_law 240 = .ok (.iload_n 3, 1) := by decide +kernel
theorem dL_law_241 : decode cL_law 241 = .ok (.iconst 2, 1) := by decide +kernel
theorem dL_law_242 : decode cL_law 242 = .ok (.iadd, 1) := by decide +kernel
theorem dL_law_243 : decode cL_law 243 = .ok (.iaload, 1) := by decide +kernel
theorem dL_law_244 : decode cL_law 244 = .ok (.invokevirtual 30, 3) := by decide +kernel
theorem dL_law_247 : decode cL_law 247 = .ok (.if_icmp .eq 506, 3) := by decide +kernel
theorem dL_law_250 : decode cL_law 250 = .ok (.iconst 0, 1) := by decide +kernel
theorem dL_law_251 : decode cL_law 251 = .ok (.ireturn, 1) := by decide +kernel
theorem dL_law_252 : decode cL_law 252 = .ok (.aload_n 1, 1) := by decide +kernel
theorem dL_law_253 : decode cL_law 253 = .ok (.aload_n 0, 1) := by decide +kernel
theorem dL_law_254 : decode cL_law 254 = .ok (.iload_n 3, 1) := by decide +kernel
theorem dL_law_255 : decode cL_law 255 = .ok (.iconst 1, 1) := by decide +kernel
theorem dL_law_256 : decode cL_law 256 = .ok (.iadd, 1) := by decide +kernel
theorem dL_law_257 : decode cL_law 257 = .ok (.iaload, 1) := by decide +kernel
theorem dL_law_258 : decode cL_law 258 = .ok (.invokevirtual 31, 3) := by decide +kernel
theorem dL_law_261 : decode cL_law 261 = .ok (.aload_n 2, 1) := by decide +kernel
theorem dL_law_262 : decode cL_law 262 = .ok (.aload_n 0, 1) := by decide +kernel
theorem dL_law_263 : decode cL_law 263 = .ok (.iload_n 3, 1) := by decide +kernel
theorem dL_law_264 : decode cL_law 264 = .ok (.iconst 1, 1) := by decide +kernel
theorem dL_law_265 : decode cL_law 265 = .ok (.iadd, 1) := by decide +kernel
theorem dL_law_266 : decode cL_law 266 = .ok (.iaload, 1) := by decide +kernel
theorem dL_law_267 : decode cL_law 267 = .ok (.invokevirtual 34, 3) := by decide +kernel
theorem dL_law_270 : decode cL_law 270 = .ok (.if_icmp .eq 483, 3) := by decide +kernel
theorem dL_law_273 : decode cL_law 273 = .ok (.iconst 0, 1) := by decide +kernel
theorem dL_law_274 : decode cL_law 274 = .ok (.ireturn, 1) := by decide +kernel
theorem dL_law_275 : decode cL_law 275 = .ok (.aload_n 1, 1) := by decide +kernel
theorem dL_law_276 : decode cL_law 276 = .ok (.aload_n 0, 1) := by decide +kernel
theorem dL_law_277 : decode cL_law 277 = .ok (.iload_n 3, 1) := by decide +kernel
theorem dL_law_278 : decode cL_law 278 = .ok (.iconst 1, 1) := by decide +kernel
theorem dL_law_279 : decode cL_law 279 = .ok (.iadd, 1) := by decide +kernel
theorem dL_law_280 : decode cL_law 280 = .ok (.iaload, 1) := by decide +kernel
theorem dL_law_281 : decode cL_law 281 = .ok (.aload_n 0, 1) := by decide +kernel
theorem dL_law_282 : decode cL_law 282 = .ok (.iload_n 3, 1) := by decide +kernel
theorem dL_law_283 : decode cL_law 283 = .ok (.iconst 2, 1) := by decide +kernel
theorem dL_law_284 : decode cL_law 284 = .ok (.iadd, 1) := by decide +kernel
theorem dL_law_285 : decode cL_law 285 = .ok (.iaload, 1) := by decide +kernel
theorem dL_law_286 : decode cL_law 286 = .ok (.aload_n 0, 1) := by decide +kernel
theorem dL_law_287 : decode cL_law 287 = .ok (.iload_n 3, 1) := by decide +kernel
theorem dL_law_288 : decode cL_law 288 = .ok (.iconst 3, 1) := by decide +kernel
theorem dL_law_289 : decode cL_law 289 = .ok (.iadd, 1) := by decide +kernel
theorem dL_law_290 : decode cL_law 290 = .ok (.iaload, 1) := by decide +kernel
theorem dL_law_291 : decode cL_law 291 = .ok (.invokevirtual 35, 3) := by decide +kernel
theorem dL_law_294 : decode cL_law 294 = .ok (.aload_n 2, 1) := by decide +kernel
theorem dL_law_295 : decode cL_law 295 = .ok (.aload_n 0, 1) := by decide +kernel
theorem dL_law_296 : decode cL_law 296 = .ok (.iload_n 3, 1) := by decide +kernel
theorem dL_law_297 : decode cL_law 297 = .ok (.iconst 1, 1) := by decide +kernel
theorem dL_law_298 : decode cL_law 298 = .ok (.iadd, 1) := by decide +kernel
theorem dL_law_299 : decode cL_law 299 = .ok (.iaload, 1) := by decide +kernel
theorem dL_law_300 : decode cL_law 300 = .ok (.aload_n 0, 1) := by decide +kernel
theorem dL_law_301 : decode cL_law 301 = .ok (.iload_n 3, 1) := by decide +kernel
theorem dL_law_302 : decode cL_law 302 = .ok (.iconst 2, 1) := by decide +kernel
theorem dL_law_303 : decode cL_law 303 = .ok (.iadd, 1) := by decide +kernel
theorem dL_law_304 : decode cL_law 304 = .ok (.iaload, 1) := by decide +kernel
theorem dL_law_305 : decode cL_law 305 = .ok (.aload_n 0, 1) := by decide +kernel
theorem dL_law_306 : decode cL_law 306 = .ok (.iload_n 3, 1) := by decide +kernel
theorem dL_law_307 : decode cL_law 307 = .ok (.iconst 3, 1) := by decide +kernel
theorem dL_law_308 : decode cL_law 308 = .ok (.iadd, 1) := by decide +kernel
theorem dL_law_309 : decode cL_law 309 = .ok (.iaload, 1) := by decide +kernel
theorem dL_law_310 : decode cL_law 310 = .ok (.invokevirtual 39, 3) := by decide +kernel
theorem dL_law_313 : decode cL_law 313 = .ok (.if_icmp .eq 440, 3) := by decide +kernel
theorem dL_law_316 : decode cL_law 316 = .ok (.iconst 0, 1) := by decide +kernel
theorem dL_law_317 : decode cL_law 317 = .ok (.ireturn, 1) := by decide +kernel
theorem dL_law_318 : decode cL_law 318 = .ok (.aload_n 1, 1) := by decide +kernel
theorem dL_law_319 : decode cL_law 319 = .ok (.aload_n 0, 1) := by decide +kernel
theorem dL_law_320 : decode cL_law 320 = .ok (.iload_n 3, 1) := by decide +kernel
theorem dL_law_321 : decode cL_law 321 = .ok (.iconst 1, 1) := by decide +kernel
theorem dL_law_322 : decode cL_law 322 = .ok (.iadd, 1) := by decide +kernel
theorem dL_law_323 : decode cL_law 323 = .ok (.iaload, 1) := by decide +kernel
theorem dL_law_324 : decode cL_law 324 = .ok (.aload_n 0, 1) := by decide +kernel
theorem dL_law_325 : decode cL_law 325 = .ok (.iload_n 3, 1) := by decide +kernel
theorem dL_law_326 : decode cL_law 326 = .ok (.iconst 2, 1) := by decide +kernel
theorem dL_law_327 : decode cL_law 327 = .ok (.iadd, 1) := by decide +kernel
theorem dL_law_328 : decode cL_law 328 = .ok (.iaload, 1) := by decide +kernel
theorem dL_law_329 : decode cL_law 329 = .ok (.invokevirtual 40, 3) := by decide +kernel
theorem dL_law_332 : decode cL_law 332 = .ok (.aload_n 2, 1) := by decide +kernel
theorem dL_law_333 : decode cL_law 333 = .ok (.aload_n 0, 1) := by decide +kernel
theorem dL_law_334 : decode cL_law 334 = .ok (.iload_n 3, 1) := by decide +kernel
theorem dL_law_335 : decode cL_law 335 = .ok (.iconst 1, 1) := by decide +kernel
theorem dL_law_336 : decode cL_law 336 = .ok (.iadd, 1) := by decide +kernel
theorem dL_law_337 : decode cL_law 337 = .ok (.iaload, 1) := by decide +kernel
theorem dL_law_338 : decode cL_law 338 = .ok (.aload_n 0, 1) := by decide +kernel
theorem dL_law_339 : decode cL_law 339 = .ok (.iload_n 3, 1) := by decide +kernel
theorem dL_law_340 : decode cL_law 340 = .ok (.iconst 2, 1) := by decide +kernel
theorem dL_law_341 : decode cL_law 341 = .ok (.iadd, 1) := by decide +kernel
theorem dL_law_342 : decode cL_law 342 = .ok (.iaload, 1) := by decide +kernel
theorem dL_law_343 : decode cL_law 343 = .ok (.invokevirtual 43, 3) := by decide +kernel
theorem dL_law_346 : decode cL_law 346 = .ok (.if_icmp .eq 407, 3) := by decide +kernel
theorem dL_law_349 : decode cL_law 349 = .ok (.iconst 0, 1) := by decide +kernel
theorem dL_law_350 : decode cL_law 350 = .ok (.ireturn, 1) := by decide +kernel
theorem dL_law_351 : decode cL_law 351 = .ok (.aload_n 1, 1) := by decide +kernel
theorem dL_law_352 : decode cL_law 352 = .ok (.aload_n 0, 1) := by decide +kernel
theorem dL_law_353 : decode cL_law 353 = .ok (.iload_n 3, 1) := by decide +kernel
theorem dL_law_354 : decode cL_law 354 = .ok (.iconst 1, 1) := by decide +kernel
theorem dL_law_355 : decode cL_law 355 = .ok (.iadd, 1) := by decide +kernel
theorem dL_law_356 : decode cL_law 356 = .ok (.iaload, 1) := by decide +kernel
theorem dL_law_357 : decode cL_law 357 = .ok (.invokevirtual 44, 3) := by decide +kernel
theorem dL_law_360 : decode cL_law 360 = .ok (.aload_n 2, 1) := by decide +kernel
theorem dL_law_361 : decode cL_law 361 = .ok (.aload_n 0, 1) := by decide +kernel
theorem dL_law_362 : decode cL_law 362 = .ok (.iload_n 3, 1) := by decide +kernel
theorem dL_law_363 : decode cL_law 363 = .ok (.iconst 1, 1) := by decide +kernel
theorem dL_law_364 : decode cL_law 364 = .ok (.iadd, 1) := by decide +kernel
theorem dL_law_365 : decode cL_law 365 = .ok (.iaload, 1) := by decide +kernel
theorem dL_law_366 : decode cL_law 366 = .ok (.invokevirtual 47, 3) := by decide +kernel
theorem dL_law_369 : decode cL_law 369 = .ok (.if_icmp .eq 384, 3) := by decide +kernel
theorem dL_law_372 : decode cL_law 372 = .ok (.iconst 0, 1) := by decide +kernel
theorem dL_law_373 : decode cL_law 373 = .ok (.ireturn, 1) := by decide +kernel
theorem dL_law_374 : decode cL_law 374 = .ok (.aload_n 1, 1) := by decide +kernel
theorem dL_law_375 : decode cL_law 375 = .ok (.aload_n 0, 1) := by decide +kernel
theorem dL_law_376 : decode cL_law 376 = .ok (.iload_n 3, 1) := by decide +kernel
theorem dL_law_377 : decode cL_law 377 = .ok (.iconst 1, 1) := by decide +kernel
theorem dL_law_378 : decode cL_law 378 = .ok (.iadd, 1) := by decide +kernel
theorem dL_law_379 : decode cL_law 379 = .ok (.iaload, 1) := by decide +kernel
theorem dL_law_380 : decode cL_law 380 = .ok (.invokevirtual 48, 3) := by decide +kernel
theorem dL_law_383 : decode cL_law 383 = .ok (.aload_n 2, 1) := by decide +kernel
theorem dL_law_384 : decode cL_law 384 = .ok (.aload_n 0, 1) := by decide +kernel
theorem dL_law_385 : decode cL_law 385 = .ok (.iload_n 3, 1) := by decide +kernel
theorem dL_law_386 : decode cL_law 386 = .ok (.iconst 1, 1) := by decide +kernel
theorem dL_law_387 : decode cL_law 387 = .ok (.iadd, 1) := by decide +kernel
theorem dL_law_388 : decode cL_law 388 = .ok (.iaload, 1) := by decide +kernel
theorem dL_law_389 : decode cL_law 389 = .ok (.invokevirtual 52, 3) := by decide +kernel
theorem dL_law_392 : decode cL_law 392 = .ok (.lcmp, 1) := by decide +kernel
theorem dL_law_393 : decode cL_law 393 = .ok (.ifCond .eq 360, 3) := by decide +kernel
theorem dL_law_396 : decode cL_law 396 = .ok (.iconst 0, 1) := by decide +kernel
theorem dL_law_397 : decode cL_law 397 = .ok (.ireturn, 1) := by decide +kernel
theorem dL_law_398 : decode cL_law 398 = .ok (.aload_n 1, 1) := by decide +kernel
theorem dL_law_399 : decode cL_law 399 = .ok (.aload_n 0, 1) := by decide +kernel
theorem dL_law_400 : decode cL_law 400 = .ok (.iload_n 3, 1) := by decide +kernel
theorem dL_law_401 : decode cL_law 401 = .ok (.iconst 1, 1) := by decide +kernel
theorem dL_law_402 : decode cL_law 402 = .ok (.iadd, 1) := by decide +kernel
theorem dL_law_403 : decode cL_law 403 = .ok (.iaload, 1) := by decide +kernel
theorem dL_law_404 : decode cL_law 404 = .ok (.aload_n 0, 1) := by decide +kernel
theorem dL_law_405 : decode cL_law 405 = .ok (.iload_n 3, 1) := by decide +kernel
theorem dL_law_406 : decode cL_law 406 = .ok (.iconst 2, 1) := by decide +kernel
theorem dL_law_407 : decode cL_law 407 = .ok (.iadd, 1) := by decide +kernel
theorem dL_law_408 : decode cL_law 408 = .ok (.iaload, 1) := by decide +kernel
theorem dL_law_409 : decode cL_law 409 = .ok (.invokevirtual 53, 3) := by decide +kernel
theorem dL_law_412 : decode cL_law 412 = .ok (.aload_n 2, 1) := by decide +kernel
theorem dL_law_413 : decode cL_law 413 = .ok (.aload_n 0, 1) := by decide +kernel
theorem dL_law_414 : decode cL_law 414 = .ok (.iload_n 3, 1) := by decide +kernel
theorem dL_law_415 : decode cL_law 415 = .ok (.iconst 1, 1) := by decide +kernel
theorem dL_law_416 : decode cL_law 416 = .ok (.iadd, 1) := by decide +kernel
theorem dL_law_417 : decode cL_law 417 = .ok (.iaload, 1) := by decide +kernel
theorem dL_law_418 : decode cL_law 418 = .ok (.aload_n 0, 1) := by decide +kernel
theorem dL_law_419 : decode cL_law 419 = .ok (.iload_n 3, 1) := by decide +kernel
theorem dL_law_420 : decode cL_law 420 = .ok (.iconst 2, 1) := by decide +kernel
theorem dL_law_421 : decode cL_law 421 = .ok (.iadd, 1) := by decide +kernel
theorem dL_law_422 : decode cL_law 422 = .ok (.iaload, 1) := by decide +kernel
theorem dL_law_423 : decode cL_law 423 = .ok (.invokevirtual 56, 3) := by decide +kernel
theorem dL_law_426 : decode cL_law 426 = .ok (.if_icmp .eq 327, 3) := by decide +kernel
theorem dL_law_429 : decode cL_law 429 = .ok (.iconst 0, 1) := by decide +kernel
theorem dL_law_430 : decode cL_law 430 = .ok (.ireturn, 1) := by decide +kernel
theorem dL_law_431 : decode cL_law 431 = .ok (.aload_n 1, 1) := by decide +kernel
theorem dL_law_432 : decode cL_law 432 = .ok (.aload_n 0, 1) := by decide +kernel
theorem dL_law_433 : decode cL_law 433 = .ok (.iload_n 3, 1) := by decide +kernel
theorem dL_law_434 : decode cL_law 434 = .ok (.iconst 1, 1) := by decide +kernel
theorem dL_law_435 : decode cL_law 435 = .ok (.iadd, 1) := by decide +kernel
theorem dL_law_436 : decode cL_law 436 = .ok (.iaload, 1) := by decide +kernel
theorem dL_law_437 : decode cL_law 437 = .ok (.aload_n 0, 1) := by decide +kernel
theorem dL_law_438 : decode cL_law 438 = .ok (.iload_n 3, 1) := by decide +kernel
theorem dL_law_439 : decode cL_law 439 = .ok (.iconst 2, 1) := by decide +kernel
theorem dL_law_440 : decode cL_law 440 = .ok (.iadd, 1) := by decide +kernel
theorem dL_law_441 : decode cL_law 441 = .ok (.iaload, 1) := by decide +kernel
theorem dL_law_442 : decode cL_law 442 = .ok (.invokevirtual 57, 3) := by decide +kernel
theorem dL_law_445 : decode cL_law 445 = .ok (.aload_n 2, 1) := by decide +kernel
theorem dL_law_446 : decode cL_law 446 = .ok (.aload_n 0, 1) := by decide +kernel
theorem dL_law_447 : decode cL_law 447 = .ok (.iload_n 3, 1) := by decide +kernel
theorem dL_law_448 : decode cL_law 448 = .ok (.iconst 1, 1) := by decide +kernel
theorem dL_law_449 : decode cL_law 449 = .ok (.iadd, 1) := by decide +kernel
theorem dL_law_450 : decode cL_law 450 = .ok (.iaload, 1) := by decide +kernel
theorem dL_law_451 : decode cL_law 451 = .ok (.aload_n 0, 1) := by decide +kernel
theorem dL_law_452 : decode cL_law 452 = .ok (.iload_n 3, 1) := by decide +kernel
theorem dL_law_453 : decode cL_law 453 = .ok (.iconst 2, 1) := by decide +kernel
theorem dL_law_454 : decode cL_law 454 = .ok (.iadd, 1) := by decide +kernel
theorem dL_law_455 : decode cL_law 455 = .ok (.iaload, 1) := by decide +kernel
theorem dL_law_456 : decode cL_law 456 = .ok (.invokevirtual 60, 3) := by decide +kernel
theorem dL_law_459 : decode cL_law 459 = .ok (.if_icmp .eq 294, 3) := by decide +kernel
theorem dL_law_462 : decode cL_law 462 = .ok (.iconst 0, 1) := by decide +kernel
theorem dL_law_463 : decode cL_law 463 = .ok (.ireturn, 1) := by decide +kernel
theorem dL_law_464 : decode cL_law 464 = .ok (.aload_n 1, 1) := by decide +kernel
theorem dL_law_465 : decode cL_law 465 = .ok (.aload_n 0, 1) := by decide +kernel
theorem dL_law_466 : decode cL_law 466 = .ok (.iload_n 3, 1) := by decide +kernel
theorem dL_law_467 : decode cL_law 467 = .ok (.iconst 1, 1) := by decide +kernel
theorem dL_law_468 : decode cL_law 468 = .ok (.iadd, 1) := by decide +kernel
theorem dL_law_469 : decode cL_law 469 = .ok (.iaload, 1) := by decide +kernel
theorem dL_law_470 : decode cL_law 470 = .ok (.invokevirtual 61, 3) := by decide +kernel
theorem dL_law_473 : decode cL_law 473 = .ok (.aload_n 2, 1) := by decide +kernel
theorem dL_law_474 : decode cL_law 474 = .ok (.aload_n 0, 1) := by decide +kernel
theorem dL_law_475 : decode cL_law 475 = .ok (.iload_n 3, 1) := by decide +kernel
theorem dL_law_476 : decode cL_law 476 = .ok (.iconst 1, 1) := by decide +kernel
theorem dL_law_477 : decode cL_law 477 = .ok (.iadd, 1) := by decide +kernel
theorem dL_law_478 : decode cL_law 478 = .ok (.iaload, 1) := by decide +kernel
theorem dL_law_479 : decode cL_law 479 = .ok (.invokevirtual 64, 3) := by decide +kernel
theorem dL_law_482 : decode cL_law 482 = .ok (.if_icmp .eq 271, 3) := by decide +kernel
theorem dL_law_485 : decode cL_law 485 = .ok (.iconst 0, 1) := by decide +kernel
theorem dL_law_486 : decode cL_law 486 = .ok (.ireturn, 1) := by decide +kernel
theorem dL_law_487 : decode cL_law 487 = .ok (.aload_n 1, 1) := by decide +kernel
theorem dL_law_488 : decode cL_law 488 = .ok (.aload_n 0, 1) := by decide +kernel
theorem dL_law_489 : decode cL_law 489 = .ok (.iload_n 3, 1) := by decide +kernel
theorem dL_law_490 : decode cL_law 490 = .ok (.iconst 1, 1) := by decide +kernel
theorem dL_law_491 : decode cL_law 491 = .ok (.iadd, 1) := by decide +kernel
theorem dL_law_492 : decode cL_law 492 = .ok (.iaload, 1) := by decide +kernel
theorem dL_law_493 : decode cL_law 493 = .ok (.invokevirtual 65, 3) := by decide +kernel
theorem dL_law_496 : decode cL_law 496 = .ok (.aload_n 2, 1) := by decide +kernel
theorem dL_law_497 : decode cL_law 497 = .ok (.aload_n 0, 1) := by decide +kernel
theorem dL_law_498 : decode cL_law 498 = .ok (.iload_n 3, 1) := by decide +kernel
theorem dL_law_499 : decode cL_law 499 = .ok (.iconst 1, 1) := by decide +kernel
theorem dL_law_500 : decode cL_law 500 = .ok (.iadd, 1) := by decide +kernel
theorem dL_law_501 : decode cL_law 501 = .ok (.iaload, 1) := by decide +kernel
theorem dL_law_502 : decode cL_law 502 = .ok (.invokevirtual 68, 3) := by decide +kernel
theorem dL_law_505 : decode cL_law 505 = .ok (.lcmp, 1) := by decide +kernel
theorem dL_law_506 : decode cL_law 506 = .ok (.ifCond .eq 247, 3) := by decide +kernel
theorem dL_law_509 : decode cL_law 509 = .ok (.iconst 0, 1) := by decide +kernel
theorem dL_law_510 : decode cL_law 510 = .ok (.ireturn, 1) := by decide +kernel
theorem dL_law_511 : decode cL_law 511 = .ok (.aload_n 1, 1) := by decide +kernel
theorem dL_law_512 : decode cL_law 512 = .ok (.aload_n 0, 1) := by decide +kernel
theorem dL_law_513 : decode cL_law 513 = .ok (.iload_n 3, 1) := by decide +kernel
theorem dL_law_514 : decode cL_law 514 = .ok (.iconst 1, 1) := by decide +kernel
theorem dL_law_515 : decode cL_law 515 = .ok (.iadd, 1) := by decide +kernel
theorem dL_law_516 : decode cL_law 516 = .ok (.iaload, 1) := by decide +kernel
theorem dL_law_517 : decode cL_law 517 = .ok (.invokevirtual 69, 3) := by decide +kernel
theorem dL_law_520 : decode cL_law 520 = .ok (.aload_n 2, 1) := by decide +kernel
theorem dL_law_521 : decode cL_law 521 = .ok (.aload_n 0, 1) := by decide +kernel
theorem dL_law_522 : decode cL_law 522 = .ok (.iload_n 3, 1) := by decide +kernel
theorem dL_law_523 : decode cL_law 523 = .ok (.iconst 1, 1) := by decide +kernel
theorem dL_law_524 : decode cL_law 524 = .ok (.iadd, 1) := by decide +kernel
theorem dL_law_525 : decode cL_law 525 = .ok (.iaload, 1) := by decide +kernel
theorem dL_law_526 : decode cL_law 526 = .ok (.invokevirtual 72, 3) := by decide +kernel
theorem dL_law_529 : decode cL_law 529 = .ok (.if_icmp .eq 224, 3) := by decide +kernel
theorem dL_law_532 : decode cL_law 532 = .ok (.iconst 0, 1) := by decide +kernel
theorem dL_law_533 : decode cL_law 533 = .ok (.ireturn, 1) := by decide +kernel
theorem dL_law_534 : decode cL_law 534 = .ok (.aload_n 1, 1) := by decide +kernel
theorem dL_law_535 : decode cL_law 535 = .ok (.aload_n 0, 1) := by decide +kernel
theorem dL_law_536 : decode cL_law 536 = .ok (.iload_n 3, 1) := by decide +kernel
theorem dL_law_537 : decode cL_law 537 = .ok (.iconst 1, 1) := by decide +kernel
theorem dL_law_538 : decode cL_law 538 = .ok (.iadd, 1) := by decide +kernel
theorem dL_law_539 : decode cL_law 539 = .ok (.iaload, 1) := by decide +kernel
theorem dL_law_540 : decode cL_law 540 = .ok (.aload_n 0, 1) := by decide +kernel
theorem dL_law_541 : decode cL_law 541 = .ok (.iload_n 3, 1) := by decide +kernel
theorem dL_law_542 : decode cL_law 542 = .ok (.iconst 2, 1) := by decide +kernel
theorem dL_law_543 : decode cL_law 543 = .ok (.iadd, 1) := by decide +kernel
theorem dL_law_544 : decode cL_law 544 = .ok (.iaload, 1) := by decide +kernel
theorem dL_law_545 : decode cL_law 545 = .ok (.invokevirtual 73, 3) := by decide +kernel
theorem dL_law_548 : decode cL_law 548 = .ok (.aload_n 2, 1) := by decide +kernel
theorem dL_law_549 : decode cL_law 549 = .ok (.aload_n 0, 1) := by decide +kernel
theorem dL_law_550 : decode cL_law 550 = .ok (.iload_n 3, 1) := by decide +kernel
theorem dL_law_551 : decode cL_law 551 = .ok (.iconst 1, 1) := by decide +kernel
theorem dL_law_552 : decode cL_law 552 = .ok (.iadd, 1) := by decide +kernel
theorem dL_law_553 : decode cL_law 553 = .ok (.iaload, 1) := by decide +kernel
theorem dL_law_554 : decode cL_law 554 = .ok (.aload_n 0, 1) := by decide +kernel
theorem dL_law_555 : decode cL_law 555 = .ok (.iload_n 3, 1) := by decide +kernel
theorem dL_law_556 : decode cL_law 556 = .ok (.iconst 2, 1) := by decide +kernel
theorem dL_law_557 : decode cL_law 557 = .ok (.iadd, 1) := by decide +kernel
theorem dL_law_558 : decode cL_law 558 = .ok (.iaload, 1) := by decide +kernel
theorem dL_law_559 : decode cL_law 559 = .ok (.invokevirtual 76, 3) := by decide +kernel
theorem dL_law_562 : decode cL_law 562 = .ok (.if_icmp .eq 191, 3) := by decide +kernel
theorem dL_law_565 : decode cL_law 565 = .ok (.iconst 0, 1) := by decide +kernel
theorem dL_law_566 : decode cL_law 566 = .ok (.ireturn, 1) := by decide +kernel
theorem dL_law_567 : decode cL_law 567 = .ok (.aload_n 1, 1) := by decide +kernel
theorem dL_law_568 : decode cL_law 568 = .ok (.aload_n 0, 1) := by decide +kernel
theorem dL_law_569 : decode cL_law 569 = .ok (.iload_n 3, 1) := by decide +kernel
theorem dL_law_570 : decode cL_law 570 = .ok (.iconst 1, 1) := by decide +kernel
theorem dL_law_571 : decode cL_law 571 = .ok (.iadd, 1) := by decide +kernel
theorem dL_law_572 : decode cL_law 572 = .ok (.iaload, 1) := by decide +kernel
theorem dL_law_573 : decode cL_law 573 = .ok (.invokevirtual 77, 3) := by decide +kernel
theorem dL_law_576 : decode cL_law 576 = .ok (.aload_n 2, 1) := by decide +kernel
theorem dL_law_577 : decode cL_law 577 = .ok (.aload_n 0, 1) := by decide +kernel
theorem dL_law_578 : decode cL_law 578 = .ok (.iload_n 3, 1) := by decide +kernel
theorem dL_law_579 : decode cL_law 579 = .ok (.iconst 1, 1) := by decide +kernel
theorem dL_law_580 : decode cL_law 580 = .ok (.iadd, 1) := by decide +kernel
theorem dL_law_581 : decode cL_law 581 = .ok (.iaload, 1) := by decide +kernel
theorem dL_law_582 : decode cL_law 582 = .ok (.invokevirtual 80, 3) := by decide +kernel
theorem dL_law_585 : decode cL_law 585 = .ok (.if_icmp .eq 168, 3) := by decide +kernel
theorem dL_law_588 : decode cL_law 588 = .ok (.iconst 0, 1) := by decide +kernel
theorem dL_law_589 : decode cL_law 589 = .ok (.ireturn, 1) := by decide +kernel
theorem dL_law_590 : decode cL_law 590 = .ok (.aload_n 1, 1) := by decide +kernel
theorem dL_law_591 : decode cL_law 591 = .ok (.aload_n 0, 1) := by decide +kernel
theorem dL_law_592 : decode cL_law 592 = .ok (.iload_n 3, 1) := by decide +kernel
theorem dL_law_593 : decode cL_law 593 = .ok (.iconst 1, 1) := by decide +kernel
theorem dL_law_594 : decode cL_law 594 = .ok (.iadd, 1) := by decide +kernel
theorem dL_law_595 : decode cL_law 595 = .ok (.iaload, 1) := by decide +kernel
theorem dL_law_596 : decode cL_law 596 = .ok (.aload_n 0, 1) := by decide +kernel
theorem dL_law_597 : decode cL_law 597 = .ok (.iload_n 3, 1) := by decide +kernel
theorem dL_law_598 : decode cL_law 598 = .ok (.iconst 2, 1) := by decide +kernel
theorem dL_law_599 : decode cL_law 599 = .ok (.iadd, 1) := by decide +kernel
theorem dL_law_600 : decode cL_law 600 = .ok (.iaload, 1) := by decide +kernel
theorem dL_law_601 : decode cL_law 601 = .ok (.invokevirtual 81, 3) := by decide +kernel
theorem dL_law_604 : decode cL_law 604 = .ok (.aload_n 2, 1) := by decide +kernel
theorem dL_law_605 : decode cL_law 605 = .ok (.aload_n 0, 1) := by decide +kernel
theorem dL_law_606 : decode cL_law 606 = .ok (.iload_n 3, 1) := by decide +kernel
theorem dL_law_607 : decode cL_law 607 = .ok (.iconst 1, 1) := by decide +kernel
theorem dL_law_608 : decode cL_law 608 = .ok (.iadd, 1) := by decide +kernel
theorem dL_law_609 : decode cL_law 609 = .ok (.iaload, 1) := by decide +kernel
theorem dL_law_610 : decode cL_law 610 = .ok (.aload_n 0, 1) := by decide +kernel
theorem dL_law_611 : decode cL_law 611 = .ok (.iload_n 3, 1) := by decide +kernel
theorem dL_law_612 : decode cL_law 612 = .ok (.iconst 2, 1) := by decide +kernel
theorem dL_law_613 : decode cL_law 613 = .ok (.iadd, 1) := by decide +kernel
theorem dL_law_614 : decode cL_law 614 = .ok (.iaload, 1) := by decide +kernel
theorem dL_law_615 : decode cL_law 615 = .ok (.invokevirtual 85, 3) := by decide +kernel
theorem dL_law_618 : decode cL_law 618 = .ok (.lcmp, 1) := by decide +kernel
theorem dL_law_619 : decode cL_law 619 = .ok (.ifCond .eq 134, 3) := by decide +kernel
theorem dL_law_622 : decode cL_law 622 = .ok (.iconst 0, 1) := by decide +kernel
theorem dL_law_623 : decode cL_law 623 = .ok (.ireturn, 1) := by decide +kernel
theorem dL_law_624 : decode cL_law 624 = .ok (.aload_n 1, 1) := by decide +kernel
theorem dL_law_625 : decode cL_law 625 = .ok (.aload_n 0, 1) := by decide +kernel
theorem dL_law_626 : decode cL_law 626 = .ok (.iload_n 3, 1) := by decide +kernel
theorem dL_law_627 : decode cL_law 627 = .ok (.iconst 1, 1) := by decide +kernel
theorem dL_law_628 : decode cL_law 628 = .ok (.iadd, 1) := by decide +kernel
theorem dL_law_629 : decode cL_law 629 = .ok (.iaload, 1) := by decide +kernel
theorem dL_law_630 : decode cL_law 630 = .ok (.aload_n 0, 1) := by decide +kernel
theorem dL_law_631 : decode cL_law 631 = .ok (.iload_n 3, 1) := by decide +kernel
theorem dL_law_632 : decode cL_law 632 = .ok (.iconst 2, 1) := by decide +kernel
theorem dL_law_633 : decode cL_law 633 = .ok (.iadd, 1) := by decide +kernel
theorem dL_law_634 : decode cL_law 634 = .ok (.iaload, 1) := by decide +kernel
theorem dL_law_635 : decode cL_law 635 = .ok (.invokevirtual 86, 3) := by decide +kernel
theorem dL_law_638 : decode cL_law 638 = .ok (.aload_n 2, 1) := by decide +kernel
theorem dL_law_639 : decode cL_law 639 = .ok (.aload_n 0, 1) := by decide +kernel
theorem dL_law_640 : decode cL_law 640 = .ok (.iload_n 3, 1) := by decide +kernel
theorem dL_law_641 : decode cL_law 641 = .ok (.iconst 1, 1) := by decide +kernel
theorem dL_law_642 : decode cL_law 642 = .ok (.iadd, 1) := by decide +kernel
theorem dL_law_643 : decode cL_law 643 = .ok (.iaload, 1) := by decide +kernel
theorem dL_law_644 : decode cL_law 644 = .ok (.aload_n 0, 1) := by decide +kernel
theorem dL_law_645 : decode cL_law 645 = .ok (.iload_n 3, 1) := by decide +kernel
theorem dL_law_646 : decode cL_law 646 = .ok (.iconst 2, 1) := by decide +kernel
theorem dL_law_647 : decode cL_law 647 = .ok (.iadd, 1) := by decide +kernel
theorem dL_law_648 : decode cL_law 648 = .ok (.iaload, 1) := by decide +kernel
theorem dL_law_649 : decode cL_law 649 = .ok (.invokevirtual 89, 3) := by decide +kernel
theorem dL_law_652 : decode cL_law 652 = .ok (.lcmp, 1) := by decide +kernel
theorem dL_law_653 : decode cL_law 653 = .ok (.ifCond .eq 100, 3) := by decide +kernel
theorem dL_law_656 : decode cL_law 656 = .ok (.iconst 0, 1) := by decide +kernel
theorem dL_law_657 : decode cL_law 657 = .ok (.ireturn, 1) := by decide +kernel
theorem dL_law_658 : decode cL_law 658 = .ok (.aload_n 1, 1) := by decide +kernel
theorem dL_law_659 : decode cL_law 659 = .ok (.invokevirtual 90, 3) := by decide +kernel
theorem dL_law_662 : decode cL_law 662 = .ok (.aload_n 2, 1) := by decide +kernel
theorem dL_law_663 : decode cL_law 663 = .ok (.invokevirtual 94, 3) := by decide +kernel
theorem dL_law_666 : decode cL_law 666 = .ok (.if_icmp .eq 87, 3) := by decide +kernel
theorem dL_law_669 : decode cL_law 669 = .ok (.iconst 0, 1) := by decide +kernel
theorem dL_law_670 : decode cL_law 670 = .ok (.ireturn, 1) := by decide +kernel
theorem dL_law_671 : decode cL_law 671 = .ok (.aload_n 1, 1) := by decide +kernel
theorem dL_law_672 : decode cL_law 672 = .ok (.aload_n 0, 1) := by decide +kernel
theorem dL_law_673 : decode cL_law 673 = .ok (.iload_n 3, 1) := by decide +kernel
theorem dL_law_674 : decode cL_law 674 = .ok (.iconst 1, 1) := by decide +kernel
theorem dL_law_675 : decode cL_law 675 = .ok (.iadd, 1) := by decide +kernel
theorem dL_law_676 : decode cL_law 676 = .ok (.iaload, 1) := by decide +kernel
theorem dL_law_677 : decode cL_law 677 = .ok (.aload_n 0, 1) := by decide +kernel
theorem dL_law_678 : decode cL_law 678 = .ok (.iload_n 3, 1) := by decide +kernel
theorem dL_law_679 : decode cL_law 679 = .ok (.iconst 2, 1) := by decide +kernel
theorem dL_law_680 : decode cL_law 680 = .ok (.iadd, 1) := by decide +kernel
theorem dL_law_681 : decode cL_law 681 = .ok (.iaload, 1) := by decide +kernel
theorem dL_law_682 : decode cL_law 682 = .ok (.invokevirtual 95, 3) := by decide +kernel
theorem dL_law_685 : decode cL_law 685 = .ok (.aload_n 2, 1) := by decide +kernel
theorem dL_law_686 : decode cL_law 686 = .ok (.aload_n 0, 1) := by decide +kernel
theorem dL_law_687 : decode cL_law 687 = .ok (.iload_n 3, 1) := by decide +kernel
theorem dL_law_688 : decode cL_law 688 = .ok (.iconst 1, 1) := by decide +kernel
theorem dL_law_689 : decode cL_law 689 = .ok (.iadd, 1) := by decide +kernel
theorem dL_law_690 : decode cL_law 690 = .ok (.iaload, 1) := by decide +kernel
theorem dL_law_691 : decode cL_law 691 = .ok (.aload_n 0, 1) := by decide +kernel
theorem dL_law_692 : decode cL_law 692 = .ok (.iload_n 3, 1) := by decide +kernel
theorem dL_law_693 : decode cL_law 693 = .ok (.iconst 2, 1) := by decide +kernel
theorem dL_law_694 : decode cL_law 694 = .ok (.iadd, 1) := by decide +kernel
theorem dL_law_695 : decode cL_law 695 = .ok (.iaload, 1) := by decide +kernel
theorem dL_law_696 : decode cL_law 696 = .ok (.invokevirtual 98, 3) := by decide +kernel
theorem dL_law_699 : decode cL_law 699 = .ok (.if_icmp .eq 54, 3) := by decide +kernel
theorem dL_law_702 : decode cL_law 702 = .ok (.iconst 0, 1) := by decide +kernel
theorem dL_law_703 : decode cL_law 703 = .ok (.ireturn, 1) := by decide +kernel
theorem dL_law_704 : decode cL_law 704 = .ok (.aload_n 1, 1) := by decide +kernel
theorem dL_law_705 : decode cL_law 705 = .ok (.invokevirtual 99, 3) := by decide +kernel
theorem dL_law_708 : decode cL_law 708 = .ok (.aload_n 2, 1) := by decide +kernel
theorem dL_law_709 : decode cL_law 709 = .ok (.invokevirtual 102, 3) := by decide +kernel
theorem dL_law_712 : decode cL_law 712 = .ok (.if_icmp .eq 41, 3) := by decide +kernel
theorem dL_law_715 : decode cL_law 715 = .ok (.iconst 0, 1) := by decide +kernel
theorem dL_law_716 : decode cL_law 716 = .ok (.ireturn, 1) := by decide +kernel
theorem dL_law_717 : decode cL_law 717 = .ok (.aload_n 1, 1) := by decide +kernel
theorem dL_law_718 : decode cL_law 718 = .ok (.aload_n 0, 1) := by decide +kernel
theorem dL_law_719 : decode cL_law 719 = .ok (.iload_n 3, 1) := by decide +kernel
theorem dL_law_720 : decode cL_law 720 = .ok (.iconst 1, 1) := by decide +kernel
theorem dL_law_721 : decode cL_law 721 = .ok (.iadd, 1) := by decide +kernel
theorem dL_law_722 : decode cL_law 722 = .ok (.iaload, 1) := by decide +kernel
theorem dL_law_723 : decode cL_law 723 = .ok (.invokevirtual 103, 3) := by decide +kernel
theorem dL_law_726 : decode cL_law 726 = .ok (.aload_n 2, 1) := by decide +kernel
theorem dL_law_727 : decode cL_law 727 = .ok (.aload_n 0, 1) := by decide +kernel
theorem dL_law_728 : decode cL_law 728 = .ok (.iload_n 3, 1) := by decide +kernel
theorem dL_law_729 : decode cL_law 729 = .ok (.iconst 1, 1) := by decide +kernel
theorem dL_law_730 : decode cL_law 730 = .ok (.iadd, 1) := by decide +kernel
theorem dL_law_731 : decode cL_law 731 = .ok (.iaload, 1) := by decide +kernel
theorem dL_law_732 : decode cL_law 732 = .ok (.invokevirtual 106, 3) := by decide +kernel
theorem dL_law_735 : decode cL_law 735 = .ok (.if_icmp .eq 18, 3) := by decide +kernel
theorem dL_law_738 : decode cL_law 738 = .ok (.iconst 0, 1) := by decide +kernel
theorem dL_law_739 : decode cL_law 739 = .ok (.ireturn, 1) := by decide +kernel
theorem dL_law_740 : decode cL_law 740 = .ok (.aload_n 1, 1) := by decide +kernel
theorem dL_law_741 : decode cL_law 741 = .ok (.invokevirtual 107, 3) := by decide +kernel
theorem dL_law_744 : decode cL_law 744 = .ok (.aload_n 2, 1) := by decide +kernel
theorem dL_law_745 : decode cL_law 745 = .ok (.invokevirtual 110, 3) := by decide +kernel
theorem dL_law_748 : decode cL_law 748 = .ok (.if_icmp .eq 5, 3) := by decide +kernel
theorem dL_law_751 : decode cL_law 751 = .ok (.iconst 0, 1) := by decide +kernel
theorem dL_law_752 : decode cL_law 752 = .ok (.ireturn, 1) := by decide +kernel
theorem dL_law_753 : decode cL_law 753 = .ok (.iinc 3 4, 3) := by decide +kernel
theorem dL_law_756 : decode cL_law 756 = .ok (.goto (-738), 3) := by decide +kernel
theorem dL_law_759 : decode cL_law 759 = .ok (.iconst 1, 1) := by decide +kernel
theorem dL_law_760 : decode cL_law 760 = .ok (.ireturn, 1) := by decide +kernel
