theorem d_RRef_init_0 : decode b_RRef_init 0 = .ok (.aload_n 0, 1) := by decide +kernel
theorem d_RRef_init_1 : decode b_RRef_init 1 = .ok (.invokespecial 1, 3) := by decide +kernel
theorem d_RRef_init_4 : decode b_RRef_init 4 = .ok (.aload_n 0, 1) := by decide +kernel
theorem d_RRef_init_5 : decode b_RRef_init 5 = .ok (.sipush 16384, 3) := by decide +kernel
theorem d_RRef_init_8 : decode b_RRef_init 8 = .ok (.newarray .byte, 2) := by decide +kernel
theorem d_RRef_init_10 : decode b_RRef_init 10 = .ok (.putfield 7, 3) := by decide +kernel
theorem d_RRef_init_13 : decode b_RRef_init 13 = .ok (.aload_n 0, 1) := by decide +kernel
theorem d_RRef_init_14 : decode b_RRef_init 14 = .ok (.iconst 1, 1) := by decide +kernel
theorem d_RRef_init_15 : decode b_RRef_init 15 = .ok (.putfield 13, 3) := by decide +kernel
theorem d_RRef_init_18 : decode b_RRef_init 18 = .ok (.aload_n 0, 1) := by decide +kernel
theorem d_RRef_init_19 : decode b_RRef_init 19 = .ok (.iconst (-1), 1) := by decide +kernel
theorem d_RRef_init_20 : decode b_RRef_init 20 = .ok (.putfield 17, 3) := by decide +kernel
theorem d_RRef_init_23 : decode b_RRef_init 23 = .ok (.aload_n 0, 1) := by decide +kernel
theorem d_RRef_init_24 : decode b_RRef_init 24 = .ok (.sipush 2000, 3) := by decide +kernel
theorem d_RRef_init_27 : decode b_RRef_init 27 = .ok (.newarray .byte, 2) := by decide +kernel
theorem d_RRef_init_29 : decode b_RRef_init 29 = .ok (.putfield 21, 3) := by decide +kernel
theorem d_RRef_init_32 : decode b_RRef_init 32 = .ok (.aload_n 0, 1) := by decide +kernel
theorem d_RRef_init_33 : decode b_RRef_init 33 = .ok (.sipush 520, 3) := by decide +kernel
theorem d_RRef_init_36 : decode b_RRef_init 36 = .ok (.newarray .int, 2) := by decide +kernel
theorem d_RRef_init_38 : decode b_RRef_init 38 = .ok (.putfield 24, 3) := by decide +kernel
theorem d_RRef_init_41 : decode b_RRef_init 41 = .ok (.aload_n 0, 1) := by decide +kernel
theorem d_RRef_init_42 : decode b_RRef_init 42 = .ok (.sipush 520, 3) := by decide +kernel
theorem d_RRef_init_45 : decode b_RRef_init 45 = .ok (.newarray .int, 2) := by decide +kernel
theorem d_RRef_init_47 : decode b_RRef_init 47 = .ok (.putfield 28, 3) := by decide +kernel
theorem d_RRef_init_50 : decode b_RRef_init 50 = .ok (.aload_n 0, 1) := by decide +kernel
theorem d_RRef_init_51 : decode b_RRef_init 51 = .ok (.sipush 520, 3) := by decide +kernel
theorem d_RRef_init_54 : decode b_RRef_init 54 = .ok (.newarray .long, 2) := by decide +kernel
theorem d_RRef_init_56 : decode b_RRef_init 56 = .ok (.putfield 31, 3) := by decide +kernel
theorem d_RRef_init_59 : decode b_RRef_init 59 = .ok (.aload_n 0, 1) := by decide +kernel
theorem d_RRef_init_60 : decode b_RRef_init 60 = .ok (.sipush 520, 3) := by decide +kernel
theorem d_RRef_init_63 : decode b_RRef_init 63 = .ok (.newarray .int, 2) := by decide +kernel
theorem d_RRef_init_65 : decode b_RRef_init 65 = .ok (.putfield 35, 3) := by decide +kernel
theorem d_RRef_init_68 : decode b_RRef_init 68 = .ok (.aload_n 0, 1) := by decide +kernel
theorem d_RRef_init_69 : decode b_RRef_init 69 = .ok (.sipush 520, 3) := by decide +kernel
theorem d_RRef_init_72 : decode b_RRef_init 72 = .ok (.newarray .int, 2) := by decide +kernel
theorem d_RRef_init_74 : decode b_RRef_init 74 = .ok (.putfield 38, 3) := by decide +kernel
theorem d_RRef_init_77 : decode b_RRef_init 77 = .ok (.aload_n 0, 1) := by decide +kernel
theorem d_RRef_init_78 : decode b_RRef_init 78 = .ok (.sipush 270, 3) := by decide +kernel
theorem d_RRef_init_81 : decode b_RRef_init 81 = .ok (.newarray .int, 2) := by decide +kernel
theorem d_RRef_init_83 : decode b_RRef_init 83 = .ok (.putfield 41, 3) := by decide +kernel
theorem d_RRef_init_86 : decode b_RRef_init 86 = .ok (.aload_n 0, 1) := by decide +kernel
theorem d_RRef_init_87 : decode b_RRef_init 87 = .ok (.sipush 270, 3) := by decide +kernel
theorem d_RRef_init_90 : decode b_RRef_init 90 = .ok (.newarray .int, 2) := by decide +kernel
theorem d_RRef_init_92 : decode b_RRef_init 92 = .ok (.putfield 44, 3) := by decide +kernel
theorem d_RRef_init_95 : decode b_RRef_init 95 = .ok (.aload_n 0, 1) := by decide +kernel
theorem d_RRef_init_96 : decode b_RRef_init 96 = .ok (.sipush 270, 3) := by decide +kernel
theorem d_RRef_init_99 : decode b_RRef_init 99 = .ok (.newarray .int, 2) := by decide +kernel
theorem d_RRef_init_101 : decode b_RRef_init 101 = .ok (.putfield 47, 3) := by decide +kernel
theorem d_RRef_init_104 : decode b_RRef_init 104 = .ok (.aload_n 0, 1) := by decide +kernel
theorem d_RRef_init_105 : decode b_RRef_init 105 = .ok (.sipush 270, 3) := by decide +kernel
theorem d_RRef_init_108 : decode b_RRef_init 108 = .ok (.newarray .long, 2) := by decide +kernel
theorem d_RRef_init_110 : decode b_RRef_init 110 = .ok (.putfield 50, 3) := by decide +kernel
theorem d_RRef_init_113 : decode b_RRef_init 113 = .ok (.aload_n 0, 1) := by decide +kernel
theorem d_RRef_init_114 : decode b_RRef_init 114 = .ok (.sipush 3240, 3) := by decide +kernel
theorem d_RRef_init_117 : decode b_RRef_init 117 = .ok (.newarray .int, 2) := by decide +kernel
theorem d_RRef_init_119 : decode b_RRef_init 119 = .ok (.putfield 53, 3) := by decide +kernel
theorem d_RRef_init_122 : decode b_RRef_init 122 = .ok (.aload_n 0, 1) := by decide +kernel
theorem d_RRef_init_123 : decode b_RRef_init 123 = .ok (.sipush 3240, 3) := by decide +kernel
theorem d_RRef_init_126 : decode b_RRef_init 126 = .ok (.newarray .int, 2) := by decide +kernel
theorem d_RRef_init_128 : decode b_RRef_init 128 = .ok (.putfield 56, 3) := by decide +kernel
theorem d_RRef_init_131 : decode b_RRef_init 131 = .ok (.aload_n 0, 1) := by decide +kernel
theorem d_RRef_init_132 : decode b_RRef_init 132 = .ok (.sipush 3240, 3) := by decide +kernel
theorem d_RRef_init_135 : decode b_RRef_init 135 = .ok (.newarray .long, 2) := by decide +kernel
theorem d_RRef_init_137 : decode b_RRef_init 137 = .ok (.putfield 59, 3) := by decide +kernel
theorem d_RRef_init_140 : decode b_RRef_init 140 = .ok (.aload_n 0, 1) := by decide +kernel
theorem d_RRef_init_141 : decode b_RRef_init 141 = .ok (.bipush 8, 2) := by decide +kernel
theorem d_RRef_init_143 : decode b_RRef_init 143 = .ok (.newarray .int, 2) := by decide +kernel
theorem d_RRef_init_145 : decode b_RRef_init 145 = .ok (.putfield 62, 3) := by decide +kernel
theorem d_RRef_init_148 : decode b_RRef_init 148 = .ok (.aload_n 0, 1) := by decide +kernel
theorem d_RRef_init_149 : decode b_RRef_init 149 = .ok (.sipush 512, 3) := by decide +kernel
theorem d_RRef_init_152 : decode b_RRef_init 152 = .ok (.newarray .boolean, 2) := by decide +kernel
theorem d_RRef_init_154 : decode b_RRef_init 154 = .ok (.putfield 65, 3) := by decide +kernel
theorem d_RRef_init_157 : decode b_RRef_init 157 = .ok (.aload_n 0, 1) := by decide +kernel
theorem d_RRef_init_158 : decode b_RRef_init 158 = .ok (.sipush 256, 3) := by decide +kernel
theorem d_RRef_init_161 : decode b_RRef_init 161 = .ok (.newarray .byte, 2) := by decide +kernel
theorem d_RRef_init_163 : decode b_RRef_init 163 = .ok (.putfield 69, 3) := by decide +kernel
theorem d_RRef_init_166 : decode b_RRef_init 166 = .ok (.aload_n 0, 1) := by decide +kernel
theorem d_RRef_init_167 : decode b_RRef_init 167 = .ok (.sipush 2010, 3) := by decide +kernel
theorem d_RRef_init_170 : decode b_RRef_init 170 = .ok (.newarray .byte, 2) := by decide +kernel
theorem d_RRef_init_172 : decode b_RRef_init 172 = .ok (.putfield 72, 3) := by decide +kernel
theorem d_RRef_init_175 : decode b_RRef_init 175 = .ok (.aload_n 0, 1) := by decide +kernel
theorem d_RRef_init_176 : decode b_RRef_init 176 = .ok (.bipush 12, 2) := by decide +kernel
theorem d_RRef_init_178 : decode b_RRef_init 178 = .ok (.newarray .int, 2) := by decide +kernel
theorem d_RRef_init_180 : decode b_RRef_init 180 = .ok (.putfield 75, 3) := by decide +kernel
theorem d_RRef_init_183 : decode b_RRef_init 183 = .ok (.aload_n 0, 1) := by decide +kernel
theorem d_RRef_init_184 : decode b_RRef_init 184 = .ok (.iload_n 1, 1) := by decide +kernel
theorem d_RRef_init_185 : decode b_RRef_init 185 = .ok (.iconst 4, 1) := by decide +kernel
theorem d_RRef_init_186 : decode b_RRef_init 186 = .ok (.if_icmp .ge 7, 3) := by decide +kernel
theorem d_RRef_init_189 : decode b_RRef_init 189 = .ok (.iconst 4, 1) := by decide +kernel
theorem d_RRef_init_190 : decode b_RRef_init 190 = .ok (.goto 17, 3) := by decide +kernel
theorem d_RRef_init_193 : decode b_RRef_init 193 = .ok (.iload_n 1, 1) := by decide +kernel
theorem d_RRef_init_194 : decode b_RRef_init 194 = .ok (.sipush 512, 3) := by decide +kernel
theorem d_RRef_init_197 : decode b_RRef_init 197 = .ok (.if_icmp .le 9, 3) := by decide +kernel
theorem d_RRef_init_200 : decode b_RRef_init 200 = .ok (.sipush 512, 3) := by decide +kernel
theorem d_RRef_init_203 : decode b_RRef_init 203 = .ok (.goto 4, 3) := by decide +kernel
theorem d_RRef_init_206 : decode b_RRef_init 206 = .ok (.iload_n 1, 1) := by decide +kernel
theorem d_RRef_init_207 : decode b_RRef_init 207 = .ok (.putfield 78, 3) := by decide +kernel
theorem d_RRef_init_210 : decode b_RRef_init 210 = .ok (.return_, 1) := by decide +kernel
theorem d_RRef_badAt_0 : decode b_RRef_badAt 0 = .ok (.aload_n 0, 1) := by decide +kernel
theorem d_RRef_badAt_1 : decode b_RRef_badAt 1 = .ok (.getfield 13, 3) := by decide +kernel
theorem d_RRef_badAt_4 : decode b_RRef_badAt 4 = .ok (.ifCond .ne 6, 3) := by decide +kernel
theorem d_RRef_badAt_7 : decode b_RRef_badAt 7 = .ok (.bipush (-3), 2) := by decide +kernel
theorem d_RRef_badAt_9 : decode b_RRef_badAt 9 = .ok (.ireturn, 1) := by decide +kernel
theorem d_RRef_badAt_10 : decode b_RRef_badAt 10 = .ok (.iconst (-1), 1) := by decide +kernel
theorem d_RRef_badAt_11 : decode b_RRef_badAt 11 = .ok (.istore_n 1, 1) := by decide +kernel
theorem d_RRef_badAt_12 : decode b_RRef_badAt 12 = .ok (.iconst 0, 1) := by decide +kernel
theorem d_RRef_badAt_13 : decode b_RRef_badAt 13 = .ok (.istore_n 2, 1) := by decide +kernel
theorem d_RRef_badAt_14 : decode b_RRef_badAt 14 = .ok (.iload_n 2, 1) := by decide +kernel
theorem d_RRef_badAt_15 : decode b_RRef_badAt 15 = .ok (.aload_n 0, 1) := by decide +kernel
theorem d_RRef_badAt_16 : decode b_RRef_badAt 16 = .ok (.getfield 109, 3) := by decide +kernel
theorem d_RRef_badAt_19 : decode b_RRef_badAt 19 = .ok (.if_icmp .ge 63, 3) := by decide +kernel
theorem d_RRef_badAt_22 : decode b_RRef_badAt 22 = .ok (.aload_n 0, 1) := by decide +kernel
theorem d_RRef_badAt_23 : decode b_RRef_badAt 23 = .ok (.getfield 44, 3) := by decide +kernel
theorem d_RRef_badAt_26 : decode b_RRef_badAt 26 = .ok (.iload_n 2, 1) := by decide +kernel
theorem d_RRef_badAt_27 : decode b_RRef_badAt 27 = .ok (.iaload, 1) := by decide +kernel
theorem d_RRef_badAt_28 : decode b_RRef_badAt 28 = .ok (.iconst (-1), 1) := by decide +kernel
theorem d_RRef_badAt_29 : decode b_RRef_badAt 29 = .ok (.if_icmp .eq 15, 3) := by decide +kernel
theorem d_RRef_badAt_32 : decode b_RRef_badAt 32 = .ok (.aload_n 0, 1) := by decide +kernel
theorem d_RRef_badAt_33 : decode b_RRef_badAt 33 = .ok (.iload_n 2, 1) := by decide +kernel
theorem d_RRef_badAt_34 : decode b_RRef_badAt 34 = .ok (.invokevirtual 126, 3) := by decide +kernel
theorem d_RRef_badAt_37 : decode b_RRef_badAt 37 = .ok (.ifCond .ne 7, 3) := by decide +kernel
theorem d_RRef_badAt_40 : decode b_RRef_badAt 40 = .ok (.iconst 1, 1) := by decide +kernel
theorem d_RRef_badAt_41 : decode b_RRef_badAt 41 = .ok (.goto 4, 3) := by decide +kernel
theorem d_RRef_badAt_44 : decode b_RRef_badAt 44 = .ok (.iconst 0, 1) := by decide +kernel
theorem d_RRef_badAt_45 : decode b_RRef_badAt 45 = .ok (.istore_n 3, 1) := by decide +kernel
theorem d_RRef_badAt_46 : decode b_RRef_badAt 46 = .ok (.iload_n 3, 1) := by decide +kernel
theorem d_RRef_badAt_47 : decode b_RRef_badAt 47 = .ok (.ifCond .eq 27, 3) := by decide +kernel
theorem d_RRef_badAt_50 : decode b_RRef_badAt 50 = .ok (.iload_n 1, 1) := by decide +kernel
theorem d_RRef_badAt_51 : decode b_RRef_badAt 51 = .ok (.iconst (-1), 1) := by decide +kernel
theorem d_RRef_badAt_52 : decode b_RRef_badAt 52 = .ok (.if_icmp .eq 13, 3) := by decide +kernel
theorem d_RRef_badAt_55 : decode b_RRef_badAt 55 = .ok (.aload_n 0, 1) := by decide +kernel
theorem d_RRef_badAt_56 : decode b_RRef_badAt 56 = .ok (.getfield 44, 3) := by decide +kernel
theorem d_RRef_badAt_59 : decode b_RRef_badAt 59 = .ok (.iload_n 2, 1) := by decide +kernel
theorem d_RRef_badAt_60 : decode b_RRef_badAt 60 = .ok (.iaload, 1) := by decide +kernel
theorem d_RRef_badAt_61 : decode b_RRef_badAt 61 = .ok (.iload_n 1, 1) := by decide +kernel
theorem d_RRef_badAt_62 : decode b_RRef_badAt 62 = .ok (.if_icmp .ge 12, 3) := by decide +kernel
theorem d_RRef_badAt_65 : decode b_RRef_badAt 65 = .ok (.aload_n 0, 1) := by decide +kernel
theorem d_RRef_badAt_66 : decode b_RRef_badAt 66 = .ok (.getfield 44, 3) := by decide +kernel
theorem d_RRef_badAt_69 : decode b_RRef_badAt 69 = .ok (.iload_n 2, 1) := by decide +kernel
theorem d_RRef_badAt_70 : decode b_RRef_badAt 70 = .ok (.iaload, 1) := by decide +kernel
theorem d_RRef_badAt_71 : decode b_RRef_badAt 71 = .ok (.goto 4, 3) := by decide +kernel
theorem d_RRef_badAt_74 : decode b_RRef_badAt 74 = .ok (.iload_n 1, 1) := by decide +kernel
theorem d_RRef_badAt_75 : decode b_RRef_badAt 75 = .ok (.istore_n 1, 1) := by decide +kernel
theorem d_RRef_badAt_76 : decode b_RRef_badAt 76 = .ok (.iinc 2 1, 3) := by decide +kernel
theorem d_RRef_badAt_79 : decode b_RRef_badAt 79 = .ok (.goto (-65), 3) := by decide +kernel
theorem d_RRef_badAt_82 : decode b_RRef_badAt 82 = .ok (.iconst 0, 1) := by decide +kernel
theorem d_RRef_badAt_83 : decode b_RRef_badAt 83 = .ok (.istore_n 2, 1) := by decide +kernel
theorem d_RRef_badAt_84 : decode b_RRef_badAt 84 = .ok (.iload_n 2, 1) := by decide +kernel
theorem d_RRef_badAt_85 : decode b_RRef_badAt 85 = .ok (.aload_n 0, 1) := by decide +kernel
theorem d_RRef_badAt_86 : decode b_RRef_badAt 86 = .ok (.getfield 106, 3) := by decide +kernel
theorem d_RRef_badAt_89 : decode b_RRef_badAt 89 = .ok (.if_icmp .ge 43, 3) := by decide +kernel
theorem d_RRef_badAt_92 : decode b_RRef_badAt 92 = .ok (.aload_n 0, 1) := by decide +kernel
theorem d_RRef_badAt_93 : decode b_RRef_badAt 93 = .ok (.iload_n 2, 1) := by decide +kernel
theorem d_RRef_badAt_94 : decode b_RRef_badAt 94 = .ok (.invokevirtual 132, 3) := by decide +kernel
theorem d_RRef_badAt_97 : decode b_RRef_badAt 97 = .ok (.ifCond .ne 27, 3) := by decide +kernel
theorem d_RRef_badAt_100 : decode b_RRef_badAt 100 = .ok (.iload_n 1, 1) := by decide +kernel
theorem d_RRef_badAt_101 : decode b_RRef_badAt 101 = .ok (.iconst (-1), 1) := by decide +kernel
theorem d_RRef_badAt_102 : decode b_RRef_badAt 102 = .ok (.if_icmp .eq 13, 3) := by decide +kernel
theorem d_RRef_badAt_105 : decode b_RRef_badAt 105 = .ok (.aload_n 0, 1) := by decide +kernel
theorem d_RRef_badAt_106 : decode b_RRef_badAt 106 = .ok (.getfield 38, 3) := by decide +kernel
theorem d_RRef_badAt_109 : decode b_RRef_badAt 109 = .ok (.iload_n 2, 1) := by decide +kernel
theorem d_RRef_badAt_110 : decode b_RRef_badAt 110 = .ok (.iaload, 1) := by decide +kernel
theorem d_RRef_badAt_111 : decode b_RRef_badAt 111 = .ok (.iload_n 1, 1) := by decide +kernel
theorem d_RRef_badAt_112 : decode b_RRef_badAt 112 = .ok (.if_icmp .ge 12, 3) := by decide +kernel
theorem d_RRef_badAt_115 : decode b_RRef_badAt 115 = .ok (.aload_n 0, 1) := by decide +kernel
theorem d_RRef_badAt_116 : decode b_RRef_badAt 116 = .ok (.getfield 38, 3) := by decide +kernel
theorem d_RRef_badAt_119 : decode b_RRef_badAt 119 = .ok (.iload_n 2, 1) := by decide +kernel
theorem d_RRef_badAt_120 : decode b_RRef_badAt 120 = .ok (.iaload, 1) := by decide +kernel
theorem d_RRef_badAt_121 : decode b_RRef_badAt 121 = .ok (.goto 4, 3) := by decide +kernel
theorem d_RRef_badAt_124 : decode b_RRef_badAt 124 = .ok (.iload_n 1, 1) := by decide +kernel
theorem d_RRef_badAt_125 : decode b_RRef_badAt 125 = .ok (.istore_n 1, 1) := by decide +kernel
theorem d_RRef_badAt_126 : decode b_RRef_badAt 126 = .ok (.iinc 2 1, 3) := by decide +kernel
theorem d_RRef_badAt_129 : decode b_RRef_badAt 129 = .ok (.goto (-45), 3) := by decide +kernel
theorem d_RRef_badAt_132 : decode b_RRef_badAt 132 = .ok (.iconst 1, 1) := by decide +kernel
theorem d_RRef_badAt_133 : decode b_RRef_badAt 133 = .ok (.istore_n 2, 1) := by decide +kernel
theorem d_RRef_badAt_134 : decode b_RRef_badAt 134 = .ok (.iload_n 2, 1) := by decide +kernel
theorem d_RRef_badAt_135 : decode b_RRef_badAt 135 = .ok (.ifCond .lt 70, 3) := by decide +kernel
theorem d_RRef_badAt_138 : decode b_RRef_badAt 138 = .ok (.iconst 1, 1) := by decide +kernel
theorem d_RRef_badAt_139 : decode b_RRef_badAt 139 = .ok (.istore_n 3, 1) := by decide +kernel
theorem d_RRef_badAt_140 : decode b_RRef_badAt 140 = .ok (.iconst 0, 1) := by decide +kernel
theorem d_RRef_badAt_141 : decode b_RRef_badAt 141 = .ok (.istore 4, 2) := by decide +kernel
theorem d_RRef_badAt_143 : decode b_RRef_badAt 143 = .ok (.iload 4, 2) := by decide +kernel
theorem d_RRef_badAt_145 : decode b_RRef_badAt 145 = .ok (.bipush 32, 2) := by decide +kernel
theorem d_RRef_badAt_147 : decode b_RRef_badAt 147 = .ok (.if_icmp .ge 34, 3) := by decide +kernel
theorem d_RRef_badAt_150 : decode b_RRef_badAt 150 = .ok (.iload_n 3, 1) := by decide +kernel
theorem d_RRef_badAt_151 : decode b_RRef_badAt 151 = .ok (.ifCond .eq 22, 3) := by decide +kernel
theorem d_RRef_badAt_154 : decode b_RRef_badAt 154 = .ok (.aload_n 0, 1) := by decide +kernel
theorem d_RRef_badAt_155 : decode b_RRef_badAt 155 = .ok (.getfield 7, 3) := by decide +kernel
theorem d_RRef_badAt_158 : decode b_RRef_badAt 158 = .ok (.bipush 32, 2) := by decide +kernel
theorem d_RRef_badAt_160 : decode b_RRef_badAt 160 = .ok (.iload_n 2, 1) := by decide +kernel
theorem d_RRef_badAt_161 : decode b_RRef_badAt 161 = .ok (.imul, 1) := by decide +kernel
theorem d_RRef_badAt_162 : decode b_RRef_badAt 162 = .ok (.iload 4, 2) := by decide +kernel
theorem d_RRef_badAt_164 : decode b_RRef_badAt 164 = .ok (.iadd, 1) := by decide +kernel
theorem d_RRef_badAt_165 : decode b_RRef_badAt 165 = .ok (.baload, 1) := by decide +kernel
theorem d_RRef_badAt_166 : decode b_RRef_badAt 166 = .ok (.ifCond .ne 7, 3) := by decide +kernel
theorem d_RRef_badAt_169 : decode b_RRef_badAt 169 = .ok (.iconst 1, 1) := by decide +kernel
theorem d_RRef_badAt_170 : decode b_RRef_badAt 170 = .ok (.goto 4, 3) := by decide +kernel
theorem d_RRef_badAt_173 : decode b_RRef_badAt 173 = .ok (.iconst 0, 1) := by decide +kernel
theorem d_RRef_badAt_174 : decode b_RRef_badAt 174 = .ok (.istore_n 3, 1) := by decide +kernel
theorem d_RRef_badAt_175 : decode b_RRef_badAt 175 = .ok (.iinc 4 1, 3) := by decide +kernel
theorem d_RRef_badAt_178 : decode b_RRef_badAt 178 = .ok (.goto (-35), 3) := by decide +kernel
theorem d_RRef_badAt_181 : decode b_RRef_badAt 181 = .ok (.iload_n 3, 1) := by decide +kernel
theorem d_RRef_badAt_182 : decode b_RRef_badAt 182 = .ok (.ifCond .ne 15, 3) := by decide +kernel
theorem d_RRef_badAt_185 : decode b_RRef_badAt 185 = .ok (.aload_n 0, 1) := by decide +kernel
theorem d_RRef_badAt_186 : decode b_RRef_badAt 186 = .ok (.iload_n 2, 1) := by decide +kernel
theorem d_RRef_badAt_187 : decode b_RRef_badAt 187 = .ok (.invokevirtual 140, 3) := by decide +kernel
theorem d_RRef_badAt_190 : decode b_RRef_badAt 190 = .ok (.ifCond .ne 7, 3) := by decide +kernel
theorem d_RRef_badAt_193 : decode b_RRef_badAt 193 = .ok (.iload_n 2, 1) := by decide +kernel
theorem d_RRef_badAt_194 : decode b_RRef_badAt 194 = .ok (.goto 4, 3) := by decide +kernel
theorem d_RRef_badAt_197 : decode b_RRef_badAt 197 = .ok (.iload_n 1, 1) := by decide +kernel
theorem d_RRef_badAt_198 : decode b_RRef_badAt 198 = .ok (.istore_n 1, 1) := by decide +kernel
theorem d_RRef_badAt_199 : decode b_RRef_badAt 199 = .ok (.iinc 2 (-1), 3) := by decide +kernel
theorem d_RRef_badAt_202 : decode b_RRef_badAt 202 = .ok (.goto (-68), 3) := by decide +kernel
theorem d_RRef_badAt_205 : decode b_RRef_badAt 205 = .ok (.iload_n 1, 1) := by decide +kernel
theorem d_RRef_badAt_206 : decode b_RRef_badAt 206 = .ok (.ireturn, 1) := by decide +kernel
theorem d_RRef_below_0 : decode b_RRef_below 0 = .ok (.iconst 0, 1) := by decide +kernel
theorem d_RRef_below_1 : decode b_RRef_below 1 = .ok (.istore_n 2, 1) := by decide +kernel
theorem d_RRef_below_2 : decode b_RRef_below 2 = .ok (.iconst 0, 1) := by decide +kernel
theorem d_RRef_below_3 : decode b_RRef_below 3 = .ok (.istore_n 3, 1) := by decide +kernel
theorem d_RRef_below_4 : decode b_RRef_below 4 = .ok (.iload_n 3, 1) := by decide +kernel
theorem d_RRef_below_5 : decode b_RRef_below 5 = .ok (.aload_n 0, 1) := by decide +kernel
theorem d_RRef_below_6 : decode b_RRef_below 6 = .ok (.getfield 106, 3) := by decide +kernel
theorem d_RRef_below_9 : decode b_RRef_below 9 = .ok (.if_icmp .ge 40, 3) := by decide +kernel
theorem d_RRef_below_12 : decode b_RRef_below 12 = .ok (.aload_n 0, 1) := by decide +kernel
theorem d_RRef_below_13 : decode b_RRef_below 13 = .ok (.getfield 24, 3) := by decide +kernel
theorem d_RRef_below_16 : decode b_RRef_below 16 = .ok (.iload_n 3, 1) := by decide +kernel
theorem d_RRef_below_17 : decode b_RRef_below 17 = .ok (.iaload, 1) := by decide +kernel
theorem d_RRef_below_18 : decode b_RRef_below 18 = .ok (.iload_n 1, 1) := by decide +kernel
theorem d_RRef_below_19 : decode b_RRef_below 19 = .ok (.if_icmp .ge 22, 3) := by decide +kernel
theorem d_RRef_below_22 : decode b_RRef_below 22 = .ok (.aload_n 0, 1) := by decide +kernel
theorem d_RRef_below_23 : decode b_RRef_below 23 = .ok (.getfield 24, 3) := by decide +kernel
theorem d_RRef_below_26 : decode b_RRef_below 26 = .ok (.iload_n 3, 1) := by decide +kernel
theorem d_RRef_below_27 : decode b_RRef_below 27 = .ok (.iaload, 1) := by decide +kernel
theorem d_RRef_below_28 : decode b_RRef_below 28 = .ok (.iload_n 2, 1) := by decide +kernel
theorem d_RRef_below_29 : decode b_RRef_below 29 = .ok (.if_icmp .le 12, 3) := by decide +kernel
theorem d_RRef_below_32 : decode b_RRef_below 32 = .ok (.aload_n 0, 1) := by decide +kernel
theorem d_RRef_below_33 : decode b_RRef_below 33 = .ok (.getfield 24, 3) := by decide +kernel
theorem d_RRef_below_36 : decode b_RRef_below 36 = .ok (.iload_n 3, 1) := by decide +kernel
theorem d_RRef_below_37 : decode b_RRef_below 37 = .ok (.iaload, 1) := by decide +kernel
theorem d_RRef_below_38 : decode b_RRef_below 38 = .ok (.goto 4, 3) := by decide +kernel
theorem d_RRef_below_41 : decode b_RRef_below 41 = .ok (.iload_n 2, 1) := by decide +kernel
theorem d_RRef_below_42 : decode b_RRef_below 42 = .ok (.istore_n 2, 1) := by decide +kernel
theorem d_RRef_below_43 : decode b_RRef_below 43 = .ok (.iinc 3 1, 3) := by decide +kernel
theorem d_RRef_below_46 : decode b_RRef_below 46 = .ok (.goto (-42), 3) := by decide +kernel
theorem d_RRef_below_49 : decode b_RRef_below 49 = .ok (.iload_n 2, 1) := by decide +kernel
theorem d_RRef_below_50 : decode b_RRef_below 50 = .ok (.ireturn, 1) := by decide +kernel
theorem d_RRef_bodies_0 : decode b_RRef_bodies 0 = .ok (.iload_n 0, 1) := by decide +kernel
theorem d_RRef_bodies_1 : decode b_RRef_bodies 1 = .ok (.bipush 30, 2) := by decide +kernel
theorem d_RRef_bodies_3 : decode b_RRef_bodies 3 = .ok (.iadd, 1) := by decide +kernel
theorem d_RRef_bodies_4 : decode b_RRef_bodies 4 = .ok (.bipush 31, 2) := by decide +kernel
theorem d_RRef_bodies_6 : decode b_RRef_bodies 6 = .ok (.idiv, 1) := by decide +kernel
theorem d_RRef_bodies_7 : decode b_RRef_bodies 7 = .ok (.ireturn, 1) := by decide +kernel
theorem d_RRef_byteAt_0 : decode b_RRef_byteAt 0 = .ok (.iload_n 1, 1) := by decide +kernel
theorem d_RRef_byteAt_1 : decode b_RRef_byteAt 1 = .ok (.iconst 0, 1) := by decide +kernel
theorem d_RRef_byteAt_2 : decode b_RRef_byteAt 2 = .ok (.aload_n 0, 1) := by decide +kernel
theorem d_RRef_byteAt_3 : decode b_RRef_byteAt 3 = .ok (.getfield 78, 3) := by decide +kernel
theorem d_RRef_byteAt_6 : decode b_RRef_byteAt 6 = .ok (.iconst 1, 1) := by decide +kernel
theorem d_RRef_byteAt_7 : decode b_RRef_byteAt 7 = .ok (.isub, 1) := by decide +kernel
theorem d_RRef_byteAt_8 : decode b_RRef_byteAt 8 = .ok (.invokestatic 172, 3) := by decide +kernel
theorem d_RRef_byteAt_11 : decode b_RRef_byteAt 11 = .ok (.ifCond .eq 13, 3) := by decide +kernel
theorem d_RRef_byteAt_14 : decode b_RRef_byteAt 14 = .ok (.iload_n 2, 1) := by decide +kernel
theorem d_RRef_byteAt_15 : decode b_RRef_byteAt 15 = .ok (.iconst 0, 1) := by decide +kernel
theorem d_RRef_byteAt_16 : decode b_RRef_byteAt 16 = .ok (.bipush 31, 2) := by decide +kernel
theorem d_RRef_byteAt_18 : decode b_RRef_byteAt 18 = .ok (.invokestatic 172, 3) := by decide +kernel
theorem d_RRef_byteAt_21 : decode b_RRef_byteAt 21 = .ok (.ifCond .ne 8, 3) := by decide +kernel
theorem d_RRef_byteAt_24 : decode b_RRef_byteAt 24 = .ok (.bipush (-2), 2) := by decide +kernel
theorem d_RRef_byteAt_26 : decode b_RRef_byteAt 26 = .ok (.goto 18, 3) := by decide +kernel
theorem d_RRef_byteAt_29 : decode b_RRef_byteAt 29 = .ok (.aload_n 0, 1) := by decide +kernel
theorem d_RRef_byteAt_30 : decode b_RRef_byteAt 30 = .ok (.getfield 7, 3) := by decide +kernel
theorem d_RRef_byteAt_33 : decode b_RRef_byteAt 33 = .ok (.bipush 32, 2) := by decide +kernel
theorem d_RRef_byteAt_35 : decode b_RRef_byteAt 35 = .ok (.iload_n 1, 1) := by decide +kernel
theorem d_RRef_byteAt_36 : decode b_RRef_byteAt 36 = .ok (.imul, 1) := by decide +kernel
theorem d_RRef_byteAt_37 : decode b_RRef_byteAt 37 = .ok (.iload_n 2, 1) := by decide +kernel
theorem d_RRef_byteAt_38 : decode b_RRef_byteAt 38 = .ok (.iadd, 1) := by decide +kernel
theorem d_RRef_byteAt_39 : decode b_RRef_byteAt 39 = .ok (.baload, 1) := by decide +kernel
theorem d_RRef_byteAt_40 : decode b_RRef_byteAt 40 = .ok (.sipush 255, 3) := by decide +kernel
theorem d_RRef_byteAt_43 : decode b_RRef_byteAt 43 = .ok (.iand, 1) := by decide +kernel
theorem d_RRef_byteAt_44 : decode b_RRef_byteAt 44 = .ok (.ireturn, 1) := by decide +kernel
theorem d_RRef_byteOf_0 : decode b_RRef_byteOf 0 = .ok (.aload_n 0, 1) := by decide +kernel
theorem d_RRef_byteOf_1 : decode b_RRef_byteOf 1 = .ok (.getfield 7, 3) := by decide +kernel
theorem d_RRef_byteOf_4 : decode b_RRef_byteOf 4 = .ok (.bipush 32, 2) := by decide +kernel
theorem d_RRef_byteOf_6 : decode b_RRef_byteOf 6 = .ok (.aload_n 0, 1) := by decide +kernel
theorem d_RRef_byteOf_7 : decode b_RRef_byteOf 7 = .ok (.getfield 38, 3) := by decide +kernel
theorem d_RRef_byteOf_10 : decode b_RRef_byteOf 10 = .ok (.iload_n 1, 1) := by decide +kernel
theorem d_RRef_byteOf_11 : decode b_RRef_byteOf 11 = .ok (.iaload, 1) := by decide +kernel
theorem d_RRef_byteOf_12 : decode b_RRef_byteOf 12 = .ok (.iconst 1, 1) := by decide +kernel
theorem d_RRef_byteOf_13 : decode b_RRef_byteOf 13 = .ok (.iadd, 1) := by decide +kernel
theorem d_RRef_byteOf_14 : decode b_RRef_byteOf 14 = .ok (.iload_n 2, 1) := by decide +kernel
theorem d_RRef_byteOf_15 : decode b_RRef_byteOf 15 = .ok (.bipush 31, 2) := by decide +kernel
theorem d_RRef_byteOf_17 : decode b_RRef_byteOf 17 = .ok (.idiv, 1) := by decide +kernel
theorem d_RRef_byteOf_18 : decode b_RRef_byteOf 18 = .ok (.iadd, 1) := by decide +kernel
theorem d_RRef_byteOf_19 : decode b_RRef_byteOf 19 = .ok (.imul, 1) := by decide +kernel
theorem d_RRef_byteOf_20 : decode b_RRef_byteOf 20 = .ok (.iconst 1, 1) := by decide +kernel
theorem d_RRef_byteOf_21 : decode b_RRef_byteOf 21 = .ok (.iadd, 1) := by decide +kernel
theorem d_RRef_byteOf_22 : decode b_RRef_byteOf 22 = .ok (.iload_n 2, 1) := by decide +kernel
theorem d_RRef_byteOf_23 : decode b_RRef_byteOf 23 = .ok (.bipush 31, 2) := by decide +kernel
theorem d_RRef_byteOf_25 : decode b_RRef_byteOf 25 = .ok (.irem, 1) := by decide +kernel
theorem d_RRef_byteOf_26 : decode b_RRef_byteOf 26 = .ok (.iadd, 1) := by decide +kernel
theorem d_RRef_byteOf_27 : decode b_RRef_byteOf 27 = .ok (.baload, 1) := by decide +kernel
theorem d_RRef_byteOf_28 : decode b_RRef_byteOf 28 = .ok (.sipush 255, 3) := by decide +kernel
theorem d_RRef_byteOf_31 : decode b_RRef_byteOf 31 = .ok (.iand, 1) := by decide +kernel
theorem d_RRef_byteOf_32 : decode b_RRef_byteOf 32 = .ok (.ireturn, 1) := by decide +kernel
theorem d_RRef_clearDraft_0 : decode b_RRef_clearDraft 0 = .ok (.iconst 0, 1) := by decide +kernel
theorem d_RRef_clearDraft_1 : decode b_RRef_clearDraft 1 = .ok (.istore_n 1, 1) := by decide +kernel
theorem d_RRef_clearDraft_2 : decode b_RRef_clearDraft 2 = .ok (.iload_n 1, 1) := by decide +kernel
theorem d_RRef_clearDraft_3 : decode b_RRef_clearDraft 3 = .ok (.sipush 256, 3) := by decide +kernel
theorem d_RRef_clearDraft_6 : decode b_RRef_clearDraft 6 = .ok (.if_icmp .ge 16, 3) := by decide +kernel
theorem d_RRef_clearDraft_9 : decode b_RRef_clearDraft 9 = .ok (.aload_n 0, 1) := by decide +kernel
theorem d_RRef_clearDraft_10 : decode b_RRef_clearDraft 10 = .ok (.getfield 69, 3) := by decide +kernel
theorem d_RRef_clearDraft_13 : decode b_RRef_clearDraft 13 = .ok (.iload_n 1, 1) := by decide +kernel
theorem d_RRef_clearDraft_14 : decode b_RRef_clearDraft 14 = .ok (.iconst 0, 1) := by decide +kernel
theorem d_RRef_clearDraft_15 : decode b_RRef_clearDraft 15 = .ok (.bastore, 1) := by decide +kernel
theorem d_RRef_clearDraft_16 : decode b_RRef_clearDraft 16 = .ok (.iinc 1 1, 3) := by decide +kernel
theorem d_RRef_clearDraft_19 : decode b_RRef_clearDraft 19 = .ok (.goto (-17), 3) := by decide +kernel
theorem d_RRef_clearDraft_22 : decode b_RRef_clearDraft 22 = .ok (.return_, 1) := by decide +kernel
theorem d_RRef_close_0 : decode b_RRef_close 0 = .ok (.aload_n 0, 1) := by decide +kernel
theorem d_RRef_close_1 : decode b_RRef_close 1 = .ok (.getfield 13, 3) := by decide +kernel
theorem d_RRef_close_4 : decode b_RRef_close 4 = .ok (.istore_n 1, 1) := by decide +kernel
theorem d_RRef_close_5 : decode b_RRef_close 5 = .ok (.aload_n 0, 1) := by decide +kernel
theorem d_RRef_close_6 : decode b_RRef_close 6 = .ok (.iconst 0, 1) := by decide +kernel
theorem d_RRef_close_7 : decode b_RRef_close 7 = .ok (.putfield 13, 3) := by decide +kernel
theorem d_RRef_close_10 : decode b_RRef_close 10 = .ok (.iload_n 1, 1) := by decide +kernel
theorem d_RRef_close_11 : decode b_RRef_close 11 = .ok (.ireturn, 1) := by decide +kernel
theorem d_RRef_count_0 : decode b_RRef_count 0 = .ok (.iconst 0, 1) := by decide +kernel
theorem d_RRef_count_1 : decode b_RRef_count 1 = .ok (.istore_n 2, 1) := by decide +kernel
theorem d_RRef_count_2 : decode b_RRef_count 2 = .ok (.iconst 0, 1) := by decide +kernel
theorem d_RRef_count_3 : decode b_RRef_count 3 = .ok (.istore_n 3, 1) := by decide +kernel
theorem d_RRef_count_4 : decode b_RRef_count 4 = .ok (.iload_n 3, 1) := by decide +kernel
theorem d_RRef_count_5 : decode b_RRef_count 5 = .ok (.aload_n 0, 1) := by decide +kernel
theorem d_RRef_count_6 : decode b_RRef_count 6 = .ok (.getfield 109, 3) := by decide +kernel
theorem d_RRef_count_9 : decode b_RRef_count 9 = .ok (.if_icmp .ge 36, 3) := by decide +kernel
theorem d_RRef_count_12 : decode b_RRef_count 12 = .ok (.iload_n 2, 1) := by decide +kernel
theorem d_RRef_count_13 : decode b_RRef_count 13 = .ok (.aload_n 0, 1) := by decide +kernel
theorem d_RRef_count_14 : decode b_RRef_count 14 = .ok (.getfield 44, 3) := by decide +kernel
theorem d_RRef_count_17 : decode b_RRef_count 17 = .ok (.iload_n 3, 1) := by decide +kernel
theorem d_RRef_count_18 : decode b_RRef_count 18 = .ok (.iaload, 1) := by decide +kernel
theorem d_RRef_count_19 : decode b_RRef_count 19 = .ok (.iconst (-1), 1) := by decide +kernel
theorem d_RRef_count_20 : decode b_RRef_count 20 = .ok (.if_icmp .eq 7, 3) := by decide +kernel
theorem d_RRef_count_23 : decode b_RRef_count 23 = .ok (.iconst 1, 1) := by decide +kernel
theorem d_RRef_count_24 : decode b_RRef_count 24 = .ok (.goto 4, 3) := by decide +kernel
theorem d_RRef_count_27 : decode b_RRef_count 27 = .ok (.iconst 0, 1) := by decide +kernel
theorem d_RRef_count_28 : decode b_RRef_count 28 = .ok (.iload_n 1, 1) := by decide +kernel
theorem d_RRef_count_29 : decode b_RRef_count 29 = .ok (.if_icmp .ne 7, 3) := by decide +kernel
theorem d_RRef_count_32 : decode b_RRef_count 32 = .ok (.iconst 1, 1) := by decide +kernel
theorem d_RRef_count_33 : decode b_RRef_count 33 = .ok (.goto 4, 3) := by decide +kernel
theorem d_RRef_count_36 : decode b_RRef_count 36 = .ok (.iconst 0, 1) := by decide +kernel
theorem d_RRef_count_37 : decode b_RRef_count 37 = .ok (.iadd, 1) := by decide +kernel
theorem d_RRef_count_38 : decode b_RRef_count 38 = .ok (.istore_n 2, 1) := by decide +kernel
theorem d_RRef_count_39 : decode b_RRef_count 39 = .ok (.iinc 3 1, 3) := by decide +kernel
theorem d_RRef_count_42 : decode b_RRef_count 42 = .ok (.goto (-38), 3) := by decide +kernel
theorem d_RRef_count_45 : decode b_RRef_count 45 = .ok (.iload_n 2, 1) := by decide +kernel
theorem d_RRef_count_46 : decode b_RRef_count 46 = .ok (.ireturn, 1) := by decide +kernel
theorem d_RRef_cut_0 : decode b_RRef_cut 0 = .ok (.iload_n 1, 1) := by decide +kernel
theorem d_RRef_cut_1 : decode b_RRef_cut 1 = .ok (.iconst (-1), 1) := by decide +kernel
theorem d_RRef_cut_2 : decode b_RRef_cut 2 = .ok (.sipush 20000, 3) := by decide +kernel
theorem d_RRef_cut_5 : decode b_RRef_cut 5 = .ok (.invokestatic 172, 3) := by decide +kernel
theorem d_RRef_cut_8 : decode b_RRef_cut 8 = .ok (.ifCond .ne 5, 3) := by decide +kernel
theorem d_RRef_cut_11 : decode b_RRef_cut 11 = .ok (.iconst 0, 1) := by decide +kernel
theorem d_RRef_cut_12 : decode b_RRef_cut 12 = .ok (.ireturn, 1) := by decide +kernel
theorem d_RRef_cut_13 : decode b_RRef_cut 13 = .ok (.aload_n 0, 1) := by decide +kernel
theorem d_RRef_cut_14 : decode b_RRef_cut 14 = .ok (.iload_n 1, 1) := by decide +kernel
theorem d_RRef_cut_15 : decode b_RRef_cut 15 = .ok (.putfield 17, 3) := by decide +kernel
theorem d_RRef_cut_18 : decode b_RRef_cut 18 = .ok (.iconst 1, 1) := by decide +kernel
theorem d_RRef_cut_19 : decode b_RRef_cut 19 = .ok (.ireturn, 1) := by decide +kernel
theorem d_RRef_digest_0 : decode b_RRef_digest 0 = .ok (.lconst 0, 1) := by decide +kernel
theorem d_RRef_digest_1 : decode b_RRef_digest 1 = .ok (.lstore_n 3, 1) := by decide +kernel
theorem d_RRef_digest_2 : decode b_RRef_digest 2 = .ok (.iconst 0, 1) := by decide +kernel
theorem d_RRef_digest_3 : decode b_RRef_digest 3 = .ok (.istore 5, 2) := by decide +kernel
theorem d_RRef_digest_5 : decode b_RRef_digest 5 = .ok (.iload 5, 2) := by decide +kernel
theorem d_RRef_digest_7 : decode b_RRef_digest 7 = .ok (.iload_n 2, 1) := by decide +kernel
theorem d_RRef_digest_8 : decode b_RRef_digest 8 = .ok (.if_icmp .ge 40, 3) := by decide +kernel
theorem d_RRef_digest_11 : decode b_RRef_digest 11 = .ok (.lload_n 3, 1) := by decide +kernel
theorem d_RRef_digest_12 : decode b_RRef_digest 12 = .ok (.aload_n 0, 1) := by decide +kernel
theorem d_RRef_digest_13 : decode b_RRef_digest 13 = .ok (.iload_n 1, 1) := by decide +kernel
theorem d_RRef_digest_14 : decode b_RRef_digest 14 = .ok (.iload 5, 2) := by decide +kernel
theorem d_RRef_digest_16 : decode b_RRef_digest 16 = .ok (.iadd, 1) := by decide +kernel
theorem d_RRef_digest_17 : decode b_RRef_digest 17 = .ok (.baload, 1) := by decide +kernel
theorem d_RRef_digest_18 : decode b_RRef_digest 18 = .ok (.i2l, 1) := by decide +kernel
theorem d_RRef_digest_19 : decode b_RRef_digest 19 = .ok (.ldc2_w 81, 3) := by decide +kernel
theorem d_RRef_digest_22 : decode b_RRef_digest 22 = .ok (.land, 1) := by decide +kernel
theorem d_RRef_digest_23 : decode b_RRef_digest 23 = .ok (.lxor, 1) := by decide +kernel
theorem d_RRef_digest_24 : decode b_RRef_digest 24 = .ok (.lstore 6, 2) := by decide +kernel
theorem d_RRef_digest_26 : decode b_RRef_digest 26 = .ok (.lload 6, 2) := by decide +kernel
theorem d_RRef_digest_28 : decode b_RRef_digest 28 = .ok (.bipush 53, 2) := by decide +kernel
theorem d_RRef_digest_30 : decode b_RRef_digest 30 = .ok (.lshl, 1) := by decide +kernel
theorem d_RRef_digest_31 : decode b_RRef_digest 31 = .ok (.lload 6, 2) := by decide +kernel
theorem d_RRef_digest_33 : decode b_RRef_digest 33 = .ok (.bipush 11, 2) := by decide +kernel
theorem d_RRef_digest_35 : decode b_RRef_digest 35 = .ok (.lushr, 1) := by decide +kernel
theorem d_RRef_digest_36 : decode b_RRef_digest 36 = .ok (.lor, 1) := by decide +kernel
theorem d_RRef_digest_37 : decode b_RRef_digest 37 = .ok (.ldc2_w 83, 3) := by decide +kernel
theorem d_RRef_digest_40 : decode b_RRef_digest 40 = .ok (.lmul, 1) := by decide +kernel
theorem d_RRef_digest_41 : decode b_RRef_digest 41 = .ok (.lstore_n 3, 1) := by decide +kernel
theorem d_RRef_digest_42 : decode b_RRef_digest 42 = .ok (.iinc 5 1, 3) := by decide +kernel
theorem d_RRef_digest_45 : decode b_RRef_digest 45 = .ok (.goto (-40), 3) := by decide +kernel
theorem d_RRef_digest_48 : decode b_RRef_digest 48 = .ok (.lload_n 3, 1) := by decide +kernel
theorem d_RRef_digest_49 : decode b_RRef_digest 49 = .ok (.lreturn, 1) := by decide +kernel
theorem d_RRef_drop_0 : decode b_RRef_drop 0 = .ok (.aload_n 0, 1) := by decide +kernel
theorem d_RRef_drop_1 : decode b_RRef_drop 1 = .ok (.getfield 13, 3) := by decide +kernel
theorem d_RRef_drop_4 : decode b_RRef_drop 4 = .ok (.ifCond .ne 6, 3) := by decide +kernel
theorem d_RRef_drop_7 : decode b_RRef_drop 7 = .ok (.bipush (-3), 2) := by decide +kernel
theorem d_RRef_drop_9 : decode b_RRef_drop 9 = .ok (.ireturn, 1) := by decide +kernel
theorem d_RRef_drop_10 : decode b_RRef_drop 10 = .ok (.iload_n 1, 1) := by decide +kernel
theorem d_RRef_drop_11 : decode b_RRef_drop 11 = .ok (.ifCond .ge 6, 3) := by decide +kernel
theorem d_RRef_drop_14 : decode b_RRef_drop 14 = .ok (.bipush (-2), 2) := by decide +kernel
theorem d_RRef_drop_16 : decode b_RRef_drop 16 = .ok (.ireturn, 1) := by decide +kernel
theorem d_RRef_drop_17 : decode b_RRef_drop 17 = .ok (.iconst 0, 1) := by decide +kernel
theorem d_RRef_drop_18 : decode b_RRef_drop 18 = .ok (.istore_n 2, 1) := by decide +kernel
theorem d_RRef_drop_19 : decode b_RRef_drop 19 = .ok (.iconst 0, 1) := by decide +kernel
theorem d_RRef_drop_20 : decode b_RRef_drop 20 = .ok (.istore_n 3, 1) := by decide +kernel
theorem d_RRef_drop_21 : decode b_RRef_drop 21 = .ok (.iload_n 3, 1) := by decide +kernel
theorem d_RRef_drop_22 : decode b_RRef_drop 22 = .ok (.aload_n 0, 1) := by decide +kernel
theorem d_RRef_drop_23 : decode b_RRef_drop 23 = .ok (.getfield 109, 3) := by decide +kernel
theorem d_RRef_drop_26 : decode b_RRef_drop 26 = .ok (.if_icmp .ge 52, 3) := by decide +kernel
theorem d_RRef_drop_29 : decode b_RRef_drop 29 = .ok (.aload_n 0, 1) := by decide +kernel
theorem d_RRef_drop_30 : decode b_RRef_drop 30 = .ok (.getfield 53, 3) := by decide +kernel
theorem d_RRef_drop_33 : decode b_RRef_drop 33 = .ok (.bipush 12, 2) := by decide +kernel
theorem d_RRef_drop_35 : decode b_RRef_drop 35 = .ok (.iload_n 3, 1) := by decide +kernel
theorem d_RRef_drop_36 : decode b_RRef_drop 36 = .ok (.imul, 1) := by decide +kernel
theorem d_RRef_drop_37 : decode b_RRef_drop 37 = .ok (.aload_n 0, 1) := by decide +kernel
theorem d_RRef_drop_38 : decode b_RRef_drop 38 = .ok (.getfield 47, 3) := by decide +kernel
theorem d_RRef_drop_41 : decode b_RRef_drop 41 = .ok (.iload_n 3, 1) := by decide +kernel
theorem d_RRef_drop_42 : decode b_RRef_drop 42 = .ok (.iaload, 1) := by decide +kernel
theorem d_RRef_drop_43 : decode b_RRef_drop 43 = .ok (.iadd, 1) := by decide +kernel
theorem d_RRef_drop_44 : decode b_RRef_drop 44 = .ok (.iconst 1, 1) := by decide +kernel
theorem d_RRef_drop_45 : decode b_RRef_drop 45 = .ok (.isub, 1) := by decide +kernel
theorem d_RRef_drop_46 : decode b_RRef_drop 46 = .ok (.iaload, 1) := by decide +kernel
theorem d_RRef_drop_47 : decode b_RRef_drop 47 = .ok (.istore 4, 2) := by decide +kernel
theorem d_RRef_drop_49 : decode b_RRef_drop 49 = .ok (.aload_n 0, 1) := by decide +kernel
theorem d_RRef_drop_50 : decode b_RRef_drop 50 = .ok (.getfield 44, 3) := by decide +kernel
theorem d_RRef_drop_53 : decode b_RRef_drop 53 = .ok (.iload_n 3, 1) := by decide +kernel
theorem d_RRef_drop_54 : decode b_RRef_drop 54 = .ok (.iaload, 1) := by decide +kernel
theorem d_RRef_drop_55 : decode b_RRef_drop 55 = .ok (.iconst (-1), 1) := by decide +kernel
theorem d_RRef_drop_56 : decode b_RRef_drop 56 = .ok (.if_icmp .eq 14, 3) := by decide +kernel
theorem d_RRef_drop_59 : decode b_RRef_drop 59 = .ok (.iload 4, 2) := by decide +kernel
theorem d_RRef_drop_61 : decode b_RRef_drop 61 = .ok (.iload_n 2, 1) := by decide +kernel
theorem d_RRef_drop_62 : decode b_RRef_drop 62 = .ok (.if_icmp .le 8, 3) := by decide +kernel
theorem d_RRef_drop_65 : decode b_RRef_drop 65 = .ok (.iload 4, 2) := by decide +kernel
theorem d_RRef_drop_67 : decode b_RRef_drop 67 = .ok (.goto 4, 3) := by decide +kernel
theorem d_RRef_drop_70 : decode b_RRef_drop 70 = .ok (.iload_n 2, 1) := by decide +kernel
theorem d_RRef_drop_71 : decode b_RRef_drop 71 = .ok (.istore_n 2, 1) := by decide +kernel
theorem d_RRef_drop_72 : decode b_RRef_drop 72 = .ok (.iinc 3 1, 3) := by decide +kernel
theorem d_RRef_drop_75 : decode b_RRef_drop 75 = .ok (.goto (-54), 3) := by decide +kernel
theorem d_RRef_drop_78 : decode b_RRef_drop 78 = .ok (.aload_n 0, 1) := by decide +kernel
theorem d_RRef_drop_79 : decode b_RRef_drop 79 = .ok (.iconst 1, 1) := by decide +kernel
theorem d_RRef_drop_80 : decode b_RRef_drop 80 = .ok (.invokevirtual 196, 3) := by decide +kernel
theorem d_RRef_drop_83 : decode b_RRef_drop 83 = .ok (.iload_n 1, 1) := by decide +kernel
theorem d_RRef_drop_84 : decode b_RRef_drop 84 = .ok (.if_icmp .le 43, 3) := by decide +kernel
theorem d_RRef_drop_87 : decode b_RRef_drop 87 = .ok (.aload_n 0, 1) := by decide +kernel
theorem d_RRef_drop_88 : decode b_RRef_drop 88 = .ok (.invokevirtual 211, 3) := by decide +kernel
theorem d_RRef_drop_91 : decode b_RRef_drop 91 = .ok (.istore_n 3, 1) := by decide +kernel
theorem d_RRef_drop_92 : decode b_RRef_drop 92 = .ok (.aload_n 0, 1) := by decide +kernel
theorem d_RRef_drop_93 : decode b_RRef_drop 93 = .ok (.aload_n 0, 1) := by decide +kernel
theorem d_RRef_drop_94 : decode b_RRef_drop 94 = .ok (.getfield 44, 3) := by decide +kernel
theorem d_RRef_drop_97 : decode b_RRef_drop 97 = .ok (.iload_n 3, 1) := by decide +kernel
theorem d_RRef_drop_98 : decode b_RRef_drop 98 = .ok (.iaload, 1) := by decide +kernel
theorem d_RRef_drop_99 : decode b_RRef_drop 99 = .ok (.iconst 1, 1) := by decide +kernel
theorem d_RRef_drop_100 : decode b_RRef_drop 100 = .ok (.aload_n 0, 1) := by decide +kernel
theorem d_RRef_drop_101 : decode b_RRef_drop 101 = .ok (.getfield 47, 3) := by decide +kernel
theorem d_RRef_drop_104 : decode b_RRef_drop 104 = .ok (.iload_n 3, 1) := by decide +kernel
theorem d_RRef_drop_105 : decode b_RRef_drop 105 = .ok (.iaload, 1) := by decide +kernel
theorem d_RRef_drop_106 : decode b_RRef_drop 106 = .ok (.invokestatic 116, 3) := by decide +kernel
theorem d_RRef_drop_109 : decode b_RRef_drop 109 = .ok (.iadd, 1) := by decide +kernel
theorem d_RRef_drop_110 : decode b_RRef_drop 110 = .ok (.invokevirtual 215, 3) := by decide +kernel
theorem d_RRef_drop_113 : decode b_RRef_drop 113 = .ok (.ifCond .ne 6, 3) := by decide +kernel
theorem d_RRef_drop_116 : decode b_RRef_drop 116 = .ok (.bipush (-5), 2) := by decide +kernel
theorem d_RRef_drop_118 : decode b_RRef_drop 118 = .ok (.ireturn, 1) := by decide +kernel
theorem d_RRef_drop_119 : decode b_RRef_drop 119 = .ok (.aload_n 0, 1) := by decide +kernel
theorem d_RRef_drop_120 : decode b_RRef_drop 120 = .ok (.iload_n 3, 1) := by decide +kernel
theorem d_RRef_drop_121 : decode b_RRef_drop 121 = .ok (.invokevirtual 207, 3) := by decide +kernel
theorem d_RRef_drop_124 : decode b_RRef_drop 124 = .ok (.goto (-46), 3) := by decide +kernel
theorem d_RRef_drop_127 : decode b_RRef_drop 127 = .ok (.iconst 0, 1) := by decide +kernel
theorem d_RRef_drop_128 : decode b_RRef_drop 128 = .ok (.istore_n 3, 1) := by decide +kernel
theorem d_RRef_drop_129 : decode b_RRef_drop 129 = .ok (.iconst 0, 1) := by decide +kernel
theorem d_RRef_drop_130 : decode b_RRef_drop 130 = .ok (.istore 4, 2) := by decide +kernel
theorem d_RRef_drop_132 : decode b_RRef_drop 132 = .ok (.iconst 1, 1) := by decide +kernel
theorem d_RRef_drop_133 : decode b_RRef_drop 133 = .ok (.istore 5, 2) := by decide +kernel
theorem d_RRef_drop_135 : decode b_RRef_drop 135 = .ok (.iload 5, 2) := by decide +kernel
theorem d_RRef_drop_137 : decode b_RRef_drop 137 = .ok (.ifCond .eq 161, 3) := by decide +kernel
theorem d_RRef_drop_140 : decode b_RRef_drop 140 = .ok (.iconst (-1), 1) := by decide +kernel
theorem d_RRef_drop_141 : decode b_RRef_drop 141 = .ok (.istore 6, 2) := by decide +kernel
theorem d_RRef_drop_143 : decode b_RRef_drop 143 = .ok (.iconst 0, 1) := by decide +kernel
theorem d_RRef_drop_144 : decode b_RRef_drop 144 = .ok (.istore 7, 2) := by decide +kernel
theorem d_RRef_drop_146 : decode b_RRef_drop 146 = .ok (.iload 7, 2) := by decide +kernel
theorem d_RRef_drop_148 : decode b_RRef_drop 148 = .ok (.aload_n 0, 1) := by decide +kernel
theorem d_RRef_drop_149 : decode b_RRef_drop 149 = .ok (.getfield 106, 3) := by decide +kernel
theorem d_RRef_drop_152 : decode b_RRef_drop 152 = .ok (.if_icmp .ge 78, 3) := by decide +kernel
theorem d_RRef_drop_155 : decode b_RRef_drop 155 = .ok (.aload_n 0, 1) := by decide +kernel
theorem d_RRef_drop_156 : decode b_RRef_drop 156 = .ok (.getfield 24, 3) := by decide +kernel
theorem d_RRef_drop_159 : decode b_RRef_drop 159 = .ok (.iload 7, 2) := by decide +kernel
theorem d_RRef_drop_161 : decode b_RRef_drop 161 = .ok (.iaload, 1) := by decide +kernel
theorem d_RRef_drop_162 : decode b_RRef_drop 162 = .ok (.iload 4, 2) := by decide +kernel
theorem d_RRef_drop_164 : decode b_RRef_drop 164 = .ok (.if_icmp .le 56, 3) := by decide +kernel
theorem d_RRef_drop_167 : decode b_RRef_drop 167 = .ok (.aload_n 0, 1) := by decide +kernel
theorem d_RRef_drop_168 : decode b_RRef_drop 168 = .ok (.getfield 24, 3) := by decide +kernel
theorem d_RRef_drop_171 : decode b_RRef_drop 171 = .ok (.iload 7, 2) := by decide +kernel
theorem d_RRef_drop_173 : decode b_RRef_drop 173 = .ok (.iaload, 1) := by decide +kernel
theorem d_RRef_drop_174 : decode b_RRef_drop 174 = .ok (.iload_n 2, 1) := by decide +kernel
theorem d_RRef_drop_175 : decode b_RRef_drop 175 = .ok (.if_icmp .gt 45, 3) := by decide +kernel
theorem d_RRef_drop_178 : decode b_RRef_drop 178 = .ok (.aload_n 0, 1) := by decide +kernel
theorem d_RRef_drop_179 : decode b_RRef_drop 179 = .ok (.aload_n 0, 1) := by decide +kernel
theorem d_RRef_drop_180 : decode b_RRef_drop 180 = .ok (.getfield 24, 3) := by decide +kernel
theorem d_RRef_drop_183 : decode b_RRef_drop 183 = .ok (.iload 7, 2) := by decide +kernel
theorem d_RRef_drop_185 : decode b_RRef_drop 185 = .ok (.iaload, 1) := by decide +kernel
theorem d_RRef_drop_186 : decode b_RRef_drop 186 = .ok (.invokevirtual 218, 3) := by decide +kernel
theorem d_RRef_drop_189 : decode b_RRef_drop 189 = .ok (.ifCond .ne 31, 3) := by decide +kernel
theorem d_RRef_drop_192 : decode b_RRef_drop 192 = .ok (.iload 6, 2) := by decide +kernel
theorem d_RRef_drop_194 : decode b_RRef_drop 194 = .ok (.iconst (-1), 1) := by decide +kernel
theorem d_RRef_drop_195 : decode b_RRef_drop 195 = .ok (.if_icmp .eq 20, 3) := by decide +kernel
theorem d_RRef_drop_198 : decode b_RRef_drop 198 = .ok (.aload_n 0, 1) := by decide +kernel
theorem d_RRef_drop_199 : decode b_RRef_drop 199 = .ok (.getfield 24, 3) := by decide +kernel
theorem d_RRef_drop_202 : decode b_RRef_drop 202 = .ok (.iload 7, 2) := by decide +kernel
theorem d_RRef_drop_204 : decode b_RRef_drop 204 = .ok (.iaload, 1) := by decide +kernel
theorem d_RRef_drop_205 : decode b_RRef_drop 205 = .ok (.aload_n 0, 1) := by decide +kernel
theorem d_RRef_drop_206 : decode b_RRef_drop 206 = .ok (.getfield 24, 3) := by decide +kernel
theorem d_RRef_drop_209 : decode b_RRef_drop 209 = .ok (.iload 6, 2) := by decide +kernel
theorem d_RRef_drop_211 : decode b_RRef_drop 211 = .ok (.iaload, 1) := by decide +kernel
theorem d_RRef_drop_212 : decode b_RRef_drop 212 = .ok (.if_icmp .ge 8, 3) := by decide +kernel
theorem d_RRef_drop_215 : decode b_RRef_drop 215 = .ok (.iload 7, 2) := by decide +kernel
theorem d_RRef_drop_217 : decode b_RRef_drop 217 = .ok (.goto 5, 3) := by decide +kernel
theorem d_RRef_drop_220 : decode b_RRef_drop 220 = .ok (.iload 6, 2) := by decide +kernel
theorem d_RRef_drop_222 : decode b_RRef_drop 222 = .ok (.istore 6, 2) := by decide +kernel
theorem d_RRef_drop_224 : decode b_RRef_drop 224 = .ok (.iinc 7 1, 3) := by decide +kernel
theorem d_RRef_drop_227 : decode b_RRef_drop 227 = .ok (.goto (-81), 3) := by decide +kernel
theorem d_RRef_drop_230 : decode b_RRef_drop 230 = .ok (.iload 6, 2) := by decide +kernel
theorem d_RRef_drop_232 : decode b_RRef_drop 232 = .ok (.iconst (-1), 1) := by decide +kernel
theorem d_RRef_drop_233 : decode b_RRef_drop 233 = .ok (.if_icmp .eq 7, 3) := by decide +kernel
theorem d_RRef_drop_236 : decode b_RRef_drop 236 = .ok (.iconst 1, 1) := by decide +kernel
theorem d_RRef_drop_237 : decode b_RRef_drop 237 = .ok (.goto 4, 3) := by decide +kernel
theorem d_RRef_drop_240 : decode b_RRef_drop 240 = .ok (.iconst 0, 1) := by decide +kernel
theorem d_RRef_drop_241 : decode b_RRef_drop 241 = .ok (.istore 5, 2) := by decide +kernel
theorem d_RRef_drop_243 : decode b_RRef_drop 243 = .ok (.iload 5, 2) := by decide +kernel
theorem d_RRef_drop_245 : decode b_RRef_drop 245 = .ok (.ifCond .eq 50, 3) := by decide +kernel
theorem d_RRef_drop_248 : decode b_RRef_drop 248 = .ok (.aload_n 0, 1) := by decide +kernel
theorem d_RRef_drop_249 : decode b_RRef_drop 249 = .ok (.getfield 24, 3) := by decide +kernel
theorem d_RRef_drop_252 : decode b_RRef_drop 252 = .ok (.iload 6, 2) := by decide +kernel
theorem d_RRef_drop_254 : decode b_RRef_drop 254 = .ok (.iaload, 1) := by decide +kernel
theorem d_RRef_drop_255 : decode b_RRef_drop 255 = .ok (.istore 4, 2) := by decide +kernel
theorem d_RRef_drop_257 : decode b_RRef_drop 257 = .ok (.aload_n 0, 1) := by decide +kernel
theorem d_RRef_drop_258 : decode b_RRef_drop 258 = .ok (.aload_n 0, 1) := by decide +kernel
theorem d_RRef_drop_259 : decode b_RRef_drop 259 = .ok (.getfield 38, 3) := by decide +kernel
theorem d_RRef_drop_262 : decode b_RRef_drop 262 = .ok (.iload 6, 2) := by decide +kernel
theorem d_RRef_drop_264 : decode b_RRef_drop 264 = .ok (.iaload, 1) := by decide +kernel
theorem d_RRef_drop_265 : decode b_RRef_drop 265 = .ok (.iconst 1, 1) := by decide +kernel
theorem d_RRef_drop_266 : decode b_RRef_drop 266 = .ok (.aload_n 0, 1) := by decide +kernel
theorem d_RRef_drop_267 : decode b_RRef_drop 267 = .ok (.getfield 35, 3) := by decide +kernel
theorem d_RRef_drop_270 : decode b_RRef_drop 270 = .ok (.iload 6, 2) := by decide +kernel
theorem d_RRef_drop_272 : decode b_RRef_drop 272 = .ok (.iaload, 1) := by decide +kernel
theorem d_RRef_drop_273 : decode b_RRef_drop 273 = .ok (.invokestatic 112, 3) := by decide +kernel
theorem d_RRef_drop_276 : decode b_RRef_drop 276 = .ok (.iadd, 1) := by decide +kernel
theorem d_RRef_drop_277 : decode b_RRef_drop 277 = .ok (.invokevirtual 215, 3) := by decide +kernel
theorem d_RRef_drop_280 : decode b_RRef_drop 280 = .ok (.ifCond .ne 6, 3) := by decide +kernel
theorem d_RRef_drop_283 : decode b_RRef_drop 283 = .ok (.bipush (-5), 2) := by decide +kernel
theorem d_RRef_drop_285 : decode b_RRef_drop 285 = .ok (.ireturn, 1) := by decide +kernel
theorem d_RRef_drop_286 : decode b_RRef_drop 286 = .ok (.aload_n 0, 1) := by decide +kernel
theorem d_RRef_drop_287 : decode b_RRef_drop 287 = .ok (.iload 6, 2) := by decide +kernel
theorem d_RRef_drop_289 : decode b_RRef_drop 289 = .ok (.invokevirtual 221, 3) := by decide +kernel
theorem d_RRef_drop_292 : decode b_RRef_drop 292 = .ok (.iinc 3 1, 3) := by decide +kernel
theorem d_RRef_drop_295 : decode b_RRef_drop 295 = .ok (.goto (-160), 3) := by decide +kernel
theorem d_RRef_drop_298 : decode b_RRef_drop 298 = .ok (.iload_n 3, 1) := by decide +kernel
theorem d_RRef_drop_299 : decode b_RRef_drop 299 = .ok (.ireturn, 1) := by decide +kernel
theorem d_RRef_entries_0 : decode b_RRef_entries 0 = .ok (.iload_n 0, 1) := by decide +kernel
theorem d_RRef_entries_1 : decode b_RRef_entries 1 = .ok (.iconst 1, 1) := by decide +kernel
theorem d_RRef_entries_2 : decode b_RRef_entries 2 = .ok (.iadd, 1) := by decide +kernel
theorem d_RRef_entries_3 : decode b_RRef_entries 3 = .ok (.iconst 2, 1) := by decide +kernel
theorem d_RRef_entries_4 : decode b_RRef_entries 4 = .ok (.idiv, 1) := by decide +kernel
theorem d_RRef_entries_5 : decode b_RRef_entries 5 = .ok (.ireturn, 1) := by decide +kernel
theorem d_RRef_entryAt_0 : decode b_RRef_entryAt 0 = .ok (.bipush 32, 2) := by decide +kernel
theorem d_RRef_entryAt_2 : decode b_RRef_entryAt 2 = .ok (.iload_n 0, 1) := by decide +kernel
theorem d_RRef_entryAt_3 : decode b_RRef_entryAt 3 = .ok (.iconst 1, 1) := by decide +kernel
theorem d_RRef_entryAt_4 : decode b_RRef_entryAt 4 = .ok (.iadd, 1) := by decide +kernel
theorem d_RRef_entryAt_5 : decode b_RRef_entryAt 5 = .ok (.iload_n 1, 1) := by decide +kernel
theorem d_RRef_entryAt_6 : decode b_RRef_entryAt 6 = .ok (.iconst 2, 1) := by decide +kernel
theorem d_RRef_entryAt_7 : decode b_RRef_entryAt 7 = .ok (.idiv, 1) := by decide +kernel
theorem d_RRef_entryAt_8 : decode b_RRef_entryAt 8 = .ok (.iadd, 1) := by decide +kernel
theorem d_RRef_entryAt_9 : decode b_RRef_entryAt 9 = .ok (.imul, 1) := by decide +kernel
theorem d_RRef_entryAt_10 : decode b_RRef_entryAt 10 = .ok (.iconst 1, 1) := by decide +kernel
theorem d_RRef_entryAt_11 : decode b_RRef_entryAt 11 = .ok (.iadd, 1) := by decide +kernel
theorem d_RRef_entryAt_12 : decode b_RRef_entryAt 12 = .ok (.bipush 14, 2) := by decide +kernel
theorem d_RRef_entryAt_14 : decode b_RRef_entryAt 14 = .ok (.iload_n 1, 1) := by decide +kernel
theorem d_RRef_entryAt_15 : decode b_RRef_entryAt 15 = .ok (.iconst 2, 1) := by decide +kernel
theorem d_RRef_entryAt_16 : decode b_RRef_entryAt 16 = .ok (.irem, 1) := by decide +kernel
theorem d_RRef_entryAt_17 : decode b_RRef_entryAt 17 = .ok (.imul, 1) := by decide +kernel
theorem d_RRef_entryAt_18 : decode b_RRef_entryAt 18 = .ok (.iadd, 1) := by decide +kernel
theorem d_RRef_entryAt_19 : decode b_RRef_entryAt 19 = .ok (.ireturn, 1) := by decide +kernel
theorem d_RRef_equal_0 : decode b_RRef_equal 0 = .ok (.aload_n 0, 1) := by decide +kernel
theorem d_RRef_equal_1 : decode b_RRef_equal 1 = .ok (.getfield 13, 3) := by decide +kernel
theorem d_RRef_equal_4 : decode b_RRef_equal 4 = .ok (.ifCond .ne 6, 3) := by decide +kernel
theorem d_RRef_equal_7 : decode b_RRef_equal 7 = .ok (.bipush (-3), 2) := by decide +kernel
theorem d_RRef_equal_9 : decode b_RRef_equal 9 = .ok (.ireturn, 1) := by decide +kernel
theorem d_RRef_equal_10 : decode b_RRef_equal 10 = .ok (.aload_n 0, 1) := by decide +kernel
theorem d_RRef_equal_11 : decode b_RRef_equal 11 = .ok (.iload_n 1, 1) := by decide +kernel
theorem d_RRef_equal_12 : decode b_RRef_equal 12 = .ok (.invokevirtual 150, 3) := by decide +kernel
theorem d_RRef_equal_15 : decode b_RRef_equal 15 = .ok (.istore_n 3, 1) := by decide +kernel
theorem d_RRef_equal_16 : decode b_RRef_equal 16 = .ok (.aload_n 0, 1) := by decide +kernel
theorem d_RRef_equal_17 : decode b_RRef_equal 17 = .ok (.iload_n 2, 1) := by decide +kernel
theorem d_RRef_equal_18 : decode b_RRef_equal 18 = .ok (.invokevirtual 150, 3) := by decide +kernel
theorem d_RRef_equal_21 : decode b_RRef_equal 21 = .ok (.istore 4, 2) := by decide +kernel
theorem d_RRef_equal_23 : decode b_RRef_equal 23 = .ok (.iload_n 3, 1) := by decide +kernel
theorem d_RRef_equal_24 : decode b_RRef_equal 24 = .ok (.iconst (-1), 1) := by decide +kernel
theorem d_RRef_equal_25 : decode b_RRef_equal 25 = .ok (.if_icmp .eq 9, 3) := by decide +kernel
theorem d_RRef_equal_28 : decode b_RRef_equal 28 = .ok (.iload 4, 2) := by decide +kernel
theorem d_RRef_equal_30 : decode b_RRef_equal 30 = .ok (.iconst (-1), 1) := by decide +kernel
theorem d_RRef_equal_31 : decode b_RRef_equal 31 = .ok (.if_icmp .ne 5, 3) := by decide +kernel
theorem d_RRef_equal_34 : decode b_RRef_equal 34 = .ok (.iconst (-1), 1) := by decide +kernel
theorem d_RRef_equal_35 : decode b_RRef_equal 35 = .ok (.ireturn, 1) := by decide +kernel
theorem d_RRef_equal_36 : decode b_RRef_equal 36 = .ok (.aload_n 0, 1) := by decide +kernel
theorem d_RRef_equal_37 : decode b_RRef_equal 37 = .ok (.iload_n 3, 1) := by decide +kernel
theorem d_RRef_equal_38 : decode b_RRef_equal 38 = .ok (.invokevirtual 224, 3) := by decide +kernel
theorem d_RRef_equal_41 : decode b_RRef_equal 41 = .ok (.ifCond .eq 12, 3) := by decide +kernel
theorem d_RRef_equal_44 : decode b_RRef_equal 44 = .ok (.aload_n 0, 1) := by decide +kernel
theorem d_RRef_equal_45 : decode b_RRef_equal 45 = .ok (.iload 4, 2) := by decide +kernel
theorem d_RRef_equal_47 : decode b_RRef_equal 47 = .ok (.invokevirtual 224, 3) := by decide +kernel
theorem d_RRef_equal_50 : decode b_RRef_equal 50 = .ok (.ifCond .ne 6, 3) := by decide +kernel
theorem d_RRef_equal_53 : decode b_RRef_equal 53 = .ok (.bipush (-2), 2) := by decide +kernel
theorem d_RRef_equal_55 : decode b_RRef_equal 55 = .ok (.ireturn, 1) := by decide +kernel
theorem d_RRef_equal_56 : decode b_RRef_equal 56 = .ok (.aload_n 0, 1) := by decide +kernel
theorem d_RRef_equal_57 : decode b_RRef_equal 57 = .ok (.getfield 47, 3) := by decide +kernel
theorem d_RRef_equal_60 : decode b_RRef_equal 60 = .ok (.iload_n 3, 1) := by decide +kernel
theorem d_RRef_equal_61 : decode b_RRef_equal 61 = .ok (.iaload, 1) := by decide +kernel
theorem d_RRef_equal_62 : decode b_RRef_equal 62 = .ok (.aload_n 0, 1) := by decide +kernel
theorem d_RRef_equal_63 : decode b_RRef_equal 63 = .ok (.getfield 47, 3) := by decide +kernel
theorem d_RRef_equal_66 : decode b_RRef_equal 66 = .ok (.iload 4, 2) := by decide +kernel
theorem d_RRef_equal_68 : decode b_RRef_equal 68 = .ok (.iaload, 1) := by decide +kernel
theorem d_RRef_equal_69 : decode b_RRef_equal 69 = .ok (.if_icmp .ne 7, 3) := by decide +kernel
theorem d_RRef_equal_72 : decode b_RRef_equal 72 = .ok (.iconst 1, 1) := by decide +kernel
theorem d_RRef_equal_73 : decode b_RRef_equal 73 = .ok (.goto 4, 3) := by decide +kernel
theorem d_RRef_equal_76 : decode b_RRef_equal 76 = .ok (.iconst 0, 1) := by decide +kernel
theorem d_RRef_equal_77 : decode b_RRef_equal 77 = .ok (.istore 5, 2) := by decide +kernel
theorem d_RRef_equal_79 : decode b_RRef_equal 79 = .ok (.iconst 0, 1) := by decide +kernel
theorem d_RRef_equal_80 : decode b_RRef_equal 80 = .ok (.istore 6, 2) := by decide +kernel
theorem d_RRef_equal_82 : decode b_RRef_equal 82 = .ok (.iload 6, 2) := by decide +kernel
theorem d_RRef_equal_84 : decode b_RRef_equal 84 = .ok (.aload_n 0, 1) := by decide +kernel
theorem d_RRef_equal_85 : decode b_RRef_equal 85 = .ok (.getfield 47, 3) := by decide +kernel
theorem d_RRef_equal_88 : decode b_RRef_equal 88 = .ok (.iload_n 3, 1) := by decide +kernel
theorem d_RRef_equal_89 : decode b_RRef_equal 89 = .ok (.iaload, 1) := by decide +kernel
theorem d_RRef_equal_90 : decode b_RRef_equal 90 = .ok (.if_icmp .ge 162, 3) := by decide +kernel
theorem d_RRef_equal_93 : decode b_RRef_equal 93 = .ok (.iload 5, 2) := by decide +kernel
theorem d_RRef_equal_95 : decode b_RRef_equal 95 = .ok (.ifCond .eq 157, 3) := by decide +kernel
theorem d_RRef_equal_98 : decode b_RRef_equal 98 = .ok (.aload_n 0, 1) := by decide +kernel
theorem d_RRef_equal_99 : decode b_RRef_equal 99 = .ok (.aload_n 0, 1) := by decide +kernel
theorem d_RRef_equal_100 : decode b_RRef_equal 100 = .ok (.getfield 53, 3) := by decide +kernel
theorem d_RRef_equal_103 : decode b_RRef_equal 103 = .ok (.bipush 12, 2) := by decide +kernel
theorem d_RRef_equal_105 : decode b_RRef_equal 105 = .ok (.iload_n 3, 1) := by decide +kernel
theorem d_RRef_equal_106 : decode b_RRef_equal 106 = .ok (.imul, 1) := by decide +kernel
theorem d_RRef_equal_107 : decode b_RRef_equal 107 = .ok (.iload 6, 2) := by decide +kernel
theorem d_RRef_equal_109 : decode b_RRef_equal 109 = .ok (.iadd, 1) := by decide +kernel
theorem d_RRef_equal_110 : decode b_RRef_equal 110 = .ok (.iaload, 1) := by decide +kernel
theorem d_RRef_equal_111 : decode b_RRef_equal 111 = .ok (.invokevirtual 129, 3) := by decide +kernel
theorem d_RRef_equal_114 : decode b_RRef_equal 114 = .ok (.istore 7, 2) := by decide +kernel
theorem d_RRef_equal_116 : decode b_RRef_equal 116 = .ok (.aload_n 0, 1) := by decide +kernel
theorem d_RRef_equal_117 : decode b_RRef_equal 117 = .ok (.aload_n 0, 1) := by decide +kernel
theorem d_RRef_equal_118 : decode b_RRef_equal 118 = .ok (.getfield 53, 3) := by decide +kernel
theorem d_RRef_equal_121 : decode b_RRef_equal 121 = .ok (.bipush 12, 2) := by decide +kernel
theorem d_RRef_equal_123 : decode b_RRef_equal 123 = .ok (.iload 4, 2) := by decide +kernel
theorem d_RRef_equal_125 : decode b_RRef_equal 125 = .ok (.imul, 1) := by decide +kernel
theorem d_RRef_equal_126 : decode b_RRef_equal 126 = .ok (.iload 6, 2) := by decide +kernel
theorem d_RRef_equal_128 : decode b_RRef_equal 128 = .ok (.iadd, 1) := by decide +kernel
theorem d_RRef_equal_129 : decode b_RRef_equal 129 = .ok (.iaload, 1) := by decide +kernel
theorem d_RRef_equal_130 : decode b_RRef_equal 130 = .ok (.invokevirtual 129, 3) := by decide +kernel
theorem d_RRef_equal_133 : decode b_RRef_equal 133 = .ok (.istore 8, 2) := by decide +kernel
theorem d_RRef_equal_135 : decode b_RRef_equal 135 = .ok (.aload_n 0, 1) := by decide +kernel
theorem d_RRef_equal_136 : decode b_RRef_equal 136 = .ok (.getfield 28, 3) := by decide +kernel
theorem d_RRef_equal_139 : decode b_RRef_equal 139 = .ok (.iload 7, 2) := by decide +kernel
theorem d_RRef_equal_141 : decode b_RRef_equal 141 = .ok (.iaload, 1) := by decide +kernel
theorem d_RRef_equal_142 : decode b_RRef_equal 142 = .ok (.aload_n 0, 1) := by decide +kernel
theorem d_RRef_equal_143 : decode b_RRef_equal 143 = .ok (.getfield 28, 3) := by decide +kernel
theorem d_RRef_equal_146 : decode b_RRef_equal 146 = .ok (.iload 8, 2) := by decide +kernel
theorem d_RRef_equal_148 : decode b_RRef_equal 148 = .ok (.iaload, 1) := by decide +kernel
theorem d_RRef_equal_149 : decode b_RRef_equal 149 = .ok (.if_icmp .ne 42, 3) := by decide +kernel
theorem d_RRef_equal_152 : decode b_RRef_equal 152 = .ok (.aload_n 0, 1) := by decide +kernel
theorem d_RRef_equal_153 : decode b_RRef_equal 153 = .ok (.getfield 31, 3) := by decide +kernel
theorem d_RRef_equal_156 : decode b_RRef_equal 156 = .ok (.iload 7, 2) := by decide +kernel
theorem d_RRef_equal_158 : decode b_RRef_equal 158 = .ok (.laload, 1) := by decide +kernel
theorem d_RRef_equal_159 : decode b_RRef_equal 159 = .ok (.aload_n 0, 1) := by decide +kernel
theorem d_RRef_equal_160 : decode b_RRef_equal 160 = .ok (.getfield 31, 3) := by decide +kernel
theorem d_RRef_equal_163 : decode b_RRef_equal 163 = .ok (.iload 8, 2) := by decide +kernel
theorem d_RRef_equal_165 : decode b_RRef_equal 165 = .ok (.laload, 1) := by decide +kernel
theorem d_RRef_equal_166 : decode b_RRef_equal 166 = .ok (.lcmp, 1) := by decide +kernel
theorem d_RRef_equal_167 : decode b_RRef_equal 167 = .ok (.ifCond .ne 24, 3) := by decide +kernel
theorem d_RRef_equal_170 : decode b_RRef_equal 170 = .ok (.aload_n 0, 1) := by decide +kernel
theorem d_RRef_equal_171 : decode b_RRef_equal 171 = .ok (.getfield 35, 3) := by decide +kernel
theorem d_RRef_equal_174 : decode b_RRef_equal 174 = .ok (.iload 7, 2) := by decide +kernel
theorem d_RRef_equal_176 : decode b_RRef_equal 176 = .ok (.iaload, 1) := by decide +kernel
theorem d_RRef_equal_177 : decode b_RRef_equal 177 = .ok (.aload_n 0, 1) := by decide +kernel
theorem d_RRef_equal_178 : decode b_RRef_equal 178 = .ok (.getfield 35, 3) := by decide +kernel
theorem d_RRef_equal_181 : decode b_RRef_equal 181 = .ok (.iload 8, 2) := by decide +kernel
theorem d_RRef_equal_183 : decode b_RRef_equal 183 = .ok (.iaload, 1) := by decide +kernel
theorem d_RRef_equal_184 : decode b_RRef_equal 184 = .ok (.if_icmp .ne 7, 3) := by decide +kernel
theorem d_RRef_equal_187 : decode b_RRef_equal 187 = .ok (.iconst 1, 1) := by decide +kernel
theorem d_RRef_equal_188 : decode b_RRef_equal 188 = .ok (.goto 4, 3) := by decide +kernel
theorem d_RRef_equal_191 : decode b_RRef_equal 191 = .ok (.iconst 0, 1) := by decide +kernel
theorem d_RRef_equal_192 : decode b_RRef_equal 192 = .ok (.istore 5, 2) := by decide +kernel
theorem d_RRef_equal_194 : decode b_RRef_equal 194 = .ok (.iconst 0, 1) := by decide +kernel
theorem d_RRef_equal_195 : decode b_RRef_equal 195 = .ok (.istore 9, 2) := by decide +kernel
theorem d_RRef_equal_197 : decode b_RRef_equal 197 = .ok (.iload 9, 2) := by decide +kernel
theorem d_RRef_equal_199 : decode b_RRef_equal 199 = .ok (.aload_n 0, 1) := by decide +kernel
theorem d_RRef_equal_200 : decode b_RRef_equal 200 = .ok (.getfield 35, 3) := by decide +kernel
theorem d_RRef_equal_203 : decode b_RRef_equal 203 = .ok (.iload 7, 2) := by decide +kernel
theorem d_RRef_equal_205 : decode b_RRef_equal 205 = .ok (.iaload, 1) := by decide +kernel
theorem d_RRef_equal_206 : decode b_RRef_equal 206 = .ok (.if_icmp .ge 40, 3) := by decide +kernel
theorem d_RRef_equal_209 : decode b_RRef_equal 209 = .ok (.iload 5, 2) := by decide +kernel
theorem d_RRef_equal_211 : decode b_RRef_equal 211 = .ok (.ifCond .eq 35, 3) := by decide +kernel
theorem d_RRef_equal_214 : decode b_RRef_equal 214 = .ok (.aload_n 0, 1) := by decide +kernel
theorem d_RRef_equal_215 : decode b_RRef_equal 215 = .ok (.iload 7, 2) := by decide +kernel
theorem d_RRef_equal_217 : decode b_RRef_equal 217 = .ok (.iload 9, 2) := by decide +kernel
theorem d_RRef_equal_219 : decode b_RRef_equal 219 = .ok (.invokevirtual 233, 3) := by decide +kernel
theorem d_RRef_equal_222 : decode b_RRef_equal 222 = .ok (.aload_n 0, 1) := by decide +kernel
theorem d_RRef_equal_223 : decode b_RRef_equal 223 = .ok (.iload 8, 2) := by decide +kernel
theorem d_RRef_equal_225 : decode b_RRef_equal 225 = .ok (.iload 9, 2) := by decide +kernel
theorem d_RRef_equal_227 : decode b_RRef_equal 227 = .ok (.invokevirtual 233, 3) := by decide +kernel
theorem d_RRef_equal_230 : decode b_RRef_equal 230 = .ok (.if_icmp .ne 7, 3) := by decide +kernel
theorem d_RRef_equal_233 : decode b_RRef_equal 233 = .ok (.iconst 1, 1) := by decide +kernel
theorem d_RRef_equal_234 : decode b_RRef_equal 234 = .ok (.goto 4, 3) := by decide +kernel
theorem d_RRef_equal_237 : decode b_RRef_equal 237 = .ok (.iconst 0, 1) := by decide +kernel
theorem d_RRef_equal_238 : decode b_RRef_equal 238 = .ok (.istore 5, 2) := by decide +kernel
theorem d_RRef_equal_240 : decode b_RRef_equal 240 = .ok (.iinc 9 1, 3) := by decide +kernel
theorem d_RRef_equal_243 : decode b_RRef_equal 243 = .ok (.goto (-46), 3) := by decide +kernel
theorem d_RRef_equal_246 : decode b_RRef_equal 246 = .ok (.iinc 6 1, 3) := by decide +kernel
theorem d_RRef_equal_249 : decode b_RRef_equal 249 = .ok (.goto (-167), 3) := by decide +kernel
theorem d_RRef_equal_252 : decode b_RRef_equal 252 = .ok (.iload 5, 2) := by decide +kernel
theorem d_RRef_equal_254 : decode b_RRef_equal 254 = .ok (.ifCond .eq 7, 3) := by decide +kernel
theorem d_RRef_equal_257 : decode b_RRef_equal 257 = .ok (.iconst 1, 1) := by decide +kernel
theorem d_RRef_equal_258 : decode b_RRef_equal 258 = .ok (.goto 4, 3) := by decide +kernel
theorem d_RRef_equal_261 : decode b_RRef_equal 261 = .ok (.iconst 0, 1) := by decide +kernel
theorem d_RRef_equal_262 : decode b_RRef_equal 262 = .ok (.ireturn, 1) := by decide +kernel
theorem d_RRef_feed_0 : decode b_RRef_feed 0 = .ok (.iload_n 3, 1) := by decide +kernel
theorem d_RRef_feed_1 : decode b_RRef_feed 1 = .ok (.iconst 1, 1) := by decide +kernel
theorem d_RRef_feed_2 : decode b_RRef_feed 2 = .ok (.bipush 8, 2) := by decide +kernel
theorem d_RRef_feed_4 : decode b_RRef_feed 4 = .ok (.invokestatic 172, 3) := by decide +kernel
theorem d_RRef_feed_7 : decode b_RRef_feed 7 = .ok (.ifCond .ne 6, 3) := by decide +kernel
theorem d_RRef_feed_10 : decode b_RRef_feed 10 = .ok (.bipush (-2), 2) := by decide +kernel
theorem d_RRef_feed_12 : decode b_RRef_feed 12 = .ok (.ireturn, 1) := by decide +kernel
theorem d_RRef_feed_13 : decode b_RRef_feed 13 = .ok (.aload_n 0, 1) := by decide +kernel
theorem d_RRef_feed_14 : decode b_RRef_feed 14 = .ok (.getfield 176, 3) := by decide +kernel
theorem d_RRef_feed_17 : decode b_RRef_feed 17 = .ok (.iload_n 3, 1) := by decide +kernel
theorem d_RRef_feed_18 : decode b_RRef_feed 18 = .ok (.iadd, 1) := by decide +kernel
theorem d_RRef_feed_19 : decode b_RRef_feed 19 = .ok (.sipush 2000, 3) := by decide +kernel
theorem d_RRef_feed_22 : decode b_RRef_feed 22 = .ok (.if_icmp .le 6, 3) := by decide +kernel
theorem d_RRef_feed_25 : decode b_RRef_feed 25 = .ok (.bipush (-4), 2) := by decide +kernel
theorem d_RRef_feed_27 : decode b_RRef_feed 27 = .ok (.ireturn, 1) := by decide +kernel
theorem d_RRef_feed_28 : decode b_RRef_feed 28 = .ok (.iconst 0, 1) := by decide +kernel
theorem d_RRef_feed_29 : decode b_RRef_feed 29 = .ok (.istore 4, 2) := by decide +kernel
theorem d_RRef_feed_31 : decode b_RRef_feed 31 = .ok (.iload 4, 2) := by decide +kernel
theorem d_RRef_feed_33 : decode b_RRef_feed 33 = .ok (.iload_n 3, 1) := by decide +kernel
theorem d_RRef_feed_34 : decode b_RRef_feed 34 = .ok (.if_icmp .ge 37, 3) := by decide +kernel
theorem d_RRef_feed_37 : decode b_RRef_feed 37 = .ok (.aload_n 0, 1) := by decide +kernel
theorem d_RRef_feed_38 : decode b_RRef_feed 38 = .ok (.getfield 21, 3) := by decide +kernel
theorem d_RRef_feed_41 : decode b_RRef_feed 41 = .ok (.aload_n 0, 1) := by decide +kernel
theorem d_RRef_feed_42 : decode b_RRef_feed 42 = .ok (.getfield 176, 3) := by decide +kernel
theorem d_RRef_feed_45 : decode b_RRef_feed 45 = .ok (.lload_n 1, 1) := by decide +kernel
theorem d_RRef_feed_46 : decode b_RRef_feed 46 = .ok (.bipush 8, 2) := by decide +kernel
theorem d_RRef_feed_48 : decode b_RRef_feed 48 = .ok (.iload 4, 2) := by decide +kernel
theorem d_RRef_feed_50 : decode b_RRef_feed 50 = .ok (.imul, 1) := by decide +kernel
theorem d_RRef_feed_51 : decode b_RRef_feed 51 = .ok (.lshr, 1) := by decide +kernel
theorem d_RRef_feed_52 : decode b_RRef_feed 52 = .ok (.l2i, 1) := by decide +kernel
theorem d_RRef_feed_53 : decode b_RRef_feed 53 = .ok (.i2b, 1) := by decide +kernel
theorem d_RRef_feed_54 : decode b_RRef_feed 54 = .ok (.bastore, 1) := by decide +kernel
theorem d_RRef_feed_55 : decode b_RRef_feed 55 = .ok (.aload_n 0, 1) := by decide +kernel
theorem d_RRef_feed_56 : decode b_RRef_feed 56 = .ok (.dup, 1) := by decide +kernel
theorem d_RRef_feed_57 : decode b_RRef_feed 57 = .ok (.getfield 176, 3) := by decide +kernel
theorem d_RRef_feed_60 : decode b_RRef_feed 60 = .ok (.iconst 1, 1) := by decide +kernel
theorem d_RRef_feed_61 : decode b_RRef_feed 61 = .ok (.iadd, 1) := by decide +kernel
theorem d_RRef_feed_62 : decode b_RRef_feed 62 = .ok (.putfield 176, 3) := by decide +kernel
theorem d_RRef_feed_65 : decode b_RRef_feed 65 = .ok (.iinc 4 1, 3) := by decide +kernel
theorem d_RRef_feed_68 : decode b_RRef_feed 68 = .ok (.goto (-37), 3) := by decide +kernel
theorem d_RRef_feed_71 : decode b_RRef_feed 71 = .ok (.aload_n 0, 1) := by decide +kernel
theorem d_RRef_feed_72 : decode b_RRef_feed 72 = .ok (.getfield 176, 3) := by decide +kernel
theorem d_RRef_feed_75 : decode b_RRef_feed 75 = .ok (.ireturn, 1) := by decide +kernel
theorem d_RRef_findMark_0 : decode b_RRef_findMark 0 = .ok (.iconst 0, 1) := by decide +kernel
theorem d_RRef_findMark_1 : decode b_RRef_findMark 1 = .ok (.istore_n 2, 1) := by decide +kernel
theorem d_RRef_findMark_2 : decode b_RRef_findMark 2 = .ok (.iload_n 2, 1) := by decide +kernel
theorem d_RRef_findMark_3 : decode b_RRef_findMark 3 = .ok (.aload_n 0, 1) := by decide +kernel
theorem d_RRef_findMark_4 : decode b_RRef_findMark 4 = .ok (.getfield 109, 3) := by decide +kernel
theorem d_RRef_findMark_7 : decode b_RRef_findMark 7 = .ok (.if_icmp .ge 21, 3) := by decide +kernel
theorem d_RRef_findMark_10 : decode b_RRef_findMark 10 = .ok (.aload_n 0, 1) := by decide +kernel
theorem d_RRef_findMark_11 : decode b_RRef_findMark 11 = .ok (.getfield 41, 3) := by decide +kernel
theorem d_RRef_findMark_14 : decode b_RRef_findMark 14 = .ok (.iload_n 2, 1) := by decide +kernel
theorem d_RRef_findMark_15 : decode b_RRef_findMark 15 = .ok (.iaload, 1) := by decide +kernel
theorem d_RRef_findMark_16 : decode b_RRef_findMark 16 = .ok (.iload_n 1, 1) := by decide +kernel
theorem d_RRef_findMark_17 : decode b_RRef_findMark 17 = .ok (.if_icmp .ne 5, 3) := by decide +kernel
theorem d_RRef_findMark_20 : decode b_RRef_findMark 20 = .ok (.iload_n 2, 1) := by decide +kernel
theorem d_RRef_findMark_21 : decode b_RRef_findMark 21 = .ok (.ireturn, 1) := by decide +kernel
theorem d_RRef_findMark_22 : decode b_RRef_findMark 22 = .ok (.iinc 2 1, 3) := by decide +kernel
theorem d_RRef_findMark_25 : decode b_RRef_findMark 25 = .ok (.goto (-23), 3) := by decide +kernel
theorem d_RRef_findMark_28 : decode b_RRef_findMark 28 = .ok (.iconst (-1), 1) := by decide +kernel
theorem d_RRef_findMark_29 : decode b_RRef_findMark 29 = .ok (.ireturn, 1) := by decide +kernel
theorem d_RRef_findPart_0 : decode b_RRef_findPart 0 = .ok (.iconst 0, 1) := by decide +kernel
theorem d_RRef_findPart_1 : decode b_RRef_findPart 1 = .ok (.istore_n 2, 1) := by decide +kernel
theorem d_RRef_findPart_2 : decode b_RRef_findPart 2 = .ok (.iload_n 2, 1) := by decide +kernel
theorem d_RRef_findPart_3 : decode b_RRef_findPart 3 = .ok (.aload_n 0, 1) := by decide +kernel
theorem d_RRef_findPart_4 : decode b_RRef_findPart 4 = .ok (.getfield 106, 3) := by decide +kernel
theorem d_RRef_findPart_7 : decode b_RRef_findPart 7 = .ok (.if_icmp .ge 21, 3) := by decide +kernel
theorem d_RRef_findPart_10 : decode b_RRef_findPart 10 = .ok (.aload_n 0, 1) := by decide +kernel
theorem d_RRef_findPart_11 : decode b_RRef_findPart 11 = .ok (.getfield 24, 3) := by decide +kernel
theorem d_RRef_findPart_14 : decode b_RRef_findPart 14 = .ok (.iload_n 2, 1) := by decide +kernel
theorem d_RRef_findPart_15 : decode b_RRef_findPart 15 = .ok (.iaload, 1) := by decide +kernel
theorem d_RRef_findPart_16 : decode b_RRef_findPart 16 = .ok (.iload_n 1, 1) := by decide +kernel
theorem d_RRef_findPart_17 : decode b_RRef_findPart 17 = .ok (.if_icmp .ne 5, 3) := by decide +kernel
theorem d_RRef_findPart_20 : decode b_RRef_findPart 20 = .ok (.iload_n 2, 1) := by decide +kernel
theorem d_RRef_findPart_21 : decode b_RRef_findPart 21 = .ok (.ireturn, 1) := by decide +kernel
theorem d_RRef_findPart_22 : decode b_RRef_findPart 22 = .ok (.iinc 2 1, 3) := by decide +kernel
theorem d_RRef_findPart_25 : decode b_RRef_findPart 25 = .ok (.goto (-23), 3) := by decide +kernel
theorem d_RRef_findPart_28 : decode b_RRef_findPart 28 = .ok (.iconst (-1), 1) := by decide +kernel
theorem d_RRef_findPart_29 : decode b_RRef_findPart 29 = .ok (.ireturn, 1) := by decide +kernel
theorem d_RRef_forgetMark_0 : decode b_RRef_forgetMark 0 = .ok (.aload_n 0, 1) := by decide +kernel
theorem d_RRef_forgetMark_1 : decode b_RRef_forgetMark 1 = .ok (.dup, 1) := by decide +kernel
theorem d_RRef_forgetMark_2 : decode b_RRef_forgetMark 2 = .ok (.getfield 109, 3) := by decide +kernel
theorem d_RRef_forgetMark_5 : decode b_RRef_forgetMark 5 = .ok (.iconst 1, 1) := by decide +kernel
theorem d_RRef_forgetMark_6 : decode b_RRef_forgetMark 6 = .ok (.isub, 1) := by decide +kernel
theorem d_RRef_forgetMark_7 : decode b_RRef_forgetMark 7 = .ok (.putfield 109, 3) := by decide +kernel
theorem d_RRef_forgetMark_10 : decode b_RRef_forgetMark 10 = .ok (.aload_n 0, 1) := by decide +kernel
theorem d_RRef_forgetMark_11 : decode b_RRef_forgetMark 11 = .ok (.getfield 41, 3) := by decide +kernel
theorem d_RRef_forgetMark_14 : decode b_RRef_forgetMark 14 = .ok (.iload_n 1, 1) := by decide +kernel
theorem d_RRef_forgetMark_15 : decode b_RRef_forgetMark 15 = .ok (.aload_n 0, 1) := by decide +kernel
theorem d_RRef_forgetMark_16 : decode b_RRef_forgetMark 16 = .ok (.getfield 41, 3) := by decide +kernel
theorem d_RRef_forgetMark_19 : decode b_RRef_forgetMark 19 = .ok (.aload_n 0, 1) := by decide +kernel
theorem d_RRef_forgetMark_20 : decode b_RRef_forgetMark 20 = .ok (.getfield 109, 3) := by decide +kernel
theorem d_RRef_forgetMark_23 : decode b_RRef_forgetMark 23 = .ok (.iaload, 1) := by decide +kernel
theorem d_RRef_forgetMark_24 : decode b_RRef_forgetMark 24 = .ok (.iastore, 1) := by decide +kernel
theorem d_RRef_forgetMark_25 : decode b_RRef_forgetMark 25 = .ok (.aload_n 0, 1) := by decide +kernel
theorem d_RRef_forgetMark_26 : decode b_RRef_forgetMark 26 = .ok (.getfield 44, 3) := by decide +kernel
theorem d_RRef_forgetMark_29 : decode b_RRef_forgetMark 29 = .ok (.iload_n 1, 1) := by decide +kernel
theorem d_RRef_forgetMark_30 : decode b_RRef_forgetMark 30 = .ok (.aload_n 0, 1) := by decide +kernel
theorem d_RRef_forgetMark_31 : decode b_RRef_forgetMark 31 = .ok (.getfield 44, 3) := by decide +kernel
theorem d_RRef_forgetMark_34 : decode b_RRef_forgetMark 34 = .ok (.aload_n 0, 1) := by decide +kernel
theorem d_RRef_forgetMark_35 : decode b_RRef_forgetMark 35 = .ok (.getfield 109, 3) := by decide +kernel
theorem d_RRef_forgetMark_38 : decode b_RRef_forgetMark 38 = .ok (.iaload, 1) := by decide +kernel
theorem d_RRef_forgetMark_39 : decode b_RRef_forgetMark 39 = .ok (.iastore, 1) := by decide +kernel
theorem d_RRef_forgetMark_40 : decode b_RRef_forgetMark 40 = .ok (.aload_n 0, 1) := by decide +kernel
theorem d_RRef_forgetMark_41 : decode b_RRef_forgetMark 41 = .ok (.getfield 47, 3) := by decide +kernel
theorem d_RRef_forgetMark_44 : decode b_RRef_forgetMark 44 = .ok (.iload_n 1, 1) := by decide +kernel
theorem d_RRef_forgetMark_45 : decode b_RRef_forgetMark 45 = .ok (.aload_n 0, 1) := by decide +kernel
theorem d_RRef_forgetMark_46 : decode b_RRef_forgetMark 46 = .ok (.getfield 47, 3) := by decide +kernel
theorem d_RRef_forgetMark_49 : decode b_RRef_forgetMark 49 = .ok (.aload_n 0, 1) := by decide +kernel
theorem d_RRef_forgetMark_50 : decode b_RRef_forgetMark 50 = .ok (.getfield 109, 3) := by decide +kernel
theorem d_RRef_forgetMark_53 : decode b_RRef_forgetMark 53 = .ok (.iaload, 1) := by decide +kernel
theorem d_RRef_forgetMark_54 : decode b_RRef_forgetMark 54 = .ok (.iastore, 1) := by decide +kernel
theorem d_RRef_forgetMark_55 : decode b_RRef_forgetMark 55 = .ok (.aload_n 0, 1) := by decide +kernel
theorem d_RRef_forgetMark_56 : decode b_RRef_forgetMark 56 = .ok (.getfield 50, 3) := by decide +kernel
theorem d_RRef_forgetMark_59 : decode b_RRef_forgetMark 59 = .ok (.iload_n 1, 1) := by decide +kernel
theorem d_RRef_forgetMark_60 : decode b_RRef_forgetMark 60 = .ok (.aload_n 0, 1) := by decide +kernel
theorem d_RRef_forgetMark_61 : decode b_RRef_forgetMark 61 = .ok (.getfield 50, 3) := by decide +kernel
theorem d_RRef_forgetMark_64 : decode b_RRef_forgetMark 64 = .ok (.aload_n 0, 1) := by decide +kernel
theorem d_RRef_forgetMark_65 : decode b_RRef_forgetMark 65 = .ok (.getfield 109, 3) := by decide +kernel
theorem d_RRef_forgetMark_68 : decode b_RRef_forgetMark 68 = .ok (.laload, 1) := by decide +kernel
theorem d_RRef_forgetMark_69 : decode b_RRef_forgetMark 69 = .ok (.lastore, 1) := by decide +kernel
theorem d_RRef_forgetMark_70 : decode b_RRef_forgetMark 70 = .ok (.iconst 0, 1) := by decide +kernel
theorem d_RRef_forgetMark_71 : decode b_RRef_forgetMark 71 = .ok (.istore_n 2, 1) := by decide +kernel
theorem d_RRef_forgetMark_72 : decode b_RRef_forgetMark 72 = .ok (.iload_n 2, 1) := by decide +kernel
theorem d_RRef_forgetMark_73 : decode b_RRef_forgetMark 73 = .ok (.bipush 12, 2) := by decide +kernel
theorem d_RRef_forgetMark_75 : decode b_RRef_forgetMark 75 = .ok (.if_icmp .ge 84, 3) := by decide +kernel
theorem d_RRef_forgetMark_78 : decode b_RRef_forgetMark 78 = .ok (.aload_n 0, 1) := by decide +kernel
theorem d_RRef_forgetMark_79 : decode b_RRef_forgetMark 79 = .ok (.getfield 53, 3) := by decide +kernel
theorem d_RRef_forgetMark_82 : decode b_RRef_forgetMark 82 = .ok (.bipush 12, 2) := by decide +kernel
theorem d_RRef_forgetMark_84 : decode b_RRef_forgetMark 84 = .ok (.iload_n 1, 1) := by decide +kernel
theorem d_RRef_forgetMark_85 : decode b_RRef_forgetMark 85 = .ok (.imul, 1) := by decide +kernel
theorem d_RRef_forgetMark_86 : decode b_RRef_forgetMark 86 = .ok (.iload_n 2, 1) := by decide +kernel
theorem d_RRef_forgetMark_87 : decode b_RRef_forgetMark 87 = .ok (.iadd, 1) := by decide +kernel
theorem d_RRef_forgetMark_88 : decode b_RRef_forgetMark 88 = .ok (.aload_n 0, 1) := by decide +kernel
theorem d_RRef_forgetMark_89 : decode b_RRef_forgetMark 89 = .ok (.getfield 53, 3) := by decide +kernel
theorem d_RRef_forgetMark_92 : decode b_RRef_forgetMark 92 = .ok (.bipush 12, 2) := by decide +kernel
theorem d_RRef_forgetMark_94 : decode b_RRef_forgetMark 94 = .ok (.aload_n 0, 1) := by decide +kernel
theorem d_RRef_forgetMark_95 : decode b_RRef_forgetMark 95 = .ok (.getfield 109, 3) := by decide +kernel
theorem d_RRef_forgetMark_98 : decode b_RRef_forgetMark 98 = .ok (.imul, 1) := by decide +kernel
theorem d_RRef_forgetMark_99 : decode b_RRef_forgetMark 99 = .ok (.iload_n 2, 1) := by decide +kernel
theorem d_RRef_forgetMark_100 : decode b_RRef_forgetMark 100 = .ok (.iadd, 1) := by decide +kernel
theorem d_RRef_forgetMark_101 : decode b_RRef_forgetMark 101 = .ok (.iaload, 1) := by decide +kernel
theorem d_RRef_forgetMark_102 : decode b_RRef_forgetMark 102 = .ok (.iastore, 1) := by decide +kernel
theorem d_RRef_forgetMark_103 : decode b_RRef_forgetMark 103 = .ok (.aload_n 0, 1) := by decide +kernel
theorem d_RRef_forgetMark_104 : decode b_RRef_forgetMark 104 = .ok (.getfield 56, 3) := by decide +kernel
theorem d_RRef_forgetMark_107 : decode b_RRef_forgetMark 107 = .ok (.bipush 12, 2) := by decide +kernel
theorem d_RRef_forgetMark_109 : decode b_RRef_forgetMark 109 = .ok (.iload_n 1, 1) := by decide +kernel
theorem d_RRef_forgetMark_110 : decode b_RRef_forgetMark 110 = .ok (.imul, 1) := by decide +kernel
theorem d_RRef_forgetMark_111 : decode b_RRef_forgetMark 111 = .ok (.iload_n 2, 1) := by decide +kernel
theorem d_RRef_forgetMark_112 : decode b_RRef_forgetMark 112 = .ok (.iadd, 1) := by decide +kernel
theorem d_RRef_forgetMark_113 : decode b_RRef_forgetMark 113 = .ok (.aload_n 0, 1) := by decide +kernel
theorem d_RRef_forgetMark_114 : decode b_RRef_forgetMark 114 = .ok (.getfield 56, 3) := by decide +kernel
theorem d_RRef_forgetMark_117 : decode b_RRef_forgetMark 117 = .ok (.bipush 12, 2) := by decide +kernel
theorem d_RRef_forgetMark_119 : decode b_RRef_forgetMark 119 = .ok (.aload_n 0, 1) := by decide +kernel
theorem d_RRef_forgetMark_120 : decode b_RRef_forgetMark 120 = .ok (.getfield 109, 3) := by decide +kernel
theorem d_RRef_forgetMark_123 : decode b_RRef_forgetMark 123 = .ok (.imul, 1) := by decide +kernel
theorem d_RRef_forgetMark_124 : decode b_RRef_forgetMark 124 = .ok (.iload_n 2, 1) := by decide +kernel
theorem d_RRef_forgetMark_125 : decode b_RRef_forgetMark 125 = .ok (.iadd, 1) := by decide +kernel
theorem d_RRef_forgetMark_126 : decode b_RRef_forgetMark 126 = .ok (.iaload, 1) := by decide +kernel
theorem d_RRef_forgetMark_127 : decode b_RRef_forgetMark 127 = .ok (.iastore, 1) := by decide +kernel
theorem d_RRef_forgetMark_128 : decode b_RRef_forgetMark 128 = .ok (.aload_n 0, 1) := by decide +kernel
theorem d_RRef_forgetMark_129 : decode b_RRef_forgetMark 129 = .ok (.getfield 59, 3) := by decide +kernel
theorem d_RRef_forgetMark_132 : decode b_RRef_forgetMark 132 = .ok (.bipush 12, 2) := by decide +kernel
theorem d_RRef_forgetMark_134 : decode b_RRef_forgetMark 134 = .ok (.iload_n 1, 1) := by decide +kernel
theorem d_RRef_forgetMark_135 : decode b_RRef_forgetMark 135 = .ok (.imul, 1) := by decide +kernel
theorem d_RRef_forgetMark_136 : decode b_RRef_forgetMark 136 = .ok (.iload_n 2, 1) := by decide +kernel
theorem d_RRef_forgetMark_137 : decode b_RRef_forgetMark 137 = .ok (.iadd, 1) := by decide +kernel
theorem d_RRef_forgetMark_138 : decode b_RRef_forgetMark 138 = .ok (.aload_n 0, 1) := by decide +kernel
theorem d_RRef_forgetMark_139 : decode b_RRef_forgetMark 139 = .ok (.getfield 59, 3) := by decide +kernel
theorem d_RRef_forgetMark_142 : decode b_RRef_forgetMark 142 = .ok (.bipush 12, 2) := by decide +kernel
theorem d_RRef_forgetMark_144 : decode b_RRef_forgetMark 144 = .ok (.aload_n 0, 1) := by decide +kernel
theorem d_RRef_forgetMark_145 : decode b_RRef_forgetMark 145 = .ok (.getfield 109, 3) := by decide +kernel
theorem d_RRef_forgetMark_148 : decode b_RRef_forgetMark 148 = .ok (.imul, 1) := by decide +kernel
theorem d_RRef_forgetMark_149 : decode b_RRef_forgetMark 149 = .ok (.iload_n 2, 1) := by decide +kernel
theorem d_RRef_forgetMark_150 : decode b_RRef_forgetMark 150 = .ok (.iadd, 1) := by decide +kernel
theorem d_RRef_forgetMark_151 : decode b_RRef_forgetMark 151 = .ok (.laload, 1) := by decide +kernel
theorem d_RRef_forgetMark_152 : decode b_RRef_forgetMark 152 = .ok (.lastore, 1) := by decide +kernel
theorem d_RRef_forgetMark_153 : decode b_RRef_forgetMark 153 = .ok (.iinc 2 1, 3) := by decide +kernel
theorem d_RRef_forgetMark_156 : decode b_RRef_forgetMark 156 = .ok (.goto (-84), 3) := by decide +kernel
theorem d_RRef_forgetMark_159 : decode b_RRef_forgetMark 159 = .ok (.return_, 1) := by decide +kernel
theorem d_RRef_forgetPart_0 : decode b_RRef_forgetPart 0 = .ok (.aload_n 0, 1) := by decide +kernel
theorem d_RRef_forgetPart_1 : decode b_RRef_forgetPart 1 = .ok (.dup, 1) := by decide +kernel
theorem d_RRef_forgetPart_2 : decode b_RRef_forgetPart 2 = .ok (.getfield 106, 3) := by decide +kernel
theorem d_RRef_forgetPart_5 : decode b_RRef_forgetPart 5 = .ok (.iconst 1, 1) := by decide +kernel
theorem d_RRef_forgetPart_6 : decode b_RRef_forgetPart 6 = .ok (.isub, 1) := by decide +kernel
theorem d_RRef_forgetPart_7 : decode b_RRef_forgetPart 7 = .ok (.putfield 106, 3) := by decide +kernel
theorem d_RRef_forgetPart_10 : decode b_RRef_forgetPart 10 = .ok (.aload_n 0, 1) := by decide +kernel
theorem d_RRef_forgetPart_11 : decode b_RRef_forgetPart 11 = .ok (.getfield 24, 3) := by decide +kernel
theorem d_RRef_forgetPart_14 : decode b_RRef_forgetPart 14 = .ok (.iload_n 1, 1) := by decide +kernel
theorem d_RRef_forgetPart_15 : decode b_RRef_forgetPart 15 = .ok (.aload_n 0, 1) := by decide +kernel
theorem d_RRef_forgetPart_16 : decode b_RRef_forgetPart 16 = .ok (.getfield 24, 3) := by decide +kernel
theorem d_RRef_forgetPart_19 : decode b_RRef_forgetPart 19 = .ok (.aload_n 0, 1) := by decide +kernel
theorem d_RRef_forgetPart_20 : decode b_RRef_forgetPart 20 = .ok (.getfield 106, 3) := by decide +kernel
theorem d_RRef_forgetPart_23 : decode b_RRef_forgetPart 23 = .ok (.iaload, 1) := by decide +kernel
theorem d_RRef_forgetPart_24 : decode b_RRef_forgetPart 24 = .ok (.iastore, 1) := by decide +kernel
theorem d_RRef_forgetPart_25 : decode b_RRef_forgetPart 25 = .ok (.aload_n 0, 1) := by decide +kernel
theorem d_RRef_forgetPart_26 : decode b_RRef_forgetPart 26 = .ok (.getfield 28, 3) := by decide +kernel
theorem d_RRef_forgetPart_29 : decode b_RRef_forgetPart 29 = .ok (.iload_n 1, 1) := by decide +kernel
theorem d_RRef_forgetPart_30 : decode b_RRef_forgetPart 30 = .ok (.aload_n 0, 1) := by decide +kernel
theorem d_RRef_forgetPart_31 : decode b_RRef_forgetPart 31 = .ok (.getfield 28, 3) := by decide +kernel
theorem d_RRef_forgetPart_34 : decode b_RRef_forgetPart 34 = .ok (.aload_n 0, 1) := by decide +kernel
theorem d_RRef_forgetPart_35 : decode b_RRef_forgetPart 35 = .ok (.getfield 106, 3) := by decide +kernel
theorem d_RRef_forgetPart_38 : decode b_RRef_forgetPart 38 = .ok (.iaload, 1) := by decide +kernel
theorem d_RRef_forgetPart_39 : decode b_RRef_forgetPart 39 = .ok (.iastore, 1) := by decide +kernel
theorem d_RRef_forgetPart_40 : decode b_RRef_forgetPart 40 = .ok (.aload_n 0, 1) := by decide +kernel
theorem d_RRef_forgetPart_41 : decode b_RRef_forgetPart 41 = .ok (.getfield 31, 3) := by decide +kernel
theorem d_RRef_forgetPart_44 : decode b_RRef_forgetPart 44 = .ok (.iload_n 1, 1) := by decide +kernel
theorem d_RRef_forgetPart_45 : decode b_RRef_forgetPart 45 = .ok (.aload_n 0, 1) := by decide +kernel
theorem d_RRef_forgetPart_46 : decode b_RRef_forgetPart 46 = .ok (.getfield 31, 3) := by decide +kernel
theorem d_RRef_forgetPart_49 : decode b_RRef_forgetPart 49 = .ok (.aload_n 0, 1) := by decide +kernel
theorem d_RRef_forgetPart_50 : decode b_RRef_forgetPart 50 = .ok (.getfield 106, 3) := by decide +kernel
theorem d_RRef_forgetPart_53 : decode b_RRef_forgetPart 53 = .ok (.laload, 1) := by decide +kernel
theorem d_RRef_forgetPart_54 : decode b_RRef_forgetPart 54 = .ok (.lastore, 1) := by decide +kernel
theorem d_RRef_forgetPart_55 : decode b_RRef_forgetPart 55 = .ok (.aload_n 0, 1) := by decide +kernel
theorem d_RRef_forgetPart_56 : decode b_RRef_forgetPart 56 = .ok (.getfield 35, 3) := by decide +kernel
theorem d_RRef_forgetPart_59 : decode b_RRef_forgetPart 59 = .ok (.iload_n 1, 1) := by decide +kernel
theorem d_RRef_forgetPart_60 : decode b_RRef_forgetPart 60 = .ok (.aload_n 0, 1) := by decide +kernel
theorem d_RRef_forgetPart_61 : decode b_RRef_forgetPart 61 = .ok (.getfield 35, 3) := by decide +kernel
theorem d_RRef_forgetPart_64 : decode b_RRef_forgetPart 64 = .ok (.aload_n 0, 1) := by decide +kernel
theorem d_RRef_forgetPart_65 : decode b_RRef_forgetPart 65 = .ok (.getfield 106, 3) := by decide +kernel
theorem d_RRef_forgetPart_68 : decode b_RRef_forgetPart 68 = .ok (.iaload, 1) := by decide +kernel
theorem d_RRef_forgetPart_69 : decode b_RRef_forgetPart 69 = .ok (.iastore, 1) := by decide +kernel
theorem d_RRef_forgetPart_70 : decode b_RRef_forgetPart 70 = .ok (.aload_n 0, 1) := by decide +kernel
theorem d_RRef_forgetPart_71 : decode b_RRef_forgetPart 71 = .ok (.getfield 38, 3) := by decide +kernel
theorem d_RRef_forgetPart_74 : decode b_RRef_forgetPart 74 = .ok (.iload_n 1, 1) := by decide +kernel
theorem d_RRef_forgetPart_75 : decode b_RRef_forgetPart 75 = .ok (.aload_n 0, 1) := by decide +kernel
theorem d_RRef_forgetPart_76 : decode b_RRef_forgetPart 76 = .ok (.getfield 38, 3) := by decide +kernel
theorem d_RRef_forgetPart_79 : decode b_RRef_forgetPart 79 = .ok (.aload_n 0, 1) := by decide +kernel
theorem d_RRef_forgetPart_80 : decode b_RRef_forgetPart 80 = .ok (.getfield 106, 3) := by decide +kernel
theorem d_RRef_forgetPart_83 : decode b_RRef_forgetPart 83 = .ok (.iaload, 1) := by decide +kernel
theorem d_RRef_forgetPart_84 : decode b_RRef_forgetPart 84 = .ok (.iastore, 1) := by decide +kernel
theorem d_RRef_forgetPart_85 : decode b_RRef_forgetPart 85 = .ok (.return_, 1) := by decide +kernel
theorem d_RRef_give_0 : decode b_RRef_give 0 = .ok (.aload_n 0, 1) := by decide +kernel
theorem d_RRef_give_1 : decode b_RRef_give 1 = .ok (.getfield 13, 3) := by decide +kernel
theorem d_RRef_give_4 : decode b_RRef_give 4 = .ok (.ifCond .ne 6, 3) := by decide +kernel
theorem d_RRef_give_7 : decode b_RRef_give 7 = .ok (.bipush (-3), 2) := by decide +kernel
theorem d_RRef_give_9 : decode b_RRef_give 9 = .ok (.ireturn, 1) := by decide +kernel
theorem d_RRef_give_10 : decode b_RRef_give 10 = .ok (.aload_n 0, 1) := by decide +kernel
theorem d_RRef_give_11 : decode b_RRef_give 11 = .ok (.iload_n 1, 1) := by decide +kernel
theorem d_RRef_give_12 : decode b_RRef_give 12 = .ok (.invokevirtual 150, 3) := by decide +kernel
theorem d_RRef_give_15 : decode b_RRef_give 15 = .ok (.istore_n 2, 1) := by decide +kernel
theorem d_RRef_give_16 : decode b_RRef_give 16 = .ok (.iload_n 2, 1) := by decide +kernel
theorem d_RRef_give_17 : decode b_RRef_give 17 = .ok (.iconst (-1), 1) := by decide +kernel
theorem d_RRef_give_18 : decode b_RRef_give 18 = .ok (.if_icmp .eq 13, 3) := by decide +kernel
theorem d_RRef_give_21 : decode b_RRef_give 21 = .ok (.aload_n 0, 1) := by decide +kernel
theorem d_RRef_give_22 : decode b_RRef_give 22 = .ok (.getfield 44, 3) := by decide +kernel
theorem d_RRef_give_25 : decode b_RRef_give 25 = .ok (.iload_n 2, 1) := by decide +kernel
theorem d_RRef_give_26 : decode b_RRef_give 26 = .ok (.iaload, 1) := by decide +kernel
theorem d_RRef_give_27 : decode b_RRef_give 27 = .ok (.iconst (-1), 1) := by decide +kernel
theorem d_RRef_give_28 : decode b_RRef_give 28 = .ok (.if_icmp .eq 5, 3) := by decide +kernel
theorem d_RRef_give_31 : decode b_RRef_give 31 = .ok (.iconst (-1), 1) := by decide +kernel
theorem d_RRef_give_32 : decode b_RRef_give 32 = .ok (.ireturn, 1) := by decide +kernel
theorem d_RRef_give_33 : decode b_RRef_give 33 = .ok (.aload_n 0, 1) := by decide +kernel
theorem d_RRef_give_34 : decode b_RRef_give 34 = .ok (.iload_n 2, 1) := by decide +kernel
theorem d_RRef_give_35 : decode b_RRef_give 35 = .ok (.invokevirtual 207, 3) := by decide +kernel
theorem d_RRef_give_38 : decode b_RRef_give 38 = .ok (.iconst 1, 1) := by decide +kernel
theorem d_RRef_give_39 : decode b_RRef_give 39 = .ok (.ireturn, 1) := by decide +kernel
theorem d_RRef_heads_0 : decode b_RRef_heads 0 = .ok (.iconst (-1), 1) := by decide +kernel
theorem d_RRef_heads_1 : decode b_RRef_heads 1 = .ok (.istore_n 1, 1) := by decide +kernel
theorem d_RRef_heads_2 : decode b_RRef_heads 2 = .ok (.aload_n 0, 1) := by decide +kernel
theorem d_RRef_heads_3 : decode b_RRef_heads 3 = .ok (.iconst 0, 1) := by decide +kernel
theorem d_RRef_heads_4 : decode b_RRef_heads 4 = .ok (.putfield 137, 3) := by decide +kernel
theorem d_RRef_heads_7 : decode b_RRef_heads 7 = .ok (.iconst 0, 1) := by decide +kernel
theorem d_RRef_heads_8 : decode b_RRef_heads 8 = .ok (.istore_n 2, 1) := by decide +kernel
theorem d_RRef_heads_9 : decode b_RRef_heads 9 = .ok (.iload_n 2, 1) := by decide +kernel
theorem d_RRef_heads_10 : decode b_RRef_heads 10 = .ok (.iconst 2, 1) := by decide +kernel
theorem d_RRef_heads_11 : decode b_RRef_heads 11 = .ok (.if_icmp .ge 52, 3) := by decide +kernel
theorem d_RRef_heads_14 : decode b_RRef_heads 14 = .ok (.aload_n 0, 1) := by decide +kernel
theorem d_RRef_heads_15 : decode b_RRef_heads 15 = .ok (.iload_n 2, 1) := by decide +kernel
theorem d_RRef_heads_16 : decode b_RRef_heads 16 = .ok (.invokevirtual 140, 3) := by decide +kernel
theorem d_RRef_heads_19 : decode b_RRef_heads 19 = .ok (.ifCond .eq 21, 3) := by decide +kernel
theorem d_RRef_heads_22 : decode b_RRef_heads 22 = .ok (.aload_n 0, 1) := by decide +kernel
theorem d_RRef_heads_23 : decode b_RRef_heads 23 = .ok (.getfield 7, 3) := by decide +kernel
theorem d_RRef_heads_26 : decode b_RRef_heads 26 = .ok (.bipush 32, 2) := by decide +kernel
theorem d_RRef_heads_28 : decode b_RRef_heads 28 = .ok (.iload_n 2, 1) := by decide +kernel
theorem d_RRef_heads_29 : decode b_RRef_heads 29 = .ok (.imul, 1) := by decide +kernel
theorem d_RRef_heads_30 : decode b_RRef_heads 30 = .ok (.iconst 4, 1) := by decide +kernel
theorem d_RRef_heads_31 : decode b_RRef_heads 31 = .ok (.iadd, 1) := by decide +kernel
theorem d_RRef_heads_32 : decode b_RRef_heads 32 = .ok (.iconst 4, 1) := by decide +kernel
theorem d_RRef_heads_33 : decode b_RRef_heads 33 = .ok (.invokestatic 85, 3) := by decide +kernel
theorem d_RRef_heads_36 : decode b_RRef_heads 36 = .ok (.l2i, 1) := by decide +kernel
theorem d_RRef_heads_37 : decode b_RRef_heads 37 = .ok (.goto 4, 3) := by decide +kernel
theorem d_RRef_heads_40 : decode b_RRef_heads 40 = .ok (.iconst 0, 1) := by decide +kernel
theorem d_RRef_heads_41 : decode b_RRef_heads 41 = .ok (.istore_n 3, 1) := by decide +kernel
theorem d_RRef_heads_42 : decode b_RRef_heads 42 = .ok (.iload_n 3, 1) := by decide +kernel
theorem d_RRef_heads_43 : decode b_RRef_heads 43 = .ok (.aload_n 0, 1) := by decide +kernel
theorem d_RRef_heads_44 : decode b_RRef_heads 44 = .ok (.getfield 137, 3) := by decide +kernel
theorem d_RRef_heads_47 : decode b_RRef_heads 47 = .ok (.if_icmp .le 10, 3) := by decide +kernel
theorem d_RRef_heads_50 : decode b_RRef_heads 50 = .ok (.aload_n 0, 1) := by decide +kernel
theorem d_RRef_heads_51 : decode b_RRef_heads 51 = .ok (.iload_n 3, 1) := by decide +kernel
theorem d_RRef_heads_52 : decode b_RRef_heads 52 = .ok (.putfield 137, 3) := by decide +kernel
theorem d_RRef_heads_55 : decode b_RRef_heads 55 = .ok (.iload_n 2, 1) := by decide +kernel
theorem d_RRef_heads_56 : decode b_RRef_heads 56 = .ok (.istore_n 1, 1) := by decide +kernel
theorem d_RRef_heads_57 : decode b_RRef_heads 57 = .ok (.iinc 2 1, 3) := by decide +kernel
theorem d_RRef_heads_60 : decode b_RRef_heads 60 = .ok (.goto (-51), 3) := by decide +kernel
theorem d_RRef_heads_63 : decode b_RRef_heads 63 = .ok (.iconst 0, 1) := by decide +kernel
theorem d_RRef_heads_64 : decode b_RRef_heads 64 = .ok (.istore_n 2, 1) := by decide +kernel
theorem d_RRef_heads_65 : decode b_RRef_heads 65 = .ok (.iload_n 2, 1) := by decide +kernel
theorem d_RRef_heads_66 : decode b_RRef_heads 66 = .ok (.bipush 8, 2) := by decide +kernel
theorem d_RRef_heads_68 : decode b_RRef_heads 68 = .ok (.if_icmp .ge 44, 3) := by decide +kernel
theorem d_RRef_heads_71 : decode b_RRef_heads 71 = .ok (.aload_n 0, 1) := by decide +kernel
theorem d_RRef_heads_72 : decode b_RRef_heads 72 = .ok (.getfield 62, 3) := by decide +kernel
theorem d_RRef_heads_75 : decode b_RRef_heads 75 = .ok (.iload_n 2, 1) := by decide +kernel
theorem d_RRef_heads_76 : decode b_RRef_heads 76 = .ok (.iload_n 1, 1) := by decide +kernel
theorem d_RRef_heads_77 : decode b_RRef_heads 77 = .ok (.iconst (-1), 1) := by decide +kernel
theorem d_RRef_heads_78 : decode b_RRef_heads 78 = .ok (.if_icmp .ne 7, 3) := by decide +kernel
theorem d_RRef_heads_81 : decode b_RRef_heads 81 = .ok (.iconst 0, 1) := by decide +kernel
theorem d_RRef_heads_82 : decode b_RRef_heads 82 = .ok (.goto 23, 3) := by decide +kernel
theorem d_RRef_heads_85 : decode b_RRef_heads 85 = .ok (.aload_n 0, 1) := by decide +kernel
theorem d_RRef_heads_86 : decode b_RRef_heads 86 = .ok (.getfield 7, 3) := by decide +kernel
theorem d_RRef_heads_89 : decode b_RRef_heads 89 = .ok (.bipush 32, 2) := by decide +kernel
theorem d_RRef_heads_91 : decode b_RRef_heads 91 = .ok (.iload_n 1, 1) := by decide +kernel
theorem d_RRef_heads_92 : decode b_RRef_heads 92 = .ok (.imul, 1) := by decide +kernel
theorem d_RRef_heads_93 : decode b_RRef_heads 93 = .ok (.bipush 8, 2) := by decide +kernel
theorem d_RRef_heads_95 : decode b_RRef_heads 95 = .ok (.iadd, 1) := by decide +kernel
theorem d_RRef_heads_96 : decode b_RRef_heads 96 = .ok (.iconst 2, 1) := by decide +kernel
theorem d_RRef_heads_97 : decode b_RRef_heads 97 = .ok (.iload_n 2, 1) := by decide +kernel
theorem d_RRef_heads_98 : decode b_RRef_heads 98 = .ok (.imul, 1) := by decide +kernel
theorem d_RRef_heads_99 : decode b_RRef_heads 99 = .ok (.iadd, 1) := by decide +kernel
theorem d_RRef_heads_100 : decode b_RRef_heads 100 = .ok (.iconst 2, 1) := by decide +kernel
theorem d_RRef_heads_101 : decode b_RRef_heads 101 = .ok (.invokestatic 85, 3) := by decide +kernel
theorem d_RRef_heads_104 : decode b_RRef_heads 104 = .ok (.l2i, 1) := by decide +kernel
theorem d_RRef_heads_105 : decode b_RRef_heads 105 = .ok (.iastore, 1) := by decide +kernel
theorem d_RRef_heads_106 : decode b_RRef_heads 106 = .ok (.iinc 2 1, 3) := by decide +kernel
theorem d_RRef_heads_109 : decode b_RRef_heads 109 = .ok (.goto (-44), 3) := by decide +kernel
theorem d_RRef_heads_112 : decode b_RRef_heads 112 = .ok (.return_, 1) := by decide +kernel
theorem d_RRef_in__0 : decode b_RRef_in_ 0 = .ok (.aload_n 0, 1) := by decide +kernel
theorem d_RRef_in__1 : decode b_RRef_in_ 1 = .ok (.getfield 176, 3) := by decide +kernel
theorem d_RRef_in__4 : decode b_RRef_in_ 4 = .ok (.istore_n 1, 1) := by decide +kernel
theorem d_RRef_in__5 : decode b_RRef_in_ 5 = .ok (.aload_n 0, 1) := by decide +kernel
theorem d_RRef_in__6 : decode b_RRef_in_ 6 = .ok (.iconst 0, 1) := by decide +kernel
theorem d_RRef_in__7 : decode b_RRef_in_ 7 = .ok (.putfield 176, 3) := by decide +kernel
theorem d_RRef_in__10 : decode b_RRef_in_ 10 = .ok (.aload_n 0, 1) := by decide +kernel
theorem d_RRef_in__11 : decode b_RRef_in_ 11 = .ok (.getfield 13, 3) := by decide +kernel
theorem d_RRef_in__14 : decode b_RRef_in_ 14 = .ok (.ifCond .ne 6, 3) := by decide +kernel
theorem d_RRef_in__17 : decode b_RRef_in_ 17 = .ok (.bipush (-3), 2) := by decide +kernel
theorem d_RRef_in__19 : decode b_RRef_in_ 19 = .ok (.ireturn, 1) := by decide +kernel
theorem d_RRef_in__20 : decode b_RRef_in_ 20 = .ok (.aload_n 0, 1) := by decide +kernel
theorem d_RRef_in__21 : decode b_RRef_in_ 21 = .ok (.iload_n 1, 1) := by decide +kernel
theorem d_RRef_in__22 : decode b_RRef_in_ 22 = .ok (.invokevirtual 239, 3) := by decide +kernel
theorem d_RRef_in__25 : decode b_RRef_in_ 25 = .ok (.ifCond .ne 6, 3) := by decide +kernel
theorem d_RRef_in__28 : decode b_RRef_in_ 28 = .ok (.bipush (-2), 2) := by decide +kernel
theorem d_RRef_in__30 : decode b_RRef_in_ 30 = .ok (.ireturn, 1) := by decide +kernel
theorem d_RRef_in__31 : decode b_RRef_in_ 31 = .ok (.aload_n 0, 1) := by decide +kernel
theorem d_RRef_in__32 : decode b_RRef_in_ 32 = .ok (.getfield 21, 3) := by decide +kernel
theorem d_RRef_in__35 : decode b_RRef_in_ 35 = .ok (.iconst 1, 1) := by decide +kernel
theorem d_RRef_in__36 : decode b_RRef_in_ 36 = .ok (.baload, 1) := by decide +kernel
theorem d_RRef_in__37 : decode b_RRef_in_ 37 = .ok (.istore_n 2, 1) := by decide +kernel
theorem d_RRef_in__38 : decode b_RRef_in_ 38 = .ok (.aload_n 0, 1) := by decide +kernel
theorem d_RRef_in__39 : decode b_RRef_in_ 39 = .ok (.iconst 0, 1) := by decide +kernel
theorem d_RRef_in__40 : decode b_RRef_in_ 40 = .ok (.invokevirtual 196, 3) := by decide +kernel
theorem d_RRef_in__43 : decode b_RRef_in_ 43 = .ok (.bipush 6, 2) := by decide +kernel
theorem d_RRef_in__45 : decode b_RRef_in_ 45 = .ok (.if_icmp .eq 23, 3) := by decide +kernel
theorem d_RRef_in__48 : decode b_RRef_in_ 48 = .ok (.aload_n 0, 1) := by decide +kernel
theorem d_RRef_in__49 : decode b_RRef_in_ 49 = .ok (.getfield 153, 3) := by decide +kernel
theorem d_RRef_in__52 : decode b_RRef_in_ 52 = .ok (.ldc 191, 2) := by decide +kernel
theorem d_RRef_in__54 : decode b_RRef_in_ 54 = .ok (.if_icmp .eq 14, 3) := by decide +kernel
theorem d_RRef_in__57 : decode b_RRef_in_ 57 = .ok (.aload_n 0, 1) := by decide +kernel
theorem d_RRef_in__58 : decode b_RRef_in_ 58 = .ok (.getfield 147, 3) := by decide +kernel
theorem d_RRef_in__61 : decode b_RRef_in_ 61 = .ok (.iload_n 2, 1) := by decide +kernel
theorem d_RRef_in__62 : decode b_RRef_in_ 62 = .ok (.iadd, 1) := by decide +kernel
theorem d_RRef_in__63 : decode b_RRef_in_ 63 = .ok (.ldc 191, 2) := by decide +kernel
theorem d_RRef_in__65 : decode b_RRef_in_ 65 = .ok (.if_icmp .le 6, 3) := by decide +kernel
theorem d_RRef_in__68 : decode b_RRef_in_ 68 = .ok (.bipush (-4), 2) := by decide +kernel
theorem d_RRef_in__70 : decode b_RRef_in_ 70 = .ok (.ireturn, 1) := by decide +kernel
theorem d_RRef_in__71 : decode b_RRef_in_ 71 = .ok (.aload_n 0, 1) := by decide +kernel
theorem d_RRef_in__72 : decode b_RRef_in_ 72 = .ok (.invokevirtual 185, 3) := by decide +kernel
theorem d_RRef_in__75 : decode b_RRef_in_ 75 = .ok (.iconst 2, 1) := by decide +kernel
theorem d_RRef_in__76 : decode b_RRef_in_ 76 = .ok (.istore_n 3, 1) := by decide +kernel
theorem d_RRef_in__77 : decode b_RRef_in_ 77 = .ok (.iconst 0, 1) := by decide +kernel
theorem d_RRef_in__78 : decode b_RRef_in_ 78 = .ok (.istore 4, 2) := by decide +kernel
theorem d_RRef_in__80 : decode b_RRef_in_ 80 = .ok (.iload 4, 2) := by decide +kernel
theorem d_RRef_in__82 : decode b_RRef_in_ 82 = .ok (.iload_n 2, 1) := by decide +kernel
theorem d_RRef_in__83 : decode b_RRef_in_ 83 = .ok (.if_icmp .ge 93, 3) := by decide +kernel
theorem d_RRef_in__86 : decode b_RRef_in_ 86 = .ok (.aload_n 0, 1) := by decide +kernel
theorem d_RRef_in__87 : decode b_RRef_in_ 87 = .ok (.getfield 21, 3) := by decide +kernel
theorem d_RRef_in__90 : decode b_RRef_in_ 90 = .ok (.iload_n 3, 1) := by decide +kernel
theorem d_RRef_in__91 : decode b_RRef_in_ 91 = .ok (.bipush 9, 2) := by decide +kernel
theorem d_RRef_in__93 : decode b_RRef_in_ 93 = .ok (.iadd, 1) := by decide +kernel
theorem d_RRef_in__94 : decode b_RRef_in_ 94 = .ok (.iconst 2, 1) := by decide +kernel
theorem d_RRef_in__95 : decode b_RRef_in_ 95 = .ok (.invokestatic 85, 3) := by decide +kernel
theorem d_RRef_in__98 : decode b_RRef_in_ 98 = .ok (.l2i, 1) := by decide +kernel
theorem d_RRef_in__99 : decode b_RRef_in_ 99 = .ok (.istore 5, 2) := by decide +kernel
theorem d_RRef_in__101 : decode b_RRef_in_ 101 = .ok (.aload_n 0, 1) := by decide +kernel
theorem d_RRef_in__102 : decode b_RRef_in_ 102 = .ok (.iconst 1, 1) := by decide +kernel
theorem d_RRef_in__103 : decode b_RRef_in_ 103 = .ok (.iload 5, 2) := by decide +kernel
theorem d_RRef_in__105 : decode b_RRef_in_ 105 = .ok (.invokestatic 112, 3) := by decide +kernel
theorem d_RRef_in__108 : decode b_RRef_in_ 108 = .ok (.iadd, 1) := by decide +kernel
theorem d_RRef_in__109 : decode b_RRef_in_ 109 = .ok (.invokevirtual 188, 3) := by decide +kernel
theorem d_RRef_in__112 : decode b_RRef_in_ 112 = .ok (.istore 6, 2) := by decide +kernel
theorem d_RRef_in__114 : decode b_RRef_in_ 114 = .ok (.iload 6, 2) := by decide +kernel
theorem d_RRef_in__116 : decode b_RRef_in_ 116 = .ok (.iconst (-1), 1) := by decide +kernel
theorem d_RRef_in__117 : decode b_RRef_in_ 117 = .ok (.if_icmp .ne 6, 3) := by decide +kernel
theorem d_RRef_in__120 : decode b_RRef_in_ 120 = .ok (.bipush (-4), 2) := by decide +kernel
theorem d_RRef_in__122 : decode b_RRef_in_ 122 = .ok (.ireturn, 1) := by decide +kernel
theorem d_RRef_in__123 : decode b_RRef_in_ 123 = .ok (.aload_n 0, 1) := by decide +kernel
theorem d_RRef_in__124 : decode b_RRef_in_ 124 = .ok (.getfield 75, 3) := by decide +kernel
theorem d_RRef_in__127 : decode b_RRef_in_ 127 = .ok (.iload 4, 2) := by decide +kernel
theorem d_RRef_in__129 : decode b_RRef_in_ 129 = .ok (.iload 6, 2) := by decide +kernel
theorem d_RRef_in__131 : decode b_RRef_in_ 131 = .ok (.iastore, 1) := by decide +kernel
theorem d_RRef_in__132 : decode b_RRef_in_ 132 = .ok (.iconst 0, 1) := by decide +kernel
theorem d_RRef_in__133 : decode b_RRef_in_ 133 = .ok (.istore 7, 2) := by decide +kernel
theorem d_RRef_in__135 : decode b_RRef_in_ 135 = .ok (.iload 7, 2) := by decide +kernel
theorem d_RRef_in__137 : decode b_RRef_in_ 137 = .ok (.iload 5, 2) := by decide +kernel
theorem d_RRef_in__139 : decode b_RRef_in_ 139 = .ok (.invokestatic 112, 3) := by decide +kernel
theorem d_RRef_in__142 : decode b_RRef_in_ 142 = .ok (.if_icmp .gt 20, 3) := by decide +kernel
theorem d_RRef_in__145 : decode b_RRef_in_ 145 = .ok (.aload_n 0, 1) := by decide +kernel
theorem d_RRef_in__146 : decode b_RRef_in_ 146 = .ok (.getfield 65, 3) := by decide +kernel
theorem d_RRef_in__149 : decode b_RRef_in_ 149 = .ok (.iload 6, 2) := by decide +kernel
theorem d_RRef_in__151 : decode b_RRef_in_ 151 = .ok (.iload 7, 2) := by decide +kernel
theorem d_RRef_in__153 : decode b_RRef_in_ 153 = .ok (.iadd, 1) := by decide +kernel
theorem d_RRef_in__154 : decode b_RRef_in_ 154 = .ok (.iconst 1, 1) := by decide +kernel
theorem d_RRef_in__155 : decode b_RRef_in_ 155 = .ok (.bastore, 1) := by decide +kernel
theorem d_RRef_in__156 : decode b_RRef_in_ 156 = .ok (.iinc 7 1, 3) := by decide +kernel
theorem d_RRef_in__159 : decode b_RRef_in_ 159 = .ok (.goto (-24), 3) := by decide +kernel
theorem d_RRef_in__162 : decode b_RRef_in_ 162 = .ok (.iload_n 3, 1) := by decide +kernel
theorem d_RRef_in__163 : decode b_RRef_in_ 163 = .ok (.bipush 11, 2) := by decide +kernel
theorem d_RRef_in__165 : decode b_RRef_in_ 165 = .ok (.iload 5, 2) := by decide +kernel
theorem d_RRef_in__167 : decode b_RRef_in_ 167 = .ok (.iadd, 1) := by decide +kernel
theorem d_RRef_in__168 : decode b_RRef_in_ 168 = .ok (.iadd, 1) := by decide +kernel
theorem d_RRef_in__169 : decode b_RRef_in_ 169 = .ok (.istore_n 3, 1) := by decide +kernel
theorem d_RRef_in__170 : decode b_RRef_in_ 170 = .ok (.iinc 4 1, 3) := by decide +kernel
theorem d_RRef_in__173 : decode b_RRef_in_ 173 = .ok (.goto (-93), 3) := by decide +kernel
theorem d_RRef_in__176 : decode b_RRef_in_ 176 = .ok (.iconst 2, 1) := by decide +kernel
theorem d_RRef_in__177 : decode b_RRef_in_ 177 = .ok (.istore_n 3, 1) := by decide +kernel
theorem d_RRef_in__178 : decode b_RRef_in_ 178 = .ok (.iconst 0, 1) := by decide +kernel
theorem d_RRef_in__179 : decode b_RRef_in_ 179 = .ok (.istore 4, 2) := by decide +kernel
theorem d_RRef_in__181 : decode b_RRef_in_ 181 = .ok (.iload 4, 2) := by decide +kernel
theorem d_RRef_in__183 : decode b_RRef_in_ 183 = .ok (.iload_n 2, 1) := by decide +kernel
theorem d_RRef_in__184 : decode b_RRef_in_ 184 = .ok (.if_icmp .ge 104, 3) := by decide +kernel
theorem d_RRef_in__187 : decode b_RRef_in_ 187 = .ok (.aload_n 0, 1) := by decide +kernel
theorem d_RRef_in__188 : decode b_RRef_in_ 188 = .ok (.getfield 21, 3) := by decide +kernel
theorem d_RRef_in__191 : decode b_RRef_in_ 191 = .ok (.iload_n 3, 1) := by decide +kernel
theorem d_RRef_in__192 : decode b_RRef_in_ 192 = .ok (.bipush 9, 2) := by decide +kernel
theorem d_RRef_in__194 : decode b_RRef_in_ 194 = .ok (.iadd, 1) := by decide +kernel
theorem d_RRef_in__195 : decode b_RRef_in_ 195 = .ok (.iconst 2, 1) := by decide +kernel
theorem d_RRef_in__196 : decode b_RRef_in_ 196 = .ok (.invokestatic 85, 3) := by decide +kernel
theorem d_RRef_in__199 : decode b_RRef_in_ 199 = .ok (.l2i, 1) := by decide +kernel
theorem d_RRef_in__200 : decode b_RRef_in_ 200 = .ok (.istore 5, 2) := by decide +kernel
theorem d_RRef_in__202 : decode b_RRef_in_ 202 = .ok (.aload_n 0, 1) := by decide +kernel
theorem d_RRef_in__203 : decode b_RRef_in_ 203 = .ok (.aload_n 0, 1) := by decide +kernel
theorem d_RRef_in__204 : decode b_RRef_in_ 204 = .ok (.getfield 21, 3) := by decide +kernel
theorem d_RRef_in__207 : decode b_RRef_in_ 207 = .ok (.iload_n 3, 1) := by decide +kernel
theorem d_RRef_in__208 : decode b_RRef_in_ 208 = .ok (.baload, 1) := by decide +kernel
theorem d_RRef_in__209 : decode b_RRef_in_ 209 = .ok (.sipush 255, 3) := by decide +kernel
theorem d_RRef_in__212 : decode b_RRef_in_ 212 = .ok (.iand, 1) := by decide +kernel
theorem d_RRef_in__213 : decode b_RRef_in_ 213 = .ok (.aload_n 0, 1) := by decide +kernel
theorem d_RRef_in__214 : decode b_RRef_in_ 214 = .ok (.getfield 21, 3) := by decide +kernel
theorem d_RRef_in__217 : decode b_RRef_in_ 217 = .ok (.iload_n 3, 1) := by decide +kernel
theorem d_RRef_in__218 : decode b_RRef_in_ 218 = .ok (.iconst 1, 1) := by decide +kernel
theorem d_RRef_in__219 : decode b_RRef_in_ 219 = .ok (.iadd, 1) := by decide +kernel
theorem d_RRef_in__220 : decode b_RRef_in_ 220 = .ok (.bipush 8, 2) := by decide +kernel
theorem d_RRef_in__222 : decode b_RRef_in_ 222 = .ok (.invokestatic 85, 3) := by decide +kernel
theorem d_RRef_in__225 : decode b_RRef_in_ 225 = .ok (.aload_n 0, 1) := by decide +kernel
theorem d_RRef_in__226 : decode b_RRef_in_ 226 = .ok (.getfield 21, 3) := by decide +kernel
theorem d_RRef_in__229 : decode b_RRef_in_ 229 = .ok (.iload_n 3, 1) := by decide +kernel
theorem d_RRef_in__230 : decode b_RRef_in_ 230 = .ok (.bipush 11, 2) := by decide +kernel
theorem d_RRef_in__232 : decode b_RRef_in_ 232 = .ok (.iadd, 1) := by decide +kernel
theorem d_RRef_in__233 : decode b_RRef_in_ 233 = .ok (.iload 5, 2) := by decide +kernel
theorem d_RRef_in__235 : decode b_RRef_in_ 235 = .ok (.aload_n 0, 1) := by decide +kernel
theorem d_RRef_in__236 : decode b_RRef_in_ 236 = .ok (.getfield 75, 3) := by decide +kernel
theorem d_RRef_in__239 : decode b_RRef_in_ 239 = .ok (.iload 4, 2) := by decide +kernel
theorem d_RRef_in__241 : decode b_RRef_in_ 241 = .ok (.iaload, 1) := by decide +kernel
theorem d_RRef_in__242 : decode b_RRef_in_ 242 = .ok (.invokevirtual 192, 3) := by decide +kernel
theorem d_RRef_in__245 : decode b_RRef_in_ 245 = .ok (.istore 6, 2) := by decide +kernel
theorem d_RRef_in__247 : decode b_RRef_in_ 247 = .ok (.iload 6, 2) := by decide +kernel
theorem d_RRef_in__249 : decode b_RRef_in_ 249 = .ok (.bipush (-5), 2) := by decide +kernel
theorem d_RRef_in__251 : decode b_RRef_in_ 251 = .ok (.if_icmp .ne 6, 3) := by decide +kernel
theorem d_RRef_in__254 : decode b_RRef_in_ 254 = .ok (.bipush (-5), 2) := by decide +kernel
theorem d_RRef_in__256 : decode b_RRef_in_ 256 = .ok (.ireturn, 1) := by decide +kernel
theorem d_RRef_in__257 : decode b_RRef_in_ 257 = .ok (.aload_n 0, 1) := by decide +kernel
theorem d_RRef_in__258 : decode b_RRef_in_ 258 = .ok (.getfield 53, 3) := by decide +kernel
theorem d_RRef_in__261 : decode b_RRef_in_ 261 = .ok (.bipush 12, 2) := by decide +kernel
theorem d_RRef_in__263 : decode b_RRef_in_ 263 = .ok (.aload_n 0, 1) := by decide +kernel
theorem d_RRef_in__264 : decode b_RRef_in_ 264 = .ok (.getfield 109, 3) := by decide +kernel
theorem d_RRef_in__267 : decode b_RRef_in_ 267 = .ok (.imul, 1) := by decide +kernel
theorem d_RRef_in__268 : decode b_RRef_in_ 268 = .ok (.iload 4, 2) := by decide +kernel
theorem d_RRef_in__270 : decode b_RRef_in_ 270 = .ok (.iadd, 1) := by decide +kernel
theorem d_RRef_in__271 : decode b_RRef_in_ 271 = .ok (.iload 6, 2) := by decide +kernel
theorem d_RRef_in__273 : decode b_RRef_in_ 273 = .ok (.iastore, 1) := by decide +kernel
theorem d_RRef_in__274 : decode b_RRef_in_ 274 = .ok (.iload_n 3, 1) := by decide +kernel
theorem d_RRef_in__275 : decode b_RRef_in_ 275 = .ok (.bipush 11, 2) := by decide +kernel
theorem d_RRef_in__277 : decode b_RRef_in_ 277 = .ok (.iload 5, 2) := by decide +kernel
theorem d_RRef_in__279 : decode b_RRef_in_ 279 = .ok (.iadd, 1) := by decide +kernel
theorem d_RRef_in__280 : decode b_RRef_in_ 280 = .ok (.iadd, 1) := by decide +kernel
theorem d_RRef_in__281 : decode b_RRef_in_ 281 = .ok (.istore_n 3, 1) := by decide +kernel
theorem d_RRef_in__282 : decode b_RRef_in_ 282 = .ok (.iinc 4 1, 3) := by decide +kernel
theorem d_RRef_in__285 : decode b_RRef_in_ 285 = .ok (.goto (-104), 3) := by decide +kernel
theorem d_RRef_in__288 : decode b_RRef_in_ 288 = .ok (.aload_n 0, 1) := by decide +kernel
theorem d_RRef_in__289 : decode b_RRef_in_ 289 = .ok (.iload_n 2, 1) := by decide +kernel
theorem d_RRef_in__290 : decode b_RRef_in_ 290 = .ok (.invokevirtual 204, 3) := by decide +kernel
theorem d_RRef_in__293 : decode b_RRef_in_ 293 = .ok (.ireturn, 1) := by decide +kernel
theorem d_RRef_isAsFound_0 : decode b_RRef_isAsFound 0 = .ok (.bipush 32, 2) := by decide +kernel
theorem d_RRef_isAsFound_2 : decode b_RRef_isAsFound 2 = .ok (.aload_n 0, 1) := by decide +kernel
theorem d_RRef_isAsFound_3 : decode b_RRef_isAsFound 3 = .ok (.getfield 44, 3) := by decide +kernel
theorem d_RRef_isAsFound_6 : decode b_RRef_isAsFound 6 = .ok (.iload_n 1, 1) := by decide +kernel
theorem d_RRef_isAsFound_7 : decode b_RRef_isAsFound 7 = .ok (.iaload, 1) := by decide +kernel
theorem d_RRef_isAsFound_8 : decode b_RRef_isAsFound 8 = .ok (.imul, 1) := by decide +kernel
theorem d_RRef_isAsFound_9 : decode b_RRef_isAsFound 9 = .ok (.istore_n 2, 1) := by decide +kernel
theorem d_RRef_isAsFound_10 : decode b_RRef_isAsFound 10 = .ok (.aload_n 0, 1) := by decide +kernel
theorem d_RRef_isAsFound_11 : decode b_RRef_isAsFound 11 = .ok (.aload_n 0, 1) := by decide +kernel
theorem d_RRef_isAsFound_12 : decode b_RRef_isAsFound 12 = .ok (.getfield 44, 3) := by decide +kernel
theorem d_RRef_isAsFound_15 : decode b_RRef_isAsFound 15 = .ok (.iload_n 1, 1) := by decide +kernel
theorem d_RRef_isAsFound_16 : decode b_RRef_isAsFound 16 = .ok (.iaload, 1) := by decide +kernel
theorem d_RRef_isAsFound_17 : decode b_RRef_isAsFound 17 = .ok (.invokevirtual 119, 3) := by decide +kernel
theorem d_RRef_isAsFound_20 : decode b_RRef_isAsFound 20 = .ok (.iconst 2, 1) := by decide +kernel
theorem d_RRef_isAsFound_21 : decode b_RRef_isAsFound 21 = .ok (.if_icmp .ne 119, 3) := by decide +kernel
theorem d_RRef_isAsFound_24 : decode b_RRef_isAsFound 24 = .ok (.aload_n 0, 1) := by decide +kernel
theorem d_RRef_isAsFound_25 : decode b_RRef_isAsFound 25 = .ok (.aload_n 0, 1) := by decide +kernel
theorem d_RRef_isAsFound_26 : decode b_RRef_isAsFound 26 = .ok (.getfield 44, 3) := by decide +kernel
theorem d_RRef_isAsFound_29 : decode b_RRef_isAsFound 29 = .ok (.iload_n 1, 1) := by decide +kernel
theorem d_RRef_isAsFound_30 : decode b_RRef_isAsFound 30 = .ok (.iaload, 1) := by decide +kernel
theorem d_RRef_isAsFound_31 : decode b_RRef_isAsFound 31 = .ok (.invokevirtual 122, 3) := by decide +kernel
theorem d_RRef_isAsFound_34 : decode b_RRef_isAsFound 34 = .ok (.ifCond .eq 106, 3) := by decide +kernel
theorem d_RRef_isAsFound_37 : decode b_RRef_isAsFound 37 = .ok (.aload_n 0, 1) := by decide +kernel
theorem d_RRef_isAsFound_38 : decode b_RRef_isAsFound 38 = .ok (.getfield 7, 3) := by decide +kernel
theorem d_RRef_isAsFound_41 : decode b_RRef_isAsFound 41 = .ok (.iload_n 2, 1) := by decide +kernel
theorem d_RRef_isAsFound_42 : decode b_RRef_isAsFound 42 = .ok (.iconst 4, 1) := by decide +kernel
theorem d_RRef_isAsFound_43 : decode b_RRef_isAsFound 43 = .ok (.iadd, 1) := by decide +kernel
theorem d_RRef_isAsFound_44 : decode b_RRef_isAsFound 44 = .ok (.iconst 4, 1) := by decide +kernel
theorem d_RRef_isAsFound_45 : decode b_RRef_isAsFound 45 = .ok (.invokestatic 85, 3) := by decide +kernel
theorem d_RRef_isAsFound_48 : decode b_RRef_isAsFound 48 = .ok (.aload_n 0, 1) := by decide +kernel
theorem d_RRef_isAsFound_49 : decode b_RRef_isAsFound 49 = .ok (.getfield 41, 3) := by decide +kernel
theorem d_RRef_isAsFound_52 : decode b_RRef_isAsFound 52 = .ok (.iload_n 1, 1) := by decide +kernel
theorem d_RRef_isAsFound_53 : decode b_RRef_isAsFound 53 = .ok (.iaload, 1) := by decide +kernel
theorem d_RRef_isAsFound_54 : decode b_RRef_isAsFound 54 = .ok (.i2l, 1) := by decide +kernel
theorem d_RRef_isAsFound_55 : decode b_RRef_isAsFound 55 = .ok (.lcmp, 1) := by decide +kernel
theorem d_RRef_isAsFound_56 : decode b_RRef_isAsFound 56 = .ok (.ifCond .ne 84, 3) := by decide +kernel
theorem d_RRef_isAsFound_59 : decode b_RRef_isAsFound 59 = .ok (.aload_n 0, 1) := by decide +kernel
theorem d_RRef_isAsFound_60 : decode b_RRef_isAsFound 60 = .ok (.getfield 7, 3) := by decide +kernel
theorem d_RRef_isAsFound_63 : decode b_RRef_isAsFound 63 = .ok (.iload_n 2, 1) := by decide +kernel
theorem d_RRef_isAsFound_64 : decode b_RRef_isAsFound 64 = .ok (.iconst 1, 1) := by decide +kernel
theorem d_RRef_isAsFound_65 : decode b_RRef_isAsFound 65 = .ok (.iadd, 1) := by decide +kernel
theorem d_RRef_isAsFound_66 : decode b_RRef_isAsFound 66 = .ok (.baload, 1) := by decide +kernel
theorem d_RRef_isAsFound_67 : decode b_RRef_isAsFound 67 = .ok (.sipush 255, 3) := by decide +kernel
theorem d_RRef_isAsFound_70 : decode b_RRef_isAsFound 70 = .ok (.iand, 1) := by decide +kernel
theorem d_RRef_isAsFound_71 : decode b_RRef_isAsFound 71 = .ok (.aload_n 0, 1) := by decide +kernel
theorem d_RRef_isAsFound_72 : decode b_RRef_isAsFound 72 = .ok (.getfield 47, 3) := by decide +kernel
theorem d_RRef_isAsFound_75 : decode b_RRef_isAsFound 75 = .ok (.iload_n 1, 1) := by decide +kernel
theorem d_RRef_isAsFound_76 : decode b_RRef_isAsFound 76 = .ok (.iaload, 1) := by decide +kernel
theorem d_RRef_isAsFound_77 : decode b_RRef_isAsFound 77 = .ok (.if_icmp .ne 63, 3) := by decide +kernel
theorem d_RRef_isAsFound_80 : decode b_RRef_isAsFound 80 = .ok (.aload_n 0, 1) := by decide +kernel
theorem d_RRef_isAsFound_81 : decode b_RRef_isAsFound 81 = .ok (.getfield 7, 3) := by decide +kernel
theorem d_RRef_isAsFound_84 : decode b_RRef_isAsFound 84 = .ok (.iload_n 2, 1) := by decide +kernel
theorem d_RRef_isAsFound_85 : decode b_RRef_isAsFound 85 = .ok (.bipush 8, 2) := by decide +kernel
theorem d_RRef_isAsFound_87 : decode b_RRef_isAsFound 87 = .ok (.iadd, 1) := by decide +kernel
theorem d_RRef_isAsFound_88 : decode b_RRef_isAsFound 88 = .ok (.bipush 8, 2) := by decide +kernel
theorem d_RRef_isAsFound_90 : decode b_RRef_isAsFound 90 = .ok (.invokestatic 85, 3) := by decide +kernel
theorem d_RRef_isAsFound_93 : decode b_RRef_isAsFound 93 = .ok (.aload_n 0, 1) := by decide +kernel
theorem d_RRef_isAsFound_94 : decode b_RRef_isAsFound 94 = .ok (.getfield 50, 3) := by decide +kernel
theorem d_RRef_isAsFound_97 : decode b_RRef_isAsFound 97 = .ok (.iload_n 1, 1) := by decide +kernel
theorem d_RRef_isAsFound_98 : decode b_RRef_isAsFound 98 = .ok (.laload, 1) := by decide +kernel
theorem d_RRef_isAsFound_99 : decode b_RRef_isAsFound 99 = .ok (.lcmp, 1) := by decide +kernel
theorem d_RRef_isAsFound_100 : decode b_RRef_isAsFound 100 = .ok (.ifCond .ne 40, 3) := by decide +kernel
theorem d_RRef_isAsFound_103 : decode b_RRef_isAsFound 103 = .ok (.aload_n 0, 1) := by decide +kernel
theorem d_RRef_isAsFound_104 : decode b_RRef_isAsFound 104 = .ok (.getfield 50, 3) := by decide +kernel
theorem d_RRef_isAsFound_107 : decode b_RRef_isAsFound 107 = .ok (.iload_n 1, 1) := by decide +kernel
theorem d_RRef_isAsFound_108 : decode b_RRef_isAsFound 108 = .ok (.laload, 1) := by decide +kernel
theorem d_RRef_isAsFound_109 : decode b_RRef_isAsFound 109 = .ok (.aload_n 0, 1) := by decide +kernel
theorem d_RRef_isAsFound_110 : decode b_RRef_isAsFound 110 = .ok (.getfield 7, 3) := by decide +kernel
theorem d_RRef_isAsFound_113 : decode b_RRef_isAsFound 113 = .ok (.iload_n 2, 1) := by decide +kernel
theorem d_RRef_isAsFound_114 : decode b_RRef_isAsFound 114 = .ok (.bipush 32, 2) := by decide +kernel
theorem d_RRef_isAsFound_116 : decode b_RRef_isAsFound 116 = .ok (.iadd, 1) := by decide +kernel
theorem d_RRef_isAsFound_117 : decode b_RRef_isAsFound 117 = .ok (.bipush 32, 2) := by decide +kernel
theorem d_RRef_isAsFound_119 : decode b_RRef_isAsFound 119 = .ok (.aload_n 0, 1) := by decide +kernel
theorem d_RRef_isAsFound_120 : decode b_RRef_isAsFound 120 = .ok (.getfield 47, 3) := by decide +kernel
theorem d_RRef_isAsFound_123 : decode b_RRef_isAsFound 123 = .ok (.iload_n 1, 1) := by decide +kernel
theorem d_RRef_isAsFound_124 : decode b_RRef_isAsFound 124 = .ok (.iaload, 1) := by decide +kernel
theorem d_RRef_isAsFound_125 : decode b_RRef_isAsFound 125 = .ok (.invokestatic 116, 3) := by decide +kernel
theorem d_RRef_isAsFound_128 : decode b_RRef_isAsFound 128 = .ok (.imul, 1) := by decide +kernel
theorem d_RRef_isAsFound_129 : decode b_RRef_isAsFound 129 = .ok (.invokestatic 89, 3) := by decide +kernel
theorem d_RRef_isAsFound_132 : decode b_RRef_isAsFound 132 = .ok (.lcmp, 1) := by decide +kernel
theorem d_RRef_isAsFound_133 : decode b_RRef_isAsFound 133 = .ok (.ifCond .ne 7, 3) := by decide +kernel
theorem d_RRef_isAsFound_136 : decode b_RRef_isAsFound 136 = .ok (.iconst 1, 1) := by decide +kernel
theorem d_RRef_isAsFound_137 : decode b_RRef_isAsFound 137 = .ok (.goto 4, 3) := by decide +kernel
theorem d_RRef_isAsFound_140 : decode b_RRef_isAsFound 140 = .ok (.iconst 0, 1) := by decide +kernel
theorem d_RRef_isAsFound_141 : decode b_RRef_isAsFound 141 = .ok (.ireturn, 1) := by decide +kernel
theorem d_RRef_isGood_0 : decode b_RRef_isGood 0 = .ok (.aload_n 0, 1) := by decide +kernel
theorem d_RRef_isGood_1 : decode b_RRef_isGood 1 = .ok (.getfield 7, 3) := by decide +kernel
theorem d_RRef_isGood_4 : decode b_RRef_isGood 4 = .ok (.bipush 32, 2) := by decide +kernel
theorem d_RRef_isGood_6 : decode b_RRef_isGood 6 = .ok (.iload_n 1, 1) := by decide +kernel
theorem d_RRef_isGood_7 : decode b_RRef_isGood 7 = .ok (.imul, 1) := by decide +kernel
theorem d_RRef_isGood_8 : decode b_RRef_isGood 8 = .ok (.iconst 4, 1) := by decide +kernel
theorem d_RRef_isGood_9 : decode b_RRef_isGood 9 = .ok (.iadd, 1) := by decide +kernel
theorem d_RRef_isGood_10 : decode b_RRef_isGood 10 = .ok (.iconst 4, 1) := by decide +kernel
theorem d_RRef_isGood_11 : decode b_RRef_isGood 11 = .ok (.invokestatic 85, 3) := by decide +kernel
theorem d_RRef_isGood_14 : decode b_RRef_isGood 14 = .ok (.lstore_n 2, 1) := by decide +kernel
theorem d_RRef_isGood_15 : decode b_RRef_isGood 15 = .ok (.aload_n 0, 1) := by decide +kernel
theorem d_RRef_isGood_16 : decode b_RRef_isGood 16 = .ok (.iload_n 1, 1) := by decide +kernel
theorem d_RRef_isGood_17 : decode b_RRef_isGood 17 = .ok (.invokevirtual 119, 3) := by decide +kernel
theorem d_RRef_isGood_20 : decode b_RRef_isGood 20 = .ok (.iconst 4, 1) := by decide +kernel
theorem d_RRef_isGood_21 : decode b_RRef_isGood 21 = .ok (.if_icmp .ne 29, 3) := by decide +kernel
theorem d_RRef_isGood_24 : decode b_RRef_isGood 24 = .ok (.aload_n 0, 1) := by decide +kernel
theorem d_RRef_isGood_25 : decode b_RRef_isGood 25 = .ok (.iload_n 1, 1) := by decide +kernel
theorem d_RRef_isGood_26 : decode b_RRef_isGood 26 = .ok (.invokevirtual 122, 3) := by decide +kernel
theorem d_RRef_isGood_29 : decode b_RRef_isGood 29 = .ok (.ifCond .eq 21, 3) := by decide +kernel
theorem d_RRef_isGood_32 : decode b_RRef_isGood 32 = .ok (.lload_n 2, 1) := by decide +kernel
theorem d_RRef_isGood_33 : decode b_RRef_isGood 33 = .ok (.lconst 1, 1) := by decide +kernel
theorem d_RRef_isGood_34 : decode b_RRef_isGood 34 = .ok (.lcmp, 1) := by decide +kernel
theorem d_RRef_isGood_35 : decode b_RRef_isGood 35 = .ok (.ifCond .lt 15, 3) := by decide +kernel
theorem d_RRef_isGood_38 : decode b_RRef_isGood 38 = .ok (.lload_n 2, 1) := by decide +kernel
theorem d_RRef_isGood_39 : decode b_RRef_isGood 39 = .ok (.ldc2_w 135, 3) := by decide +kernel
theorem d_RRef_isGood_42 : decode b_RRef_isGood 42 = .ok (.lcmp, 1) := by decide +kernel
theorem d_RRef_isGood_43 : decode b_RRef_isGood 43 = .ok (.ifCond .gt 7, 3) := by decide +kernel
theorem d_RRef_isGood_46 : decode b_RRef_isGood 46 = .ok (.iconst 1, 1) := by decide +kernel
theorem d_RRef_isGood_47 : decode b_RRef_isGood 47 = .ok (.goto 4, 3) := by decide +kernel
theorem d_RRef_isGood_50 : decode b_RRef_isGood 50 = .ok (.iconst 0, 1) := by decide +kernel
theorem d_RRef_isGood_51 : decode b_RRef_isGood 51 = .ok (.ireturn, 1) := by decide +kernel
theorem d_RRef_isIn_0 : decode b_RRef_isIn 0 = .ok (.iload_n 0, 1) := by decide +kernel
theorem d_RRef_isIn_1 : decode b_RRef_isIn 1 = .ok (.iload_n 1, 1) := by decide +kernel
theorem d_RRef_isIn_2 : decode b_RRef_isIn 2 = .ok (.if_icmp .lt 12, 3) := by decide +kernel
theorem d_RRef_isIn_5 : decode b_RRef_isIn 5 = .ok (.iload_n 0, 1) := by decide +kernel
theorem d_RRef_isIn_6 : decode b_RRef_isIn 6 = .ok (.iload_n 2, 1) := by decide +kernel
theorem d_RRef_isIn_7 : decode b_RRef_isIn 7 = .ok (.if_icmp .gt 7, 3) := by decide +kernel
theorem d_RRef_isIn_10 : decode b_RRef_isIn 10 = .ok (.iconst 1, 1) := by decide +kernel
theorem d_RRef_isIn_11 : decode b_RRef_isIn 11 = .ok (.goto 4, 3) := by decide +kernel
theorem d_RRef_isIn_14 : decode b_RRef_isIn 14 = .ok (.iconst 0, 1) := by decide +kernel
theorem d_RRef_isIn_15 : decode b_RRef_isIn 15 = .ok (.ireturn, 1) := by decide +kernel
theorem d_RRef_isSavepoint_0 : decode b_RRef_isSavepoint 0 = .ok (.iload_n 1, 1) := by decide +kernel
theorem d_RRef_isSavepoint_1 : decode b_RRef_isSavepoint 1 = .ok (.bipush 10, 2) := by decide +kernel
theorem d_RRef_isSavepoint_3 : decode b_RRef_isSavepoint 3 = .ok (.if_icmp .lt 29, 3) := by decide +kernel
theorem d_RRef_isSavepoint_6 : decode b_RRef_isSavepoint 6 = .ok (.aload_n 0, 1) := by decide +kernel
theorem d_RRef_isSavepoint_7 : decode b_RRef_isSavepoint 7 = .ok (.getfield 21, 3) := by decide +kernel
theorem d_RRef_isSavepoint_10 : decode b_RRef_isSavepoint 10 = .ok (.iconst 0, 1) := by decide +kernel
theorem d_RRef_isSavepoint_11 : decode b_RRef_isSavepoint 11 = .ok (.baload, 1) := by decide +kernel
theorem d_RRef_isSavepoint_12 : decode b_RRef_isSavepoint 12 = .ok (.bipush 77, 2) := by decide +kernel
theorem d_RRef_isSavepoint_14 : decode b_RRef_isSavepoint 14 = .ok (.if_icmp .ne 18, 3) := by decide +kernel
theorem d_RRef_isSavepoint_17 : decode b_RRef_isSavepoint 17 = .ok (.aload_n 0, 1) := by decide +kernel
theorem d_RRef_isSavepoint_18 : decode b_RRef_isSavepoint 18 = .ok (.getfield 21, 3) := by decide +kernel
theorem d_RRef_isSavepoint_21 : decode b_RRef_isSavepoint 21 = .ok (.iconst 1, 1) := by decide +kernel
theorem d_RRef_isSavepoint_22 : decode b_RRef_isSavepoint 22 = .ok (.baload, 1) := by decide +kernel
theorem d_RRef_isSavepoint_23 : decode b_RRef_isSavepoint 23 = .ok (.iconst 1, 1) := by decide +kernel
theorem d_RRef_isSavepoint_24 : decode b_RRef_isSavepoint 24 = .ok (.bipush 12, 2) := by decide +kernel
theorem d_RRef_isSavepoint_26 : decode b_RRef_isSavepoint 26 = .ok (.invokestatic 172, 3) := by decide +kernel
theorem d_RRef_isSavepoint_29 : decode b_RRef_isSavepoint 29 = .ok (.ifCond .ne 5, 3) := by decide +kernel
theorem d_RRef_isSavepoint_32 : decode b_RRef_isSavepoint 32 = .ok (.iconst 0, 1) := by decide +kernel
theorem d_RRef_isSavepoint_33 : decode b_RRef_isSavepoint 33 = .ok (.ireturn, 1) := by decide +kernel
theorem d_RRef_isSavepoint_34 : decode b_RRef_isSavepoint 34 = .ok (.iconst 2, 1) := by decide +kernel
theorem d_RRef_isSavepoint_35 : decode b_RRef_isSavepoint 35 = .ok (.istore_n 2, 1) := by decide +kernel
theorem d_RRef_isSavepoint_36 : decode b_RRef_isSavepoint 36 = .ok (.iconst 0, 1) := by decide +kernel
theorem d_RRef_isSavepoint_37 : decode b_RRef_isSavepoint 37 = .ok (.istore_n 3, 1) := by decide +kernel
theorem d_RRef_isSavepoint_38 : decode b_RRef_isSavepoint 38 = .ok (.iload_n 3, 1) := by decide +kernel
theorem d_RRef_isSavepoint_39 : decode b_RRef_isSavepoint 39 = .ok (.aload_n 0, 1) := by decide +kernel
theorem d_RRef_isSavepoint_40 : decode b_RRef_isSavepoint 40 = .ok (.getfield 21, 3) := by decide +kernel
theorem d_RRef_isSavepoint_43 : decode b_RRef_isSavepoint 43 = .ok (.iconst 1, 1) := by decide +kernel
theorem d_RRef_isSavepoint_44 : decode b_RRef_isSavepoint 44 = .ok (.baload, 1) := by decide +kernel
theorem d_RRef_isSavepoint_45 : decode b_RRef_isSavepoint 45 = .ok (.if_icmp .ge 78, 3) := by decide +kernel
theorem d_RRef_isSavepoint_48 : decode b_RRef_isSavepoint 48 = .ok (.iload_n 2, 1) := by decide +kernel
theorem d_RRef_isSavepoint_49 : decode b_RRef_isSavepoint 49 = .ok (.bipush 11, 2) := by decide +kernel
theorem d_RRef_isSavepoint_51 : decode b_RRef_isSavepoint 51 = .ok (.iadd, 1) := by decide +kernel
theorem d_RRef_isSavepoint_52 : decode b_RRef_isSavepoint 52 = .ok (.iload_n 1, 1) := by decide +kernel
theorem d_RRef_isSavepoint_53 : decode b_RRef_isSavepoint 53 = .ok (.if_icmp .gt 18, 3) := by decide +kernel
theorem d_RRef_isSavepoint_56 : decode b_RRef_isSavepoint 56 = .ok (.aload_n 0, 1) := by decide +kernel
theorem d_RRef_isSavepoint_57 : decode b_RRef_isSavepoint 57 = .ok (.getfield 21, 3) := by decide +kernel
theorem d_RRef_isSavepoint_60 : decode b_RRef_isSavepoint 60 = .ok (.iload_n 2, 1) := by decide +kernel
theorem d_RRef_isSavepoint_61 : decode b_RRef_isSavepoint 61 = .ok (.baload, 1) := by decide +kernel
theorem d_RRef_isSavepoint_62 : decode b_RRef_isSavepoint 62 = .ok (.sipush 255, 3) := by decide +kernel
theorem d_RRef_isSavepoint_65 : decode b_RRef_isSavepoint 65 = .ok (.iand, 1) := by decide +kernel
theorem d_RRef_isSavepoint_66 : decode b_RRef_isSavepoint 66 = .ok (.bipush 7, 2) := by decide +kernel
theorem d_RRef_isSavepoint_68 : decode b_RRef_isSavepoint 68 = .ok (.if_icmp .le 5, 3) := by decide +kernel
theorem d_RRef_isSavepoint_71 : decode b_RRef_isSavepoint 71 = .ok (.iconst 0, 1) := by decide +kernel
theorem d_RRef_isSavepoint_72 : decode b_RRef_isSavepoint 72 = .ok (.ireturn, 1) := by decide +kernel
theorem d_RRef_isSavepoint_73 : decode b_RRef_isSavepoint 73 = .ok (.aload_n 0, 1) := by decide +kernel
theorem d_RRef_isSavepoint_74 : decode b_RRef_isSavepoint 74 = .ok (.getfield 21, 3) := by decide +kernel
theorem d_RRef_isSavepoint_77 : decode b_RRef_isSavepoint 77 = .ok (.iload_n 2, 1) := by decide +kernel
theorem d_RRef_isSavepoint_78 : decode b_RRef_isSavepoint 78 = .ok (.bipush 9, 2) := by decide +kernel
theorem d_RRef_isSavepoint_80 : decode b_RRef_isSavepoint 80 = .ok (.iadd, 1) := by decide +kernel
theorem d_RRef_isSavepoint_81 : decode b_RRef_isSavepoint 81 = .ok (.iconst 2, 1) := by decide +kernel
theorem d_RRef_isSavepoint_82 : decode b_RRef_isSavepoint 82 = .ok (.invokestatic 85, 3) := by decide +kernel
theorem d_RRef_isSavepoint_85 : decode b_RRef_isSavepoint 85 = .ok (.l2i, 1) := by decide +kernel
theorem d_RRef_isSavepoint_86 : decode b_RRef_isSavepoint 86 = .ok (.istore 4, 2) := by decide +kernel
theorem d_RRef_isSavepoint_88 : decode b_RRef_isSavepoint 88 = .ok (.iload 4, 2) := by decide +kernel
theorem d_RRef_isSavepoint_90 : decode b_RRef_isSavepoint 90 = .ok (.sipush 155, 3) := by decide +kernel
theorem d_RRef_isSavepoint_93 : decode b_RRef_isSavepoint 93 = .ok (.if_icmp .gt 14, 3) := by decide +kernel
theorem d_RRef_isSavepoint_96 : decode b_RRef_isSavepoint 96 = .ok (.iload_n 2, 1) := by decide +kernel
theorem d_RRef_isSavepoint_97 : decode b_RRef_isSavepoint 97 = .ok (.bipush 11, 2) := by decide +kernel
theorem d_RRef_isSavepoint_99 : decode b_RRef_isSavepoint 99 = .ok (.iadd, 1) := by decide +kernel
theorem d_RRef_isSavepoint_100 : decode b_RRef_isSavepoint 100 = .ok (.iload 4, 2) := by decide +kernel
theorem d_RRef_isSavepoint_102 : decode b_RRef_isSavepoint 102 = .ok (.iadd, 1) := by decide +kernel
theorem d_RRef_isSavepoint_103 : decode b_RRef_isSavepoint 103 = .ok (.iload_n 1, 1) := by decide +kernel
theorem d_RRef_isSavepoint_104 : decode b_RRef_isSavepoint 104 = .ok (.if_icmp .le 5, 3) := by decide +kernel
theorem d_RRef_isSavepoint_107 : decode b_RRef_isSavepoint 107 = .ok (.iconst 0, 1) := by decide +kernel
theorem d_RRef_isSavepoint_108 : decode b_RRef_isSavepoint 108 = .ok (.ireturn, 1) := by decide +kernel
theorem d_RRef_isSavepoint_109 : decode b_RRef_isSavepoint 109 = .ok (.iload_n 2, 1) := by decide +kernel
theorem d_RRef_isSavepoint_110 : decode b_RRef_isSavepoint 110 = .ok (.bipush 11, 2) := by decide +kernel
theorem d_RRef_isSavepoint_112 : decode b_RRef_isSavepoint 112 = .ok (.iload 4, 2) := by decide +kernel
theorem d_RRef_isSavepoint_114 : decode b_RRef_isSavepoint 114 = .ok (.iadd, 1) := by decide +kernel
theorem d_RRef_isSavepoint_115 : decode b_RRef_isSavepoint 115 = .ok (.iadd, 1) := by decide +kernel
theorem d_RRef_isSavepoint_116 : decode b_RRef_isSavepoint 116 = .ok (.istore_n 2, 1) := by decide +kernel
theorem d_RRef_isSavepoint_117 : decode b_RRef_isSavepoint 117 = .ok (.iinc 3 1, 3) := by decide +kernel
theorem d_RRef_isSavepoint_120 : decode b_RRef_isSavepoint 120 = .ok (.goto (-82), 3) := by decide +kernel
theorem d_RRef_isSavepoint_123 : decode b_RRef_isSavepoint 123 = .ok (.iload_n 2, 1) := by decide +kernel
theorem d_RRef_isSavepoint_124 : decode b_RRef_isSavepoint 124 = .ok (.bipush 8, 2) := by decide +kernel
theorem d_RRef_isSavepoint_126 : decode b_RRef_isSavepoint 126 = .ok (.iadd, 1) := by decide +kernel
theorem d_RRef_isSavepoint_127 : decode b_RRef_isSavepoint 127 = .ok (.iload_n 1, 1) := by decide +kernel
theorem d_RRef_isSavepoint_128 : decode b_RRef_isSavepoint 128 = .ok (.if_icmp .ne 30, 3) := by decide +kernel
theorem d_RRef_isSavepoint_131 : decode b_RRef_isSavepoint 131 = .ok (.aload_n 0, 1) := by decide +kernel
theorem d_RRef_isSavepoint_132 : decode b_RRef_isSavepoint 132 = .ok (.getfield 21, 3) := by decide +kernel
theorem d_RRef_isSavepoint_135 : decode b_RRef_isSavepoint 135 = .ok (.iload_n 2, 1) := by decide +kernel
theorem d_RRef_isSavepoint_136 : decode b_RRef_isSavepoint 136 = .ok (.bipush 8, 2) := by decide +kernel
theorem d_RRef_isSavepoint_138 : decode b_RRef_isSavepoint 138 = .ok (.invokestatic 85, 3) := by decide +kernel
theorem d_RRef_isSavepoint_141 : decode b_RRef_isSavepoint 141 = .ok (.aload_n 0, 1) := by decide +kernel
theorem d_RRef_isSavepoint_142 : decode b_RRef_isSavepoint 142 = .ok (.getfield 21, 3) := by decide +kernel
theorem d_RRef_isSavepoint_145 : decode b_RRef_isSavepoint 145 = .ok (.iconst 0, 1) := by decide +kernel
theorem d_RRef_isSavepoint_146 : decode b_RRef_isSavepoint 146 = .ok (.iload_n 2, 1) := by decide +kernel
theorem d_RRef_isSavepoint_147 : decode b_RRef_isSavepoint 147 = .ok (.invokestatic 89, 3) := by decide +kernel
theorem d_RRef_isSavepoint_150 : decode b_RRef_isSavepoint 150 = .ok (.lcmp, 1) := by decide +kernel
theorem d_RRef_isSavepoint_151 : decode b_RRef_isSavepoint 151 = .ok (.ifCond .ne 7, 3) := by decide +kernel
theorem d_RRef_isSavepoint_154 : decode b_RRef_isSavepoint 154 = .ok (.iconst 1, 1) := by decide +kernel
theorem d_RRef_isSavepoint_155 : decode b_RRef_isSavepoint 155 = .ok (.goto 4, 3) := by decide +kernel
theorem d_RRef_isSavepoint_158 : decode b_RRef_isSavepoint 158 = .ok (.iconst 0, 1) := by decide +kernel
theorem d_RRef_isSavepoint_159 : decode b_RRef_isSavepoint 159 = .ok (.ireturn, 1) := by decide +kernel
theorem d_RRef_isSummed_0 : decode b_RRef_isSummed 0 = .ok (.aload_n 0, 1) := by decide +kernel
theorem d_RRef_isSummed_1 : decode b_RRef_isSummed 1 = .ok (.getfield 7, 3) := by decide +kernel
theorem d_RRef_isSummed_4 : decode b_RRef_isSummed 4 = .ok (.bipush 32, 2) := by decide +kernel
theorem d_RRef_isSummed_6 : decode b_RRef_isSummed 6 = .ok (.iload_n 1, 1) := by decide +kernel
theorem d_RRef_isSummed_7 : decode b_RRef_isSummed 7 = .ok (.imul, 1) := by decide +kernel
theorem d_RRef_isSummed_8 : decode b_RRef_isSummed 8 = .ok (.bipush 24, 2) := by decide +kernel
theorem d_RRef_isSummed_10 : decode b_RRef_isSummed 10 = .ok (.iadd, 1) := by decide +kernel
theorem d_RRef_isSummed_11 : decode b_RRef_isSummed 11 = .ok (.bipush 8, 2) := by decide +kernel
theorem d_RRef_isSummed_13 : decode b_RRef_isSummed 13 = .ok (.invokestatic 85, 3) := by decide +kernel
theorem d_RRef_isSummed_16 : decode b_RRef_isSummed 16 = .ok (.aload_n 0, 1) := by decide +kernel
theorem d_RRef_isSummed_17 : decode b_RRef_isSummed 17 = .ok (.getfield 7, 3) := by decide +kernel
theorem d_RRef_isSummed_20 : decode b_RRef_isSummed 20 = .ok (.bipush 32, 2) := by decide +kernel
theorem d_RRef_isSummed_22 : decode b_RRef_isSummed 22 = .ok (.iload_n 1, 1) := by decide +kernel
theorem d_RRef_isSummed_23 : decode b_RRef_isSummed 23 = .ok (.imul, 1) := by decide +kernel
theorem d_RRef_isSummed_24 : decode b_RRef_isSummed 24 = .ok (.bipush 24, 2) := by decide +kernel
theorem d_RRef_isSummed_26 : decode b_RRef_isSummed 26 = .ok (.invokestatic 89, 3) := by decide +kernel
theorem d_RRef_isSummed_29 : decode b_RRef_isSummed 29 = .ok (.lcmp, 1) := by decide +kernel
theorem d_RRef_isSummed_30 : decode b_RRef_isSummed 30 = .ok (.ifCond .ne 7, 3) := by decide +kernel
theorem d_RRef_isSummed_33 : decode b_RRef_isSummed 33 = .ok (.iconst 1, 1) := by decide +kernel
theorem d_RRef_isSummed_34 : decode b_RRef_isSummed 34 = .ok (.goto 4, 3) := by decide +kernel
theorem d_RRef_isSummed_37 : decode b_RRef_isSummed 37 = .ok (.iconst 0, 1) := by decide +kernel
theorem d_RRef_isSummed_38 : decode b_RRef_isSummed 38 = .ok (.ireturn, 1) := by decide +kernel
theorem d_RRef_isWholeMark_0 : decode b_RRef_isWholeMark 0 = .ok (.aload_n 0, 1) := by decide +kernel
theorem d_RRef_isWholeMark_1 : decode b_RRef_isWholeMark 1 = .ok (.getfield 44, 3) := by decide +kernel
theorem d_RRef_isWholeMark_4 : decode b_RRef_isWholeMark 4 = .ok (.iload_n 1, 1) := by decide +kernel
theorem d_RRef_isWholeMark_5 : decode b_RRef_isWholeMark 5 = .ok (.iaload, 1) := by decide +kernel
theorem d_RRef_isWholeMark_6 : decode b_RRef_isWholeMark 6 = .ok (.iconst (-1), 1) := by decide +kernel
theorem d_RRef_isWholeMark_7 : decode b_RRef_isWholeMark 7 = .ok (.if_icmp .eq 7, 3) := by decide +kernel
theorem d_RRef_isWholeMark_10 : decode b_RRef_isWholeMark 10 = .ok (.iconst 1, 1) := by decide +kernel
theorem d_RRef_isWholeMark_11 : decode b_RRef_isWholeMark 11 = .ok (.goto 4, 3) := by decide +kernel
theorem d_RRef_isWholeMark_14 : decode b_RRef_isWholeMark 14 = .ok (.iconst 0, 1) := by decide +kernel
theorem d_RRef_isWholeMark_15 : decode b_RRef_isWholeMark 15 = .ok (.istore_n 2, 1) := by decide +kernel
theorem d_RRef_isWholeMark_16 : decode b_RRef_isWholeMark 16 = .ok (.iload_n 2, 1) := by decide +kernel
theorem d_RRef_isWholeMark_17 : decode b_RRef_isWholeMark 17 = .ok (.ifCond .eq 11, 3) := by decide +kernel
theorem d_RRef_isWholeMark_20 : decode b_RRef_isWholeMark 20 = .ok (.aload_n 0, 1) := by decide +kernel
theorem d_RRef_isWholeMark_21 : decode b_RRef_isWholeMark 21 = .ok (.iload_n 1, 1) := by decide +kernel
theorem d_RRef_isWholeMark_22 : decode b_RRef_isWholeMark 22 = .ok (.invokevirtual 126, 3) := by decide +kernel
theorem d_RRef_isWholeMark_25 : decode b_RRef_isWholeMark 25 = .ok (.ifCond .eq 7, 3) := by decide +kernel
theorem d_RRef_isWholeMark_28 : decode b_RRef_isWholeMark 28 = .ok (.iconst 1, 1) := by decide +kernel
theorem d_RRef_isWholeMark_29 : decode b_RRef_isWholeMark 29 = .ok (.goto 4, 3) := by decide +kernel
theorem d_RRef_isWholeMark_32 : decode b_RRef_isWholeMark 32 = .ok (.iconst 0, 1) := by decide +kernel
theorem d_RRef_isWholeMark_33 : decode b_RRef_isWholeMark 33 = .ok (.istore_n 3, 1) := by decide +kernel
theorem d_RRef_isWholeMark_34 : decode b_RRef_isWholeMark 34 = .ok (.iconst 0, 1) := by decide +kernel
theorem d_RRef_isWholeMark_35 : decode b_RRef_isWholeMark 35 = .ok (.istore 4, 2) := by decide +kernel
theorem d_RRef_isWholeMark_37 : decode b_RRef_isWholeMark 37 = .ok (.iload 4, 2) := by decide +kernel
theorem d_RRef_isWholeMark_39 : decode b_RRef_isWholeMark 39 = .ok (.aload_n 0, 1) := by decide +kernel
theorem d_RRef_isWholeMark_40 : decode b_RRef_isWholeMark 40 = .ok (.getfield 47, 3) := by decide +kernel
theorem d_RRef_isWholeMark_43 : decode b_RRef_isWholeMark 43 = .ok (.iload_n 1, 1) := by decide +kernel
theorem d_RRef_isWholeMark_44 : decode b_RRef_isWholeMark 44 = .ok (.iaload, 1) := by decide +kernel
theorem d_RRef_isWholeMark_45 : decode b_RRef_isWholeMark 45 = .ok (.if_icmp .ge 126, 3) := by decide +kernel
theorem d_RRef_isWholeMark_48 : decode b_RRef_isWholeMark 48 = .ok (.iload_n 3, 1) := by decide +kernel
theorem d_RRef_isWholeMark_49 : decode b_RRef_isWholeMark 49 = .ok (.ifCond .eq 122, 3) := by decide +kernel
theorem d_RRef_isWholeMark_52 : decode b_RRef_isWholeMark 52 = .ok (.aload_n 0, 1) := by decide +kernel
theorem d_RRef_isWholeMark_53 : decode b_RRef_isWholeMark 53 = .ok (.aload_n 0, 1) := by decide +kernel
theorem d_RRef_isWholeMark_54 : decode b_RRef_isWholeMark 54 = .ok (.getfield 53, 3) := by decide +kernel
theorem d_RRef_isWholeMark_57 : decode b_RRef_isWholeMark 57 = .ok (.bipush 12, 2) := by decide +kernel
theorem d_RRef_isWholeMark_59 : decode b_RRef_isWholeMark 59 = .ok (.iload_n 1, 1) := by decide +kernel
theorem d_RRef_isWholeMark_60 : decode b_RRef_isWholeMark 60 = .ok (.imul, 1) := by decide +kernel
theorem d_RRef_isWholeMark_61 : decode b_RRef_isWholeMark 61 = .ok (.iload 4, 2) := by decide +kernel
theorem d_RRef_isWholeMark_63 : decode b_RRef_isWholeMark 63 = .ok (.iadd, 1) := by decide +kernel
theorem d_RRef_isWholeMark_64 : decode b_RRef_isWholeMark 64 = .ok (.iaload, 1) := by decide +kernel
theorem d_RRef_isWholeMark_65 : decode b_RRef_isWholeMark 65 = .ok (.invokevirtual 129, 3) := by decide +kernel
theorem d_RRef_isWholeMark_68 : decode b_RRef_isWholeMark 68 = .ok (.istore 5, 2) := by decide +kernel
theorem d_RRef_isWholeMark_70 : decode b_RRef_isWholeMark 70 = .ok (.iload 5, 2) := by decide +kernel
theorem d_RRef_isWholeMark_72 : decode b_RRef_isWholeMark 72 = .ok (.iconst (-1), 1) := by decide +kernel
theorem d_RRef_isWholeMark_73 : decode b_RRef_isWholeMark 73 = .ok (.if_icmp .eq 16, 3) := by decide +kernel
theorem d_RRef_isWholeMark_76 : decode b_RRef_isWholeMark 76 = .ok (.aload_n 0, 1) := by decide +kernel
theorem d_RRef_isWholeMark_77 : decode b_RRef_isWholeMark 77 = .ok (.iload 5, 2) := by decide +kernel
theorem d_RRef_isWholeMark_79 : decode b_RRef_isWholeMark 79 = .ok (.invokevirtual 132, 3) := by decide +kernel
theorem d_RRef_isWholeMark_82 : decode b_RRef_isWholeMark 82 = .ok (.ifCond .eq 7, 3) := by decide +kernel
theorem d_RRef_isWholeMark_85 : decode b_RRef_isWholeMark 85 = .ok (.iconst 1, 1) := by decide +kernel
theorem d_RRef_isWholeMark_86 : decode b_RRef_isWholeMark 86 = .ok (.goto 4, 3) := by decide +kernel
theorem d_RRef_isWholeMark_89 : decode b_RRef_isWholeMark 89 = .ok (.iconst 0, 1) := by decide +kernel
theorem d_RRef_isWholeMark_90 : decode b_RRef_isWholeMark 90 = .ok (.istore_n 3, 1) := by decide +kernel
theorem d_RRef_isWholeMark_91 : decode b_RRef_isWholeMark 91 = .ok (.iload_n 3, 1) := by decide +kernel
theorem d_RRef_isWholeMark_92 : decode b_RRef_isWholeMark 92 = .ok (.ifCond .eq 73, 3) := by decide +kernel
theorem d_RRef_isWholeMark_95 : decode b_RRef_isWholeMark 95 = .ok (.iload_n 2, 1) := by decide +kernel
theorem d_RRef_isWholeMark_96 : decode b_RRef_isWholeMark 96 = .ok (.ifCond .eq 69, 3) := by decide +kernel
theorem d_RRef_isWholeMark_99 : decode b_RRef_isWholeMark 99 = .ok (.aload_n 0, 1) := by decide +kernel
theorem d_RRef_isWholeMark_100 : decode b_RRef_isWholeMark 100 = .ok (.getfield 38, 3) := by decide +kernel
theorem d_RRef_isWholeMark_103 : decode b_RRef_isWholeMark 103 = .ok (.iload 5, 2) := by decide +kernel
theorem d_RRef_isWholeMark_105 : decode b_RRef_isWholeMark 105 = .ok (.iaload, 1) := by decide +kernel
theorem d_RRef_isWholeMark_106 : decode b_RRef_isWholeMark 106 = .ok (.aload_n 0, 1) := by decide +kernel
theorem d_RRef_isWholeMark_107 : decode b_RRef_isWholeMark 107 = .ok (.getfield 56, 3) := by decide +kernel
theorem d_RRef_isWholeMark_110 : decode b_RRef_isWholeMark 110 = .ok (.bipush 12, 2) := by decide +kernel
theorem d_RRef_isWholeMark_112 : decode b_RRef_isWholeMark 112 = .ok (.iload_n 1, 1) := by decide +kernel
theorem d_RRef_isWholeMark_113 : decode b_RRef_isWholeMark 113 = .ok (.imul, 1) := by decide +kernel
theorem d_RRef_isWholeMark_114 : decode b_RRef_isWholeMark 114 = .ok (.iload 4, 2) := by decide +kernel
theorem d_RRef_isWholeMark_116 : decode b_RRef_isWholeMark 116 = .ok (.iadd, 1) := by decide +kernel
theorem d_RRef_isWholeMark_117 : decode b_RRef_isWholeMark 117 = .ok (.iaload, 1) := by decide +kernel
theorem d_RRef_isWholeMark_118 : decode b_RRef_isWholeMark 118 = .ok (.if_icmp .ne 45, 3) := by decide +kernel
theorem d_RRef_isWholeMark_121 : decode b_RRef_isWholeMark 121 = .ok (.aload_n 0, 1) := by decide +kernel
theorem d_RRef_isWholeMark_122 : decode b_RRef_isWholeMark 122 = .ok (.getfield 7, 3) := by decide +kernel
theorem d_RRef_isWholeMark_125 : decode b_RRef_isWholeMark 125 = .ok (.bipush 32, 2) := by decide +kernel
theorem d_RRef_isWholeMark_127 : decode b_RRef_isWholeMark 127 = .ok (.aload_n 0, 1) := by decide +kernel
theorem d_RRef_isWholeMark_128 : decode b_RRef_isWholeMark 128 = .ok (.getfield 38, 3) := by decide +kernel
theorem d_RRef_isWholeMark_131 : decode b_RRef_isWholeMark 131 = .ok (.iload 5, 2) := by decide +kernel
theorem d_RRef_isWholeMark_133 : decode b_RRef_isWholeMark 133 = .ok (.iaload, 1) := by decide +kernel
theorem d_RRef_isWholeMark_134 : decode b_RRef_isWholeMark 134 = .ok (.imul, 1) := by decide +kernel
theorem d_RRef_isWholeMark_135 : decode b_RRef_isWholeMark 135 = .ok (.bipush 16, 2) := by decide +kernel
theorem d_RRef_isWholeMark_137 : decode b_RRef_isWholeMark 137 = .ok (.iadd, 1) := by decide +kernel
theorem d_RRef_isWholeMark_138 : decode b_RRef_isWholeMark 138 = .ok (.bipush 8, 2) := by decide +kernel
theorem d_RRef_isWholeMark_140 : decode b_RRef_isWholeMark 140 = .ok (.invokestatic 85, 3) := by decide +kernel
theorem d_RRef_isWholeMark_143 : decode b_RRef_isWholeMark 143 = .ok (.aload_n 0, 1) := by decide +kernel
theorem d_RRef_isWholeMark_144 : decode b_RRef_isWholeMark 144 = .ok (.getfield 59, 3) := by decide +kernel
theorem d_RRef_isWholeMark_147 : decode b_RRef_isWholeMark 147 = .ok (.bipush 12, 2) := by decide +kernel
theorem d_RRef_isWholeMark_149 : decode b_RRef_isWholeMark 149 = .ok (.iload_n 1, 1) := by decide +kernel
theorem d_RRef_isWholeMark_150 : decode b_RRef_isWholeMark 150 = .ok (.imul, 1) := by decide +kernel
theorem d_RRef_isWholeMark_151 : decode b_RRef_isWholeMark 151 = .ok (.iload 4, 2) := by decide +kernel
theorem d_RRef_isWholeMark_153 : decode b_RRef_isWholeMark 153 = .ok (.iadd, 1) := by decide +kernel
theorem d_RRef_isWholeMark_154 : decode b_RRef_isWholeMark 154 = .ok (.laload, 1) := by decide +kernel
theorem d_RRef_isWholeMark_155 : decode b_RRef_isWholeMark 155 = .ok (.lcmp, 1) := by decide +kernel
theorem d_RRef_isWholeMark_156 : decode b_RRef_isWholeMark 156 = .ok (.ifCond .ne 7, 3) := by decide +kernel
theorem d_RRef_isWholeMark_159 : decode b_RRef_isWholeMark 159 = .ok (.iconst 1, 1) := by decide +kernel
theorem d_RRef_isWholeMark_160 : decode b_RRef_isWholeMark 160 = .ok (.goto 4, 3) := by decide +kernel
theorem d_RRef_isWholeMark_163 : decode b_RRef_isWholeMark 163 = .ok (.iconst 0, 1) := by decide +kernel
theorem d_RRef_isWholeMark_164 : decode b_RRef_isWholeMark 164 = .ok (.istore_n 3, 1) := by decide +kernel
theorem d_RRef_isWholeMark_165 : decode b_RRef_isWholeMark 165 = .ok (.iinc 4 1, 3) := by decide +kernel
theorem d_RRef_isWholeMark_168 : decode b_RRef_isWholeMark 168 = .ok (.goto (-131), 3) := by decide +kernel
theorem d_RRef_isWholeMark_171 : decode b_RRef_isWholeMark 171 = .ok (.iload_n 3, 1) := by decide +kernel
theorem d_RRef_isWholeMark_172 : decode b_RRef_isWholeMark 172 = .ok (.ireturn, 1) := by decide +kernel
theorem d_RRef_isWholePart_0 : decode b_RRef_isWholePart 0 = .ok (.bipush 32, 2) := by decide +kernel
theorem d_RRef_isWholePart_2 : decode b_RRef_isWholePart 2 = .ok (.aload_n 0, 1) := by decide +kernel
theorem d_RRef_isWholePart_3 : decode b_RRef_isWholePart 3 = .ok (.getfield 38, 3) := by decide +kernel
theorem d_RRef_isWholePart_6 : decode b_RRef_isWholePart 6 = .ok (.iload_n 1, 1) := by decide +kernel
theorem d_RRef_isWholePart_7 : decode b_RRef_isWholePart 7 = .ok (.iaload, 1) := by decide +kernel
theorem d_RRef_isWholePart_8 : decode b_RRef_isWholePart 8 = .ok (.imul, 1) := by decide +kernel
theorem d_RRef_isWholePart_9 : decode b_RRef_isWholePart 9 = .ok (.istore_n 2, 1) := by decide +kernel
theorem d_RRef_isWholePart_10 : decode b_RRef_isWholePart 10 = .ok (.aload_n 0, 1) := by decide +kernel
theorem d_RRef_isWholePart_11 : decode b_RRef_isWholePart 11 = .ok (.aload_n 0, 1) := by decide +kernel
theorem d_RRef_isWholePart_12 : decode b_RRef_isWholePart 12 = .ok (.getfield 38, 3) := by decide +kernel
theorem d_RRef_isWholePart_15 : decode b_RRef_isWholePart 15 = .ok (.iload_n 1, 1) := by decide +kernel
theorem d_RRef_isWholePart_16 : decode b_RRef_isWholePart 16 = .ok (.iaload, 1) := by decide +kernel
theorem d_RRef_isWholePart_17 : decode b_RRef_isWholePart 17 = .ok (.invokevirtual 119, 3) := by decide +kernel
theorem d_RRef_isWholePart_20 : decode b_RRef_isWholePart 20 = .ok (.iconst 1, 1) := by decide +kernel
theorem d_RRef_isWholePart_21 : decode b_RRef_isWholePart 21 = .ok (.if_icmp .ne 104, 3) := by decide +kernel
theorem d_RRef_isWholePart_24 : decode b_RRef_isWholePart 24 = .ok (.aload_n 0, 1) := by decide +kernel
theorem d_RRef_isWholePart_25 : decode b_RRef_isWholePart 25 = .ok (.aload_n 0, 1) := by decide +kernel
theorem d_RRef_isWholePart_26 : decode b_RRef_isWholePart 26 = .ok (.getfield 38, 3) := by decide +kernel
theorem d_RRef_isWholePart_29 : decode b_RRef_isWholePart 29 = .ok (.iload_n 1, 1) := by decide +kernel
theorem d_RRef_isWholePart_30 : decode b_RRef_isWholePart 30 = .ok (.iaload, 1) := by decide +kernel
theorem d_RRef_isWholePart_31 : decode b_RRef_isWholePart 31 = .ok (.invokevirtual 122, 3) := by decide +kernel
theorem d_RRef_isWholePart_34 : decode b_RRef_isWholePart 34 = .ok (.ifCond .eq 91, 3) := by decide +kernel
theorem d_RRef_isWholePart_37 : decode b_RRef_isWholePart 37 = .ok (.aload_n 0, 1) := by decide +kernel
theorem d_RRef_isWholePart_38 : decode b_RRef_isWholePart 38 = .ok (.getfield 7, 3) := by decide +kernel
theorem d_RRef_isWholePart_41 : decode b_RRef_isWholePart 41 = .ok (.iload_n 2, 1) := by decide +kernel
theorem d_RRef_isWholePart_42 : decode b_RRef_isWholePart 42 = .ok (.iconst 4, 1) := by decide +kernel
theorem d_RRef_isWholePart_43 : decode b_RRef_isWholePart 43 = .ok (.iadd, 1) := by decide +kernel
theorem d_RRef_isWholePart_44 : decode b_RRef_isWholePart 44 = .ok (.iconst 4, 1) := by decide +kernel
theorem d_RRef_isWholePart_45 : decode b_RRef_isWholePart 45 = .ok (.invokestatic 85, 3) := by decide +kernel
theorem d_RRef_isWholePart_48 : decode b_RRef_isWholePart 48 = .ok (.aload_n 0, 1) := by decide +kernel
theorem d_RRef_isWholePart_49 : decode b_RRef_isWholePart 49 = .ok (.getfield 24, 3) := by decide +kernel
theorem d_RRef_isWholePart_52 : decode b_RRef_isWholePart 52 = .ok (.iload_n 1, 1) := by decide +kernel
theorem d_RRef_isWholePart_53 : decode b_RRef_isWholePart 53 = .ok (.iaload, 1) := by decide +kernel
theorem d_RRef_isWholePart_54 : decode b_RRef_isWholePart 54 = .ok (.i2l, 1) := by decide +kernel
theorem d_RRef_isWholePart_55 : decode b_RRef_isWholePart 55 = .ok (.lcmp, 1) := by decide +kernel
theorem d_RRef_isWholePart_56 : decode b_RRef_isWholePart 56 = .ok (.ifCond .ne 69, 3) := by decide +kernel
theorem d_RRef_isWholePart_59 : decode b_RRef_isWholePart 59 = .ok (.aload_n 0, 1) := by decide +kernel
theorem d_RRef_isWholePart_60 : decode b_RRef_isWholePart 60 = .ok (.getfield 7, 3) := by decide +kernel
theorem d_RRef_isWholePart_63 : decode b_RRef_isWholePart 63 = .ok (.iload_n 2, 1) := by decide +kernel
theorem d_RRef_isWholePart_64 : decode b_RRef_isWholePart 64 = .ok (.iconst 2, 1) := by decide +kernel
theorem d_RRef_isWholePart_65 : decode b_RRef_isWholePart 65 = .ok (.iadd, 1) := by decide +kernel
theorem d_RRef_isWholePart_66 : decode b_RRef_isWholePart 66 = .ok (.iconst 2, 1) := by decide +kernel
theorem d_RRef_isWholePart_67 : decode b_RRef_isWholePart 67 = .ok (.invokestatic 85, 3) := by decide +kernel
theorem d_RRef_isWholePart_70 : decode b_RRef_isWholePart 70 = .ok (.aload_n 0, 1) := by decide +kernel
theorem d_RRef_isWholePart_71 : decode b_RRef_isWholePart 71 = .ok (.getfield 35, 3) := by decide +kernel
theorem d_RRef_isWholePart_74 : decode b_RRef_isWholePart 74 = .ok (.iload_n 1, 1) := by decide +kernel
theorem d_RRef_isWholePart_75 : decode b_RRef_isWholePart 75 = .ok (.iaload, 1) := by decide +kernel
theorem d_RRef_isWholePart_76 : decode b_RRef_isWholePart 76 = .ok (.i2l, 1) := by decide +kernel
theorem d_RRef_isWholePart_77 : decode b_RRef_isWholePart 77 = .ok (.lcmp, 1) := by decide +kernel
theorem d_RRef_isWholePart_78 : decode b_RRef_isWholePart 78 = .ok (.ifCond .ne 47, 3) := by decide +kernel
theorem d_RRef_isWholePart_81 : decode b_RRef_isWholePart 81 = .ok (.aload_n 0, 1) := by decide +kernel
theorem d_RRef_isWholePart_82 : decode b_RRef_isWholePart 82 = .ok (.getfield 7, 3) := by decide +kernel
theorem d_RRef_isWholePart_85 : decode b_RRef_isWholePart 85 = .ok (.iload_n 2, 1) := by decide +kernel
theorem d_RRef_isWholePart_86 : decode b_RRef_isWholePart 86 = .ok (.bipush 16, 2) := by decide +kernel
theorem d_RRef_isWholePart_88 : decode b_RRef_isWholePart 88 = .ok (.iadd, 1) := by decide +kernel
theorem d_RRef_isWholePart_89 : decode b_RRef_isWholePart 89 = .ok (.bipush 8, 2) := by decide +kernel
theorem d_RRef_isWholePart_91 : decode b_RRef_isWholePart 91 = .ok (.invokestatic 85, 3) := by decide +kernel
theorem d_RRef_isWholePart_94 : decode b_RRef_isWholePart 94 = .ok (.aload_n 0, 1) := by decide +kernel
theorem d_RRef_isWholePart_95 : decode b_RRef_isWholePart 95 = .ok (.getfield 7, 3) := by decide +kernel
theorem d_RRef_isWholePart_98 : decode b_RRef_isWholePart 98 = .ok (.iload_n 2, 1) := by decide +kernel
theorem d_RRef_isWholePart_99 : decode b_RRef_isWholePart 99 = .ok (.bipush 32, 2) := by decide +kernel
theorem d_RRef_isWholePart_101 : decode b_RRef_isWholePart 101 = .ok (.iadd, 1) := by decide +kernel
theorem d_RRef_isWholePart_102 : decode b_RRef_isWholePart 102 = .ok (.bipush 32, 2) := by decide +kernel
theorem d_RRef_isWholePart_104 : decode b_RRef_isWholePart 104 = .ok (.aload_n 0, 1) := by decide +kernel
theorem d_RRef_isWholePart_105 : decode b_RRef_isWholePart 105 = .ok (.getfield 35, 3) := by decide +kernel
theorem d_RRef_isWholePart_108 : decode b_RRef_isWholePart 108 = .ok (.iload_n 1, 1) := by decide +kernel
theorem d_RRef_isWholePart_109 : decode b_RRef_isWholePart 109 = .ok (.iaload, 1) := by decide +kernel
theorem d_RRef_isWholePart_110 : decode b_RRef_isWholePart 110 = .ok (.invokestatic 112, 3) := by decide +kernel
theorem d_RRef_isWholePart_113 : decode b_RRef_isWholePart 113 = .ok (.imul, 1) := by decide +kernel
theorem d_RRef_isWholePart_114 : decode b_RRef_isWholePart 114 = .ok (.invokestatic 89, 3) := by decide +kernel
theorem d_RRef_isWholePart_117 : decode b_RRef_isWholePart 117 = .ok (.lcmp, 1) := by decide +kernel
theorem d_RRef_isWholePart_118 : decode b_RRef_isWholePart 118 = .ok (.ifCond .ne 7, 3) := by decide +kernel
theorem d_RRef_isWholePart_121 : decode b_RRef_isWholePart 121 = .ok (.iconst 1, 1) := by decide +kernel
theorem d_RRef_isWholePart_122 : decode b_RRef_isWholePart 122 = .ok (.goto 4, 3) := by decide +kernel
theorem d_RRef_isWholePart_125 : decode b_RRef_isWholePart 125 = .ok (.iconst 0, 1) := by decide +kernel
theorem d_RRef_isWholePart_126 : decode b_RRef_isWholePart 126 = .ok (.ireturn, 1) := by decide +kernel
theorem d_RRef_keep_0 : decode b_RRef_keep 0 = .ok (.aload_n 0, 1) := by decide +kernel
theorem d_RRef_keep_1 : decode b_RRef_keep 1 = .ok (.getfield 13, 3) := by decide +kernel
theorem d_RRef_keep_4 : decode b_RRef_keep 4 = .ok (.ifCond .ne 6, 3) := by decide +kernel
theorem d_RRef_keep_7 : decode b_RRef_keep 7 = .ok (.bipush (-3), 2) := by decide +kernel
theorem d_RRef_keep_9 : decode b_RRef_keep 9 = .ok (.ireturn, 1) := by decide +kernel
theorem d_RRef_keep_10 : decode b_RRef_keep 10 = .ok (.aload_n 0, 1) := by decide +kernel
theorem d_RRef_keep_11 : decode b_RRef_keep 11 = .ok (.iload_n 1, 1) := by decide +kernel
theorem d_RRef_keep_12 : decode b_RRef_keep 12 = .ok (.invokevirtual 150, 3) := by decide +kernel
theorem d_RRef_keep_15 : decode b_RRef_keep 15 = .ok (.istore_n 2, 1) := by decide +kernel
theorem d_RRef_keep_16 : decode b_RRef_keep 16 = .ok (.iload_n 2, 1) := by decide +kernel
theorem d_RRef_keep_17 : decode b_RRef_keep 17 = .ok (.iconst (-1), 1) := by decide +kernel
theorem d_RRef_keep_18 : decode b_RRef_keep 18 = .ok (.if_icmp .eq 13, 3) := by decide +kernel
theorem d_RRef_keep_21 : decode b_RRef_keep 21 = .ok (.aload_n 0, 1) := by decide +kernel
theorem d_RRef_keep_22 : decode b_RRef_keep 22 = .ok (.getfield 44, 3) := by decide +kernel
theorem d_RRef_keep_25 : decode b_RRef_keep 25 = .ok (.iload_n 2, 1) := by decide +kernel
theorem d_RRef_keep_26 : decode b_RRef_keep 26 = .ok (.iaload, 1) := by decide +kernel
theorem d_RRef_keep_27 : decode b_RRef_keep 27 = .ok (.iconst (-1), 1) := by decide +kernel
theorem d_RRef_keep_28 : decode b_RRef_keep 28 = .ok (.if_icmp .eq 5, 3) := by decide +kernel
theorem d_RRef_keep_31 : decode b_RRef_keep 31 = .ok (.iconst (-1), 1) := by decide +kernel
theorem d_RRef_keep_32 : decode b_RRef_keep 32 = .ok (.ireturn, 1) := by decide +kernel
theorem d_RRef_keep_33 : decode b_RRef_keep 33 = .ok (.aload_n 0, 1) := by decide +kernel
theorem d_RRef_keep_34 : decode b_RRef_keep 34 = .ok (.invokevirtual 185, 3) := by decide +kernel
theorem d_RRef_keep_37 : decode b_RRef_keep 37 = .ok (.aload_n 0, 1) := by decide +kernel
theorem d_RRef_keep_38 : decode b_RRef_keep 38 = .ok (.getfield 47, 3) := by decide +kernel
theorem d_RRef_keep_41 : decode b_RRef_keep 41 = .ok (.iload_n 2, 1) := by decide +kernel
theorem d_RRef_keep_42 : decode b_RRef_keep 42 = .ok (.iaload, 1) := by decide +kernel
theorem d_RRef_keep_43 : decode b_RRef_keep 43 = .ok (.invokestatic 116, 3) := by decide +kernel
theorem d_RRef_keep_46 : decode b_RRef_keep 46 = .ok (.istore_n 3, 1) := by decide +kernel
theorem d_RRef_keep_47 : decode b_RRef_keep 47 = .ok (.aload_n 0, 1) := by decide +kernel
theorem d_RRef_keep_48 : decode b_RRef_keep 48 = .ok (.iconst 1, 1) := by decide +kernel
theorem d_RRef_keep_49 : decode b_RRef_keep 49 = .ok (.iload_n 3, 1) := by decide +kernel
theorem d_RRef_keep_50 : decode b_RRef_keep 50 = .ok (.iadd, 1) := by decide +kernel
theorem d_RRef_keep_51 : decode b_RRef_keep 51 = .ok (.invokevirtual 188, 3) := by decide +kernel
theorem d_RRef_keep_54 : decode b_RRef_keep 54 = .ok (.istore 4, 2) := by decide +kernel
theorem d_RRef_keep_56 : decode b_RRef_keep 56 = .ok (.iload 4, 2) := by decide +kernel
theorem d_RRef_keep_58 : decode b_RRef_keep 58 = .ok (.iconst (-1), 1) := by decide +kernel
theorem d_RRef_keep_59 : decode b_RRef_keep 59 = .ok (.if_icmp .ne 6, 3) := by decide +kernel
theorem d_RRef_keep_62 : decode b_RRef_keep 62 = .ok (.bipush (-4), 2) := by decide +kernel
theorem d_RRef_keep_64 : decode b_RRef_keep 64 = .ok (.ireturn, 1) := by decide +kernel
theorem d_RRef_keep_65 : decode b_RRef_keep 65 = .ok (.aload_n 0, 1) := by decide +kernel
theorem d_RRef_keep_66 : decode b_RRef_keep 66 = .ok (.invokevirtual 99, 3) := by decide +kernel
theorem d_RRef_keep_69 : decode b_RRef_keep 69 = .ok (.iconst 0, 1) := by decide +kernel
theorem d_RRef_keep_70 : decode b_RRef_keep 70 = .ok (.istore 5, 2) := by decide +kernel
theorem d_RRef_keep_72 : decode b_RRef_keep 72 = .ok (.iload 5, 2) := by decide +kernel
theorem d_RRef_keep_74 : decode b_RRef_keep 74 = .ok (.aload_n 0, 1) := by decide +kernel
theorem d_RRef_keep_75 : decode b_RRef_keep 75 = .ok (.getfield 47, 3) := by decide +kernel
theorem d_RRef_keep_78 : decode b_RRef_keep 78 = .ok (.iload_n 2, 1) := by decide +kernel
theorem d_RRef_keep_79 : decode b_RRef_keep 79 = .ok (.iaload, 1) := by decide +kernel
theorem d_RRef_keep_80 : decode b_RRef_keep 80 = .ok (.if_icmp .ge 168, 3) := by decide +kernel
theorem d_RRef_keep_83 : decode b_RRef_keep 83 = .ok (.aload_n 0, 1) := by decide +kernel
theorem d_RRef_keep_84 : decode b_RRef_keep 84 = .ok (.aload_n 0, 1) := by decide +kernel
theorem d_RRef_keep_85 : decode b_RRef_keep 85 = .ok (.getfield 53, 3) := by decide +kernel
theorem d_RRef_keep_88 : decode b_RRef_keep 88 = .ok (.bipush 12, 2) := by decide +kernel
theorem d_RRef_keep_90 : decode b_RRef_keep 90 = .ok (.iload_n 2, 1) := by decide +kernel
theorem d_RRef_keep_91 : decode b_RRef_keep 91 = .ok (.imul, 1) := by decide +kernel
theorem d_RRef_keep_92 : decode b_RRef_keep 92 = .ok (.iload 5, 2) := by decide +kernel
theorem d_RRef_keep_94 : decode b_RRef_keep 94 = .ok (.iadd, 1) := by decide +kernel
theorem d_RRef_keep_95 : decode b_RRef_keep 95 = .ok (.iaload, 1) := by decide +kernel
theorem d_RRef_keep_96 : decode b_RRef_keep 96 = .ok (.invokevirtual 129, 3) := by decide +kernel
theorem d_RRef_keep_99 : decode b_RRef_keep 99 = .ok (.istore 6, 2) := by decide +kernel
theorem d_RRef_keep_101 : decode b_RRef_keep 101 = .ok (.iconst 0, 1) := by decide +kernel
theorem d_RRef_keep_102 : decode b_RRef_keep 102 = .ok (.iload 5, 2) := by decide +kernel
theorem d_RRef_keep_104 : decode b_RRef_keep 104 = .ok (.invokestatic 143, 3) := by decide +kernel
theorem d_RRef_keep_107 : decode b_RRef_keep 107 = .ok (.istore 7, 2) := by decide +kernel
theorem d_RRef_keep_109 : decode b_RRef_keep 109 = .ok (.aload_n 0, 1) := by decide +kernel
theorem d_RRef_keep_110 : decode b_RRef_keep 110 = .ok (.getfield 56, 3) := by decide +kernel
theorem d_RRef_keep_113 : decode b_RRef_keep 113 = .ok (.bipush 12, 2) := by decide +kernel
theorem d_RRef_keep_115 : decode b_RRef_keep 115 = .ok (.iload_n 2, 1) := by decide +kernel
theorem d_RRef_keep_116 : decode b_RRef_keep 116 = .ok (.imul, 1) := by decide +kernel
theorem d_RRef_keep_117 : decode b_RRef_keep 117 = .ok (.iload 5, 2) := by decide +kernel
theorem d_RRef_keep_119 : decode b_RRef_keep 119 = .ok (.iadd, 1) := by decide +kernel
theorem d_RRef_keep_120 : decode b_RRef_keep 120 = .ok (.aload_n 0, 1) := by decide +kernel
theorem d_RRef_keep_121 : decode b_RRef_keep 121 = .ok (.getfield 38, 3) := by decide +kernel
theorem d_RRef_keep_124 : decode b_RRef_keep 124 = .ok (.iload 6, 2) := by decide +kernel
theorem d_RRef_keep_126 : decode b_RRef_keep 126 = .ok (.iaload, 1) := by decide +kernel
theorem d_RRef_keep_127 : decode b_RRef_keep 127 = .ok (.iastore, 1) := by decide +kernel
theorem d_RRef_keep_128 : decode b_RRef_keep 128 = .ok (.aload_n 0, 1) := by decide +kernel
theorem d_RRef_keep_129 : decode b_RRef_keep 129 = .ok (.getfield 59, 3) := by decide +kernel
theorem d_RRef_keep_132 : decode b_RRef_keep 132 = .ok (.bipush 12, 2) := by decide +kernel
theorem d_RRef_keep_134 : decode b_RRef_keep 134 = .ok (.iload_n 2, 1) := by decide +kernel
theorem d_RRef_keep_135 : decode b_RRef_keep 135 = .ok (.imul, 1) := by decide +kernel
theorem d_RRef_keep_136 : decode b_RRef_keep 136 = .ok (.iload 5, 2) := by decide +kernel
theorem d_RRef_keep_138 : decode b_RRef_keep 138 = .ok (.iadd, 1) := by decide +kernel
theorem d_RRef_keep_139 : decode b_RRef_keep 139 = .ok (.aload_n 0, 1) := by decide +kernel
theorem d_RRef_keep_140 : decode b_RRef_keep 140 = .ok (.getfield 7, 3) := by decide +kernel
theorem d_RRef_keep_143 : decode b_RRef_keep 143 = .ok (.bipush 32, 2) := by decide +kernel
theorem d_RRef_keep_145 : decode b_RRef_keep 145 = .ok (.aload_n 0, 1) := by decide +kernel
theorem d_RRef_keep_146 : decode b_RRef_keep 146 = .ok (.getfield 38, 3) := by decide +kernel
theorem d_RRef_keep_149 : decode b_RRef_keep 149 = .ok (.iload 6, 2) := by decide +kernel
theorem d_RRef_keep_151 : decode b_RRef_keep 151 = .ok (.iaload, 1) := by decide +kernel
theorem d_RRef_keep_152 : decode b_RRef_keep 152 = .ok (.imul, 1) := by decide +kernel
theorem d_RRef_keep_153 : decode b_RRef_keep 153 = .ok (.bipush 16, 2) := by decide +kernel
theorem d_RRef_keep_155 : decode b_RRef_keep 155 = .ok (.iadd, 1) := by decide +kernel
theorem d_RRef_keep_156 : decode b_RRef_keep 156 = .ok (.bipush 8, 2) := by decide +kernel
theorem d_RRef_keep_158 : decode b_RRef_keep 158 = .ok (.invokestatic 85, 3) := by decide +kernel
theorem d_RRef_keep_161 : decode b_RRef_keep 161 = .ok (.lastore, 1) := by decide +kernel
theorem d_RRef_keep_162 : decode b_RRef_keep 162 = .ok (.aload_n 0, 1) := by decide +kernel
theorem d_RRef_keep_163 : decode b_RRef_keep 163 = .ok (.getfield 69, 3) := by decide +kernel
theorem d_RRef_keep_166 : decode b_RRef_keep 166 = .ok (.bipush 32, 2) := by decide +kernel
theorem d_RRef_keep_168 : decode b_RRef_keep 168 = .ok (.iconst 1, 1) := by decide +kernel
theorem d_RRef_keep_169 : decode b_RRef_keep 169 = .ok (.iload 5, 2) := by decide +kernel
theorem d_RRef_keep_171 : decode b_RRef_keep 171 = .ok (.iconst 2, 1) := by decide +kernel
theorem d_RRef_keep_172 : decode b_RRef_keep 172 = .ok (.idiv, 1) := by decide +kernel
theorem d_RRef_keep_173 : decode b_RRef_keep 173 = .ok (.iadd, 1) := by decide +kernel
theorem d_RRef_keep_174 : decode b_RRef_keep 174 = .ok (.imul, 1) := by decide +kernel
theorem d_RRef_keep_175 : decode b_RRef_keep 175 = .ok (.bipush 6, 2) := by decide +kernel
theorem d_RRef_keep_177 : decode b_RRef_keep 177 = .ok (.bastore, 1) := by decide +kernel
theorem d_RRef_keep_178 : decode b_RRef_keep 178 = .ok (.aload_n 0, 1) := by decide +kernel
theorem d_RRef_keep_179 : decode b_RRef_keep 179 = .ok (.getfield 69, 3) := by decide +kernel
theorem d_RRef_keep_182 : decode b_RRef_keep 182 = .ok (.iload 7, 2) := by decide +kernel
theorem d_RRef_keep_184 : decode b_RRef_keep 184 = .ok (.iconst 4, 1) := by decide +kernel
theorem d_RRef_keep_185 : decode b_RRef_keep 185 = .ok (.aload_n 0, 1) := by decide +kernel
theorem d_RRef_keep_186 : decode b_RRef_keep 186 = .ok (.getfield 24, 3) := by decide +kernel
theorem d_RRef_keep_189 : decode b_RRef_keep 189 = .ok (.iload 6, 2) := by decide +kernel
theorem d_RRef_keep_191 : decode b_RRef_keep 191 = .ok (.iaload, 1) := by decide +kernel
theorem d_RRef_keep_192 : decode b_RRef_keep 192 = .ok (.i2l, 1) := by decide +kernel
theorem d_RRef_keep_193 : decode b_RRef_keep 193 = .ok (.invokestatic 102, 3) := by decide +kernel
theorem d_RRef_keep_196 : decode b_RRef_keep 196 = .ok (.aload_n 0, 1) := by decide +kernel
theorem d_RRef_keep_197 : decode b_RRef_keep 197 = .ok (.getfield 69, 3) := by decide +kernel
theorem d_RRef_keep_200 : decode b_RRef_keep 200 = .ok (.iload 7, 2) := by decide +kernel
theorem d_RRef_keep_202 : decode b_RRef_keep 202 = .ok (.iconst 4, 1) := by decide +kernel
theorem d_RRef_keep_203 : decode b_RRef_keep 203 = .ok (.iadd, 1) := by decide +kernel
theorem d_RRef_keep_204 : decode b_RRef_keep 204 = .ok (.iconst 2, 1) := by decide +kernel
theorem d_RRef_keep_205 : decode b_RRef_keep 205 = .ok (.aload_n 0, 1) := by decide +kernel
theorem d_RRef_keep_206 : decode b_RRef_keep 206 = .ok (.getfield 38, 3) := by decide +kernel
theorem d_RRef_keep_209 : decode b_RRef_keep 209 = .ok (.iload 6, 2) := by decide +kernel
theorem d_RRef_keep_211 : decode b_RRef_keep 211 = .ok (.iaload, 1) := by decide +kernel
theorem d_RRef_keep_212 : decode b_RRef_keep 212 = .ok (.i2l, 1) := by decide +kernel
theorem d_RRef_keep_213 : decode b_RRef_keep 213 = .ok (.invokestatic 102, 3) := by decide +kernel
theorem d_RRef_keep_216 : decode b_RRef_keep 216 = .ok (.aload_n 0, 1) := by decide +kernel
theorem d_RRef_keep_217 : decode b_RRef_keep 217 = .ok (.getfield 69, 3) := by decide +kernel
theorem d_RRef_keep_220 : decode b_RRef_keep 220 = .ok (.iload 7, 2) := by decide +kernel
theorem d_RRef_keep_222 : decode b_RRef_keep 222 = .ok (.bipush 6, 2) := by decide +kernel
theorem d_RRef_keep_224 : decode b_RRef_keep 224 = .ok (.iadd, 1) := by decide +kernel
theorem d_RRef_keep_225 : decode b_RRef_keep 225 = .ok (.bipush 8, 2) := by decide +kernel
theorem d_RRef_keep_227 : decode b_RRef_keep 227 = .ok (.aload_n 0, 1) := by decide +kernel
theorem d_RRef_keep_228 : decode b_RRef_keep 228 = .ok (.getfield 59, 3) := by decide +kernel
theorem d_RRef_keep_231 : decode b_RRef_keep 231 = .ok (.bipush 12, 2) := by decide +kernel
theorem d_RRef_keep_233 : decode b_RRef_keep 233 = .ok (.iload_n 2, 1) := by decide +kernel
theorem d_RRef_keep_234 : decode b_RRef_keep 234 = .ok (.imul, 1) := by decide +kernel
theorem d_RRef_keep_235 : decode b_RRef_keep 235 = .ok (.iload 5, 2) := by decide +kernel
theorem d_RRef_keep_237 : decode b_RRef_keep 237 = .ok (.iadd, 1) := by decide +kernel
theorem d_RRef_keep_238 : decode b_RRef_keep 238 = .ok (.laload, 1) := by decide +kernel
theorem d_RRef_keep_239 : decode b_RRef_keep 239 = .ok (.invokestatic 102, 3) := by decide +kernel
theorem d_RRef_keep_242 : decode b_RRef_keep 242 = .ok (.iinc 5 1, 3) := by decide +kernel
theorem d_RRef_keep_245 : decode b_RRef_keep 245 = .ok (.goto (-173), 3) := by decide +kernel
theorem d_RRef_keep_248 : decode b_RRef_keep 248 = .ok (.aload_n 0, 1) := by decide +kernel
theorem d_RRef_keep_249 : decode b_RRef_keep 249 = .ok (.getfield 50, 3) := by decide +kernel
theorem d_RRef_keep_252 : decode b_RRef_keep 252 = .ok (.iload_n 2, 1) := by decide +kernel
theorem d_RRef_keep_253 : decode b_RRef_keep 253 = .ok (.aload_n 0, 1) := by decide +kernel
theorem d_RRef_keep_254 : decode b_RRef_keep 254 = .ok (.getfield 69, 3) := by decide +kernel
theorem d_RRef_keep_257 : decode b_RRef_keep 257 = .ok (.bipush 32, 2) := by decide +kernel
theorem d_RRef_keep_259 : decode b_RRef_keep 259 = .ok (.bipush 32, 2) := by decide +kernel
theorem d_RRef_keep_261 : decode b_RRef_keep 261 = .ok (.iload_n 3, 1) := by decide +kernel
theorem d_RRef_keep_262 : decode b_RRef_keep 262 = .ok (.imul, 1) := by decide +kernel
theorem d_RRef_keep_263 : decode b_RRef_keep 263 = .ok (.invokestatic 89, 3) := by decide +kernel
theorem d_RRef_keep_266 : decode b_RRef_keep 266 = .ok (.lastore, 1) := by decide +kernel
theorem d_RRef_keep_267 : decode b_RRef_keep 267 = .ok (.aload_n 0, 1) := by decide +kernel
theorem d_RRef_keep_268 : decode b_RRef_keep 268 = .ok (.getfield 69, 3) := by decide +kernel
theorem d_RRef_keep_271 : decode b_RRef_keep 271 = .ok (.iconst 0, 1) := by decide +kernel
theorem d_RRef_keep_272 : decode b_RRef_keep 272 = .ok (.iconst 2, 1) := by decide +kernel
theorem d_RRef_keep_273 : decode b_RRef_keep 273 = .ok (.bastore, 1) := by decide +kernel
theorem d_RRef_keep_274 : decode b_RRef_keep 274 = .ok (.aload_n 0, 1) := by decide +kernel
theorem d_RRef_keep_275 : decode b_RRef_keep 275 = .ok (.getfield 69, 3) := by decide +kernel
theorem d_RRef_keep_278 : decode b_RRef_keep 278 = .ok (.iconst 1, 1) := by decide +kernel
theorem d_RRef_keep_279 : decode b_RRef_keep 279 = .ok (.aload_n 0, 1) := by decide +kernel
theorem d_RRef_keep_280 : decode b_RRef_keep 280 = .ok (.getfield 47, 3) := by decide +kernel
theorem d_RRef_keep_283 : decode b_RRef_keep 283 = .ok (.iload_n 2, 1) := by decide +kernel
theorem d_RRef_keep_284 : decode b_RRef_keep 284 = .ok (.iaload, 1) := by decide +kernel
theorem d_RRef_keep_285 : decode b_RRef_keep 285 = .ok (.i2b, 1) := by decide +kernel
theorem d_RRef_keep_286 : decode b_RRef_keep 286 = .ok (.bastore, 1) := by decide +kernel
theorem d_RRef_keep_287 : decode b_RRef_keep 287 = .ok (.aload_n 0, 1) := by decide +kernel
theorem d_RRef_keep_288 : decode b_RRef_keep 288 = .ok (.getfield 69, 3) := by decide +kernel
theorem d_RRef_keep_291 : decode b_RRef_keep 291 = .ok (.iconst 4, 1) := by decide +kernel
theorem d_RRef_keep_292 : decode b_RRef_keep 292 = .ok (.iconst 4, 1) := by decide +kernel
theorem d_RRef_keep_293 : decode b_RRef_keep 293 = .ok (.iload_n 1, 1) := by decide +kernel
theorem d_RRef_keep_294 : decode b_RRef_keep 294 = .ok (.i2l, 1) := by decide +kernel
theorem d_RRef_keep_295 : decode b_RRef_keep 295 = .ok (.invokestatic 102, 3) := by decide +kernel
theorem d_RRef_keep_298 : decode b_RRef_keep 298 = .ok (.aload_n 0, 1) := by decide +kernel
theorem d_RRef_keep_299 : decode b_RRef_keep 299 = .ok (.getfield 69, 3) := by decide +kernel
theorem d_RRef_keep_302 : decode b_RRef_keep 302 = .ok (.bipush 8, 2) := by decide +kernel
theorem d_RRef_keep_304 : decode b_RRef_keep 304 = .ok (.bipush 8, 2) := by decide +kernel
theorem d_RRef_keep_306 : decode b_RRef_keep 306 = .ok (.aload_n 0, 1) := by decide +kernel
theorem d_RRef_keep_307 : decode b_RRef_keep 307 = .ok (.getfield 50, 3) := by decide +kernel
theorem d_RRef_keep_310 : decode b_RRef_keep 310 = .ok (.iload_n 2, 1) := by decide +kernel
theorem d_RRef_keep_311 : decode b_RRef_keep 311 = .ok (.laload, 1) := by decide +kernel
theorem d_RRef_keep_312 : decode b_RRef_keep 312 = .ok (.invokestatic 102, 3) := by decide +kernel
theorem d_RRef_keep_315 : decode b_RRef_keep 315 = .ok (.aload_n 0, 1) := by decide +kernel
theorem d_RRef_keep_316 : decode b_RRef_keep 316 = .ok (.invokevirtual 179, 3) := by decide +kernel
theorem d_RRef_keep_319 : decode b_RRef_keep 319 = .ok (.aload_n 0, 1) := by decide +kernel
