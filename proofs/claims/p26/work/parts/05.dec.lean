theorem d_Log_init_0 : decode b_Log_init 0 = .ok (.aload_n 0, 1) := by decide +kernel
theorem d_Log_init_1 : decode b_Log_init 1 = .ok (.invokespecial 3, 3) := by decide +kernel
theorem d_Log_init_4 : decode b_Log_init 4 = .ok (.aload_n 0, 1) := by decide +kernel
theorem d_Log_init_5 : decode b_Log_init 5 = .ok (.new 9, 3) := by decide +kernel
theorem d_Log_init_8 : decode b_Log_init 8 = .ok (.dup, 1) := by decide +kernel
theorem d_Log_init_9 : decode b_Log_init 9 = .ok (.iload_n 1, 1) := by decide +kernel
theorem d_Log_init_10 : decode b_Log_init 10 = .ok (.invokespecial 11, 3) := by decide +kernel
theorem d_Log_init_13 : decode b_Log_init 13 = .ok (.putfield 14, 3) := by decide +kernel
theorem d_Log_init_16 : decode b_Log_init 16 = .ok (.aload_n 0, 1) := by decide +kernel
theorem d_Log_init_17 : decode b_Log_init 17 = .ok (.new 18, 3) := by decide +kernel
theorem d_Log_init_20 : decode b_Log_init 20 = .ok (.dup, 1) := by decide +kernel
theorem d_Log_init_21 : decode b_Log_init 21 = .ok (.sipush 2000, 3) := by decide +kernel
theorem d_Log_init_24 : decode b_Log_init 24 = .ok (.invokespecial 20, 3) := by decide +kernel
theorem d_Log_init_27 : decode b_Log_init 27 = .ok (.putfield 21, 3) := by decide +kernel
theorem d_Log_init_30 : decode b_Log_init 30 = .ok (.aload_n 0, 1) := by decide +kernel
theorem d_Log_init_31 : decode b_Log_init 31 = .ok (.new 18, 3) := by decide +kernel
theorem d_Log_init_34 : decode b_Log_init 34 = .ok (.dup, 1) := by decide +kernel
theorem d_Log_init_35 : decode b_Log_init 35 = .ok (.sipush 224, 3) := by decide +kernel
theorem d_Log_init_38 : decode b_Log_init 38 = .ok (.invokespecial 20, 3) := by decide +kernel
theorem d_Log_init_41 : decode b_Log_init 41 = .ok (.putfield 25, 3) := by decide +kernel
theorem d_Log_init_44 : decode b_Log_init 44 = .ok (.aload_n 0, 1) := by decide +kernel
theorem d_Log_init_45 : decode b_Log_init 45 = .ok (.new 18, 3) := by decide +kernel
theorem d_Log_init_48 : decode b_Log_init 48 = .ok (.dup, 1) := by decide +kernel
theorem d_Log_init_49 : decode b_Log_init 49 = .ok (.sipush 2002, 3) := by decide +kernel
theorem d_Log_init_52 : decode b_Log_init 52 = .ok (.invokespecial 20, 3) := by decide +kernel
theorem d_Log_init_55 : decode b_Log_init 55 = .ok (.putfield 28, 3) := by decide +kernel
theorem d_Log_init_58 : decode b_Log_init 58 = .ok (.aload_n 0, 1) := by decide +kernel
theorem d_Log_init_59 : decode b_Log_init 59 = .ok (.new 18, 3) := by decide +kernel
theorem d_Log_init_62 : decode b_Log_init 62 = .ok (.dup, 1) := by decide +kernel
theorem d_Log_init_63 : decode b_Log_init 63 = .ok (.sipush 2002, 3) := by decide +kernel
theorem d_Log_init_66 : decode b_Log_init 66 = .ok (.invokespecial 20, 3) := by decide +kernel
theorem d_Log_init_69 : decode b_Log_init 69 = .ok (.putfield 31, 3) := by decide +kernel
theorem d_Log_init_72 : decode b_Log_init 72 = .ok (.aload_n 0, 1) := by decide +kernel
theorem d_Log_init_73 : decode b_Log_init 73 = .ok (.new 34, 3) := by decide +kernel
theorem d_Log_init_76 : decode b_Log_init 76 = .ok (.dup, 1) := by decide +kernel
theorem d_Log_init_77 : decode b_Log_init 77 = .ok (.aload_n 0, 1) := by decide +kernel
theorem d_Log_init_78 : decode b_Log_init 78 = .ok (.getfield 14, 3) := by decide +kernel
theorem d_Log_init_81 : decode b_Log_init 81 = .ok (.invokevirtual 36, 3) := by decide +kernel
theorem d_Log_init_84 : decode b_Log_init 84 = .ok (.invokespecial 40, 3) := by decide +kernel
theorem d_Log_init_87 : decode b_Log_init 87 = .ok (.putfield 41, 3) := by decide +kernel
theorem d_Log_init_90 : decode b_Log_init 90 = .ok (.aload_n 0, 1) := by decide +kernel
theorem d_Log_init_91 : decode b_Log_init 91 = .ok (.new 34, 3) := by decide +kernel
theorem d_Log_init_94 : decode b_Log_init 94 = .ok (.dup, 1) := by decide +kernel
theorem d_Log_init_95 : decode b_Log_init 95 = .ok (.aload_n 0, 1) := by decide +kernel
theorem d_Log_init_96 : decode b_Log_init 96 = .ok (.getfield 14, 3) := by decide +kernel
theorem d_Log_init_99 : decode b_Log_init 99 = .ok (.invokevirtual 36, 3) := by decide +kernel
theorem d_Log_init_102 : decode b_Log_init 102 = .ok (.invokespecial 40, 3) := by decide +kernel
theorem d_Log_init_105 : decode b_Log_init 105 = .ok (.putfield 45, 3) := by decide +kernel
theorem d_Log_init_108 : decode b_Log_init 108 = .ok (.aload_n 0, 1) := by decide +kernel
theorem d_Log_init_109 : decode b_Log_init 109 = .ok (.new 48, 3) := by decide +kernel
theorem d_Log_init_112 : decode b_Log_init 112 = .ok (.dup, 1) := by decide +kernel
theorem d_Log_init_113 : decode b_Log_init 113 = .ok (.aload_n 0, 1) := by decide +kernel
theorem d_Log_init_114 : decode b_Log_init 114 = .ok (.getfield 14, 3) := by decide +kernel
theorem d_Log_init_117 : decode b_Log_init 117 = .ok (.invokevirtual 36, 3) := by decide +kernel
theorem d_Log_init_120 : decode b_Log_init 120 = .ok (.invokespecial 50, 3) := by decide +kernel
theorem d_Log_init_123 : decode b_Log_init 123 = .ok (.putfield 51, 3) := by decide +kernel
theorem d_Log_init_126 : decode b_Log_init 126 = .ok (.aload_n 0, 1) := by decide +kernel
theorem d_Log_init_127 : decode b_Log_init 127 = .ok (.new 55, 3) := by decide +kernel
theorem d_Log_init_130 : decode b_Log_init 130 = .ok (.dup, 1) := by decide +kernel
theorem d_Log_init_131 : decode b_Log_init 131 = .ok (.aload_n 0, 1) := by decide +kernel
theorem d_Log_init_132 : decode b_Log_init 132 = .ok (.getfield 14, 3) := by decide +kernel
theorem d_Log_init_135 : decode b_Log_init 135 = .ok (.invokevirtual 36, 3) := by decide +kernel
theorem d_Log_init_138 : decode b_Log_init 138 = .ok (.iconst 2, 1) := by decide +kernel
theorem d_Log_init_139 : decode b_Log_init 139 = .ok (.idiv, 1) := by decide +kernel
theorem d_Log_init_140 : decode b_Log_init 140 = .ok (.invokespecial 57, 3) := by decide +kernel
theorem d_Log_init_143 : decode b_Log_init 143 = .ok (.putfield 58, 3) := by decide +kernel
theorem d_Log_init_146 : decode b_Log_init 146 = .ok (.aload_n 0, 1) := by decide +kernel
theorem d_Log_init_147 : decode b_Log_init 147 = .ok (.new 55, 3) := by decide +kernel
theorem d_Log_init_150 : decode b_Log_init 150 = .ok (.dup, 1) := by decide +kernel
theorem d_Log_init_151 : decode b_Log_init 151 = .ok (.bipush 6, 2) := by decide +kernel
theorem d_Log_init_153 : decode b_Log_init 153 = .ok (.invokespecial 57, 3) := by decide +kernel
theorem d_Log_init_156 : decode b_Log_init 156 = .ok (.putfield 62, 3) := by decide +kernel
theorem d_Log_init_159 : decode b_Log_init 159 = .ok (.aload_n 0, 1) := by decide +kernel
theorem d_Log_init_160 : decode b_Log_init 160 = .ok (.bipush 8, 2) := by decide +kernel
theorem d_Log_init_162 : decode b_Log_init 162 = .ok (.newarray .int, 2) := by decide +kernel
theorem d_Log_init_164 : decode b_Log_init 164 = .ok (.putfield 65, 3) := by decide +kernel
theorem d_Log_init_167 : decode b_Log_init 167 = .ok (.aload_n 0, 1) := by decide +kernel
theorem d_Log_init_168 : decode b_Log_init 168 = .ok (.iconst 1, 1) := by decide +kernel
theorem d_Log_init_169 : decode b_Log_init 169 = .ok (.putfield 69, 3) := by decide +kernel
theorem d_Log_init_172 : decode b_Log_init 172 = .ok (.return_, 1) := by decide +kernel
theorem d_Log_areEntriesRising_0 : decode b_Log_areEntriesRising 0 = .ok (.lconst 0, 1) := by decide +kernel
theorem d_Log_areEntriesRising_1 : decode b_Log_areEntriesRising 1 = .ok (.lstore_n 3, 1) := by decide +kernel
theorem d_Log_areEntriesRising_2 : decode b_Log_areEntriesRising 2 = .ok (.iconst 0, 1) := by decide +kernel
theorem d_Log_areEntriesRising_3 : decode b_Log_areEntriesRising 3 = .ok (.istore 5, 2) := by decide +kernel
theorem d_Log_areEntriesRising_5 : decode b_Log_areEntriesRising 5 = .ok (.iload 5, 2) := by decide +kernel
theorem d_Log_areEntriesRising_7 : decode b_Log_areEntriesRising 7 = .ok (.iload_n 2, 1) := by decide +kernel
theorem d_Log_areEntriesRising_8 : decode b_Log_areEntriesRising 8 = .ok (.if_icmp .ge 50, 3) := by decide +kernel
theorem d_Log_areEntriesRising_11 : decode b_Log_areEntriesRising 11 = .ok (.aload_n 0, 1) := by decide +kernel
theorem d_Log_areEntriesRising_12 : decode b_Log_areEntriesRising 12 = .ok (.getfield 14, 3) := by decide +kernel
theorem d_Log_areEntriesRising_15 : decode b_Log_areEntriesRising 15 = .ok (.iload_n 1, 1) := by decide +kernel
theorem d_Log_areEntriesRising_16 : decode b_Log_areEntriesRising 16 = .ok (.iload 5, 2) := by decide +kernel
theorem d_Log_areEntriesRising_18 : decode b_Log_areEntriesRising 18 = .ok (.invokestatic 303, 3) := by decide +kernel
theorem d_Log_areEntriesRising_21 : decode b_Log_areEntriesRising 21 = .ok (.iload 5, 2) := by decide +kernel
theorem d_Log_areEntriesRising_23 : decode b_Log_areEntriesRising 23 = .ok (.invokestatic 308, 3) := by decide +kernel
theorem d_Log_areEntriesRising_26 : decode b_Log_areEntriesRising 26 = .ok (.iconst 4, 1) := by decide +kernel
theorem d_Log_areEntriesRising_27 : decode b_Log_areEntriesRising 27 = .ok (.invokevirtual 311, 3) := by decide +kernel
theorem d_Log_areEntriesRising_30 : decode b_Log_areEntriesRising 30 = .ok (.lstore 6, 2) := by decide +kernel
theorem d_Log_areEntriesRising_32 : decode b_Log_areEntriesRising 32 = .ok (.lload 6, 2) := by decide +kernel
theorem d_Log_areEntriesRising_34 : decode b_Log_areEntriesRising 34 = .ok (.lload_n 3, 1) := by decide +kernel
theorem d_Log_areEntriesRising_35 : decode b_Log_areEntriesRising 35 = .ok (.lcmp, 1) := by decide +kernel
theorem d_Log_areEntriesRising_36 : decode b_Log_areEntriesRising 36 = .ok (.ifCond .le 11, 3) := by decide +kernel
theorem d_Log_areEntriesRising_39 : decode b_Log_areEntriesRising 39 = .ok (.lload 6, 2) := by decide +kernel
theorem d_Log_areEntriesRising_41 : decode b_Log_areEntriesRising 41 = .ok (.invokestatic 349, 3) := by decide +kernel
theorem d_Log_areEntriesRising_44 : decode b_Log_areEntriesRising 44 = .ok (.ifCond .ne 5, 3) := by decide +kernel
theorem d_Log_areEntriesRising_47 : decode b_Log_areEntriesRising 47 = .ok (.iconst 0, 1) := by decide +kernel
theorem d_Log_areEntriesRising_48 : decode b_Log_areEntriesRising 48 = .ok (.ireturn, 1) := by decide +kernel
theorem d_Log_areEntriesRising_49 : decode b_Log_areEntriesRising 49 = .ok (.lload 6, 2) := by decide +kernel
theorem d_Log_areEntriesRising_51 : decode b_Log_areEntriesRising 51 = .ok (.lstore_n 3, 1) := by decide +kernel
theorem d_Log_areEntriesRising_52 : decode b_Log_areEntriesRising 52 = .ok (.iinc 5 1, 3) := by decide +kernel
theorem d_Log_areEntriesRising_55 : decode b_Log_areEntriesRising 55 = .ok (.goto (-50), 3) := by decide +kernel
theorem d_Log_areEntriesRising_58 : decode b_Log_areEntriesRising 58 = .ok (.iconst 1, 1) := by decide +kernel
theorem d_Log_areEntriesRising_59 : decode b_Log_areEntriesRising 59 = .ok (.ireturn, 1) := by decide +kernel
theorem d_Log_badAt_0 : decode b_Log_badAt 0 = .ok (.aload_n 0, 1) := by decide +kernel
theorem d_Log_badAt_1 : decode b_Log_badAt 1 = .ok (.getfield 69, 3) := by decide +kernel
theorem d_Log_badAt_4 : decode b_Log_badAt 4 = .ok (.ifCond .ne 6, 3) := by decide +kernel
theorem d_Log_badAt_7 : decode b_Log_badAt 7 = .ok (.bipush (-3), 2) := by decide +kernel
theorem d_Log_badAt_9 : decode b_Log_badAt 9 = .ok (.ireturn, 1) := by decide +kernel
theorem d_Log_badAt_10 : decode b_Log_badAt 10 = .ok (.iconst 0, 1) := by decide +kernel
theorem d_Log_badAt_11 : decode b_Log_badAt 11 = .ok (.istore_n 1, 1) := by decide +kernel
theorem d_Log_badAt_12 : decode b_Log_badAt 12 = .ok (.iload_n 1, 1) := by decide +kernel
theorem d_Log_badAt_13 : decode b_Log_badAt 13 = .ok (.iconst 2, 1) := by decide +kernel
theorem d_Log_badAt_14 : decode b_Log_badAt 14 = .ok (.if_icmp .ge 30, 3) := by decide +kernel
theorem d_Log_badAt_17 : decode b_Log_badAt 17 = .ok (.aload_n 0, 1) := by decide +kernel
theorem d_Log_badAt_18 : decode b_Log_badAt 18 = .ok (.getfield 14, 3) := by decide +kernel
theorem d_Log_badAt_21 : decode b_Log_badAt 21 = .ok (.iload_n 1, 1) := by decide +kernel
theorem d_Log_badAt_22 : decode b_Log_badAt 22 = .ok (.invokevirtual 210, 3) := by decide +kernel
theorem d_Log_badAt_25 : decode b_Log_badAt 25 = .ok (.ifCond .ne 13, 3) := by decide +kernel
theorem d_Log_badAt_28 : decode b_Log_badAt 28 = .ok (.aload_n 0, 1) := by decide +kernel
theorem d_Log_badAt_29 : decode b_Log_badAt 29 = .ok (.iload_n 1, 1) := by decide +kernel
theorem d_Log_badAt_30 : decode b_Log_badAt 30 = .ok (.invokevirtual 213, 3) := by decide +kernel
theorem d_Log_badAt_33 : decode b_Log_badAt 33 = .ok (.ifCond .ne 5, 3) := by decide +kernel
theorem d_Log_badAt_36 : decode b_Log_badAt 36 = .ok (.iload_n 1, 1) := by decide +kernel
theorem d_Log_badAt_37 : decode b_Log_badAt 37 = .ok (.ireturn, 1) := by decide +kernel
theorem d_Log_badAt_38 : decode b_Log_badAt 38 = .ok (.iinc 1 1, 3) := by decide +kernel
theorem d_Log_badAt_41 : decode b_Log_badAt 41 = .ok (.goto (-29), 3) := by decide +kernel
theorem d_Log_badAt_44 : decode b_Log_badAt 44 = .ok (.aload_n 0, 1) := by decide +kernel
theorem d_Log_badAt_45 : decode b_Log_badAt 45 = .ok (.getfield 14, 3) := by decide +kernel
theorem d_Log_badAt_48 : decode b_Log_badAt 48 = .ok (.invokevirtual 36, 3) := by decide +kernel
theorem d_Log_badAt_51 : decode b_Log_badAt 51 = .ok (.istore_n 1, 1) := by decide +kernel
theorem d_Log_badAt_52 : decode b_Log_badAt 52 = .ok (.iconst 0, 1) := by decide +kernel
theorem d_Log_badAt_53 : decode b_Log_badAt 53 = .ok (.istore_n 2, 1) := by decide +kernel
theorem d_Log_badAt_54 : decode b_Log_badAt 54 = .ok (.iload_n 2, 1) := by decide +kernel
theorem d_Log_badAt_55 : decode b_Log_badAt 55 = .ok (.aload_n 0, 1) := by decide +kernel
theorem d_Log_badAt_56 : decode b_Log_badAt 56 = .ok (.getfield 51, 3) := by decide +kernel
theorem d_Log_badAt_59 : decode b_Log_badAt 59 = .ok (.invokevirtual 87, 3) := by decide +kernel
theorem d_Log_badAt_62 : decode b_Log_badAt 62 = .ok (.if_icmp .ge 38, 3) := by decide +kernel
theorem d_Log_badAt_65 : decode b_Log_badAt 65 = .ok (.aload_n 0, 1) := by decide +kernel
theorem d_Log_badAt_66 : decode b_Log_badAt 66 = .ok (.getfield 51, 3) := by decide +kernel
theorem d_Log_badAt_69 : decode b_Log_badAt 69 = .ok (.iload_n 2, 1) := by decide +kernel
theorem d_Log_badAt_70 : decode b_Log_badAt 70 = .ok (.invokevirtual 198, 3) := by decide +kernel
theorem d_Log_badAt_73 : decode b_Log_badAt 73 = .ok (.iload_n 1, 1) := by decide +kernel
theorem d_Log_badAt_74 : decode b_Log_badAt 74 = .ok (.if_icmp .ge 20, 3) := by decide +kernel
theorem d_Log_badAt_77 : decode b_Log_badAt 77 = .ok (.aload_n 0, 1) := by decide +kernel
theorem d_Log_badAt_78 : decode b_Log_badAt 78 = .ok (.iload_n 2, 1) := by decide +kernel
theorem d_Log_badAt_79 : decode b_Log_badAt 79 = .ok (.invokevirtual 201, 3) := by decide +kernel
theorem d_Log_badAt_82 : decode b_Log_badAt 82 = .ok (.ifCond .ne 12, 3) := by decide +kernel
theorem d_Log_badAt_85 : decode b_Log_badAt 85 = .ok (.aload_n 0, 1) := by decide +kernel
theorem d_Log_badAt_86 : decode b_Log_badAt 86 = .ok (.getfield 51, 3) := by decide +kernel
theorem d_Log_badAt_89 : decode b_Log_badAt 89 = .ok (.iload_n 2, 1) := by decide +kernel
theorem d_Log_badAt_90 : decode b_Log_badAt 90 = .ok (.invokevirtual 198, 3) := by decide +kernel
theorem d_Log_badAt_93 : decode b_Log_badAt 93 = .ok (.istore_n 1, 1) := by decide +kernel
theorem d_Log_badAt_94 : decode b_Log_badAt 94 = .ok (.iinc 2 1, 3) := by decide +kernel
theorem d_Log_badAt_97 : decode b_Log_badAt 97 = .ok (.goto (-43), 3) := by decide +kernel
theorem d_Log_badAt_100 : decode b_Log_badAt 100 = .ok (.iconst 0, 1) := by decide +kernel
theorem d_Log_badAt_101 : decode b_Log_badAt 101 = .ok (.istore_n 2, 1) := by decide +kernel
theorem d_Log_badAt_102 : decode b_Log_badAt 102 = .ok (.iload_n 2, 1) := by decide +kernel
theorem d_Log_badAt_103 : decode b_Log_badAt 103 = .ok (.aload_n 0, 1) := by decide +kernel
theorem d_Log_badAt_104 : decode b_Log_badAt 104 = .ok (.getfield 58, 3) := by decide +kernel
theorem d_Log_badAt_107 : decode b_Log_badAt 107 = .ok (.invokevirtual 88, 3) := by decide +kernel
theorem d_Log_badAt_110 : decode b_Log_badAt 110 = .ok (.if_icmp .ge 38, 3) := by decide +kernel
theorem d_Log_badAt_113 : decode b_Log_badAt 113 = .ok (.aload_n 0, 1) := by decide +kernel
theorem d_Log_badAt_114 : decode b_Log_badAt 114 = .ok (.getfield 58, 3) := by decide +kernel
theorem d_Log_badAt_117 : decode b_Log_badAt 117 = .ok (.iload_n 2, 1) := by decide +kernel
theorem d_Log_badAt_118 : decode b_Log_badAt 118 = .ok (.invokevirtual 216, 3) := by decide +kernel
theorem d_Log_badAt_121 : decode b_Log_badAt 121 = .ok (.iload_n 1, 1) := by decide +kernel
theorem d_Log_badAt_122 : decode b_Log_badAt 122 = .ok (.if_icmp .ge 20, 3) := by decide +kernel
theorem d_Log_badAt_125 : decode b_Log_badAt 125 = .ok (.aload_n 0, 1) := by decide +kernel
theorem d_Log_badAt_126 : decode b_Log_badAt 126 = .ok (.iload_n 2, 1) := by decide +kernel
theorem d_Log_badAt_127 : decode b_Log_badAt 127 = .ok (.invokevirtual 217, 3) := by decide +kernel
theorem d_Log_badAt_130 : decode b_Log_badAt 130 = .ok (.ifCond .ne 12, 3) := by decide +kernel
theorem d_Log_badAt_133 : decode b_Log_badAt 133 = .ok (.aload_n 0, 1) := by decide +kernel
theorem d_Log_badAt_134 : decode b_Log_badAt 134 = .ok (.getfield 58, 3) := by decide +kernel
theorem d_Log_badAt_137 : decode b_Log_badAt 137 = .ok (.iload_n 2, 1) := by decide +kernel
theorem d_Log_badAt_138 : decode b_Log_badAt 138 = .ok (.invokevirtual 216, 3) := by decide +kernel
theorem d_Log_badAt_141 : decode b_Log_badAt 141 = .ok (.istore_n 1, 1) := by decide +kernel
theorem d_Log_badAt_142 : decode b_Log_badAt 142 = .ok (.iinc 2 1, 3) := by decide +kernel
theorem d_Log_badAt_145 : decode b_Log_badAt 145 = .ok (.goto (-43), 3) := by decide +kernel
theorem d_Log_badAt_148 : decode b_Log_badAt 148 = .ok (.iload_n 1, 1) := by decide +kernel
theorem d_Log_badAt_149 : decode b_Log_badAt 149 = .ok (.aload_n 0, 1) := by decide +kernel
theorem d_Log_badAt_150 : decode b_Log_badAt 150 = .ok (.getfield 14, 3) := by decide +kernel
theorem d_Log_badAt_153 : decode b_Log_badAt 153 = .ok (.invokevirtual 36, 3) := by decide +kernel
theorem d_Log_badAt_156 : decode b_Log_badAt 156 = .ok (.if_icmp .ge 7, 3) := by decide +kernel
theorem d_Log_badAt_159 : decode b_Log_badAt 159 = .ok (.iload_n 1, 1) := by decide +kernel
theorem d_Log_badAt_160 : decode b_Log_badAt 160 = .ok (.goto 4, 3) := by decide +kernel
theorem d_Log_badAt_163 : decode b_Log_badAt 163 = .ok (.iconst (-1), 1) := by decide +kernel
theorem d_Log_badAt_164 : decode b_Log_badAt 164 = .ok (.ireturn, 1) := by decide +kernel
theorem d_Log_behindPart_0 : decode b_Log_behindPart 0 = .ok (.iload_n 1, 1) := by decide +kernel
theorem d_Log_behindPart_1 : decode b_Log_behindPart 1 = .ok (.bipush 11, 2) := by decide +kernel
theorem d_Log_behindPart_3 : decode b_Log_behindPart 3 = .ok (.iadd, 1) := by decide +kernel
theorem d_Log_behindPart_4 : decode b_Log_behindPart 4 = .ok (.aload_n 0, 1) := by decide +kernel
theorem d_Log_behindPart_5 : decode b_Log_behindPart 5 = .ok (.iload_n 1, 1) := by decide +kernel
theorem d_Log_behindPart_6 : decode b_Log_behindPart 6 = .ok (.invokevirtual 396, 3) := by decide +kernel
theorem d_Log_behindPart_9 : decode b_Log_behindPart 9 = .ok (.iadd, 1) := by decide +kernel
theorem d_Log_behindPart_10 : decode b_Log_behindPart 10 = .ok (.ireturn, 1) := by decide +kernel
theorem d_Log_bodiesOf_0 : decode b_Log_bodiesOf 0 = .ok (.iload_n 0, 1) := by decide +kernel
theorem d_Log_bodiesOf_1 : decode b_Log_bodiesOf 1 = .ok (.bipush 31, 2) := by decide +kernel
theorem d_Log_bodiesOf_3 : decode b_Log_bodiesOf 3 = .ok (.iadd, 1) := by decide +kernel
theorem d_Log_bodiesOf_4 : decode b_Log_bodiesOf 4 = .ok (.iconst 1, 1) := by decide +kernel
theorem d_Log_bodiesOf_5 : decode b_Log_bodiesOf 5 = .ok (.isub, 1) := by decide +kernel
theorem d_Log_bodiesOf_6 : decode b_Log_bodiesOf 6 = .ok (.bipush 31, 2) := by decide +kernel
theorem d_Log_bodiesOf_8 : decode b_Log_bodiesOf 8 = .ok (.idiv, 1) := by decide +kernel
theorem d_Log_bodiesOf_9 : decode b_Log_bodiesOf 9 = .ok (.ireturn, 1) := by decide +kernel
theorem d_Log_byteAt_0 : decode b_Log_byteAt 0 = .ok (.aload_n 0, 1) := by decide +kernel
theorem d_Log_byteAt_1 : decode b_Log_byteAt 1 = .ok (.getfield 14, 3) := by decide +kernel
theorem d_Log_byteAt_4 : decode b_Log_byteAt 4 = .ok (.iload_n 1, 1) := by decide +kernel
theorem d_Log_byteAt_5 : decode b_Log_byteAt 5 = .ok (.iload_n 2, 1) := by decide +kernel
theorem d_Log_byteAt_6 : decode b_Log_byteAt 6 = .ok (.invokevirtual 220, 3) := by decide +kernel
theorem d_Log_byteAt_9 : decode b_Log_byteAt 9 = .ok (.ifCond .eq 15, 3) := by decide +kernel
theorem d_Log_byteAt_12 : decode b_Log_byteAt 12 = .ok (.aload_n 0, 1) := by decide +kernel
theorem d_Log_byteAt_13 : decode b_Log_byteAt 13 = .ok (.getfield 14, 3) := by decide +kernel
theorem d_Log_byteAt_16 : decode b_Log_byteAt 16 = .ok (.iload_n 1, 1) := by decide +kernel
theorem d_Log_byteAt_17 : decode b_Log_byteAt 17 = .ok (.iload_n 2, 1) := by decide +kernel
theorem d_Log_byteAt_18 : decode b_Log_byteAt 18 = .ok (.invokevirtual 226, 3) := by decide +kernel
theorem d_Log_byteAt_21 : decode b_Log_byteAt 21 = .ok (.goto 5, 3) := by decide +kernel
theorem d_Log_byteAt_24 : decode b_Log_byteAt 24 = .ok (.bipush (-2), 2) := by decide +kernel
theorem d_Log_byteAt_26 : decode b_Log_byteAt 26 = .ok (.ireturn, 1) := by decide +kernel
theorem d_Log_byteOfPart_0 : decode b_Log_byteOfPart 0 = .ok (.aload_n 0, 1) := by decide +kernel
theorem d_Log_byteOfPart_1 : decode b_Log_byteOfPart 1 = .ok (.getfield 14, 3) := by decide +kernel
theorem d_Log_byteOfPart_4 : decode b_Log_byteOfPart 4 = .ok (.aload_n 0, 1) := by decide +kernel
theorem d_Log_byteOfPart_5 : decode b_Log_byteOfPart 5 = .ok (.getfield 51, 3) := by decide +kernel
theorem d_Log_byteOfPart_8 : decode b_Log_byteOfPart 8 = .ok (.iload_n 1, 1) := by decide +kernel
theorem d_Log_byteOfPart_9 : decode b_Log_byteOfPart 9 = .ok (.invokevirtual 198, 3) := by decide +kernel
theorem d_Log_byteOfPart_12 : decode b_Log_byteOfPart 12 = .ok (.iconst 1, 1) := by decide +kernel
theorem d_Log_byteOfPart_13 : decode b_Log_byteOfPart 13 = .ok (.iadd, 1) := by decide +kernel
theorem d_Log_byteOfPart_14 : decode b_Log_byteOfPart 14 = .ok (.iload_n 2, 1) := by decide +kernel
theorem d_Log_byteOfPart_15 : decode b_Log_byteOfPart 15 = .ok (.bipush 31, 2) := by decide +kernel
theorem d_Log_byteOfPart_17 : decode b_Log_byteOfPart 17 = .ok (.idiv, 1) := by decide +kernel
theorem d_Log_byteOfPart_18 : decode b_Log_byteOfPart 18 = .ok (.iadd, 1) := by decide +kernel
theorem d_Log_byteOfPart_19 : decode b_Log_byteOfPart 19 = .ok (.iconst 1, 1) := by decide +kernel
theorem d_Log_byteOfPart_20 : decode b_Log_byteOfPart 20 = .ok (.iload_n 2, 1) := by decide +kernel
theorem d_Log_byteOfPart_21 : decode b_Log_byteOfPart 21 = .ok (.bipush 31, 2) := by decide +kernel
theorem d_Log_byteOfPart_23 : decode b_Log_byteOfPart 23 = .ok (.irem, 1) := by decide +kernel
theorem d_Log_byteOfPart_24 : decode b_Log_byteOfPart 24 = .ok (.iadd, 1) := by decide +kernel
theorem d_Log_byteOfPart_25 : decode b_Log_byteOfPart 25 = .ok (.invokevirtual 226, 3) := by decide +kernel
theorem d_Log_byteOfPart_28 : decode b_Log_byteOfPart 28 = .ok (.ireturn, 1) := by decide +kernel
theorem d_Log_close_0 : decode b_Log_close 0 = .ok (.aload_n 0, 1) := by decide +kernel
theorem d_Log_close_1 : decode b_Log_close 1 = .ok (.getfield 69, 3) := by decide +kernel
theorem d_Log_close_4 : decode b_Log_close 4 = .ok (.istore_n 1, 1) := by decide +kernel
theorem d_Log_close_5 : decode b_Log_close 5 = .ok (.aload_n 0, 1) := by decide +kernel
theorem d_Log_close_6 : decode b_Log_close 6 = .ok (.iconst 0, 1) := by decide +kernel
theorem d_Log_close_7 : decode b_Log_close 7 = .ok (.putfield 69, 3) := by decide +kernel
theorem d_Log_close_10 : decode b_Log_close 10 = .ok (.iload_n 1, 1) := by decide +kernel
theorem d_Log_close_11 : decode b_Log_close 11 = .ok (.ireturn, 1) := by decide +kernel
theorem d_Log_countNaming_0 : decode b_Log_countNaming 0 = .ok (.aload_n 0, 1) := by decide +kernel
theorem d_Log_countNaming_1 : decode b_Log_countNaming 1 = .ok (.getfield 58, 3) := by decide +kernel
theorem d_Log_countNaming_4 : decode b_Log_countNaming 4 = .ok (.iload_n 1, 1) := by decide +kernel
theorem d_Log_countNaming_5 : decode b_Log_countNaming 5 = .ok (.invokevirtual 369, 3) := by decide +kernel
theorem d_Log_countNaming_8 : decode b_Log_countNaming 8 = .ok (.aload_n 0, 1) := by decide +kernel
theorem d_Log_countNaming_9 : decode b_Log_countNaming 9 = .ok (.getfield 62, 3) := by decide +kernel
theorem d_Log_countNaming_12 : decode b_Log_countNaming 12 = .ok (.iload_n 1, 1) := by decide +kernel
theorem d_Log_countNaming_13 : decode b_Log_countNaming 13 = .ok (.invokevirtual 369, 3) := by decide +kernel
theorem d_Log_countNaming_16 : decode b_Log_countNaming 16 = .ok (.iadd, 1) := by decide +kernel
theorem d_Log_countNaming_17 : decode b_Log_countNaming 17 = .ok (.ireturn, 1) := by decide +kernel
theorem d_Log_cut_0 : decode b_Log_cut 0 = .ok (.iload_n 1, 1) := by decide +kernel
theorem d_Log_cut_1 : decode b_Log_cut 1 = .ok (.iconst (-1), 1) := by decide +kernel
theorem d_Log_cut_2 : decode b_Log_cut 2 = .ok (.if_icmp .lt 10, 3) := by decide +kernel
theorem d_Log_cut_5 : decode b_Log_cut 5 = .ok (.iload_n 1, 1) := by decide +kernel
theorem d_Log_cut_6 : decode b_Log_cut 6 = .ok (.sipush 20000, 3) := by decide +kernel
theorem d_Log_cut_9 : decode b_Log_cut 9 = .ok (.if_icmp .le 5, 3) := by decide +kernel
theorem d_Log_cut_12 : decode b_Log_cut 12 = .ok (.iconst 0, 1) := by decide +kernel
theorem d_Log_cut_13 : decode b_Log_cut 13 = .ok (.ireturn, 1) := by decide +kernel
theorem d_Log_cut_14 : decode b_Log_cut 14 = .ok (.aload_n 0, 1) := by decide +kernel
theorem d_Log_cut_15 : decode b_Log_cut 15 = .ok (.getfield 14, 3) := by decide +kernel
theorem d_Log_cut_18 : decode b_Log_cut 18 = .ok (.iload_n 1, 1) := by decide +kernel
theorem d_Log_cut_19 : decode b_Log_cut 19 = .ok (.invokevirtual 152, 3) := by decide +kernel
theorem d_Log_cut_22 : decode b_Log_cut 22 = .ok (.iconst 1, 1) := by decide +kernel
theorem d_Log_cut_23 : decode b_Log_cut 23 = .ok (.ireturn, 1) := by decide +kernel
theorem d_Log_digestStep_0 : decode b_Log_digestStep 0 = .ok (.lload_n 0, 1) := by decide +kernel
theorem d_Log_digestStep_1 : decode b_Log_digestStep 1 = .ok (.iload_n 2, 1) := by decide +kernel
theorem d_Log_digestStep_2 : decode b_Log_digestStep 2 = .ok (.i2l, 1) := by decide +kernel
theorem d_Log_digestStep_3 : decode b_Log_digestStep 3 = .ok (.lxor, 1) := by decide +kernel
theorem d_Log_digestStep_4 : decode b_Log_digestStep 4 = .ok (.lstore_n 3, 1) := by decide +kernel
theorem d_Log_digestStep_5 : decode b_Log_digestStep 5 = .ok (.lload_n 3, 1) := by decide +kernel
theorem d_Log_digestStep_6 : decode b_Log_digestStep 6 = .ok (.bipush 53, 2) := by decide +kernel
theorem d_Log_digestStep_8 : decode b_Log_digestStep 8 = .ok (.lshl, 1) := by decide +kernel
theorem d_Log_digestStep_9 : decode b_Log_digestStep 9 = .ok (.lload_n 3, 1) := by decide +kernel
theorem d_Log_digestStep_10 : decode b_Log_digestStep 10 = .ok (.bipush 11, 2) := by decide +kernel
theorem d_Log_digestStep_12 : decode b_Log_digestStep 12 = .ok (.lushr, 1) := by decide +kernel
theorem d_Log_digestStep_13 : decode b_Log_digestStep 13 = .ok (.lor, 1) := by decide +kernel
theorem d_Log_digestStep_14 : decode b_Log_digestStep 14 = .ok (.ldc2_w 255, 3) := by decide +kernel
theorem d_Log_digestStep_17 : decode b_Log_digestStep 17 = .ok (.lmul, 1) := by decide +kernel
theorem d_Log_digestStep_18 : decode b_Log_digestStep 18 = .ok (.lreturn, 1) := by decide +kernel
theorem d_Log_drawEntry_0 : decode b_Log_drawEntry 0 = .ok (.aload_n 0, 1) := by decide +kernel
theorem d_Log_drawEntry_1 : decode b_Log_drawEntry 1 = .ok (.getfield 51, 3) := by decide +kernel
theorem d_Log_drawEntry_4 : decode b_Log_drawEntry 4 = .ok (.aload_n 0, 1) := by decide +kernel
theorem d_Log_drawEntry_5 : decode b_Log_drawEntry 5 = .ok (.getfield 51, 3) := by decide +kernel
theorem d_Log_drawEntry_8 : decode b_Log_drawEntry 8 = .ok (.iload_n 2, 1) := by decide +kernel
theorem d_Log_drawEntry_9 : decode b_Log_drawEntry 9 = .ok (.invokevirtual 186, 3) := by decide +kernel
theorem d_Log_drawEntry_12 : decode b_Log_drawEntry 12 = .ok (.invokevirtual 198, 3) := by decide +kernel
theorem d_Log_drawEntry_15 : decode b_Log_drawEntry 15 = .ok (.istore_n 3, 1) := by decide +kernel
theorem d_Log_drawEntry_16 : decode b_Log_drawEntry 16 = .ok (.bipush 32, 2) := by decide +kernel
theorem d_Log_drawEntry_18 : decode b_Log_drawEntry 18 = .ok (.iconst 0, 1) := by decide +kernel
theorem d_Log_drawEntry_19 : decode b_Log_drawEntry 19 = .ok (.iload_n 1, 1) := by decide +kernel
theorem d_Log_drawEntry_20 : decode b_Log_drawEntry 20 = .ok (.invokestatic 303, 3) := by decide +kernel
theorem d_Log_drawEntry_23 : decode b_Log_drawEntry 23 = .ok (.imul, 1) := by decide +kernel
theorem d_Log_drawEntry_24 : decode b_Log_drawEntry 24 = .ok (.istore 4, 2) := by decide +kernel
theorem d_Log_drawEntry_26 : decode b_Log_drawEntry 26 = .ok (.aload_n 0, 1) := by decide +kernel
theorem d_Log_drawEntry_27 : decode b_Log_drawEntry 27 = .ok (.getfield 25, 3) := by decide +kernel
theorem d_Log_drawEntry_30 : decode b_Log_drawEntry 30 = .ok (.iload 4, 2) := by decide +kernel
theorem d_Log_drawEntry_32 : decode b_Log_drawEntry 32 = .ok (.ldc2_w 306, 3) := by decide +kernel
theorem d_Log_drawEntry_35 : decode b_Log_drawEntry 35 = .ok (.iconst 1, 1) := by decide +kernel
theorem d_Log_drawEntry_36 : decode b_Log_drawEntry 36 = .ok (.invokevirtual 286, 3) := by decide +kernel
theorem d_Log_drawEntry_39 : decode b_Log_drawEntry 39 = .ok (.iload 4, 2) := by decide +kernel
theorem d_Log_drawEntry_41 : decode b_Log_drawEntry 41 = .ok (.iload_n 1, 1) := by decide +kernel
theorem d_Log_drawEntry_42 : decode b_Log_drawEntry 42 = .ok (.invokestatic 308, 3) := by decide +kernel
theorem d_Log_drawEntry_45 : decode b_Log_drawEntry 45 = .ok (.iadd, 1) := by decide +kernel
theorem d_Log_drawEntry_46 : decode b_Log_drawEntry 46 = .ok (.istore 4, 2) := by decide +kernel
theorem d_Log_drawEntry_48 : decode b_Log_drawEntry 48 = .ok (.aload_n 0, 1) := by decide +kernel
theorem d_Log_drawEntry_49 : decode b_Log_drawEntry 49 = .ok (.getfield 25, 3) := by decide +kernel
theorem d_Log_drawEntry_52 : decode b_Log_drawEntry 52 = .ok (.iload 4, 2) := by decide +kernel
theorem d_Log_drawEntry_54 : decode b_Log_drawEntry 54 = .ok (.iload_n 2, 1) := by decide +kernel
theorem d_Log_drawEntry_55 : decode b_Log_drawEntry 55 = .ok (.i2l, 1) := by decide +kernel
theorem d_Log_drawEntry_56 : decode b_Log_drawEntry 56 = .ok (.iconst 4, 1) := by decide +kernel
theorem d_Log_drawEntry_57 : decode b_Log_drawEntry 57 = .ok (.invokevirtual 286, 3) := by decide +kernel
theorem d_Log_drawEntry_60 : decode b_Log_drawEntry 60 = .ok (.aload_n 0, 1) := by decide +kernel
theorem d_Log_drawEntry_61 : decode b_Log_drawEntry 61 = .ok (.getfield 25, 3) := by decide +kernel
theorem d_Log_drawEntry_64 : decode b_Log_drawEntry 64 = .ok (.iload 4, 2) := by decide +kernel
theorem d_Log_drawEntry_66 : decode b_Log_drawEntry 66 = .ok (.iconst 4, 1) := by decide +kernel
theorem d_Log_drawEntry_67 : decode b_Log_drawEntry 67 = .ok (.iadd, 1) := by decide +kernel
theorem d_Log_drawEntry_68 : decode b_Log_drawEntry 68 = .ok (.iload_n 3, 1) := by decide +kernel
theorem d_Log_drawEntry_69 : decode b_Log_drawEntry 69 = .ok (.i2l, 1) := by decide +kernel
theorem d_Log_drawEntry_70 : decode b_Log_drawEntry 70 = .ok (.iconst 2, 1) := by decide +kernel
theorem d_Log_drawEntry_71 : decode b_Log_drawEntry 71 = .ok (.invokevirtual 286, 3) := by decide +kernel
theorem d_Log_drawEntry_74 : decode b_Log_drawEntry 74 = .ok (.aload_n 0, 1) := by decide +kernel
theorem d_Log_drawEntry_75 : decode b_Log_drawEntry 75 = .ok (.getfield 25, 3) := by decide +kernel
theorem d_Log_drawEntry_78 : decode b_Log_drawEntry 78 = .ok (.iload 4, 2) := by decide +kernel
theorem d_Log_drawEntry_80 : decode b_Log_drawEntry 80 = .ok (.bipush 6, 2) := by decide +kernel
theorem d_Log_drawEntry_82 : decode b_Log_drawEntry 82 = .ok (.iadd, 1) := by decide +kernel
theorem d_Log_drawEntry_83 : decode b_Log_drawEntry 83 = .ok (.aload_n 0, 1) := by decide +kernel
theorem d_Log_drawEntry_84 : decode b_Log_drawEntry 84 = .ok (.getfield 14, 3) := by decide +kernel
theorem d_Log_drawEntry_87 : decode b_Log_drawEntry 87 = .ok (.iload_n 3, 1) := by decide +kernel
theorem d_Log_drawEntry_88 : decode b_Log_drawEntry 88 = .ok (.bipush 16, 2) := by decide +kernel
theorem d_Log_drawEntry_90 : decode b_Log_drawEntry 90 = .ok (.bipush 8, 2) := by decide +kernel
theorem d_Log_drawEntry_92 : decode b_Log_drawEntry 92 = .ok (.invokevirtual 311, 3) := by decide +kernel
theorem d_Log_drawEntry_95 : decode b_Log_drawEntry 95 = .ok (.bipush 8, 2) := by decide +kernel
theorem d_Log_drawEntry_97 : decode b_Log_drawEntry 97 = .ok (.invokevirtual 286, 3) := by decide +kernel
theorem d_Log_drawEntry_100 : decode b_Log_drawEntry 100 = .ok (.return_, 1) := by decide +kernel
theorem d_Log_drawHead_0 : decode b_Log_drawHead 0 = .ok (.aload_n 0, 1) := by decide +kernel
theorem d_Log_drawHead_1 : decode b_Log_drawHead 1 = .ok (.getfield 25, 3) := by decide +kernel
theorem d_Log_drawHead_4 : decode b_Log_drawHead 4 = .ok (.invokevirtual 80, 3) := by decide +kernel
theorem d_Log_drawHead_7 : decode b_Log_drawHead 7 = .ok (.aload_n 0, 1) := by decide +kernel
theorem d_Log_drawHead_8 : decode b_Log_drawHead 8 = .ok (.getfield 25, 3) := by decide +kernel
theorem d_Log_drawHead_11 : decode b_Log_drawHead 11 = .ok (.iconst 0, 1) := by decide +kernel
theorem d_Log_drawHead_12 : decode b_Log_drawHead 12 = .ok (.ldc2_w 315, 3) := by decide +kernel
theorem d_Log_drawHead_15 : decode b_Log_drawHead 15 = .ok (.iconst 1, 1) := by decide +kernel
theorem d_Log_drawHead_16 : decode b_Log_drawHead 16 = .ok (.invokevirtual 286, 3) := by decide +kernel
theorem d_Log_drawHead_19 : decode b_Log_drawHead 19 = .ok (.aload_n 0, 1) := by decide +kernel
theorem d_Log_drawHead_20 : decode b_Log_drawHead 20 = .ok (.getfield 25, 3) := by decide +kernel
theorem d_Log_drawHead_23 : decode b_Log_drawHead 23 = .ok (.iconst 4, 1) := by decide +kernel
theorem d_Log_drawHead_24 : decode b_Log_drawHead 24 = .ok (.aload_n 0, 1) := by decide +kernel
theorem d_Log_drawHead_25 : decode b_Log_drawHead 25 = .ok (.getfield 137, 3) := by decide +kernel
theorem d_Log_drawHead_28 : decode b_Log_drawHead 28 = .ok (.i2l, 1) := by decide +kernel
theorem d_Log_drawHead_29 : decode b_Log_drawHead 29 = .ok (.iconst 4, 1) := by decide +kernel
theorem d_Log_drawHead_30 : decode b_Log_drawHead 30 = .ok (.invokevirtual 286, 3) := by decide +kernel
theorem d_Log_drawHead_33 : decode b_Log_drawHead 33 = .ok (.iconst 0, 1) := by decide +kernel
theorem d_Log_drawHead_34 : decode b_Log_drawHead 34 = .ok (.istore_n 1, 1) := by decide +kernel
theorem d_Log_drawHead_35 : decode b_Log_drawHead 35 = .ok (.iload_n 1, 1) := by decide +kernel
theorem d_Log_drawHead_36 : decode b_Log_drawHead 36 = .ok (.bipush 8, 2) := by decide +kernel
theorem d_Log_drawHead_38 : decode b_Log_drawHead 38 = .ok (.if_icmp .ge 30, 3) := by decide +kernel
theorem d_Log_drawHead_41 : decode b_Log_drawHead 41 = .ok (.aload_n 0, 1) := by decide +kernel
theorem d_Log_drawHead_42 : decode b_Log_drawHead 42 = .ok (.getfield 25, 3) := by decide +kernel
theorem d_Log_drawHead_45 : decode b_Log_drawHead 45 = .ok (.bipush 8, 2) := by decide +kernel
theorem d_Log_drawHead_47 : decode b_Log_drawHead 47 = .ok (.iconst 2, 1) := by decide +kernel
theorem d_Log_drawHead_48 : decode b_Log_drawHead 48 = .ok (.iload_n 1, 1) := by decide +kernel
theorem d_Log_drawHead_49 : decode b_Log_drawHead 49 = .ok (.imul, 1) := by decide +kernel
theorem d_Log_drawHead_50 : decode b_Log_drawHead 50 = .ok (.iadd, 1) := by decide +kernel
theorem d_Log_drawHead_51 : decode b_Log_drawHead 51 = .ok (.aload_n 0, 1) := by decide +kernel
theorem d_Log_drawHead_52 : decode b_Log_drawHead 52 = .ok (.getfield 65, 3) := by decide +kernel
theorem d_Log_drawHead_55 : decode b_Log_drawHead 55 = .ok (.iload_n 1, 1) := by decide +kernel
theorem d_Log_drawHead_56 : decode b_Log_drawHead 56 = .ok (.iaload, 1) := by decide +kernel
theorem d_Log_drawHead_57 : decode b_Log_drawHead 57 = .ok (.i2l, 1) := by decide +kernel
theorem d_Log_drawHead_58 : decode b_Log_drawHead 58 = .ok (.iconst 2, 1) := by decide +kernel
theorem d_Log_drawHead_59 : decode b_Log_drawHead 59 = .ok (.invokevirtual 286, 3) := by decide +kernel
theorem d_Log_drawHead_62 : decode b_Log_drawHead 62 = .ok (.iinc 1 1, 3) := by decide +kernel
theorem d_Log_drawHead_65 : decode b_Log_drawHead 65 = .ok (.goto (-30), 3) := by decide +kernel
theorem d_Log_drawHead_68 : decode b_Log_drawHead 68 = .ok (.aload_n 0, 1) := by decide +kernel
theorem d_Log_drawHead_69 : decode b_Log_drawHead 69 = .ok (.invokevirtual 294, 3) := by decide +kernel
theorem d_Log_drawHead_72 : decode b_Log_drawHead 72 = .ok (.return_, 1) := by decide +kernel
theorem d_Log_drawMark_0 : decode b_Log_drawMark 0 = .ok (.aload_n 0, 1) := by decide +kernel
theorem d_Log_drawMark_1 : decode b_Log_drawMark 1 = .ok (.getfield 62, 3) := by decide +kernel
theorem d_Log_drawMark_4 : decode b_Log_drawMark 4 = .ok (.iload_n 1, 1) := by decide +kernel
theorem d_Log_drawMark_5 : decode b_Log_drawMark 5 = .ok (.invokevirtual 101, 3) := by decide +kernel
theorem d_Log_drawMark_8 : decode b_Log_drawMark 8 = .ok (.istore_n 2, 1) := by decide +kernel
theorem d_Log_drawMark_9 : decode b_Log_drawMark 9 = .ok (.aload_n 0, 1) := by decide +kernel
theorem d_Log_drawMark_10 : decode b_Log_drawMark 10 = .ok (.getfield 25, 3) := by decide +kernel
theorem d_Log_drawMark_13 : decode b_Log_drawMark 13 = .ok (.invokevirtual 80, 3) := by decide +kernel
theorem d_Log_drawMark_16 : decode b_Log_drawMark 16 = .ok (.iconst 0, 1) := by decide +kernel
theorem d_Log_drawMark_17 : decode b_Log_drawMark 17 = .ok (.istore_n 3, 1) := by decide +kernel
theorem d_Log_drawMark_18 : decode b_Log_drawMark 18 = .ok (.iload_n 3, 1) := by decide +kernel
theorem d_Log_drawMark_19 : decode b_Log_drawMark 19 = .ok (.iload_n 2, 1) := by decide +kernel
theorem d_Log_drawMark_20 : decode b_Log_drawMark 20 = .ok (.if_icmp .ge 23, 3) := by decide +kernel
theorem d_Log_drawMark_23 : decode b_Log_drawMark 23 = .ok (.aload_n 0, 1) := by decide +kernel
theorem d_Log_drawMark_24 : decode b_Log_drawMark 24 = .ok (.iload_n 3, 1) := by decide +kernel
theorem d_Log_drawMark_25 : decode b_Log_drawMark 25 = .ok (.aload_n 0, 1) := by decide +kernel
theorem d_Log_drawMark_26 : decode b_Log_drawMark 26 = .ok (.getfield 62, 3) := by decide +kernel
theorem d_Log_drawMark_29 : decode b_Log_drawMark 29 = .ok (.iload_n 1, 1) := by decide +kernel
theorem d_Log_drawMark_30 : decode b_Log_drawMark 30 = .ok (.iload_n 3, 1) := by decide +kernel
theorem d_Log_drawMark_31 : decode b_Log_drawMark 31 = .ok (.invokevirtual 121, 3) := by decide +kernel
theorem d_Log_drawMark_34 : decode b_Log_drawMark 34 = .ok (.invokevirtual 297, 3) := by decide +kernel
theorem d_Log_drawMark_37 : decode b_Log_drawMark 37 = .ok (.iinc 3 1, 3) := by decide +kernel
theorem d_Log_drawMark_40 : decode b_Log_drawMark 40 = .ok (.goto (-22), 3) := by decide +kernel
theorem d_Log_drawMark_43 : decode b_Log_drawMark 43 = .ok (.aload_n 0, 1) := by decide +kernel
theorem d_Log_drawMark_44 : decode b_Log_drawMark 44 = .ok (.getfield 25, 3) := by decide +kernel
theorem d_Log_drawMark_47 : decode b_Log_drawMark 47 = .ok (.bipush 32, 2) := by decide +kernel
theorem d_Log_drawMark_49 : decode b_Log_drawMark 49 = .ok (.bipush 32, 2) := by decide +kernel
theorem d_Log_drawMark_51 : decode b_Log_drawMark 51 = .ok (.iload_n 2, 1) := by decide +kernel
theorem d_Log_drawMark_52 : decode b_Log_drawMark 52 = .ok (.invokestatic 104, 3) := by decide +kernel
theorem d_Log_drawMark_55 : decode b_Log_drawMark 55 = .ok (.imul, 1) := by decide +kernel
theorem d_Log_drawMark_56 : decode b_Log_drawMark 56 = .ok (.invokevirtual 290, 3) := by decide +kernel
theorem d_Log_drawMark_59 : decode b_Log_drawMark 59 = .ok (.lstore_n 3, 1) := by decide +kernel
theorem d_Log_drawMark_60 : decode b_Log_drawMark 60 = .ok (.aload_n 0, 1) := by decide +kernel
theorem d_Log_drawMark_61 : decode b_Log_drawMark 61 = .ok (.getfield 25, 3) := by decide +kernel
theorem d_Log_drawMark_64 : decode b_Log_drawMark 64 = .ok (.iconst 0, 1) := by decide +kernel
theorem d_Log_drawMark_65 : decode b_Log_drawMark 65 = .ok (.ldc2_w 301, 3) := by decide +kernel
theorem d_Log_drawMark_68 : decode b_Log_drawMark 68 = .ok (.iconst 1, 1) := by decide +kernel
theorem d_Log_drawMark_69 : decode b_Log_drawMark 69 = .ok (.invokevirtual 286, 3) := by decide +kernel
theorem d_Log_drawMark_72 : decode b_Log_drawMark 72 = .ok (.aload_n 0, 1) := by decide +kernel
theorem d_Log_drawMark_73 : decode b_Log_drawMark 73 = .ok (.getfield 25, 3) := by decide +kernel
theorem d_Log_drawMark_76 : decode b_Log_drawMark 76 = .ok (.iconst 1, 1) := by decide +kernel
theorem d_Log_drawMark_77 : decode b_Log_drawMark 77 = .ok (.iload_n 2, 1) := by decide +kernel
theorem d_Log_drawMark_78 : decode b_Log_drawMark 78 = .ok (.i2l, 1) := by decide +kernel
theorem d_Log_drawMark_79 : decode b_Log_drawMark 79 = .ok (.iconst 1, 1) := by decide +kernel
theorem d_Log_drawMark_80 : decode b_Log_drawMark 80 = .ok (.invokevirtual 286, 3) := by decide +kernel
theorem d_Log_drawMark_83 : decode b_Log_drawMark 83 = .ok (.aload_n 0, 1) := by decide +kernel
theorem d_Log_drawMark_84 : decode b_Log_drawMark 84 = .ok (.getfield 25, 3) := by decide +kernel
theorem d_Log_drawMark_87 : decode b_Log_drawMark 87 = .ok (.iconst 4, 1) := by decide +kernel
theorem d_Log_drawMark_88 : decode b_Log_drawMark 88 = .ok (.aload_n 0, 1) := by decide +kernel
theorem d_Log_drawMark_89 : decode b_Log_drawMark 89 = .ok (.getfield 62, 3) := by decide +kernel
theorem d_Log_drawMark_92 : decode b_Log_drawMark 92 = .ok (.iload_n 1, 1) := by decide +kernel
theorem d_Log_drawMark_93 : decode b_Log_drawMark 93 = .ok (.invokevirtual 172, 3) := by decide +kernel
theorem d_Log_drawMark_96 : decode b_Log_drawMark 96 = .ok (.i2l, 1) := by decide +kernel
theorem d_Log_drawMark_97 : decode b_Log_drawMark 97 = .ok (.iconst 4, 1) := by decide +kernel
theorem d_Log_drawMark_98 : decode b_Log_drawMark 98 = .ok (.invokevirtual 286, 3) := by decide +kernel
theorem d_Log_drawMark_101 : decode b_Log_drawMark 101 = .ok (.aload_n 0, 1) := by decide +kernel
theorem d_Log_drawMark_102 : decode b_Log_drawMark 102 = .ok (.getfield 25, 3) := by decide +kernel
theorem d_Log_drawMark_105 : decode b_Log_drawMark 105 = .ok (.bipush 8, 2) := by decide +kernel
theorem d_Log_drawMark_107 : decode b_Log_drawMark 107 = .ok (.lload_n 3, 1) := by decide +kernel
theorem d_Log_drawMark_108 : decode b_Log_drawMark 108 = .ok (.bipush 8, 2) := by decide +kernel
theorem d_Log_drawMark_110 : decode b_Log_drawMark 110 = .ok (.invokevirtual 286, 3) := by decide +kernel
theorem d_Log_drawMark_113 : decode b_Log_drawMark 113 = .ok (.aload_n 0, 1) := by decide +kernel
theorem d_Log_drawMark_114 : decode b_Log_drawMark 114 = .ok (.invokevirtual 294, 3) := by decide +kernel
theorem d_Log_drawMark_117 : decode b_Log_drawMark 117 = .ok (.lload_n 3, 1) := by decide +kernel
theorem d_Log_drawMark_118 : decode b_Log_drawMark 118 = .ok (.lreturn, 1) := by decide +kernel
theorem d_Log_drawPart_0 : decode b_Log_drawPart 0 = .ok (.aload_n 0, 1) := by decide +kernel
theorem d_Log_drawPart_1 : decode b_Log_drawPart 1 = .ok (.getfield 25, 3) := by decide +kernel
theorem d_Log_drawPart_4 : decode b_Log_drawPart 4 = .ok (.invokevirtual 80, 3) := by decide +kernel
theorem d_Log_drawPart_7 : decode b_Log_drawPart 7 = .ok (.iconst 1, 1) := by decide +kernel
theorem d_Log_drawPart_8 : decode b_Log_drawPart 8 = .ok (.istore 7, 2) := by decide +kernel
theorem d_Log_drawPart_10 : decode b_Log_drawPart 10 = .ok (.iload 7, 2) := by decide +kernel
theorem d_Log_drawPart_12 : decode b_Log_drawPart 12 = .ok (.iload 6, 2) := by decide +kernel
theorem d_Log_drawPart_14 : decode b_Log_drawPart 14 = .ok (.invokestatic 259, 3) := by decide +kernel
theorem d_Log_drawPart_17 : decode b_Log_drawPart 17 = .ok (.if_icmp .gt 25, 3) := by decide +kernel
theorem d_Log_drawPart_20 : decode b_Log_drawPart 20 = .ok (.aload_n 0, 1) := by decide +kernel
theorem d_Log_drawPart_21 : decode b_Log_drawPart 21 = .ok (.getfield 25, 3) := by decide +kernel
theorem d_Log_drawPart_24 : decode b_Log_drawPart 24 = .ok (.iload 7, 2) := by decide +kernel
theorem d_Log_drawPart_26 : decode b_Log_drawPart 26 = .ok (.bipush 32, 2) := by decide +kernel
theorem d_Log_drawPart_28 : decode b_Log_drawPart 28 = .ok (.imul, 1) := by decide +kernel
theorem d_Log_drawPart_29 : decode b_Log_drawPart 29 = .ok (.ldc2_w 284, 3) := by decide +kernel
theorem d_Log_drawPart_32 : decode b_Log_drawPart 32 = .ok (.iconst 1, 1) := by decide +kernel
theorem d_Log_drawPart_33 : decode b_Log_drawPart 33 = .ok (.invokevirtual 286, 3) := by decide +kernel
theorem d_Log_drawPart_36 : decode b_Log_drawPart 36 = .ok (.iinc 7 1, 3) := by decide +kernel
theorem d_Log_drawPart_39 : decode b_Log_drawPart 39 = .ok (.goto (-29), 3) := by decide +kernel
theorem d_Log_drawPart_42 : decode b_Log_drawPart 42 = .ok (.iconst 0, 1) := by decide +kernel
theorem d_Log_drawPart_43 : decode b_Log_drawPart 43 = .ok (.istore 7, 2) := by decide +kernel
theorem d_Log_drawPart_45 : decode b_Log_drawPart 45 = .ok (.iload 7, 2) := by decide +kernel
theorem d_Log_drawPart_47 : decode b_Log_drawPart 47 = .ok (.iload 6, 2) := by decide +kernel
theorem d_Log_drawPart_49 : decode b_Log_drawPart 49 = .ok (.if_icmp .ge 48, 3) := by decide +kernel
theorem d_Log_drawPart_52 : decode b_Log_drawPart 52 = .ok (.aload_n 0, 1) := by decide +kernel
theorem d_Log_drawPart_53 : decode b_Log_drawPart 53 = .ok (.getfield 25, 3) := by decide +kernel
theorem d_Log_drawPart_56 : decode b_Log_drawPart 56 = .ok (.bipush 32, 2) := by decide +kernel
theorem d_Log_drawPart_58 : decode b_Log_drawPart 58 = .ok (.iconst 1, 1) := by decide +kernel
theorem d_Log_drawPart_59 : decode b_Log_drawPart 59 = .ok (.iload 7, 2) := by decide +kernel
theorem d_Log_drawPart_61 : decode b_Log_drawPart 61 = .ok (.bipush 31, 2) := by decide +kernel
theorem d_Log_drawPart_63 : decode b_Log_drawPart 63 = .ok (.idiv, 1) := by decide +kernel
theorem d_Log_drawPart_64 : decode b_Log_drawPart 64 = .ok (.iadd, 1) := by decide +kernel
theorem d_Log_drawPart_65 : decode b_Log_drawPart 65 = .ok (.imul, 1) := by decide +kernel
theorem d_Log_drawPart_66 : decode b_Log_drawPart 66 = .ok (.iconst 1, 1) := by decide +kernel
theorem d_Log_drawPart_67 : decode b_Log_drawPart 67 = .ok (.iadd, 1) := by decide +kernel
theorem d_Log_drawPart_68 : decode b_Log_drawPart 68 = .ok (.iload 7, 2) := by decide +kernel
theorem d_Log_drawPart_70 : decode b_Log_drawPart 70 = .ok (.bipush 31, 2) := by decide +kernel
theorem d_Log_drawPart_72 : decode b_Log_drawPart 72 = .ok (.irem, 1) := by decide +kernel
theorem d_Log_drawPart_73 : decode b_Log_drawPart 73 = .ok (.iadd, 1) := by decide +kernel
theorem d_Log_drawPart_74 : decode b_Log_drawPart 74 = .ok (.aload_n 0, 1) := by decide +kernel
theorem d_Log_drawPart_75 : decode b_Log_drawPart 75 = .ok (.getfield 21, 3) := by decide +kernel
theorem d_Log_drawPart_78 : decode b_Log_drawPart 78 = .ok (.iload 5, 2) := by decide +kernel
theorem d_Log_drawPart_80 : decode b_Log_drawPart 80 = .ok (.iload 7, 2) := by decide +kernel
theorem d_Log_drawPart_82 : decode b_Log_drawPart 82 = .ok (.iadd, 1) := by decide +kernel
theorem d_Log_drawPart_83 : decode b_Log_drawPart 83 = .ok (.invokevirtual 239, 3) := by decide +kernel
theorem d_Log_drawPart_86 : decode b_Log_drawPart 86 = .ok (.i2l, 1) := by decide +kernel
theorem d_Log_drawPart_87 : decode b_Log_drawPart 87 = .ok (.iconst 1, 1) := by decide +kernel
theorem d_Log_drawPart_88 : decode b_Log_drawPart 88 = .ok (.invokevirtual 286, 3) := by decide +kernel
theorem d_Log_drawPart_91 : decode b_Log_drawPart 91 = .ok (.iinc 7 1, 3) := by decide +kernel
theorem d_Log_drawPart_94 : decode b_Log_drawPart 94 = .ok (.goto (-49), 3) := by decide +kernel
theorem d_Log_drawPart_97 : decode b_Log_drawPart 97 = .ok (.aload_n 0, 1) := by decide +kernel
theorem d_Log_drawPart_98 : decode b_Log_drawPart 98 = .ok (.getfield 25, 3) := by decide +kernel
theorem d_Log_drawPart_101 : decode b_Log_drawPart 101 = .ok (.iconst 0, 1) := by decide +kernel
theorem d_Log_drawPart_102 : decode b_Log_drawPart 102 = .ok (.lconst 1, 1) := by decide +kernel
theorem d_Log_drawPart_103 : decode b_Log_drawPart 103 = .ok (.iconst 1, 1) := by decide +kernel
theorem d_Log_drawPart_104 : decode b_Log_drawPart 104 = .ok (.invokevirtual 286, 3) := by decide +kernel
theorem d_Log_drawPart_107 : decode b_Log_drawPart 107 = .ok (.aload_n 0, 1) := by decide +kernel
theorem d_Log_drawPart_108 : decode b_Log_drawPart 108 = .ok (.getfield 25, 3) := by decide +kernel
theorem d_Log_drawPart_111 : decode b_Log_drawPart 111 = .ok (.iconst 1, 1) := by decide +kernel
theorem d_Log_drawPart_112 : decode b_Log_drawPart 112 = .ok (.iload_n 2, 1) := by decide +kernel
theorem d_Log_drawPart_113 : decode b_Log_drawPart 113 = .ok (.i2l, 1) := by decide +kernel
theorem d_Log_drawPart_114 : decode b_Log_drawPart 114 = .ok (.iconst 1, 1) := by decide +kernel
theorem d_Log_drawPart_115 : decode b_Log_drawPart 115 = .ok (.invokevirtual 286, 3) := by decide +kernel
theorem d_Log_drawPart_118 : decode b_Log_drawPart 118 = .ok (.aload_n 0, 1) := by decide +kernel
theorem d_Log_drawPart_119 : decode b_Log_drawPart 119 = .ok (.getfield 25, 3) := by decide +kernel
theorem d_Log_drawPart_122 : decode b_Log_drawPart 122 = .ok (.iconst 2, 1) := by decide +kernel
theorem d_Log_drawPart_123 : decode b_Log_drawPart 123 = .ok (.iload 6, 2) := by decide +kernel
theorem d_Log_drawPart_125 : decode b_Log_drawPart 125 = .ok (.i2l, 1) := by decide +kernel
theorem d_Log_drawPart_126 : decode b_Log_drawPart 126 = .ok (.iconst 2, 1) := by decide +kernel
theorem d_Log_drawPart_127 : decode b_Log_drawPart 127 = .ok (.invokevirtual 286, 3) := by decide +kernel
theorem d_Log_drawPart_130 : decode b_Log_drawPart 130 = .ok (.aload_n 0, 1) := by decide +kernel
theorem d_Log_drawPart_131 : decode b_Log_drawPart 131 = .ok (.getfield 25, 3) := by decide +kernel
theorem d_Log_drawPart_134 : decode b_Log_drawPart 134 = .ok (.iconst 4, 1) := by decide +kernel
theorem d_Log_drawPart_135 : decode b_Log_drawPart 135 = .ok (.iload_n 1, 1) := by decide +kernel
theorem d_Log_drawPart_136 : decode b_Log_drawPart 136 = .ok (.i2l, 1) := by decide +kernel
theorem d_Log_drawPart_137 : decode b_Log_drawPart 137 = .ok (.iconst 4, 1) := by decide +kernel
theorem d_Log_drawPart_138 : decode b_Log_drawPart 138 = .ok (.invokevirtual 286, 3) := by decide +kernel
theorem d_Log_drawPart_141 : decode b_Log_drawPart 141 = .ok (.aload_n 0, 1) := by decide +kernel
theorem d_Log_drawPart_142 : decode b_Log_drawPart 142 = .ok (.getfield 25, 3) := by decide +kernel
theorem d_Log_drawPart_145 : decode b_Log_drawPart 145 = .ok (.bipush 8, 2) := by decide +kernel
theorem d_Log_drawPart_147 : decode b_Log_drawPart 147 = .ok (.lload_n 3, 1) := by decide +kernel
theorem d_Log_drawPart_148 : decode b_Log_drawPart 148 = .ok (.bipush 8, 2) := by decide +kernel
theorem d_Log_drawPart_150 : decode b_Log_drawPart 150 = .ok (.invokevirtual 286, 3) := by decide +kernel
theorem d_Log_drawPart_153 : decode b_Log_drawPart 153 = .ok (.aload_n 0, 1) := by decide +kernel
theorem d_Log_drawPart_154 : decode b_Log_drawPart 154 = .ok (.getfield 25, 3) := by decide +kernel
theorem d_Log_drawPart_157 : decode b_Log_drawPart 157 = .ok (.bipush 16, 2) := by decide +kernel
theorem d_Log_drawPart_159 : decode b_Log_drawPart 159 = .ok (.aload_n 0, 1) := by decide +kernel
theorem d_Log_drawPart_160 : decode b_Log_drawPart 160 = .ok (.getfield 25, 3) := by decide +kernel
theorem d_Log_drawPart_163 : decode b_Log_drawPart 163 = .ok (.bipush 32, 2) := by decide +kernel
theorem d_Log_drawPart_165 : decode b_Log_drawPart 165 = .ok (.bipush 32, 2) := by decide +kernel
theorem d_Log_drawPart_167 : decode b_Log_drawPart 167 = .ok (.iload 6, 2) := by decide +kernel
theorem d_Log_drawPart_169 : decode b_Log_drawPart 169 = .ok (.invokestatic 270, 3) := by decide +kernel
theorem d_Log_drawPart_172 : decode b_Log_drawPart 172 = .ok (.imul, 1) := by decide +kernel
theorem d_Log_drawPart_173 : decode b_Log_drawPart 173 = .ok (.invokevirtual 290, 3) := by decide +kernel
theorem d_Log_drawPart_176 : decode b_Log_drawPart 176 = .ok (.bipush 8, 2) := by decide +kernel
theorem d_Log_drawPart_178 : decode b_Log_drawPart 178 = .ok (.invokevirtual 286, 3) := by decide +kernel
theorem d_Log_drawPart_181 : decode b_Log_drawPart 181 = .ok (.aload_n 0, 1) := by decide +kernel
theorem d_Log_drawPart_182 : decode b_Log_drawPart 182 = .ok (.invokevirtual 294, 3) := by decide +kernel
theorem d_Log_drawPart_185 : decode b_Log_drawPart 185 = .ok (.return_, 1) := by decide +kernel
theorem d_Log_drawPartOut_0 : decode b_Log_drawPartOut 0 = .ok (.aload_n 0, 1) := by decide +kernel
theorem d_Log_drawPartOut_1 : decode b_Log_drawPartOut 1 = .ok (.getfield 51, 3) := by decide +kernel
theorem d_Log_drawPartOut_4 : decode b_Log_drawPartOut 4 = .ok (.iload_n 2, 1) := by decide +kernel
theorem d_Log_drawPartOut_5 : decode b_Log_drawPartOut 5 = .ok (.invokevirtual 195, 3) := by decide +kernel
theorem d_Log_drawPartOut_8 : decode b_Log_drawPartOut 8 = .ok (.istore_n 3, 1) := by decide +kernel
theorem d_Log_drawPartOut_9 : decode b_Log_drawPartOut 9 = .ok (.aload_n 1, 1) := by decide +kernel
theorem d_Log_drawPartOut_10 : decode b_Log_drawPartOut 10 = .ok (.aload_n 0, 1) := by decide +kernel
theorem d_Log_drawPartOut_11 : decode b_Log_drawPartOut 11 = .ok (.getfield 51, 3) := by decide +kernel
theorem d_Log_drawPartOut_14 : decode b_Log_drawPartOut 14 = .ok (.iload_n 2, 1) := by decide +kernel
theorem d_Log_drawPartOut_15 : decode b_Log_drawPartOut 15 = .ok (.invokevirtual 189, 3) := by decide +kernel
theorem d_Log_drawPartOut_18 : decode b_Log_drawPartOut 18 = .ok (.i2l, 1) := by decide +kernel
theorem d_Log_drawPartOut_19 : decode b_Log_drawPartOut 19 = .ok (.iconst 1, 1) := by decide +kernel
theorem d_Log_drawPartOut_20 : decode b_Log_drawPartOut 20 = .ok (.invokevirtual 76, 3) := by decide +kernel
theorem d_Log_drawPartOut_23 : decode b_Log_drawPartOut 23 = .ok (.aload_n 1, 1) := by decide +kernel
theorem d_Log_drawPartOut_24 : decode b_Log_drawPartOut 24 = .ok (.aload_n 0, 1) := by decide +kernel
theorem d_Log_drawPartOut_25 : decode b_Log_drawPartOut 25 = .ok (.getfield 51, 3) := by decide +kernel
theorem d_Log_drawPartOut_28 : decode b_Log_drawPartOut 28 = .ok (.iload_n 2, 1) := by decide +kernel
theorem d_Log_drawPartOut_29 : decode b_Log_drawPartOut 29 = .ok (.invokevirtual 192, 3) := by decide +kernel
theorem d_Log_drawPartOut_32 : decode b_Log_drawPartOut 32 = .ok (.bipush 8, 2) := by decide +kernel
theorem d_Log_drawPartOut_34 : decode b_Log_drawPartOut 34 = .ok (.invokevirtual 76, 3) := by decide +kernel
theorem d_Log_drawPartOut_37 : decode b_Log_drawPartOut 37 = .ok (.aload_n 1, 1) := by decide +kernel
theorem d_Log_drawPartOut_38 : decode b_Log_drawPartOut 38 = .ok (.iload_n 3, 1) := by decide +kernel
theorem d_Log_drawPartOut_39 : decode b_Log_drawPartOut 39 = .ok (.i2l, 1) := by decide +kernel
theorem d_Log_drawPartOut_40 : decode b_Log_drawPartOut 40 = .ok (.iconst 2, 1) := by decide +kernel
theorem d_Log_drawPartOut_41 : decode b_Log_drawPartOut 41 = .ok (.invokevirtual 76, 3) := by decide +kernel
theorem d_Log_drawPartOut_44 : decode b_Log_drawPartOut 44 = .ok (.iconst 0, 1) := by decide +kernel
theorem d_Log_drawPartOut_45 : decode b_Log_drawPartOut 45 = .ok (.istore 4, 2) := by decide +kernel
theorem d_Log_drawPartOut_47 : decode b_Log_drawPartOut 47 = .ok (.iload 4, 2) := by decide +kernel
theorem d_Log_drawPartOut_49 : decode b_Log_drawPartOut 49 = .ok (.iload_n 3, 1) := by decide +kernel
theorem d_Log_drawPartOut_50 : decode b_Log_drawPartOut 50 = .ok (.if_icmp .ge 22, 3) := by decide +kernel
theorem d_Log_drawPartOut_53 : decode b_Log_drawPartOut 53 = .ok (.aload_n 1, 1) := by decide +kernel
theorem d_Log_drawPartOut_54 : decode b_Log_drawPartOut 54 = .ok (.aload_n 0, 1) := by decide +kernel
theorem d_Log_drawPartOut_55 : decode b_Log_drawPartOut 55 = .ok (.iload_n 2, 1) := by decide +kernel
theorem d_Log_drawPartOut_56 : decode b_Log_drawPartOut 56 = .ok (.iload 4, 2) := by decide +kernel
theorem d_Log_drawPartOut_58 : decode b_Log_drawPartOut 58 = .ok (.invokevirtual 207, 3) := by decide +kernel
theorem d_Log_drawPartOut_61 : decode b_Log_drawPartOut 61 = .ok (.i2l, 1) := by decide +kernel
theorem d_Log_drawPartOut_62 : decode b_Log_drawPartOut 62 = .ok (.iconst 1, 1) := by decide +kernel
theorem d_Log_drawPartOut_63 : decode b_Log_drawPartOut 63 = .ok (.invokevirtual 76, 3) := by decide +kernel
theorem d_Log_drawPartOut_66 : decode b_Log_drawPartOut 66 = .ok (.iinc 4 1, 3) := by decide +kernel
theorem d_Log_drawPartOut_69 : decode b_Log_drawPartOut 69 = .ok (.goto (-22), 3) := by decide +kernel
theorem d_Log_drawPartOut_72 : decode b_Log_drawPartOut 72 = .ok (.return_, 1) := by decide +kernel
theorem d_Log_drawSavepoint_0 : decode b_Log_drawSavepoint 0 = .ok (.aload_n 1, 1) := by decide +kernel
theorem d_Log_drawSavepoint_1 : decode b_Log_drawSavepoint 1 = .ok (.invokevirtual 80, 3) := by decide +kernel
theorem d_Log_drawSavepoint_4 : decode b_Log_drawSavepoint 4 = .ok (.aload_n 0, 1) := by decide +kernel
theorem d_Log_drawSavepoint_5 : decode b_Log_drawSavepoint 5 = .ok (.iload_n 2, 1) := by decide +kernel
theorem d_Log_drawSavepoint_6 : decode b_Log_drawSavepoint 6 = .ok (.invokevirtual 175, 3) := by decide +kernel
theorem d_Log_drawSavepoint_9 : decode b_Log_drawSavepoint 9 = .ok (.astore_n 3, 1) := by decide +kernel
theorem d_Log_drawSavepoint_10 : decode b_Log_drawSavepoint 10 = .ok (.aload_n 3, 1) := by decide +kernel
theorem d_Log_drawSavepoint_11 : decode b_Log_drawSavepoint 11 = .ok (.ifnonnull 4, 3) := by decide +kernel
theorem d_Log_drawSavepoint_14 : decode b_Log_drawSavepoint 14 = .ok (.return_, 1) := by decide +kernel
theorem d_Log_drawSavepoint_15 : decode b_Log_drawSavepoint 15 = .ok (.aload_n 3, 1) := by decide +kernel
theorem d_Log_drawSavepoint_16 : decode b_Log_drawSavepoint 16 = .ok (.iload_n 2, 1) := by decide +kernel
theorem d_Log_drawSavepoint_17 : decode b_Log_drawSavepoint 17 = .ok (.invokevirtual 98, 3) := by decide +kernel
theorem d_Log_drawSavepoint_20 : decode b_Log_drawSavepoint 20 = .ok (.istore 4, 2) := by decide +kernel
theorem d_Log_drawSavepoint_22 : decode b_Log_drawSavepoint 22 = .ok (.aload_n 3, 1) := by decide +kernel
theorem d_Log_drawSavepoint_23 : decode b_Log_drawSavepoint 23 = .ok (.iload 4, 2) := by decide +kernel
theorem d_Log_drawSavepoint_25 : decode b_Log_drawSavepoint 25 = .ok (.invokevirtual 101, 3) := by decide +kernel
theorem d_Log_drawSavepoint_28 : decode b_Log_drawSavepoint 28 = .ok (.istore 5, 2) := by decide +kernel
theorem d_Log_drawSavepoint_30 : decode b_Log_drawSavepoint 30 = .ok (.aload_n 1, 1) := by decide +kernel
theorem d_Log_drawSavepoint_31 : decode b_Log_drawSavepoint 31 = .ok (.ldc2_w 383, 3) := by decide +kernel
theorem d_Log_drawSavepoint_34 : decode b_Log_drawSavepoint 34 = .ok (.iconst 1, 1) := by decide +kernel
theorem d_Log_drawSavepoint_35 : decode b_Log_drawSavepoint 35 = .ok (.invokevirtual 76, 3) := by decide +kernel
theorem d_Log_drawSavepoint_38 : decode b_Log_drawSavepoint 38 = .ok (.aload_n 1, 1) := by decide +kernel
theorem d_Log_drawSavepoint_39 : decode b_Log_drawSavepoint 39 = .ok (.iload 5, 2) := by decide +kernel
theorem d_Log_drawSavepoint_41 : decode b_Log_drawSavepoint 41 = .ok (.i2l, 1) := by decide +kernel
theorem d_Log_drawSavepoint_42 : decode b_Log_drawSavepoint 42 = .ok (.iconst 1, 1) := by decide +kernel
theorem d_Log_drawSavepoint_43 : decode b_Log_drawSavepoint 43 = .ok (.invokevirtual 76, 3) := by decide +kernel
theorem d_Log_drawSavepoint_46 : decode b_Log_drawSavepoint 46 = .ok (.iconst 0, 1) := by decide +kernel
theorem d_Log_drawSavepoint_47 : decode b_Log_drawSavepoint 47 = .ok (.istore 6, 2) := by decide +kernel
theorem d_Log_drawSavepoint_49 : decode b_Log_drawSavepoint 49 = .ok (.iload 6, 2) := by decide +kernel
theorem d_Log_drawSavepoint_51 : decode b_Log_drawSavepoint 51 = .ok (.iload 5, 2) := by decide +kernel
theorem d_Log_drawSavepoint_53 : decode b_Log_drawSavepoint 53 = .ok (.if_icmp .ge 29, 3) := by decide +kernel
theorem d_Log_drawSavepoint_56 : decode b_Log_drawSavepoint 56 = .ok (.aload_n 0, 1) := by decide +kernel
theorem d_Log_drawSavepoint_57 : decode b_Log_drawSavepoint 57 = .ok (.aload_n 1, 1) := by decide +kernel
theorem d_Log_drawSavepoint_58 : decode b_Log_drawSavepoint 58 = .ok (.aload_n 0, 1) := by decide +kernel
theorem d_Log_drawSavepoint_59 : decode b_Log_drawSavepoint 59 = .ok (.getfield 51, 3) := by decide +kernel
theorem d_Log_drawSavepoint_62 : decode b_Log_drawSavepoint 62 = .ok (.aload_n 3, 1) := by decide +kernel
theorem d_Log_drawSavepoint_63 : decode b_Log_drawSavepoint 63 = .ok (.iload 4, 2) := by decide +kernel
theorem d_Log_drawSavepoint_65 : decode b_Log_drawSavepoint 65 = .ok (.iload 6, 2) := by decide +kernel
theorem d_Log_drawSavepoint_67 : decode b_Log_drawSavepoint 67 = .ok (.invokevirtual 121, 3) := by decide +kernel
theorem d_Log_drawSavepoint_70 : decode b_Log_drawSavepoint 70 = .ok (.invokevirtual 186, 3) := by decide +kernel
theorem d_Log_drawSavepoint_73 : decode b_Log_drawSavepoint 73 = .ok (.invokevirtual 385, 3) := by decide +kernel
theorem d_Log_drawSavepoint_76 : decode b_Log_drawSavepoint 76 = .ok (.iinc 6 1, 3) := by decide +kernel
theorem d_Log_drawSavepoint_79 : decode b_Log_drawSavepoint 79 = .ok (.goto (-30), 3) := by decide +kernel
theorem d_Log_drawSavepoint_82 : decode b_Log_drawSavepoint 82 = .ok (.aload_n 1, 1) := by decide +kernel
theorem d_Log_drawSavepoint_83 : decode b_Log_drawSavepoint 83 = .ok (.aload_n 1, 1) := by decide +kernel
theorem d_Log_drawSavepoint_84 : decode b_Log_drawSavepoint 84 = .ok (.iconst 0, 1) := by decide +kernel
theorem d_Log_drawSavepoint_85 : decode b_Log_drawSavepoint 85 = .ok (.aload_n 1, 1) := by decide +kernel
theorem d_Log_drawSavepoint_86 : decode b_Log_drawSavepoint 86 = .ok (.invokevirtual 73, 3) := by decide +kernel
theorem d_Log_drawSavepoint_89 : decode b_Log_drawSavepoint 89 = .ok (.invokevirtual 290, 3) := by decide +kernel
theorem d_Log_drawSavepoint_92 : decode b_Log_drawSavepoint 92 = .ok (.bipush 8, 2) := by decide +kernel
theorem d_Log_drawSavepoint_94 : decode b_Log_drawSavepoint 94 = .ok (.invokevirtual 76, 3) := by decide +kernel
theorem d_Log_drawSavepoint_97 : decode b_Log_drawSavepoint 97 = .ok (.return_, 1) := by decide +kernel
theorem d_Log_drawSum_0 : decode b_Log_drawSum 0 = .ok (.aload_n 0, 1) := by decide +kernel
theorem d_Log_drawSum_1 : decode b_Log_drawSum 1 = .ok (.getfield 25, 3) := by decide +kernel
theorem d_Log_drawSum_4 : decode b_Log_drawSum 4 = .ok (.bipush 24, 2) := by decide +kernel
theorem d_Log_drawSum_6 : decode b_Log_drawSum 6 = .ok (.aload_n 0, 1) := by decide +kernel
theorem d_Log_drawSum_7 : decode b_Log_drawSum 7 = .ok (.getfield 25, 3) := by decide +kernel
theorem d_Log_drawSum_10 : decode b_Log_drawSum 10 = .ok (.iconst 0, 1) := by decide +kernel
theorem d_Log_drawSum_11 : decode b_Log_drawSum 11 = .ok (.bipush 24, 2) := by decide +kernel
theorem d_Log_drawSum_13 : decode b_Log_drawSum 13 = .ok (.invokevirtual 290, 3) := by decide +kernel
theorem d_Log_drawSum_16 : decode b_Log_drawSum 16 = .ok (.bipush 8, 2) := by decide +kernel
theorem d_Log_drawSum_18 : decode b_Log_drawSum 18 = .ok (.invokevirtual 286, 3) := by decide +kernel
theorem d_Log_drawSum_21 : decode b_Log_drawSum 21 = .ok (.return_, 1) := by decide +kernel
theorem d_Log_drop_0 : decode b_Log_drop 0 = .ok (.aload_n 0, 1) := by decide +kernel
theorem d_Log_drop_1 : decode b_Log_drop 1 = .ok (.getfield 69, 3) := by decide +kernel
theorem d_Log_drop_4 : decode b_Log_drop 4 = .ok (.ifCond .ne 6, 3) := by decide +kernel
theorem d_Log_drop_7 : decode b_Log_drop 7 = .ok (.bipush (-3), 2) := by decide +kernel
theorem d_Log_drop_9 : decode b_Log_drop 9 = .ok (.ireturn, 1) := by decide +kernel
theorem d_Log_drop_10 : decode b_Log_drop 10 = .ok (.iload_n 1, 1) := by decide +kernel
theorem d_Log_drop_11 : decode b_Log_drop 11 = .ok (.ifCond .ge 6, 3) := by decide +kernel
theorem d_Log_drop_14 : decode b_Log_drop 14 = .ok (.bipush (-2), 2) := by decide +kernel
theorem d_Log_drop_16 : decode b_Log_drop 16 = .ok (.ireturn, 1) := by decide +kernel
theorem d_Log_drop_17 : decode b_Log_drop 17 = .ok (.aload_n 0, 1) := by decide +kernel
theorem d_Log_drop_18 : decode b_Log_drop 18 = .ok (.getfield 58, 3) := by decide +kernel
theorem d_Log_drop_21 : decode b_Log_drop 21 = .ok (.invokevirtual 143, 3) := by decide +kernel
theorem d_Log_drop_24 : decode b_Log_drop 24 = .ok (.istore_n 2, 1) := by decide +kernel
theorem d_Log_drop_25 : decode b_Log_drop 25 = .ok (.aload_n 0, 1) := by decide +kernel
theorem d_Log_drop_26 : decode b_Log_drop 26 = .ok (.aload_n 0, 1) := by decide +kernel
theorem d_Log_drop_27 : decode b_Log_drop 27 = .ok (.getfield 58, 3) := by decide +kernel
theorem d_Log_drop_30 : decode b_Log_drop 30 = .ok (.invokevirtual 88, 3) := by decide +kernel
theorem d_Log_drop_33 : decode b_Log_drop 33 = .ok (.iload_n 1, 1) := by decide +kernel
theorem d_Log_drop_34 : decode b_Log_drop 34 = .ok (.isub, 1) := by decide +kernel
theorem d_Log_drop_35 : decode b_Log_drop 35 = .ok (.invokevirtual 146, 3) := by decide +kernel
theorem d_Log_drop_38 : decode b_Log_drop 38 = .ok (.ifCond .ne 6, 3) := by decide +kernel
theorem d_Log_drop_41 : decode b_Log_drop 41 = .ok (.bipush (-5), 2) := by decide +kernel
theorem d_Log_drop_43 : decode b_Log_drop 43 = .ok (.ireturn, 1) := by decide +kernel
theorem d_Log_drop_44 : decode b_Log_drop 44 = .ok (.aload_n 0, 1) := by decide +kernel
theorem d_Log_drop_45 : decode b_Log_drop 45 = .ok (.iload_n 2, 1) := by decide +kernel
theorem d_Log_drop_46 : decode b_Log_drop 46 = .ok (.invokevirtual 149, 3) := by decide +kernel
theorem d_Log_drop_49 : decode b_Log_drop 49 = .ok (.istore_n 3, 1) := by decide +kernel
theorem d_Log_drop_50 : decode b_Log_drop 50 = .ok (.aload_n 0, 1) := by decide +kernel
theorem d_Log_drop_51 : decode b_Log_drop 51 = .ok (.getfield 69, 3) := by decide +kernel
theorem d_Log_drop_54 : decode b_Log_drop 54 = .ok (.ifCond .eq 7, 3) := by decide +kernel
theorem d_Log_drop_57 : decode b_Log_drop 57 = .ok (.iload_n 3, 1) := by decide +kernel
theorem d_Log_drop_58 : decode b_Log_drop 58 = .ok (.goto 5, 3) := by decide +kernel
theorem d_Log_drop_61 : decode b_Log_drop 61 = .ok (.bipush (-5), 2) := by decide +kernel
theorem d_Log_drop_63 : decode b_Log_drop 63 = .ok (.ireturn, 1) := by decide +kernel
theorem d_Log_dropMarks_0 : decode b_Log_dropMarks 0 = .ok (.iconst 0, 1) := by decide +kernel
theorem d_Log_dropMarks_1 : decode b_Log_dropMarks 1 = .ok (.istore_n 2, 1) := by decide +kernel
theorem d_Log_dropMarks_2 : decode b_Log_dropMarks 2 = .ok (.iload_n 2, 1) := by decide +kernel
theorem d_Log_dropMarks_3 : decode b_Log_dropMarks 3 = .ok (.iload_n 1, 1) := by decide +kernel
theorem d_Log_dropMarks_4 : decode b_Log_dropMarks 4 = .ok (.if_icmp .ge 40, 3) := by decide +kernel
theorem d_Log_dropMarks_7 : decode b_Log_dropMarks 7 = .ok (.aload_n 0, 1) := by decide +kernel
theorem d_Log_dropMarks_8 : decode b_Log_dropMarks 8 = .ok (.getfield 69, 3) := by decide +kernel
theorem d_Log_dropMarks_11 : decode b_Log_dropMarks 11 = .ok (.ifCond .eq 33, 3) := by decide +kernel
theorem d_Log_dropMarks_14 : decode b_Log_dropMarks 14 = .ok (.aload_n 0, 1) := by decide +kernel
theorem d_Log_dropMarks_15 : decode b_Log_dropMarks 15 = .ok (.aload_n 0, 1) := by decide +kernel
theorem d_Log_dropMarks_16 : decode b_Log_dropMarks 16 = .ok (.getfield 58, 3) := by decide +kernel
theorem d_Log_dropMarks_19 : decode b_Log_dropMarks 19 = .ok (.iload_n 2, 1) := by decide +kernel
theorem d_Log_dropMarks_20 : decode b_Log_dropMarks 20 = .ok (.invokevirtual 216, 3) := by decide +kernel
theorem d_Log_dropMarks_23 : decode b_Log_dropMarks 23 = .ok (.aload_n 0, 1) := by decide +kernel
theorem d_Log_dropMarks_24 : decode b_Log_dropMarks 24 = .ok (.getfield 58, 3) := by decide +kernel
theorem d_Log_dropMarks_27 : decode b_Log_dropMarks 27 = .ok (.iload_n 2, 1) := by decide +kernel
theorem d_Log_dropMarks_28 : decode b_Log_dropMarks 28 = .ok (.invokevirtual 101, 3) := by decide +kernel
theorem d_Log_dropMarks_31 : decode b_Log_dropMarks 31 = .ok (.invokestatic 104, 3) := by decide +kernel
theorem d_Log_dropMarks_34 : decode b_Log_dropMarks 34 = .ok (.invokevirtual 331, 3) := by decide +kernel
theorem d_Log_dropMarks_37 : decode b_Log_dropMarks 37 = .ok (.pop, 1) := by decide +kernel
theorem d_Log_dropMarks_38 : decode b_Log_dropMarks 38 = .ok (.iinc 2 1, 3) := by decide +kernel
theorem d_Log_dropMarks_41 : decode b_Log_dropMarks 41 = .ok (.goto (-39), 3) := by decide +kernel
theorem d_Log_dropMarks_44 : decode b_Log_dropMarks 44 = .ok (.aload_n 0, 1) := by decide +kernel
theorem d_Log_dropMarks_45 : decode b_Log_dropMarks 45 = .ok (.getfield 58, 3) := by decide +kernel
theorem d_Log_dropMarks_48 : decode b_Log_dropMarks 48 = .ok (.iload_n 1, 1) := by decide +kernel
theorem d_Log_dropMarks_49 : decode b_Log_dropMarks 49 = .ok (.invokevirtual 334, 3) := by decide +kernel
theorem d_Log_dropMarks_52 : decode b_Log_dropMarks 52 = .ok (.aload_n 0, 1) := by decide +kernel
theorem d_Log_dropMarks_53 : decode b_Log_dropMarks 53 = .ok (.getfield 69, 3) := by decide +kernel
theorem d_Log_dropMarks_56 : decode b_Log_dropMarks 56 = .ok (.ireturn, 1) := by decide +kernel
theorem d_Log_dropParts_0 : decode b_Log_dropParts 0 = .ok (.iconst 0, 1) := by decide +kernel
theorem d_Log_dropParts_1 : decode b_Log_dropParts 1 = .ok (.istore_n 2, 1) := by decide +kernel
theorem d_Log_dropParts_2 : decode b_Log_dropParts 2 = .ok (.iconst 0, 1) := by decide +kernel
theorem d_Log_dropParts_3 : decode b_Log_dropParts 3 = .ok (.istore_n 3, 1) := by decide +kernel
theorem d_Log_dropParts_4 : decode b_Log_dropParts 4 = .ok (.iconst 0, 1) := by decide +kernel
theorem d_Log_dropParts_5 : decode b_Log_dropParts 5 = .ok (.istore 4, 2) := by decide +kernel
theorem d_Log_dropParts_7 : decode b_Log_dropParts 7 = .ok (.iload 4, 2) := by decide +kernel
theorem d_Log_dropParts_9 : decode b_Log_dropParts 9 = .ok (.aload_n 0, 1) := by decide +kernel
theorem d_Log_dropParts_10 : decode b_Log_dropParts 10 = .ok (.getfield 51, 3) := by decide +kernel
theorem d_Log_dropParts_13 : decode b_Log_dropParts 13 = .ok (.invokevirtual 87, 3) := by decide +kernel
theorem d_Log_dropParts_16 : decode b_Log_dropParts 16 = .ok (.if_icmp .ge 87, 3) := by decide +kernel
theorem d_Log_dropParts_19 : decode b_Log_dropParts 19 = .ok (.aload_n 0, 1) := by decide +kernel
theorem d_Log_dropParts_20 : decode b_Log_dropParts 20 = .ok (.getfield 69, 3) := by decide +kernel
theorem d_Log_dropParts_23 : decode b_Log_dropParts 23 = .ok (.ifCond .eq 80, 3) := by decide +kernel
theorem d_Log_dropParts_26 : decode b_Log_dropParts 26 = .ok (.aload_n 0, 1) := by decide +kernel
theorem d_Log_dropParts_27 : decode b_Log_dropParts 27 = .ok (.getfield 51, 3) := by decide +kernel
theorem d_Log_dropParts_30 : decode b_Log_dropParts 30 = .ok (.iload 4, 2) := by decide +kernel
theorem d_Log_dropParts_32 : decode b_Log_dropParts 32 = .ok (.invokevirtual 330, 3) := by decide +kernel
theorem d_Log_dropParts_35 : decode b_Log_dropParts 35 = .ok (.istore 5, 2) := by decide +kernel
theorem d_Log_dropParts_37 : decode b_Log_dropParts 37 = .ok (.iload 5, 2) := by decide +kernel
theorem d_Log_dropParts_39 : decode b_Log_dropParts 39 = .ok (.iload_n 1, 1) := by decide +kernel
theorem d_Log_dropParts_40 : decode b_Log_dropParts 40 = .ok (.if_icmp .gt 44, 3) := by decide +kernel
theorem d_Log_dropParts_43 : decode b_Log_dropParts 43 = .ok (.aload_n 0, 1) := by decide +kernel
theorem d_Log_dropParts_44 : decode b_Log_dropParts 44 = .ok (.iload 5, 2) := by decide +kernel
theorem d_Log_dropParts_46 : decode b_Log_dropParts 46 = .ok (.invokevirtual 204, 3) := by decide +kernel
theorem d_Log_dropParts_49 : decode b_Log_dropParts 49 = .ok (.ifCond .ne 35, 3) := by decide +kernel
theorem d_Log_dropParts_52 : decode b_Log_dropParts 52 = .ok (.aload_n 0, 1) := by decide +kernel
theorem d_Log_dropParts_53 : decode b_Log_dropParts 53 = .ok (.aload_n 0, 1) := by decide +kernel
theorem d_Log_dropParts_54 : decode b_Log_dropParts 54 = .ok (.getfield 51, 3) := by decide +kernel
theorem d_Log_dropParts_57 : decode b_Log_dropParts 57 = .ok (.iload 4, 2) := by decide +kernel
theorem d_Log_dropParts_59 : decode b_Log_dropParts 59 = .ok (.invokevirtual 198, 3) := by decide +kernel
theorem d_Log_dropParts_62 : decode b_Log_dropParts 62 = .ok (.aload_n 0, 1) := by decide +kernel
theorem d_Log_dropParts_63 : decode b_Log_dropParts 63 = .ok (.getfield 51, 3) := by decide +kernel
theorem d_Log_dropParts_66 : decode b_Log_dropParts 66 = .ok (.iload 4, 2) := by decide +kernel
theorem d_Log_dropParts_68 : decode b_Log_dropParts 68 = .ok (.invokevirtual 195, 3) := by decide +kernel
theorem d_Log_dropParts_71 : decode b_Log_dropParts 71 = .ok (.invokestatic 270, 3) := by decide +kernel
theorem d_Log_dropParts_74 : decode b_Log_dropParts 74 = .ok (.invokevirtual 331, 3) := by decide +kernel
theorem d_Log_dropParts_77 : decode b_Log_dropParts 77 = .ok (.pop, 1) := by decide +kernel
theorem d_Log_dropParts_78 : decode b_Log_dropParts 78 = .ok (.iinc 3 1, 3) := by decide +kernel
theorem d_Log_dropParts_81 : decode b_Log_dropParts 81 = .ok (.goto 16, 3) := by decide +kernel
theorem d_Log_dropParts_84 : decode b_Log_dropParts 84 = .ok (.aload_n 0, 1) := by decide +kernel
theorem d_Log_dropParts_85 : decode b_Log_dropParts 85 = .ok (.getfield 51, 3) := by decide +kernel
theorem d_Log_dropParts_88 : decode b_Log_dropParts 88 = .ok (.iload 4, 2) := by decide +kernel
theorem d_Log_dropParts_90 : decode b_Log_dropParts 90 = .ok (.iload_n 2, 1) := by decide +kernel
theorem d_Log_dropParts_91 : decode b_Log_dropParts 91 = .ok (.invokevirtual 337, 3) := by decide +kernel
theorem d_Log_dropParts_94 : decode b_Log_dropParts 94 = .ok (.iinc 2 1, 3) := by decide +kernel
theorem d_Log_dropParts_97 : decode b_Log_dropParts 97 = .ok (.iinc 4 1, 3) := by decide +kernel
theorem d_Log_dropParts_100 : decode b_Log_dropParts 100 = .ok (.goto (-93), 3) := by decide +kernel
theorem d_Log_dropParts_103 : decode b_Log_dropParts 103 = .ok (.aload_n 0, 1) := by decide +kernel
theorem d_Log_dropParts_104 : decode b_Log_dropParts 104 = .ok (.getfield 51, 3) := by decide +kernel
theorem d_Log_dropParts_107 : decode b_Log_dropParts 107 = .ok (.iload_n 2, 1) := by decide +kernel
theorem d_Log_dropParts_108 : decode b_Log_dropParts 108 = .ok (.invokevirtual 340, 3) := by decide +kernel
theorem d_Log_dropParts_111 : decode b_Log_dropParts 111 = .ok (.iload_n 3, 1) := by decide +kernel
theorem d_Log_dropParts_112 : decode b_Log_dropParts 112 = .ok (.ireturn, 1) := by decide +kernel
theorem d_Log_entriesOf_0 : decode b_Log_entriesOf 0 = .ok (.iload_n 0, 1) := by decide +kernel
theorem d_Log_entriesOf_1 : decode b_Log_entriesOf 1 = .ok (.iconst 2, 1) := by decide +kernel
theorem d_Log_entriesOf_2 : decode b_Log_entriesOf 2 = .ok (.iadd, 1) := by decide +kernel
theorem d_Log_entriesOf_3 : decode b_Log_entriesOf 3 = .ok (.iconst 1, 1) := by decide +kernel
theorem d_Log_entriesOf_4 : decode b_Log_entriesOf 4 = .ok (.isub, 1) := by decide +kernel
theorem d_Log_entriesOf_5 : decode b_Log_entriesOf 5 = .ok (.iconst 2, 1) := by decide +kernel
theorem d_Log_entriesOf_6 : decode b_Log_entriesOf 6 = .ok (.idiv, 1) := by decide +kernel
theorem d_Log_entriesOf_7 : decode b_Log_entriesOf 7 = .ok (.ireturn, 1) := by decide +kernel
theorem d_Log_entryByte_0 : decode b_Log_entryByte 0 = .ok (.iconst 1, 1) := by decide +kernel
theorem d_Log_entryByte_1 : decode b_Log_entryByte 1 = .ok (.bipush 14, 2) := by decide +kernel
theorem d_Log_entryByte_3 : decode b_Log_entryByte 3 = .ok (.iload_n 0, 1) := by decide +kernel
theorem d_Log_entryByte_4 : decode b_Log_entryByte 4 = .ok (.iconst 2, 1) := by decide +kernel
theorem d_Log_entryByte_5 : decode b_Log_entryByte 5 = .ok (.irem, 1) := by decide +kernel
theorem d_Log_entryByte_6 : decode b_Log_entryByte 6 = .ok (.imul, 1) := by decide +kernel
theorem d_Log_entryByte_7 : decode b_Log_entryByte 7 = .ok (.iadd, 1) := by decide +kernel
theorem d_Log_entryByte_8 : decode b_Log_entryByte 8 = .ok (.ireturn, 1) := by decide +kernel
theorem d_Log_entryRow_0 : decode b_Log_entryRow 0 = .ok (.iload_n 0, 1) := by decide +kernel
theorem d_Log_entryRow_1 : decode b_Log_entryRow 1 = .ok (.iconst 1, 1) := by decide +kernel
theorem d_Log_entryRow_2 : decode b_Log_entryRow 2 = .ok (.iadd, 1) := by decide +kernel
theorem d_Log_entryRow_3 : decode b_Log_entryRow 3 = .ok (.iload_n 1, 1) := by decide +kernel
theorem d_Log_entryRow_4 : decode b_Log_entryRow 4 = .ok (.iconst 2, 1) := by decide +kernel
theorem d_Log_entryRow_5 : decode b_Log_entryRow 5 = .ok (.idiv, 1) := by decide +kernel
theorem d_Log_entryRow_6 : decode b_Log_entryRow 6 = .ok (.iadd, 1) := by decide +kernel
theorem d_Log_entryRow_7 : decode b_Log_entryRow 7 = .ok (.ireturn, 1) := by decide +kernel
theorem d_Log_equal_0 : decode b_Log_equal 0 = .ok (.aload_n 0, 1) := by decide +kernel
theorem d_Log_equal_1 : decode b_Log_equal 1 = .ok (.getfield 69, 3) := by decide +kernel
theorem d_Log_equal_4 : decode b_Log_equal 4 = .ok (.ifCond .ne 6, 3) := by decide +kernel
theorem d_Log_equal_7 : decode b_Log_equal 7 = .ok (.bipush (-3), 2) := by decide +kernel
theorem d_Log_equal_9 : decode b_Log_equal 9 = .ok (.ireturn, 1) := by decide +kernel
theorem d_Log_equal_10 : decode b_Log_equal 10 = .ok (.aload_n 0, 1) := by decide +kernel
theorem d_Log_equal_11 : decode b_Log_equal 11 = .ok (.iload_n 1, 1) := by decide +kernel
theorem d_Log_equal_12 : decode b_Log_equal 12 = .ok (.invokevirtual 175, 3) := by decide +kernel
theorem d_Log_equal_15 : decode b_Log_equal 15 = .ok (.ifnull 11, 3) := by decide +kernel
theorem d_Log_equal_18 : decode b_Log_equal 18 = .ok (.aload_n 0, 1) := by decide +kernel
theorem d_Log_equal_19 : decode b_Log_equal 19 = .ok (.iload_n 2, 1) := by decide +kernel
theorem d_Log_equal_20 : decode b_Log_equal 20 = .ok (.invokevirtual 175, 3) := by decide +kernel
theorem d_Log_equal_23 : decode b_Log_equal 23 = .ok (.ifnonnull 5, 3) := by decide +kernel
theorem d_Log_equal_26 : decode b_Log_equal 26 = .ok (.iconst (-1), 1) := by decide +kernel
theorem d_Log_equal_27 : decode b_Log_equal 27 = .ok (.ireturn, 1) := by decide +kernel
theorem d_Log_equal_28 : decode b_Log_equal 28 = .ok (.aload_n 0, 1) := by decide +kernel
theorem d_Log_equal_29 : decode b_Log_equal 29 = .ok (.iload_n 1, 1) := by decide +kernel
theorem d_Log_equal_30 : decode b_Log_equal 30 = .ok (.invokevirtual 179, 3) := by decide +kernel
theorem d_Log_equal_33 : decode b_Log_equal 33 = .ok (.ifCond .eq 11, 3) := by decide +kernel
theorem d_Log_equal_36 : decode b_Log_equal 36 = .ok (.aload_n 0, 1) := by decide +kernel
theorem d_Log_equal_37 : decode b_Log_equal 37 = .ok (.iload_n 2, 1) := by decide +kernel
theorem d_Log_equal_38 : decode b_Log_equal 38 = .ok (.invokevirtual 179, 3) := by decide +kernel
theorem d_Log_equal_41 : decode b_Log_equal 41 = .ok (.ifCond .ne 6, 3) := by decide +kernel
theorem d_Log_equal_44 : decode b_Log_equal 44 = .ok (.bipush (-2), 2) := by decide +kernel
theorem d_Log_equal_46 : decode b_Log_equal 46 = .ok (.ireturn, 1) := by decide +kernel
theorem d_Log_equal_47 : decode b_Log_equal 47 = .ok (.aload_n 0, 1) := by decide +kernel
theorem d_Log_equal_48 : decode b_Log_equal 48 = .ok (.aload_n 0, 1) := by decide +kernel
theorem d_Log_equal_49 : decode b_Log_equal 49 = .ok (.getfield 28, 3) := by decide +kernel
theorem d_Log_equal_52 : decode b_Log_equal 52 = .ok (.iload_n 1, 1) := by decide +kernel
theorem d_Log_equal_53 : decode b_Log_equal 53 = .ok (.invokevirtual 235, 3) := by decide +kernel
theorem d_Log_equal_56 : decode b_Log_equal 56 = .ok (.aload_n 0, 1) := by decide +kernel
theorem d_Log_equal_57 : decode b_Log_equal 57 = .ok (.aload_n 0, 1) := by decide +kernel
theorem d_Log_equal_58 : decode b_Log_equal 58 = .ok (.getfield 31, 3) := by decide +kernel
theorem d_Log_equal_61 : decode b_Log_equal 61 = .ok (.iload_n 2, 1) := by decide +kernel
theorem d_Log_equal_62 : decode b_Log_equal 62 = .ok (.invokevirtual 235, 3) := by decide +kernel
theorem d_Log_equal_65 : decode b_Log_equal 65 = .ok (.aload_n 0, 1) := by decide +kernel
theorem d_Log_equal_66 : decode b_Log_equal 66 = .ok (.getfield 28, 3) := by decide +kernel
theorem d_Log_equal_69 : decode b_Log_equal 69 = .ok (.aload_n 0, 1) := by decide +kernel
theorem d_Log_equal_70 : decode b_Log_equal 70 = .ok (.getfield 31, 3) := by decide +kernel
theorem d_Log_equal_73 : decode b_Log_equal 73 = .ok (.invokevirtual 251, 3) := by decide +kernel
theorem d_Log_equal_76 : decode b_Log_equal 76 = .ok (.ifCond .eq 7, 3) := by decide +kernel
theorem d_Log_equal_79 : decode b_Log_equal 79 = .ok (.iconst 1, 1) := by decide +kernel
theorem d_Log_equal_80 : decode b_Log_equal 80 = .ok (.goto 4, 3) := by decide +kernel
theorem d_Log_equal_83 : decode b_Log_equal 83 = .ok (.iconst 0, 1) := by decide +kernel
theorem d_Log_equal_84 : decode b_Log_equal 84 = .ok (.ireturn, 1) := by decide +kernel
theorem d_Log_feed_0 : decode b_Log_feed 0 = .ok (.iload_n 3, 1) := by decide +kernel
theorem d_Log_feed_1 : decode b_Log_feed 1 = .ok (.iconst 1, 1) := by decide +kernel
theorem d_Log_feed_2 : decode b_Log_feed 2 = .ok (.if_icmp .lt 9, 3) := by decide +kernel
theorem d_Log_feed_5 : decode b_Log_feed 5 = .ok (.iload_n 3, 1) := by decide +kernel
theorem d_Log_feed_6 : decode b_Log_feed 6 = .ok (.bipush 8, 2) := by decide +kernel
theorem d_Log_feed_8 : decode b_Log_feed 8 = .ok (.if_icmp .le 6, 3) := by decide +kernel
theorem d_Log_feed_11 : decode b_Log_feed 11 = .ok (.bipush (-2), 2) := by decide +kernel
theorem d_Log_feed_13 : decode b_Log_feed 13 = .ok (.ireturn, 1) := by decide +kernel
theorem d_Log_feed_14 : decode b_Log_feed 14 = .ok (.aload_n 0, 1) := by decide +kernel
theorem d_Log_feed_15 : decode b_Log_feed 15 = .ok (.getfield 21, 3) := by decide +kernel
theorem d_Log_feed_18 : decode b_Log_feed 18 = .ok (.invokevirtual 73, 3) := by decide +kernel
theorem d_Log_feed_21 : decode b_Log_feed 21 = .ok (.iload_n 3, 1) := by decide +kernel
theorem d_Log_feed_22 : decode b_Log_feed 22 = .ok (.iadd, 1) := by decide +kernel
theorem d_Log_feed_23 : decode b_Log_feed 23 = .ok (.sipush 2000, 3) := by decide +kernel
theorem d_Log_feed_26 : decode b_Log_feed 26 = .ok (.if_icmp .le 6, 3) := by decide +kernel
theorem d_Log_feed_29 : decode b_Log_feed 29 = .ok (.bipush (-4), 2) := by decide +kernel
theorem d_Log_feed_31 : decode b_Log_feed 31 = .ok (.ireturn, 1) := by decide +kernel
theorem d_Log_feed_32 : decode b_Log_feed 32 = .ok (.iconst 0, 1) := by decide +kernel
theorem d_Log_feed_33 : decode b_Log_feed 33 = .ok (.istore 4, 2) := by decide +kernel
theorem d_Log_feed_35 : decode b_Log_feed 35 = .ok (.iload 4, 2) := by decide +kernel
theorem d_Log_feed_37 : decode b_Log_feed 37 = .ok (.iload_n 3, 1) := by decide +kernel
theorem d_Log_feed_38 : decode b_Log_feed 38 = .ok (.if_icmp .ge 24, 3) := by decide +kernel
theorem d_Log_feed_41 : decode b_Log_feed 41 = .ok (.aload_n 0, 1) := by decide +kernel
theorem d_Log_feed_42 : decode b_Log_feed 42 = .ok (.getfield 21, 3) := by decide +kernel
theorem d_Log_feed_45 : decode b_Log_feed 45 = .ok (.lload_n 1, 1) := by decide +kernel
theorem d_Log_feed_46 : decode b_Log_feed 46 = .ok (.bipush 8, 2) := by decide +kernel
theorem d_Log_feed_48 : decode b_Log_feed 48 = .ok (.iload 4, 2) := by decide +kernel
theorem d_Log_feed_50 : decode b_Log_feed 50 = .ok (.imul, 1) := by decide +kernel
theorem d_Log_feed_51 : decode b_Log_feed 51 = .ok (.lushr, 1) := by decide +kernel
theorem d_Log_feed_52 : decode b_Log_feed 52 = .ok (.iconst 1, 1) := by decide +kernel
theorem d_Log_feed_53 : decode b_Log_feed 53 = .ok (.invokevirtual 76, 3) := by decide +kernel
theorem d_Log_feed_56 : decode b_Log_feed 56 = .ok (.iinc 4 1, 3) := by decide +kernel
theorem d_Log_feed_59 : decode b_Log_feed 59 = .ok (.goto (-24), 3) := by decide +kernel
theorem d_Log_feed_62 : decode b_Log_feed 62 = .ok (.aload_n 0, 1) := by decide +kernel
theorem d_Log_feed_63 : decode b_Log_feed 63 = .ok (.getfield 21, 3) := by decide +kernel
theorem d_Log_feed_66 : decode b_Log_feed 66 = .ok (.invokevirtual 73, 3) := by decide +kernel
theorem d_Log_feed_69 : decode b_Log_feed 69 = .ok (.ireturn, 1) := by decide +kernel
theorem d_Log_forget_0 : decode b_Log_forget 0 = .ok (.aload_n 0, 1) := by decide +kernel
theorem d_Log_forget_1 : decode b_Log_forget 1 = .ok (.getfield 51, 3) := by decide +kernel
theorem d_Log_forget_4 : decode b_Log_forget 4 = .ok (.iconst 0, 1) := by decide +kernel
theorem d_Log_forget_5 : decode b_Log_forget 5 = .ok (.invokevirtual 340, 3) := by decide +kernel
theorem d_Log_forget_8 : decode b_Log_forget 8 = .ok (.aload_n 0, 1) := by decide +kernel
theorem d_Log_forget_9 : decode b_Log_forget 9 = .ok (.getfield 58, 3) := by decide +kernel
theorem d_Log_forget_12 : decode b_Log_forget 12 = .ok (.aload_n 0, 1) := by decide +kernel
theorem d_Log_forget_13 : decode b_Log_forget 13 = .ok (.getfield 58, 3) := by decide +kernel
theorem d_Log_forget_16 : decode b_Log_forget 16 = .ok (.invokevirtual 88, 3) := by decide +kernel
theorem d_Log_forget_19 : decode b_Log_forget 19 = .ok (.invokevirtual 334, 3) := by decide +kernel
theorem d_Log_forget_22 : decode b_Log_forget 22 = .ok (.aload_n 0, 1) := by decide +kernel
theorem d_Log_forget_23 : decode b_Log_forget 23 = .ok (.getfield 62, 3) := by decide +kernel
theorem d_Log_forget_26 : decode b_Log_forget 26 = .ok (.aload_n 0, 1) := by decide +kernel
theorem d_Log_forget_27 : decode b_Log_forget 27 = .ok (.getfield 62, 3) := by decide +kernel
theorem d_Log_forget_30 : decode b_Log_forget 30 = .ok (.invokevirtual 88, 3) := by decide +kernel
theorem d_Log_forget_33 : decode b_Log_forget 33 = .ok (.invokevirtual 334, 3) := by decide +kernel
theorem d_Log_forget_36 : decode b_Log_forget 36 = .ok (.aload_n 0, 1) := by decide +kernel
theorem d_Log_forget_37 : decode b_Log_forget 37 = .ok (.getfield 41, 3) := by decide +kernel
theorem d_Log_forget_40 : decode b_Log_forget 40 = .ok (.iconst 0, 1) := by decide +kernel
theorem d_Log_forget_41 : decode b_Log_forget 41 = .ok (.aload_n 0, 1) := by decide +kernel
theorem d_Log_forget_42 : decode b_Log_forget 42 = .ok (.getfield 14, 3) := by decide +kernel
theorem d_Log_forget_45 : decode b_Log_forget 45 = .ok (.invokevirtual 36, 3) := by decide +kernel
theorem d_Log_forget_48 : decode b_Log_forget 48 = .ok (.invokevirtual 327, 3) := by decide +kernel
theorem d_Log_forget_51 : decode b_Log_forget 51 = .ok (.aload_n 0, 1) := by decide +kernel
theorem d_Log_forget_52 : decode b_Log_forget 52 = .ok (.iconst 0, 1) := by decide +kernel
theorem d_Log_forget_53 : decode b_Log_forget 53 = .ok (.putfield 268, 3) := by decide +kernel
theorem d_Log_forget_56 : decode b_Log_forget 56 = .ok (.aload_n 0, 1) := by decide +kernel
theorem d_Log_forget_57 : decode b_Log_forget 57 = .ok (.iconst 0, 1) := by decide +kernel
theorem d_Log_forget_58 : decode b_Log_forget 58 = .ok (.putfield 89, 3) := by decide +kernel
theorem d_Log_forget_61 : decode b_Log_forget 61 = .ok (.return_, 1) := by decide +kernel
theorem d_Log_give_0 : decode b_Log_give 0 = .ok (.aload_n 0, 1) := by decide +kernel
theorem d_Log_give_1 : decode b_Log_give 1 = .ok (.getfield 69, 3) := by decide +kernel
theorem d_Log_give_4 : decode b_Log_give 4 = .ok (.ifCond .ne 6, 3) := by decide +kernel
theorem d_Log_give_7 : decode b_Log_give 7 = .ok (.bipush (-3), 2) := by decide +kernel
theorem d_Log_give_9 : decode b_Log_give 9 = .ok (.ireturn, 1) := by decide +kernel
theorem d_Log_give_10 : decode b_Log_give 10 = .ok (.aload_n 0, 1) := by decide +kernel
theorem d_Log_give_11 : decode b_Log_give 11 = .ok (.getfield 62, 3) := by decide +kernel
theorem d_Log_give_14 : decode b_Log_give 14 = .ok (.iload_n 1, 1) := by decide +kernel
theorem d_Log_give_15 : decode b_Log_give 15 = .ok (.invokevirtual 98, 3) := by decide +kernel
theorem d_Log_give_18 : decode b_Log_give 18 = .ok (.istore_n 2, 1) := by decide +kernel
theorem d_Log_give_19 : decode b_Log_give 19 = .ok (.iload_n 2, 1) := by decide +kernel
theorem d_Log_give_20 : decode b_Log_give 20 = .ok (.iconst (-1), 1) := by decide +kernel
theorem d_Log_give_21 : decode b_Log_give 21 = .ok (.if_icmp .ne 5, 3) := by decide +kernel
theorem d_Log_give_24 : decode b_Log_give 24 = .ok (.iconst (-1), 1) := by decide +kernel
theorem d_Log_give_25 : decode b_Log_give 25 = .ok (.ireturn, 1) := by decide +kernel
theorem d_Log_give_26 : decode b_Log_give 26 = .ok (.aload_n 0, 1) := by decide +kernel
theorem d_Log_give_27 : decode b_Log_give 27 = .ok (.getfield 62, 3) := by decide +kernel
theorem d_Log_give_30 : decode b_Log_give 30 = .ok (.iload_n 2, 1) := by decide +kernel
theorem d_Log_give_31 : decode b_Log_give 31 = .ok (.invokevirtual 129, 3) := by decide +kernel
theorem d_Log_give_34 : decode b_Log_give 34 = .ok (.iconst 1, 1) := by decide +kernel
theorem d_Log_give_35 : decode b_Log_give 35 = .ok (.ireturn, 1) := by decide +kernel
theorem d_Log_headThatCounts_0 : decode b_Log_headThatCounts 0 = .ok (.aload_n 0, 1) := by decide +kernel
theorem d_Log_headThatCounts_1 : decode b_Log_headThatCounts 1 = .ok (.iconst 0, 1) := by decide +kernel
theorem d_Log_headThatCounts_2 : decode b_Log_headThatCounts 2 = .ok (.invokevirtual 213, 3) := by decide +kernel
theorem d_Log_headThatCounts_5 : decode b_Log_headThatCounts 5 = .ok (.ifCond .ne 17, 3) := by decide +kernel
theorem d_Log_headThatCounts_8 : decode b_Log_headThatCounts 8 = .ok (.aload_n 0, 1) := by decide +kernel
theorem d_Log_headThatCounts_9 : decode b_Log_headThatCounts 9 = .ok (.iconst 1, 1) := by decide +kernel
theorem d_Log_headThatCounts_10 : decode b_Log_headThatCounts 10 = .ok (.invokevirtual 213, 3) := by decide +kernel
theorem d_Log_headThatCounts_13 : decode b_Log_headThatCounts 13 = .ok (.ifCond .eq 7, 3) := by decide +kernel
theorem d_Log_headThatCounts_16 : decode b_Log_headThatCounts 16 = .ok (.iconst 1, 1) := by decide +kernel
theorem d_Log_headThatCounts_17 : decode b_Log_headThatCounts 17 = .ok (.goto 4, 3) := by decide +kernel
theorem d_Log_headThatCounts_20 : decode b_Log_headThatCounts 20 = .ok (.iconst (-1), 1) := by decide +kernel
theorem d_Log_headThatCounts_21 : decode b_Log_headThatCounts 21 = .ok (.ireturn, 1) := by decide +kernel
theorem d_Log_headThatCounts_22 : decode b_Log_headThatCounts 22 = .ok (.aload_n 0, 1) := by decide +kernel
theorem d_Log_headThatCounts_23 : decode b_Log_headThatCounts 23 = .ok (.iconst 1, 1) := by decide +kernel
theorem d_Log_headThatCounts_24 : decode b_Log_headThatCounts 24 = .ok (.invokevirtual 213, 3) := by decide +kernel
theorem d_Log_headThatCounts_27 : decode b_Log_headThatCounts 27 = .ok (.ifCond .ne 5, 3) := by decide +kernel
theorem d_Log_headThatCounts_30 : decode b_Log_headThatCounts 30 = .ok (.iconst 0, 1) := by decide +kernel
theorem d_Log_headThatCounts_31 : decode b_Log_headThatCounts 31 = .ok (.ireturn, 1) := by decide +kernel
theorem d_Log_headThatCounts_32 : decode b_Log_headThatCounts 32 = .ok (.aload_n 0, 1) := by decide +kernel
theorem d_Log_headThatCounts_33 : decode b_Log_headThatCounts 33 = .ok (.getfield 14, 3) := by decide +kernel
theorem d_Log_headThatCounts_36 : decode b_Log_headThatCounts 36 = .ok (.iconst 1, 1) := by decide +kernel
theorem d_Log_headThatCounts_37 : decode b_Log_headThatCounts 37 = .ok (.iconst 4, 1) := by decide +kernel
theorem d_Log_headThatCounts_38 : decode b_Log_headThatCounts 38 = .ok (.iconst 4, 1) := by decide +kernel
theorem d_Log_headThatCounts_39 : decode b_Log_headThatCounts 39 = .ok (.invokevirtual 311, 3) := by decide +kernel
theorem d_Log_headThatCounts_42 : decode b_Log_headThatCounts 42 = .ok (.aload_n 0, 1) := by decide +kernel
theorem d_Log_headThatCounts_43 : decode b_Log_headThatCounts 43 = .ok (.getfield 14, 3) := by decide +kernel
theorem d_Log_headThatCounts_46 : decode b_Log_headThatCounts 46 = .ok (.iconst 0, 1) := by decide +kernel
theorem d_Log_headThatCounts_47 : decode b_Log_headThatCounts 47 = .ok (.iconst 4, 1) := by decide +kernel
theorem d_Log_headThatCounts_48 : decode b_Log_headThatCounts 48 = .ok (.iconst 4, 1) := by decide +kernel
theorem d_Log_headThatCounts_49 : decode b_Log_headThatCounts 49 = .ok (.invokevirtual 311, 3) := by decide +kernel
theorem d_Log_headThatCounts_52 : decode b_Log_headThatCounts 52 = .ok (.lcmp, 1) := by decide +kernel
theorem d_Log_headThatCounts_53 : decode b_Log_headThatCounts 53 = .ok (.ifCond .le 7, 3) := by decide +kernel
theorem d_Log_headThatCounts_56 : decode b_Log_headThatCounts 56 = .ok (.iconst 1, 1) := by decide +kernel
theorem d_Log_headThatCounts_57 : decode b_Log_headThatCounts 57 = .ok (.goto 4, 3) := by decide +kernel
theorem d_Log_headThatCounts_60 : decode b_Log_headThatCounts 60 = .ok (.iconst 0, 1) := by decide +kernel
theorem d_Log_headThatCounts_61 : decode b_Log_headThatCounts 61 = .ok (.ireturn, 1) := by decide +kernel
theorem d_Log_in__0 : decode b_Log_in_ 0 = .ok (.aload_n 0, 1) := by decide +kernel
theorem d_Log_in__1 : decode b_Log_in_ 1 = .ok (.getfield 21, 3) := by decide +kernel
theorem d_Log_in__4 : decode b_Log_in_ 4 = .ok (.iconst 1, 1) := by decide +kernel
theorem d_Log_in__5 : decode b_Log_in_ 5 = .ok (.invokevirtual 239, 3) := by decide +kernel
theorem d_Log_in__8 : decode b_Log_in_ 8 = .ok (.istore_n 1, 1) := by decide +kernel
theorem d_Log_in__9 : decode b_Log_in_ 9 = .ok (.aload_n 0, 1) := by decide +kernel
theorem d_Log_in__10 : decode b_Log_in_ 10 = .ok (.getfield 69, 3) := by decide +kernel
theorem d_Log_in__13 : decode b_Log_in_ 13 = .ok (.ifCond .ne 9, 3) := by decide +kernel
theorem d_Log_in__16 : decode b_Log_in_ 16 = .ok (.bipush (-3), 2) := by decide +kernel
theorem d_Log_in__18 : decode b_Log_in_ 18 = .ok (.istore_n 2, 1) := by decide +kernel
theorem d_Log_in__19 : decode b_Log_in_ 19 = .ok (.goto 36, 3) := by decide +kernel
theorem d_Log_in__22 : decode b_Log_in_ 22 = .ok (.aload_n 0, 1) := by decide +kernel
theorem d_Log_in__23 : decode b_Log_in_ 23 = .ok (.invokevirtual 241, 3) := by decide +kernel
theorem d_Log_in__26 : decode b_Log_in_ 26 = .ok (.ifCond .ne 9, 3) := by decide +kernel
theorem d_Log_in__29 : decode b_Log_in_ 29 = .ok (.bipush (-2), 2) := by decide +kernel
theorem d_Log_in__31 : decode b_Log_in_ 31 = .ok (.istore_n 2, 1) := by decide +kernel
theorem d_Log_in__32 : decode b_Log_in_ 32 = .ok (.goto 23, 3) := by decide +kernel
theorem d_Log_in__35 : decode b_Log_in_ 35 = .ok (.aload_n 0, 1) := by decide +kernel
theorem d_Log_in__36 : decode b_Log_in_ 36 = .ok (.iload_n 1, 1) := by decide +kernel
theorem d_Log_in__37 : decode b_Log_in_ 37 = .ok (.invokevirtual 245, 3) := by decide +kernel
theorem d_Log_in__40 : decode b_Log_in_ 40 = .ok (.ifCond .ne 9, 3) := by decide +kernel
theorem d_Log_in__43 : decode b_Log_in_ 43 = .ok (.bipush (-4), 2) := by decide +kernel
theorem d_Log_in__45 : decode b_Log_in_ 45 = .ok (.istore_n 2, 1) := by decide +kernel
theorem d_Log_in__46 : decode b_Log_in_ 46 = .ok (.goto 9, 3) := by decide +kernel
theorem d_Log_in__49 : decode b_Log_in_ 49 = .ok (.aload_n 0, 1) := by decide +kernel
theorem d_Log_in__50 : decode b_Log_in_ 50 = .ok (.iload_n 1, 1) := by decide +kernel
theorem d_Log_in__51 : decode b_Log_in_ 51 = .ok (.invokevirtual 248, 3) := by decide +kernel
theorem d_Log_in__54 : decode b_Log_in_ 54 = .ok (.istore_n 2, 1) := by decide +kernel
theorem d_Log_in__55 : decode b_Log_in_ 55 = .ok (.aload_n 0, 1) := by decide +kernel
theorem d_Log_in__56 : decode b_Log_in_ 56 = .ok (.getfield 21, 3) := by decide +kernel
theorem d_Log_in__59 : decode b_Log_in_ 59 = .ok (.invokevirtual 80, 3) := by decide +kernel
theorem d_Log_in__62 : decode b_Log_in_ 62 = .ok (.iload_n 2, 1) := by decide +kernel
theorem d_Log_in__63 : decode b_Log_in_ 63 = .ok (.ireturn, 1) := by decide +kernel
theorem d_Log_isEntryRight_0 : decode b_Log_isEntryRight 0 = .ok (.iload_n 1, 1) := by decide +kernel
theorem d_Log_isEntryRight_1 : decode b_Log_isEntryRight 1 = .ok (.iload_n 2, 1) := by decide +kernel
theorem d_Log_isEntryRight_2 : decode b_Log_isEntryRight 2 = .ok (.invokestatic 303, 3) := by decide +kernel
theorem d_Log_isEntryRight_5 : decode b_Log_isEntryRight 5 = .ok (.istore 4, 2) := by decide +kernel
theorem d_Log_isEntryRight_7 : decode b_Log_isEntryRight 7 = .ok (.iload_n 2, 1) := by decide +kernel
theorem d_Log_isEntryRight_8 : decode b_Log_isEntryRight 8 = .ok (.invokestatic 308, 3) := by decide +kernel
theorem d_Log_isEntryRight_11 : decode b_Log_isEntryRight 11 = .ok (.istore 5, 2) := by decide +kernel
theorem d_Log_isEntryRight_13 : decode b_Log_isEntryRight 13 = .ok (.aload_n 0, 1) := by decide +kernel
theorem d_Log_isEntryRight_14 : decode b_Log_isEntryRight 14 = .ok (.getfield 51, 3) := by decide +kernel
theorem d_Log_isEntryRight_17 : decode b_Log_isEntryRight 17 = .ok (.iload_n 3, 1) := by decide +kernel
theorem d_Log_isEntryRight_18 : decode b_Log_isEntryRight 18 = .ok (.invokevirtual 198, 3) := by decide +kernel
theorem d_Log_isEntryRight_21 : decode b_Log_isEntryRight 21 = .ok (.istore 6, 2) := by decide +kernel
theorem d_Log_isEntryRight_23 : decode b_Log_isEntryRight 23 = .ok (.aload_n 0, 1) := by decide +kernel
theorem d_Log_isEntryRight_24 : decode b_Log_isEntryRight 24 = .ok (.getfield 14, 3) := by decide +kernel
theorem d_Log_isEntryRight_27 : decode b_Log_isEntryRight 27 = .ok (.iload 4, 2) := by decide +kernel
theorem d_Log_isEntryRight_29 : decode b_Log_isEntryRight 29 = .ok (.iload 5, 2) := by decide +kernel
theorem d_Log_isEntryRight_31 : decode b_Log_isEntryRight 31 = .ok (.iconst 4, 1) := by decide +kernel
theorem d_Log_isEntryRight_32 : decode b_Log_isEntryRight 32 = .ok (.iadd, 1) := by decide +kernel
theorem d_Log_isEntryRight_33 : decode b_Log_isEntryRight 33 = .ok (.iconst 2, 1) := by decide +kernel
theorem d_Log_isEntryRight_34 : decode b_Log_isEntryRight 34 = .ok (.invokevirtual 311, 3) := by decide +kernel
theorem d_Log_isEntryRight_37 : decode b_Log_isEntryRight 37 = .ok (.iload 6, 2) := by decide +kernel
theorem d_Log_isEntryRight_39 : decode b_Log_isEntryRight 39 = .ok (.i2l, 1) := by decide +kernel
theorem d_Log_isEntryRight_40 : decode b_Log_isEntryRight 40 = .ok (.lcmp, 1) := by decide +kernel
theorem d_Log_isEntryRight_41 : decode b_Log_isEntryRight 41 = .ok (.ifCond .ne 40, 3) := by decide +kernel
theorem d_Log_isEntryRight_44 : decode b_Log_isEntryRight 44 = .ok (.aload_n 0, 1) := by decide +kernel
theorem d_Log_isEntryRight_45 : decode b_Log_isEntryRight 45 = .ok (.getfield 14, 3) := by decide +kernel
theorem d_Log_isEntryRight_48 : decode b_Log_isEntryRight 48 = .ok (.iload 4, 2) := by decide +kernel
theorem d_Log_isEntryRight_50 : decode b_Log_isEntryRight 50 = .ok (.iload 5, 2) := by decide +kernel
theorem d_Log_isEntryRight_52 : decode b_Log_isEntryRight 52 = .ok (.bipush 6, 2) := by decide +kernel
theorem d_Log_isEntryRight_54 : decode b_Log_isEntryRight 54 = .ok (.iadd, 1) := by decide +kernel
theorem d_Log_isEntryRight_55 : decode b_Log_isEntryRight 55 = .ok (.bipush 8, 2) := by decide +kernel
theorem d_Log_isEntryRight_57 : decode b_Log_isEntryRight 57 = .ok (.invokevirtual 311, 3) := by decide +kernel
theorem d_Log_isEntryRight_60 : decode b_Log_isEntryRight 60 = .ok (.aload_n 0, 1) := by decide +kernel
theorem d_Log_isEntryRight_61 : decode b_Log_isEntryRight 61 = .ok (.getfield 14, 3) := by decide +kernel
theorem d_Log_isEntryRight_64 : decode b_Log_isEntryRight 64 = .ok (.iload 6, 2) := by decide +kernel
theorem d_Log_isEntryRight_66 : decode b_Log_isEntryRight 66 = .ok (.bipush 16, 2) := by decide +kernel
theorem d_Log_isEntryRight_68 : decode b_Log_isEntryRight 68 = .ok (.bipush 8, 2) := by decide +kernel
theorem d_Log_isEntryRight_70 : decode b_Log_isEntryRight 70 = .ok (.invokevirtual 311, 3) := by decide +kernel
theorem d_Log_isEntryRight_73 : decode b_Log_isEntryRight 73 = .ok (.lcmp, 1) := by decide +kernel
theorem d_Log_isEntryRight_74 : decode b_Log_isEntryRight 74 = .ok (.ifCond .ne 7, 3) := by decide +kernel
theorem d_Log_isEntryRight_77 : decode b_Log_isEntryRight 77 = .ok (.iconst 1, 1) := by decide +kernel
theorem d_Log_isEntryRight_78 : decode b_Log_isEntryRight 78 = .ok (.goto 4, 3) := by decide +kernel
theorem d_Log_isEntryRight_81 : decode b_Log_isEntryRight 81 = .ok (.iconst 0, 1) := by decide +kernel
theorem d_Log_isEntryRight_82 : decode b_Log_isEntryRight 82 = .ok (.ireturn, 1) := by decide +kernel
theorem d_Log_isGoodHead_0 : decode b_Log_isGoodHead 0 = .ok (.aload_n 0, 1) := by decide +kernel
theorem d_Log_isGoodHead_1 : decode b_Log_isGoodHead 1 = .ok (.getfield 14, 3) := by decide +kernel
theorem d_Log_isGoodHead_4 : decode b_Log_isGoodHead 4 = .ok (.iload_n 1, 1) := by decide +kernel
theorem d_Log_isGoodHead_5 : decode b_Log_isGoodHead 5 = .ok (.iconst 0, 1) := by decide +kernel
theorem d_Log_isGoodHead_6 : decode b_Log_isGoodHead 6 = .ok (.invokevirtual 226, 3) := by decide +kernel
theorem d_Log_isGoodHead_9 : decode b_Log_isGoodHead 9 = .ok (.iconst 4, 1) := by decide +kernel
theorem d_Log_isGoodHead_10 : decode b_Log_isGoodHead 10 = .ok (.if_icmp .ne 34, 3) := by decide +kernel
theorem d_Log_isGoodHead_13 : decode b_Log_isGoodHead 13 = .ok (.aload_n 0, 1) := by decide +kernel
theorem d_Log_isGoodHead_14 : decode b_Log_isGoodHead 14 = .ok (.getfield 14, 3) := by decide +kernel
theorem d_Log_isGoodHead_17 : decode b_Log_isGoodHead 17 = .ok (.iload_n 1, 1) := by decide +kernel
theorem d_Log_isGoodHead_18 : decode b_Log_isGoodHead 18 = .ok (.invokevirtual 346, 3) := by decide +kernel
theorem d_Log_isGoodHead_21 : decode b_Log_isGoodHead 21 = .ok (.ifCond .eq 23, 3) := by decide +kernel
theorem d_Log_isGoodHead_24 : decode b_Log_isGoodHead 24 = .ok (.aload_n 0, 1) := by decide +kernel
theorem d_Log_isGoodHead_25 : decode b_Log_isGoodHead 25 = .ok (.getfield 14, 3) := by decide +kernel
theorem d_Log_isGoodHead_28 : decode b_Log_isGoodHead 28 = .ok (.iload_n 1, 1) := by decide +kernel
theorem d_Log_isGoodHead_29 : decode b_Log_isGoodHead 29 = .ok (.iconst 4, 1) := by decide +kernel
theorem d_Log_isGoodHead_30 : decode b_Log_isGoodHead 30 = .ok (.iconst 4, 1) := by decide +kernel
theorem d_Log_isGoodHead_31 : decode b_Log_isGoodHead 31 = .ok (.invokevirtual 311, 3) := by decide +kernel
theorem d_Log_isGoodHead_34 : decode b_Log_isGoodHead 34 = .ok (.invokestatic 349, 3) := by decide +kernel
theorem d_Log_isGoodHead_37 : decode b_Log_isGoodHead 37 = .ok (.ifCond .eq 7, 3) := by decide +kernel
theorem d_Log_isGoodHead_40 : decode b_Log_isGoodHead 40 = .ok (.iconst 1, 1) := by decide +kernel
theorem d_Log_isGoodHead_41 : decode b_Log_isGoodHead 41 = .ok (.goto 4, 3) := by decide +kernel
theorem d_Log_isGoodHead_44 : decode b_Log_isGoodHead 44 = .ok (.iconst 0, 1) := by decide +kernel
theorem d_Log_isGoodHead_45 : decode b_Log_isGoodHead 45 = .ok (.ireturn, 1) := by decide +kernel
theorem d_Log_isGroup_0 : decode b_Log_isGroup 0 = .ok (.iload_n 0, 1) := by decide +kernel
theorem d_Log_isGroup_1 : decode b_Log_isGroup 1 = .ok (.ifCond .lt 13, 3) := by decide +kernel
theorem d_Log_isGroup_4 : decode b_Log_isGroup 4 = .ok (.iload_n 0, 1) := by decide +kernel
theorem d_Log_isGroup_5 : decode b_Log_isGroup 5 = .ok (.bipush 8, 2) := by decide +kernel
theorem d_Log_isGroup_7 : decode b_Log_isGroup 7 = .ok (.if_icmp .ge 7, 3) := by decide +kernel
theorem d_Log_isGroup_10 : decode b_Log_isGroup 10 = .ok (.iconst 1, 1) := by decide +kernel
theorem d_Log_isGroup_11 : decode b_Log_isGroup 11 = .ok (.goto 4, 3) := by decide +kernel
theorem d_Log_isGroup_14 : decode b_Log_isGroup 14 = .ok (.iconst 0, 1) := by decide +kernel
theorem d_Log_isGroup_15 : decode b_Log_isGroup 15 = .ok (.ireturn, 1) := by decide +kernel
theorem d_Log_isKeptAsFound_0 : decode b_Log_isKeptAsFound 0 = .ok (.aload_n 0, 1) := by decide +kernel
theorem d_Log_isKeptAsFound_1 : decode b_Log_isKeptAsFound 1 = .ok (.getfield 58, 3) := by decide +kernel
theorem d_Log_isKeptAsFound_4 : decode b_Log_isKeptAsFound 4 = .ok (.iload_n 1, 1) := by decide +kernel
theorem d_Log_isKeptAsFound_5 : decode b_Log_isKeptAsFound 5 = .ok (.invokevirtual 216, 3) := by decide +kernel
theorem d_Log_isKeptAsFound_8 : decode b_Log_isKeptAsFound 8 = .ok (.istore_n 2, 1) := by decide +kernel
theorem d_Log_isKeptAsFound_9 : decode b_Log_isKeptAsFound 9 = .ok (.aload_n 0, 1) := by decide +kernel
theorem d_Log_isKeptAsFound_10 : decode b_Log_isKeptAsFound 10 = .ok (.getfield 58, 3) := by decide +kernel
theorem d_Log_isKeptAsFound_13 : decode b_Log_isKeptAsFound 13 = .ok (.iload_n 1, 1) := by decide +kernel
theorem d_Log_isKeptAsFound_14 : decode b_Log_isKeptAsFound 14 = .ok (.invokevirtual 101, 3) := by decide +kernel
theorem d_Log_isKeptAsFound_17 : decode b_Log_isKeptAsFound 17 = .ok (.istore_n 3, 1) := by decide +kernel
theorem d_Log_isKeptAsFound_18 : decode b_Log_isKeptAsFound 18 = .ok (.aload_n 0, 1) := by decide +kernel
theorem d_Log_isKeptAsFound_19 : decode b_Log_isKeptAsFound 19 = .ok (.getfield 58, 3) := by decide +kernel
theorem d_Log_isKeptAsFound_22 : decode b_Log_isKeptAsFound 22 = .ok (.iload_n 1, 1) := by decide +kernel
theorem d_Log_isKeptAsFound_23 : decode b_Log_isKeptAsFound 23 = .ok (.invokevirtual 377, 3) := by decide +kernel
theorem d_Log_isKeptAsFound_26 : decode b_Log_isKeptAsFound 26 = .ok (.lstore 4, 2) := by decide +kernel
theorem d_Log_isKeptAsFound_28 : decode b_Log_isKeptAsFound 28 = .ok (.aload_n 0, 1) := by decide +kernel
theorem d_Log_isKeptAsFound_29 : decode b_Log_isKeptAsFound 29 = .ok (.getfield 14, 3) := by decide +kernel
theorem d_Log_isKeptAsFound_32 : decode b_Log_isKeptAsFound 32 = .ok (.iload_n 2, 1) := by decide +kernel
theorem d_Log_isKeptAsFound_33 : decode b_Log_isKeptAsFound 33 = .ok (.iconst 0, 1) := by decide +kernel
theorem d_Log_isKeptAsFound_34 : decode b_Log_isKeptAsFound 34 = .ok (.invokevirtual 226, 3) := by decide +kernel
theorem d_Log_isKeptAsFound_37 : decode b_Log_isKeptAsFound 37 = .ok (.iconst 2, 1) := by decide +kernel
theorem d_Log_isKeptAsFound_38 : decode b_Log_isKeptAsFound 38 = .ok (.if_icmp .ne 92, 3) := by decide +kernel
theorem d_Log_isKeptAsFound_41 : decode b_Log_isKeptAsFound 41 = .ok (.aload_n 0, 1) := by decide +kernel
theorem d_Log_isKeptAsFound_42 : decode b_Log_isKeptAsFound 42 = .ok (.getfield 14, 3) := by decide +kernel
theorem d_Log_isKeptAsFound_45 : decode b_Log_isKeptAsFound 45 = .ok (.iload_n 2, 1) := by decide +kernel
theorem d_Log_isKeptAsFound_46 : decode b_Log_isKeptAsFound 46 = .ok (.invokevirtual 346, 3) := by decide +kernel
theorem d_Log_isKeptAsFound_49 : decode b_Log_isKeptAsFound 49 = .ok (.ifCond .eq 81, 3) := by decide +kernel
theorem d_Log_isKeptAsFound_52 : decode b_Log_isKeptAsFound 52 = .ok (.aload_n 0, 1) := by decide +kernel
theorem d_Log_isKeptAsFound_53 : decode b_Log_isKeptAsFound 53 = .ok (.getfield 14, 3) := by decide +kernel
theorem d_Log_isKeptAsFound_56 : decode b_Log_isKeptAsFound 56 = .ok (.iload_n 2, 1) := by decide +kernel
theorem d_Log_isKeptAsFound_57 : decode b_Log_isKeptAsFound 57 = .ok (.iconst 4, 1) := by decide +kernel
theorem d_Log_isKeptAsFound_58 : decode b_Log_isKeptAsFound 58 = .ok (.iconst 4, 1) := by decide +kernel
theorem d_Log_isKeptAsFound_59 : decode b_Log_isKeptAsFound 59 = .ok (.invokevirtual 311, 3) := by decide +kernel
theorem d_Log_isKeptAsFound_62 : decode b_Log_isKeptAsFound 62 = .ok (.aload_n 0, 1) := by decide +kernel
theorem d_Log_isKeptAsFound_63 : decode b_Log_isKeptAsFound 63 = .ok (.getfield 58, 3) := by decide +kernel
theorem d_Log_isKeptAsFound_66 : decode b_Log_isKeptAsFound 66 = .ok (.iload_n 1, 1) := by decide +kernel
theorem d_Log_isKeptAsFound_67 : decode b_Log_isKeptAsFound 67 = .ok (.invokevirtual 172, 3) := by decide +kernel
theorem d_Log_isKeptAsFound_70 : decode b_Log_isKeptAsFound 70 = .ok (.i2l, 1) := by decide +kernel
theorem d_Log_isKeptAsFound_71 : decode b_Log_isKeptAsFound 71 = .ok (.lcmp, 1) := by decide +kernel
theorem d_Log_isKeptAsFound_72 : decode b_Log_isKeptAsFound 72 = .ok (.ifCond .ne 58, 3) := by decide +kernel
theorem d_Log_isKeptAsFound_75 : decode b_Log_isKeptAsFound 75 = .ok (.aload_n 0, 1) := by decide +kernel
theorem d_Log_isKeptAsFound_76 : decode b_Log_isKeptAsFound 76 = .ok (.getfield 14, 3) := by decide +kernel
theorem d_Log_isKeptAsFound_79 : decode b_Log_isKeptAsFound 79 = .ok (.iload_n 2, 1) := by decide +kernel
theorem d_Log_isKeptAsFound_80 : decode b_Log_isKeptAsFound 80 = .ok (.iconst 1, 1) := by decide +kernel
theorem d_Log_isKeptAsFound_81 : decode b_Log_isKeptAsFound 81 = .ok (.invokevirtual 226, 3) := by decide +kernel
theorem d_Log_isKeptAsFound_84 : decode b_Log_isKeptAsFound 84 = .ok (.iload_n 3, 1) := by decide +kernel
theorem d_Log_isKeptAsFound_85 : decode b_Log_isKeptAsFound 85 = .ok (.if_icmp .ne 45, 3) := by decide +kernel
theorem d_Log_isKeptAsFound_88 : decode b_Log_isKeptAsFound 88 = .ok (.aload_n 0, 1) := by decide +kernel
theorem d_Log_isKeptAsFound_89 : decode b_Log_isKeptAsFound 89 = .ok (.getfield 14, 3) := by decide +kernel
theorem d_Log_isKeptAsFound_92 : decode b_Log_isKeptAsFound 92 = .ok (.iload_n 2, 1) := by decide +kernel
theorem d_Log_isKeptAsFound_93 : decode b_Log_isKeptAsFound 93 = .ok (.bipush 8, 2) := by decide +kernel
theorem d_Log_isKeptAsFound_95 : decode b_Log_isKeptAsFound 95 = .ok (.bipush 8, 2) := by decide +kernel
theorem d_Log_isKeptAsFound_97 : decode b_Log_isKeptAsFound 97 = .ok (.invokevirtual 311, 3) := by decide +kernel
theorem d_Log_isKeptAsFound_100 : decode b_Log_isKeptAsFound 100 = .ok (.lload 4, 2) := by decide +kernel
theorem d_Log_isKeptAsFound_102 : decode b_Log_isKeptAsFound 102 = .ok (.lcmp, 1) := by decide +kernel
theorem d_Log_isKeptAsFound_103 : decode b_Log_isKeptAsFound 103 = .ok (.ifCond .ne 27, 3) := by decide +kernel
theorem d_Log_isKeptAsFound_106 : decode b_Log_isKeptAsFound 106 = .ok (.aload_n 0, 1) := by decide +kernel
theorem d_Log_isKeptAsFound_107 : decode b_Log_isKeptAsFound 107 = .ok (.getfield 14, 3) := by decide +kernel
theorem d_Log_isKeptAsFound_110 : decode b_Log_isKeptAsFound 110 = .ok (.iload_n 2, 1) := by decide +kernel
theorem d_Log_isKeptAsFound_111 : decode b_Log_isKeptAsFound 111 = .ok (.iconst 1, 1) := by decide +kernel
theorem d_Log_isKeptAsFound_112 : decode b_Log_isKeptAsFound 112 = .ok (.iadd, 1) := by decide +kernel
theorem d_Log_isKeptAsFound_113 : decode b_Log_isKeptAsFound 113 = .ok (.iload_n 3, 1) := by decide +kernel
theorem d_Log_isKeptAsFound_114 : decode b_Log_isKeptAsFound 114 = .ok (.invokestatic 262, 3) := by decide +kernel
theorem d_Log_isKeptAsFound_117 : decode b_Log_isKeptAsFound 117 = .ok (.invokevirtual 365, 3) := by decide +kernel
theorem d_Log_isKeptAsFound_120 : decode b_Log_isKeptAsFound 120 = .ok (.lload 4, 2) := by decide +kernel
theorem d_Log_isKeptAsFound_122 : decode b_Log_isKeptAsFound 122 = .ok (.lcmp, 1) := by decide +kernel
theorem d_Log_isKeptAsFound_123 : decode b_Log_isKeptAsFound 123 = .ok (.ifCond .ne 7, 3) := by decide +kernel
theorem d_Log_isKeptAsFound_126 : decode b_Log_isKeptAsFound 126 = .ok (.iconst 1, 1) := by decide +kernel
theorem d_Log_isKeptAsFound_127 : decode b_Log_isKeptAsFound 127 = .ok (.goto 4, 3) := by decide +kernel
theorem d_Log_isKeptAsFound_130 : decode b_Log_isKeptAsFound 130 = .ok (.iconst 0, 1) := by decide +kernel
theorem d_Log_isKeptAsFound_131 : decode b_Log_isKeptAsFound 131 = .ok (.ireturn, 1) := by decide +kernel
theorem d_Log_isKeptWhole_0 : decode b_Log_isKeptWhole 0 = .ok (.aload_n 0, 1) := by decide +kernel
theorem d_Log_isKeptWhole_1 : decode b_Log_isKeptWhole 1 = .ok (.iload_n 1, 1) := by decide +kernel
theorem d_Log_isKeptWhole_2 : decode b_Log_isKeptWhole 2 = .ok (.invokevirtual 217, 3) := by decide +kernel
theorem d_Log_isKeptWhole_5 : decode b_Log_isKeptWhole 5 = .ok (.ifCond .ne 5, 3) := by decide +kernel
theorem d_Log_isKeptWhole_8 : decode b_Log_isKeptWhole 8 = .ok (.iconst 0, 1) := by decide +kernel
theorem d_Log_isKeptWhole_9 : decode b_Log_isKeptWhole 9 = .ok (.ireturn, 1) := by decide +kernel
theorem d_Log_isKeptWhole_10 : decode b_Log_isKeptWhole 10 = .ok (.aload_n 0, 1) := by decide +kernel
theorem d_Log_isKeptWhole_11 : decode b_Log_isKeptWhole 11 = .ok (.getfield 58, 3) := by decide +kernel
theorem d_Log_isKeptWhole_14 : decode b_Log_isKeptWhole 14 = .ok (.iload_n 1, 1) := by decide +kernel
theorem d_Log_isKeptWhole_15 : decode b_Log_isKeptWhole 15 = .ok (.invokevirtual 216, 3) := by decide +kernel
theorem d_Log_isKeptWhole_18 : decode b_Log_isKeptWhole 18 = .ok (.istore_n 2, 1) := by decide +kernel
theorem d_Log_isKeptWhole_19 : decode b_Log_isKeptWhole 19 = .ok (.iconst 0, 1) := by decide +kernel
theorem d_Log_isKeptWhole_20 : decode b_Log_isKeptWhole 20 = .ok (.istore_n 3, 1) := by decide +kernel
theorem d_Log_isKeptWhole_21 : decode b_Log_isKeptWhole 21 = .ok (.iload_n 3, 1) := by decide +kernel
theorem d_Log_isKeptWhole_22 : decode b_Log_isKeptWhole 22 = .ok (.aload_n 0, 1) := by decide +kernel
theorem d_Log_isKeptWhole_23 : decode b_Log_isKeptWhole 23 = .ok (.getfield 58, 3) := by decide +kernel
theorem d_Log_isKeptWhole_26 : decode b_Log_isKeptWhole 26 = .ok (.iload_n 1, 1) := by decide +kernel
theorem d_Log_isKeptWhole_27 : decode b_Log_isKeptWhole 27 = .ok (.invokevirtual 101, 3) := by decide +kernel
theorem d_Log_isKeptWhole_30 : decode b_Log_isKeptWhole 30 = .ok (.if_icmp .ge 55, 3) := by decide +kernel
theorem d_Log_isKeptWhole_33 : decode b_Log_isKeptWhole 33 = .ok (.aload_n 0, 1) := by decide +kernel
theorem d_Log_isKeptWhole_34 : decode b_Log_isKeptWhole 34 = .ok (.getfield 51, 3) := by decide +kernel
theorem d_Log_isKeptWhole_37 : decode b_Log_isKeptWhole 37 = .ok (.aload_n 0, 1) := by decide +kernel
theorem d_Log_isKeptWhole_38 : decode b_Log_isKeptWhole 38 = .ok (.getfield 58, 3) := by decide +kernel
theorem d_Log_isKeptWhole_41 : decode b_Log_isKeptWhole 41 = .ok (.iload_n 1, 1) := by decide +kernel
theorem d_Log_isKeptWhole_42 : decode b_Log_isKeptWhole 42 = .ok (.iload_n 3, 1) := by decide +kernel
theorem d_Log_isKeptWhole_43 : decode b_Log_isKeptWhole 43 = .ok (.invokevirtual 121, 3) := by decide +kernel
theorem d_Log_isKeptWhole_46 : decode b_Log_isKeptWhole 46 = .ok (.invokevirtual 186, 3) := by decide +kernel
theorem d_Log_isKeptWhole_49 : decode b_Log_isKeptWhole 49 = .ok (.istore 4, 2) := by decide +kernel
theorem d_Log_isKeptWhole_51 : decode b_Log_isKeptWhole 51 = .ok (.iload 4, 2) := by decide +kernel
theorem d_Log_isKeptWhole_53 : decode b_Log_isKeptWhole 53 = .ok (.iconst (-1), 1) := by decide +kernel
theorem d_Log_isKeptWhole_54 : decode b_Log_isKeptWhole 54 = .ok (.if_icmp .eq 23, 3) := by decide +kernel
theorem d_Log_isKeptWhole_57 : decode b_Log_isKeptWhole 57 = .ok (.aload_n 0, 1) := by decide +kernel
theorem d_Log_isKeptWhole_58 : decode b_Log_isKeptWhole 58 = .ok (.iload_n 2, 1) := by decide +kernel
theorem d_Log_isKeptWhole_59 : decode b_Log_isKeptWhole 59 = .ok (.iload_n 3, 1) := by decide +kernel
theorem d_Log_isKeptWhole_60 : decode b_Log_isKeptWhole 60 = .ok (.iload 4, 2) := by decide +kernel
theorem d_Log_isKeptWhole_62 : decode b_Log_isKeptWhole 62 = .ok (.invokevirtual 373, 3) := by decide +kernel
theorem d_Log_isKeptWhole_65 : decode b_Log_isKeptWhole 65 = .ok (.ifCond .eq 12, 3) := by decide +kernel
theorem d_Log_isKeptWhole_68 : decode b_Log_isKeptWhole 68 = .ok (.aload_n 0, 1) := by decide +kernel
theorem d_Log_isKeptWhole_69 : decode b_Log_isKeptWhole 69 = .ok (.iload 4, 2) := by decide +kernel
theorem d_Log_isKeptWhole_71 : decode b_Log_isKeptWhole 71 = .ok (.invokevirtual 201, 3) := by decide +kernel
theorem d_Log_isKeptWhole_74 : decode b_Log_isKeptWhole 74 = .ok (.ifCond .ne 5, 3) := by decide +kernel
theorem d_Log_isKeptWhole_77 : decode b_Log_isKeptWhole 77 = .ok (.iconst 0, 1) := by decide +kernel
theorem d_Log_isKeptWhole_78 : decode b_Log_isKeptWhole 78 = .ok (.ireturn, 1) := by decide +kernel
theorem d_Log_isKeptWhole_79 : decode b_Log_isKeptWhole 79 = .ok (.iinc 3 1, 3) := by decide +kernel
theorem d_Log_isKeptWhole_82 : decode b_Log_isKeptWhole 82 = .ok (.goto (-61), 3) := by decide +kernel
theorem d_Log_isKeptWhole_85 : decode b_Log_isKeptWhole 85 = .ok (.iconst 1, 1) := by decide +kernel
theorem d_Log_isKeptWhole_86 : decode b_Log_isKeptWhole 86 = .ok (.ireturn, 1) := by decide +kernel
theorem d_Log_isMadeWhole_0 : decode b_Log_isMadeWhole 0 = .ok (.iconst 0, 1) := by decide +kernel
theorem d_Log_isMadeWhole_1 : decode b_Log_isMadeWhole 1 = .ok (.istore_n 2, 1) := by decide +kernel
theorem d_Log_isMadeWhole_2 : decode b_Log_isMadeWhole 2 = .ok (.iload_n 2, 1) := by decide +kernel
theorem d_Log_isMadeWhole_3 : decode b_Log_isMadeWhole 3 = .ok (.aload_n 0, 1) := by decide +kernel
theorem d_Log_isMadeWhole_4 : decode b_Log_isMadeWhole 4 = .ok (.getfield 62, 3) := by decide +kernel
theorem d_Log_isMadeWhole_7 : decode b_Log_isMadeWhole 7 = .ok (.iload_n 1, 1) := by decide +kernel
theorem d_Log_isMadeWhole_8 : decode b_Log_isMadeWhole 8 = .ok (.invokevirtual 101, 3) := by decide +kernel
theorem d_Log_isMadeWhole_11 : decode b_Log_isMadeWhole 11 = .ok (.if_icmp .ge 41, 3) := by decide +kernel
theorem d_Log_isMadeWhole_14 : decode b_Log_isMadeWhole 14 = .ok (.aload_n 0, 1) := by decide +kernel
theorem d_Log_isMadeWhole_15 : decode b_Log_isMadeWhole 15 = .ok (.getfield 51, 3) := by decide +kernel
theorem d_Log_isMadeWhole_18 : decode b_Log_isMadeWhole 18 = .ok (.aload_n 0, 1) := by decide +kernel
theorem d_Log_isMadeWhole_19 : decode b_Log_isMadeWhole 19 = .ok (.getfield 62, 3) := by decide +kernel
theorem d_Log_isMadeWhole_22 : decode b_Log_isMadeWhole 22 = .ok (.iload_n 1, 1) := by decide +kernel
theorem d_Log_isMadeWhole_23 : decode b_Log_isMadeWhole 23 = .ok (.iload_n 2, 1) := by decide +kernel
theorem d_Log_isMadeWhole_24 : decode b_Log_isMadeWhole 24 = .ok (.invokevirtual 121, 3) := by decide +kernel
theorem d_Log_isMadeWhole_27 : decode b_Log_isMadeWhole 27 = .ok (.invokevirtual 186, 3) := by decide +kernel
theorem d_Log_isMadeWhole_30 : decode b_Log_isMadeWhole 30 = .ok (.istore_n 3, 1) := by decide +kernel
theorem d_Log_isMadeWhole_31 : decode b_Log_isMadeWhole 31 = .ok (.iload_n 3, 1) := by decide +kernel
theorem d_Log_isMadeWhole_32 : decode b_Log_isMadeWhole 32 = .ok (.iconst (-1), 1) := by decide +kernel
theorem d_Log_isMadeWhole_33 : decode b_Log_isMadeWhole 33 = .ok (.if_icmp .eq 11, 3) := by decide +kernel
theorem d_Log_isMadeWhole_36 : decode b_Log_isMadeWhole 36 = .ok (.aload_n 0, 1) := by decide +kernel
theorem d_Log_isMadeWhole_37 : decode b_Log_isMadeWhole 37 = .ok (.iload_n 3, 1) := by decide +kernel
theorem d_Log_isMadeWhole_38 : decode b_Log_isMadeWhole 38 = .ok (.invokevirtual 201, 3) := by decide +kernel
theorem d_Log_isMadeWhole_41 : decode b_Log_isMadeWhole 41 = .ok (.ifCond .ne 5, 3) := by decide +kernel
theorem d_Log_isMadeWhole_44 : decode b_Log_isMadeWhole 44 = .ok (.iconst 0, 1) := by decide +kernel
theorem d_Log_isMadeWhole_45 : decode b_Log_isMadeWhole 45 = .ok (.ireturn, 1) := by decide +kernel
theorem d_Log_isMadeWhole_46 : decode b_Log_isMadeWhole 46 = .ok (.iinc 2 1, 3) := by decide +kernel
theorem d_Log_isMadeWhole_49 : decode b_Log_isMadeWhole 49 = .ok (.goto (-47), 3) := by decide +kernel
theorem d_Log_isMadeWhole_52 : decode b_Log_isMadeWhole 52 = .ok (.iconst 1, 1) := by decide +kernel
theorem d_Log_isMadeWhole_53 : decode b_Log_isMadeWhole 53 = .ok (.ireturn, 1) := by decide +kernel
theorem d_Log_isMarkThere_0 : decode b_Log_isMarkThere 0 = .ok (.aload_n 0, 1) := by decide +kernel
theorem d_Log_isMarkThere_1 : decode b_Log_isMarkThere 1 = .ok (.getfield 14, 3) := by decide +kernel
theorem d_Log_isMarkThere_4 : decode b_Log_isMarkThere 4 = .ok (.iload_n 1, 1) := by decide +kernel
theorem d_Log_isMarkThere_5 : decode b_Log_isMarkThere 5 = .ok (.iconst 0, 1) := by decide +kernel
theorem d_Log_isMarkThere_6 : decode b_Log_isMarkThere 6 = .ok (.invokevirtual 226, 3) := by decide +kernel
theorem d_Log_isMarkThere_9 : decode b_Log_isMarkThere 9 = .ok (.iconst 2, 1) := by decide +kernel
theorem d_Log_isMarkThere_10 : decode b_Log_isMarkThere 10 = .ok (.if_icmp .ne 14, 3) := by decide +kernel
theorem d_Log_isMarkThere_13 : decode b_Log_isMarkThere 13 = .ok (.aload_n 0, 1) := by decide +kernel
theorem d_Log_isMarkThere_14 : decode b_Log_isMarkThere 14 = .ok (.getfield 14, 3) := by decide +kernel
theorem d_Log_isMarkThere_17 : decode b_Log_isMarkThere 17 = .ok (.iload_n 1, 1) := by decide +kernel
theorem d_Log_isMarkThere_18 : decode b_Log_isMarkThere 18 = .ok (.invokevirtual 346, 3) := by decide +kernel
theorem d_Log_isMarkThere_21 : decode b_Log_isMarkThere 21 = .ok (.ifCond .ne 5, 3) := by decide +kernel
theorem d_Log_isMarkThere_24 : decode b_Log_isMarkThere 24 = .ok (.iconst 0, 1) := by decide +kernel
theorem d_Log_isMarkThere_25 : decode b_Log_isMarkThere 25 = .ok (.ireturn, 1) := by decide +kernel
theorem d_Log_isMarkThere_26 : decode b_Log_isMarkThere 26 = .ok (.aload_n 0, 1) := by decide +kernel
theorem d_Log_isMarkThere_27 : decode b_Log_isMarkThere 27 = .ok (.getfield 14, 3) := by decide +kernel
theorem d_Log_isMarkThere_30 : decode b_Log_isMarkThere 30 = .ok (.iload_n 1, 1) := by decide +kernel
theorem d_Log_isMarkThere_31 : decode b_Log_isMarkThere 31 = .ok (.iconst 1, 1) := by decide +kernel
theorem d_Log_isMarkThere_32 : decode b_Log_isMarkThere 32 = .ok (.invokevirtual 226, 3) := by decide +kernel
theorem d_Log_isMarkThere_35 : decode b_Log_isMarkThere 35 = .ok (.istore_n 2, 1) := by decide +kernel
theorem d_Log_isMarkThere_36 : decode b_Log_isMarkThere 36 = .ok (.iload_n 2, 1) := by decide +kernel
theorem d_Log_isMarkThere_37 : decode b_Log_isMarkThere 37 = .ok (.iconst 1, 1) := by decide +kernel
theorem d_Log_isMarkThere_38 : decode b_Log_isMarkThere 38 = .ok (.if_icmp .lt 84, 3) := by decide +kernel
theorem d_Log_isMarkThere_41 : decode b_Log_isMarkThere 41 = .ok (.iload_n 2, 1) := by decide +kernel
theorem d_Log_isMarkThere_42 : decode b_Log_isMarkThere 42 = .ok (.bipush 12, 2) := by decide +kernel
theorem d_Log_isMarkThere_44 : decode b_Log_isMarkThere 44 = .ok (.if_icmp .gt 78, 3) := by decide +kernel
theorem d_Log_isMarkThere_47 : decode b_Log_isMarkThere 47 = .ok (.aload_n 0, 1) := by decide +kernel
theorem d_Log_isMarkThere_48 : decode b_Log_isMarkThere 48 = .ok (.getfield 14, 3) := by decide +kernel
theorem d_Log_isMarkThere_51 : decode b_Log_isMarkThere 51 = .ok (.iload_n 1, 1) := by decide +kernel
theorem d_Log_isMarkThere_52 : decode b_Log_isMarkThere 52 = .ok (.iconst 4, 1) := by decide +kernel
theorem d_Log_isMarkThere_53 : decode b_Log_isMarkThere 53 = .ok (.iconst 4, 1) := by decide +kernel
theorem d_Log_isMarkThere_54 : decode b_Log_isMarkThere 54 = .ok (.invokevirtual 311, 3) := by decide +kernel
theorem d_Log_isMarkThere_57 : decode b_Log_isMarkThere 57 = .ok (.invokestatic 349, 3) := by decide +kernel
theorem d_Log_isMarkThere_60 : decode b_Log_isMarkThere 60 = .ok (.ifCond .eq 62, 3) := by decide +kernel
theorem d_Log_isMarkThere_63 : decode b_Log_isMarkThere 63 = .ok (.iload_n 1, 1) := by decide +kernel
theorem d_Log_isMarkThere_64 : decode b_Log_isMarkThere 64 = .ok (.iload_n 2, 1) := by decide +kernel
theorem d_Log_isMarkThere_65 : decode b_Log_isMarkThere 65 = .ok (.invokestatic 104, 3) := by decide +kernel
theorem d_Log_isMarkThere_68 : decode b_Log_isMarkThere 68 = .ok (.iadd, 1) := by decide +kernel
theorem d_Log_isMarkThere_69 : decode b_Log_isMarkThere 69 = .ok (.aload_n 0, 1) := by decide +kernel
theorem d_Log_isMarkThere_70 : decode b_Log_isMarkThere 70 = .ok (.getfield 14, 3) := by decide +kernel
theorem d_Log_isMarkThere_73 : decode b_Log_isMarkThere 73 = .ok (.invokevirtual 36, 3) := by decide +kernel
theorem d_Log_isMarkThere_76 : decode b_Log_isMarkThere 76 = .ok (.if_icmp .gt 46, 3) := by decide +kernel
theorem d_Log_isMarkThere_79 : decode b_Log_isMarkThere 79 = .ok (.aload_n 0, 1) := by decide +kernel
theorem d_Log_isMarkThere_80 : decode b_Log_isMarkThere 80 = .ok (.getfield 14, 3) := by decide +kernel
theorem d_Log_isMarkThere_83 : decode b_Log_isMarkThere 83 = .ok (.iload_n 1, 1) := by decide +kernel
theorem d_Log_isMarkThere_84 : decode b_Log_isMarkThere 84 = .ok (.bipush 8, 2) := by decide +kernel
theorem d_Log_isMarkThere_86 : decode b_Log_isMarkThere 86 = .ok (.bipush 8, 2) := by decide +kernel
theorem d_Log_isMarkThere_88 : decode b_Log_isMarkThere 88 = .ok (.invokevirtual 311, 3) := by decide +kernel
theorem d_Log_isMarkThere_91 : decode b_Log_isMarkThere 91 = .ok (.aload_n 0, 1) := by decide +kernel
theorem d_Log_isMarkThere_92 : decode b_Log_isMarkThere 92 = .ok (.getfield 14, 3) := by decide +kernel
theorem d_Log_isMarkThere_95 : decode b_Log_isMarkThere 95 = .ok (.iload_n 1, 1) := by decide +kernel
theorem d_Log_isMarkThere_96 : decode b_Log_isMarkThere 96 = .ok (.iconst 1, 1) := by decide +kernel
theorem d_Log_isMarkThere_97 : decode b_Log_isMarkThere 97 = .ok (.iadd, 1) := by decide +kernel
theorem d_Log_isMarkThere_98 : decode b_Log_isMarkThere 98 = .ok (.iload_n 2, 1) := by decide +kernel
theorem d_Log_isMarkThere_99 : decode b_Log_isMarkThere 99 = .ok (.invokestatic 262, 3) := by decide +kernel
theorem d_Log_isMarkThere_102 : decode b_Log_isMarkThere 102 = .ok (.invokevirtual 365, 3) := by decide +kernel
theorem d_Log_isMarkThere_105 : decode b_Log_isMarkThere 105 = .ok (.lcmp, 1) := by decide +kernel
theorem d_Log_isMarkThere_106 : decode b_Log_isMarkThere 106 = .ok (.ifCond .ne 16, 3) := by decide +kernel
theorem d_Log_isMarkThere_109 : decode b_Log_isMarkThere 109 = .ok (.aload_n 0, 1) := by decide +kernel
theorem d_Log_isMarkThere_110 : decode b_Log_isMarkThere 110 = .ok (.iload_n 1, 1) := by decide +kernel
theorem d_Log_isMarkThere_111 : decode b_Log_isMarkThere 111 = .ok (.iload_n 2, 1) := by decide +kernel
theorem d_Log_isMarkThere_112 : decode b_Log_isMarkThere 112 = .ok (.invokevirtual 366, 3) := by decide +kernel
theorem d_Log_isMarkThere_115 : decode b_Log_isMarkThere 115 = .ok (.ifCond .eq 7, 3) := by decide +kernel
theorem d_Log_isMarkThere_118 : decode b_Log_isMarkThere 118 = .ok (.iconst 1, 1) := by decide +kernel
theorem d_Log_isMarkThere_119 : decode b_Log_isMarkThere 119 = .ok (.goto 4, 3) := by decide +kernel
theorem d_Log_isMarkThere_122 : decode b_Log_isMarkThere 122 = .ok (.iconst 0, 1) := by decide +kernel
theorem d_Log_isMarkThere_123 : decode b_Log_isMarkThere 123 = .ok (.ireturn, 1) := by decide +kernel
theorem d_Log_isMarkWhole_0 : decode b_Log_isMarkWhole 0 = .ok (.aload_n 0, 1) := by decide +kernel
theorem d_Log_isMarkWhole_1 : decode b_Log_isMarkWhole 1 = .ok (.getfield 58, 3) := by decide +kernel
theorem d_Log_isMarkWhole_4 : decode b_Log_isMarkWhole 4 = .ok (.iload_n 1, 1) := by decide +kernel
theorem d_Log_isMarkWhole_5 : decode b_Log_isMarkWhole 5 = .ok (.invokevirtual 98, 3) := by decide +kernel
theorem d_Log_isMarkWhole_8 : decode b_Log_isMarkWhole 8 = .ok (.istore_n 2, 1) := by decide +kernel
theorem d_Log_isMarkWhole_9 : decode b_Log_isMarkWhole 9 = .ok (.iload_n 2, 1) := by decide +kernel
theorem d_Log_isMarkWhole_10 : decode b_Log_isMarkWhole 10 = .ok (.iconst (-1), 1) := by decide +kernel
theorem d_Log_isMarkWhole_11 : decode b_Log_isMarkWhole 11 = .ok (.if_icmp .eq 9, 3) := by decide +kernel
theorem d_Log_isMarkWhole_14 : decode b_Log_isMarkWhole 14 = .ok (.aload_n 0, 1) := by decide +kernel
theorem d_Log_isMarkWhole_15 : decode b_Log_isMarkWhole 15 = .ok (.iload_n 2, 1) := by decide +kernel
theorem d_Log_isMarkWhole_16 : decode b_Log_isMarkWhole 16 = .ok (.invokevirtual 169, 3) := by decide +kernel
theorem d_Log_isMarkWhole_19 : decode b_Log_isMarkWhole 19 = .ok (.ireturn, 1) := by decide +kernel
theorem d_Log_isMarkWhole_20 : decode b_Log_isMarkWhole 20 = .ok (.aload_n 0, 1) := by decide +kernel
theorem d_Log_isMarkWhole_21 : decode b_Log_isMarkWhole 21 = .ok (.getfield 62, 3) := by decide +kernel
theorem d_Log_isMarkWhole_24 : decode b_Log_isMarkWhole 24 = .ok (.iload_n 1, 1) := by decide +kernel
theorem d_Log_isMarkWhole_25 : decode b_Log_isMarkWhole 25 = .ok (.invokevirtual 98, 3) := by decide +kernel
theorem d_Log_isMarkWhole_28 : decode b_Log_isMarkWhole 28 = .ok (.istore_n 2, 1) := by decide +kernel
theorem d_Log_isMarkWhole_29 : decode b_Log_isMarkWhole 29 = .ok (.iload_n 2, 1) := by decide +kernel
theorem d_Log_isMarkWhole_30 : decode b_Log_isMarkWhole 30 = .ok (.iconst (-1), 1) := by decide +kernel
theorem d_Log_isMarkWhole_31 : decode b_Log_isMarkWhole 31 = .ok (.if_icmp .eq 15, 3) := by decide +kernel
theorem d_Log_isMarkWhole_34 : decode b_Log_isMarkWhole 34 = .ok (.aload_n 0, 1) := by decide +kernel
theorem d_Log_isMarkWhole_35 : decode b_Log_isMarkWhole 35 = .ok (.iload_n 2, 1) := by decide +kernel
theorem d_Log_isMarkWhole_36 : decode b_Log_isMarkWhole 36 = .ok (.invokevirtual 370, 3) := by decide +kernel
theorem d_Log_isMarkWhole_39 : decode b_Log_isMarkWhole 39 = .ok (.ifCond .eq 7, 3) := by decide +kernel
theorem d_Log_isMarkWhole_42 : decode b_Log_isMarkWhole 42 = .ok (.iconst 1, 1) := by decide +kernel
theorem d_Log_isMarkWhole_43 : decode b_Log_isMarkWhole 43 = .ok (.goto 4, 3) := by decide +kernel
theorem d_Log_isMarkWhole_46 : decode b_Log_isMarkWhole 46 = .ok (.iconst 0, 1) := by decide +kernel
theorem d_Log_isMarkWhole_47 : decode b_Log_isMarkWhole 47 = .ok (.ireturn, 1) := by decide +kernel
theorem d_Log_isNumber_0 : decode b_Log_isNumber 0 = .ok (.lload_n 0, 1) := by decide +kernel
theorem d_Log_isNumber_1 : decode b_Log_isNumber 1 = .ok (.lconst 1, 1) := by decide +kernel
theorem d_Log_isNumber_2 : decode b_Log_isNumber 2 = .ok (.lcmp, 1) := by decide +kernel
theorem d_Log_isNumber_3 : decode b_Log_isNumber 3 = .ok (.ifCond .lt 15, 3) := by decide +kernel
theorem d_Log_isNumber_6 : decode b_Log_isNumber 6 = .ok (.lload_n 0, 1) := by decide +kernel
theorem d_Log_isNumber_7 : decode b_Log_isNumber 7 = .ok (.ldc2_w 257, 3) := by decide +kernel
theorem d_Log_isNumber_10 : decode b_Log_isNumber 10 = .ok (.lcmp, 1) := by decide +kernel
theorem d_Log_isNumber_11 : decode b_Log_isNumber 11 = .ok (.ifCond .gt 7, 3) := by decide +kernel
theorem d_Log_isNumber_14 : decode b_Log_isNumber 14 = .ok (.iconst 1, 1) := by decide +kernel
theorem d_Log_isNumber_15 : decode b_Log_isNumber 15 = .ok (.goto 4, 3) := by decide +kernel
theorem d_Log_isNumber_18 : decode b_Log_isNumber 18 = .ok (.iconst 0, 1) := by decide +kernel
theorem d_Log_isNumber_19 : decode b_Log_isNumber 19 = .ok (.ireturn, 1) := by decide +kernel
theorem d_Log_isPartOnTape_0 : decode b_Log_isPartOnTape 0 = .ok (.iload_n 1, 1) := by decide +kernel
theorem d_Log_isPartOnTape_1 : decode b_Log_isPartOnTape 1 = .ok (.bipush 11, 2) := by decide +kernel
theorem d_Log_isPartOnTape_3 : decode b_Log_isPartOnTape 3 = .ok (.iadd, 1) := by decide +kernel
theorem d_Log_isPartOnTape_4 : decode b_Log_isPartOnTape 4 = .ok (.aload_n 0, 1) := by decide +kernel
theorem d_Log_isPartOnTape_5 : decode b_Log_isPartOnTape 5 = .ok (.getfield 21, 3) := by decide +kernel
theorem d_Log_isPartOnTape_8 : decode b_Log_isPartOnTape 8 = .ok (.invokevirtual 73, 3) := by decide +kernel
theorem d_Log_isPartOnTape_11 : decode b_Log_isPartOnTape 11 = .ok (.if_icmp .gt 47, 3) := by decide +kernel
theorem d_Log_isPartOnTape_14 : decode b_Log_isPartOnTape 14 = .ok (.aload_n 0, 1) := by decide +kernel
theorem d_Log_isPartOnTape_15 : decode b_Log_isPartOnTape 15 = .ok (.getfield 21, 3) := by decide +kernel
theorem d_Log_isPartOnTape_18 : decode b_Log_isPartOnTape 18 = .ok (.iload_n 1, 1) := by decide +kernel
theorem d_Log_isPartOnTape_19 : decode b_Log_isPartOnTape 19 = .ok (.invokevirtual 239, 3) := by decide +kernel
theorem d_Log_isPartOnTape_22 : decode b_Log_isPartOnTape 22 = .ok (.invokestatic 132, 3) := by decide +kernel
theorem d_Log_isPartOnTape_25 : decode b_Log_isPartOnTape 25 = .ok (.ifCond .eq 33, 3) := by decide +kernel
theorem d_Log_isPartOnTape_28 : decode b_Log_isPartOnTape 28 = .ok (.aload_n 0, 1) := by decide +kernel
theorem d_Log_isPartOnTape_29 : decode b_Log_isPartOnTape 29 = .ok (.iload_n 1, 1) := by decide +kernel
theorem d_Log_isPartOnTape_30 : decode b_Log_isPartOnTape 30 = .ok (.invokevirtual 396, 3) := by decide +kernel
theorem d_Log_isPartOnTape_33 : decode b_Log_isPartOnTape 33 = .ok (.sipush 155, 3) := by decide +kernel
theorem d_Log_isPartOnTape_36 : decode b_Log_isPartOnTape 36 = .ok (.if_icmp .gt 22, 3) := by decide +kernel
theorem d_Log_isPartOnTape_39 : decode b_Log_isPartOnTape 39 = .ok (.aload_n 0, 1) := by decide +kernel
theorem d_Log_isPartOnTape_40 : decode b_Log_isPartOnTape 40 = .ok (.iload_n 1, 1) := by decide +kernel
theorem d_Log_isPartOnTape_41 : decode b_Log_isPartOnTape 41 = .ok (.invokevirtual 391, 3) := by decide +kernel
theorem d_Log_isPartOnTape_44 : decode b_Log_isPartOnTape 44 = .ok (.aload_n 0, 1) := by decide +kernel
theorem d_Log_isPartOnTape_45 : decode b_Log_isPartOnTape 45 = .ok (.getfield 21, 3) := by decide +kernel
theorem d_Log_isPartOnTape_48 : decode b_Log_isPartOnTape 48 = .ok (.invokevirtual 73, 3) := by decide +kernel
theorem d_Log_isPartOnTape_51 : decode b_Log_isPartOnTape 51 = .ok (.if_icmp .gt 7, 3) := by decide +kernel
theorem d_Log_isPartOnTape_54 : decode b_Log_isPartOnTape 54 = .ok (.iconst 1, 1) := by decide +kernel
theorem d_Log_isPartOnTape_55 : decode b_Log_isPartOnTape 55 = .ok (.goto 4, 3) := by decide +kernel
theorem d_Log_isPartOnTape_58 : decode b_Log_isPartOnTape 58 = .ok (.iconst 0, 1) := by decide +kernel
theorem d_Log_isPartOnTape_59 : decode b_Log_isPartOnTape 59 = .ok (.ireturn, 1) := by decide +kernel
theorem d_Log_isPartThere_0 : decode b_Log_isPartThere 0 = .ok (.aload_n 0, 1) := by decide +kernel
theorem d_Log_isPartThere_1 : decode b_Log_isPartThere 1 = .ok (.getfield 14, 3) := by decide +kernel
theorem d_Log_isPartThere_4 : decode b_Log_isPartThere 4 = .ok (.iload_n 1, 1) := by decide +kernel
theorem d_Log_isPartThere_5 : decode b_Log_isPartThere 5 = .ok (.iconst 0, 1) := by decide +kernel
theorem d_Log_isPartThere_6 : decode b_Log_isPartThere 6 = .ok (.invokevirtual 226, 3) := by decide +kernel
theorem d_Log_isPartThere_9 : decode b_Log_isPartThere 9 = .ok (.iconst 1, 1) := by decide +kernel
theorem d_Log_isPartThere_10 : decode b_Log_isPartThere 10 = .ok (.if_icmp .ne 14, 3) := by decide +kernel
theorem d_Log_isPartThere_13 : decode b_Log_isPartThere 13 = .ok (.aload_n 0, 1) := by decide +kernel
theorem d_Log_isPartThere_14 : decode b_Log_isPartThere 14 = .ok (.getfield 14, 3) := by decide +kernel
theorem d_Log_isPartThere_17 : decode b_Log_isPartThere 17 = .ok (.iload_n 1, 1) := by decide +kernel
theorem d_Log_isPartThere_18 : decode b_Log_isPartThere 18 = .ok (.invokevirtual 346, 3) := by decide +kernel
theorem d_Log_isPartThere_21 : decode b_Log_isPartThere 21 = .ok (.ifCond .ne 5, 3) := by decide +kernel
theorem d_Log_isPartThere_24 : decode b_Log_isPartThere 24 = .ok (.iconst 0, 1) := by decide +kernel
theorem d_Log_isPartThere_25 : decode b_Log_isPartThere 25 = .ok (.ireturn, 1) := by decide +kernel
theorem d_Log_isPartThere_26 : decode b_Log_isPartThere 26 = .ok (.aload_n 0, 1) := by decide +kernel
theorem d_Log_isPartThere_27 : decode b_Log_isPartThere 27 = .ok (.getfield 14, 3) := by decide +kernel
theorem d_Log_isPartThere_30 : decode b_Log_isPartThere 30 = .ok (.iload_n 1, 1) := by decide +kernel
theorem d_Log_isPartThere_31 : decode b_Log_isPartThere 31 = .ok (.iconst 2, 1) := by decide +kernel
theorem d_Log_isPartThere_32 : decode b_Log_isPartThere 32 = .ok (.iconst 2, 1) := by decide +kernel
theorem d_Log_isPartThere_33 : decode b_Log_isPartThere 33 = .ok (.invokevirtual 311, 3) := by decide +kernel
theorem d_Log_isPartThere_36 : decode b_Log_isPartThere 36 = .ok (.l2i, 1) := by decide +kernel
theorem d_Log_isPartThere_37 : decode b_Log_isPartThere 37 = .ok (.istore_n 2, 1) := by decide +kernel
theorem d_Log_isPartThere_38 : decode b_Log_isPartThere 38 = .ok (.aload_n 0, 1) := by decide +kernel
theorem d_Log_isPartThere_39 : decode b_Log_isPartThere 39 = .ok (.getfield 14, 3) := by decide +kernel
theorem d_Log_isPartThere_42 : decode b_Log_isPartThere 42 = .ok (.iload_n 1, 1) := by decide +kernel
theorem d_Log_isPartThere_43 : decode b_Log_isPartThere 43 = .ok (.iconst 1, 1) := by decide +kernel
theorem d_Log_isPartThere_44 : decode b_Log_isPartThere 44 = .ok (.invokevirtual 226, 3) := by decide +kernel
theorem d_Log_isPartThere_47 : decode b_Log_isPartThere 47 = .ok (.invokestatic 132, 3) := by decide +kernel
theorem d_Log_isPartThere_50 : decode b_Log_isPartThere 50 = .ok (.ifCond .eq 46, 3) := by decide +kernel
theorem d_Log_isPartThere_53 : decode b_Log_isPartThere 53 = .ok (.iload_n 2, 1) := by decide +kernel
theorem d_Log_isPartThere_54 : decode b_Log_isPartThere 54 = .ok (.sipush 155, 3) := by decide +kernel
theorem d_Log_isPartThere_57 : decode b_Log_isPartThere 57 = .ok (.if_icmp .gt 39, 3) := by decide +kernel
theorem d_Log_isPartThere_60 : decode b_Log_isPartThere 60 = .ok (.aload_n 0, 1) := by decide +kernel
theorem d_Log_isPartThere_61 : decode b_Log_isPartThere 61 = .ok (.getfield 14, 3) := by decide +kernel
theorem d_Log_isPartThere_64 : decode b_Log_isPartThere 64 = .ok (.iload_n 1, 1) := by decide +kernel
theorem d_Log_isPartThere_65 : decode b_Log_isPartThere 65 = .ok (.iconst 4, 1) := by decide +kernel
theorem d_Log_isPartThere_66 : decode b_Log_isPartThere 66 = .ok (.iconst 4, 1) := by decide +kernel
theorem d_Log_isPartThere_67 : decode b_Log_isPartThere 67 = .ok (.invokevirtual 311, 3) := by decide +kernel
theorem d_Log_isPartThere_70 : decode b_Log_isPartThere 70 = .ok (.invokestatic 349, 3) := by decide +kernel
theorem d_Log_isPartThere_73 : decode b_Log_isPartThere 73 = .ok (.ifCond .eq 23, 3) := by decide +kernel
theorem d_Log_isPartThere_76 : decode b_Log_isPartThere 76 = .ok (.iload_n 1, 1) := by decide +kernel
theorem d_Log_isPartThere_77 : decode b_Log_isPartThere 77 = .ok (.iload_n 2, 1) := by decide +kernel
theorem d_Log_isPartThere_78 : decode b_Log_isPartThere 78 = .ok (.invokestatic 270, 3) := by decide +kernel
theorem d_Log_isPartThere_81 : decode b_Log_isPartThere 81 = .ok (.iadd, 1) := by decide +kernel
theorem d_Log_isPartThere_82 : decode b_Log_isPartThere 82 = .ok (.aload_n 0, 1) := by decide +kernel
theorem d_Log_isPartThere_83 : decode b_Log_isPartThere 83 = .ok (.getfield 14, 3) := by decide +kernel
theorem d_Log_isPartThere_86 : decode b_Log_isPartThere 86 = .ok (.invokevirtual 36, 3) := by decide +kernel
theorem d_Log_isPartThere_89 : decode b_Log_isPartThere 89 = .ok (.if_icmp .gt 7, 3) := by decide +kernel
theorem d_Log_isPartThere_92 : decode b_Log_isPartThere 92 = .ok (.iconst 1, 1) := by decide +kernel
theorem d_Log_isPartThere_93 : decode b_Log_isPartThere 93 = .ok (.goto 4, 3) := by decide +kernel
theorem d_Log_isPartThere_96 : decode b_Log_isPartThere 96 = .ok (.iconst 0, 1) := by decide +kernel
theorem d_Log_isPartThere_97 : decode b_Log_isPartThere 97 = .ok (.ireturn, 1) := by decide +kernel
theorem d_Log_isPartWhole_0 : decode b_Log_isPartWhole 0 = .ok (.aload_n 0, 1) := by decide +kernel
theorem d_Log_isPartWhole_1 : decode b_Log_isPartWhole 1 = .ok (.getfield 51, 3) := by decide +kernel
theorem d_Log_isPartWhole_4 : decode b_Log_isPartWhole 4 = .ok (.iload_n 1, 1) := by decide +kernel
theorem d_Log_isPartWhole_5 : decode b_Log_isPartWhole 5 = .ok (.invokevirtual 198, 3) := by decide +kernel
theorem d_Log_isPartWhole_8 : decode b_Log_isPartWhole 8 = .ok (.istore_n 2, 1) := by decide +kernel
theorem d_Log_isPartWhole_9 : decode b_Log_isPartWhole 9 = .ok (.aload_n 0, 1) := by decide +kernel
theorem d_Log_isPartWhole_10 : decode b_Log_isPartWhole 10 = .ok (.getfield 51, 3) := by decide +kernel
theorem d_Log_isPartWhole_13 : decode b_Log_isPartWhole 13 = .ok (.iload_n 1, 1) := by decide +kernel
theorem d_Log_isPartWhole_14 : decode b_Log_isPartWhole 14 = .ok (.invokevirtual 195, 3) := by decide +kernel
theorem d_Log_isPartWhole_17 : decode b_Log_isPartWhole 17 = .ok (.istore_n 3, 1) := by decide +kernel
theorem d_Log_isPartWhole_18 : decode b_Log_isPartWhole 18 = .ok (.aload_n 0, 1) := by decide +kernel
theorem d_Log_isPartWhole_19 : decode b_Log_isPartWhole 19 = .ok (.getfield 14, 3) := by decide +kernel
theorem d_Log_isPartWhole_22 : decode b_Log_isPartWhole 22 = .ok (.iload_n 2, 1) := by decide +kernel
theorem d_Log_isPartWhole_23 : decode b_Log_isPartWhole 23 = .ok (.iconst 0, 1) := by decide +kernel
theorem d_Log_isPartWhole_24 : decode b_Log_isPartWhole 24 = .ok (.invokevirtual 226, 3) := by decide +kernel
theorem d_Log_isPartWhole_27 : decode b_Log_isPartWhole 27 = .ok (.iconst 1, 1) := by decide +kernel
theorem d_Log_isPartWhole_28 : decode b_Log_isPartWhole 28 = .ok (.if_icmp .ne 87, 3) := by decide +kernel
theorem d_Log_isPartWhole_31 : decode b_Log_isPartWhole 31 = .ok (.aload_n 0, 1) := by decide +kernel
theorem d_Log_isPartWhole_32 : decode b_Log_isPartWhole 32 = .ok (.getfield 14, 3) := by decide +kernel
theorem d_Log_isPartWhole_35 : decode b_Log_isPartWhole 35 = .ok (.iload_n 2, 1) := by decide +kernel
theorem d_Log_isPartWhole_36 : decode b_Log_isPartWhole 36 = .ok (.invokevirtual 346, 3) := by decide +kernel
theorem d_Log_isPartWhole_39 : decode b_Log_isPartWhole 39 = .ok (.ifCond .eq 76, 3) := by decide +kernel
theorem d_Log_isPartWhole_42 : decode b_Log_isPartWhole 42 = .ok (.aload_n 0, 1) := by decide +kernel
theorem d_Log_isPartWhole_43 : decode b_Log_isPartWhole 43 = .ok (.getfield 14, 3) := by decide +kernel
theorem d_Log_isPartWhole_46 : decode b_Log_isPartWhole 46 = .ok (.iload_n 2, 1) := by decide +kernel
theorem d_Log_isPartWhole_47 : decode b_Log_isPartWhole 47 = .ok (.iconst 4, 1) := by decide +kernel
theorem d_Log_isPartWhole_48 : decode b_Log_isPartWhole 48 = .ok (.iconst 4, 1) := by decide +kernel
theorem d_Log_isPartWhole_49 : decode b_Log_isPartWhole 49 = .ok (.invokevirtual 311, 3) := by decide +kernel
theorem d_Log_isPartWhole_52 : decode b_Log_isPartWhole 52 = .ok (.aload_n 0, 1) := by decide +kernel
theorem d_Log_isPartWhole_53 : decode b_Log_isPartWhole 53 = .ok (.getfield 51, 3) := by decide +kernel
theorem d_Log_isPartWhole_56 : decode b_Log_isPartWhole 56 = .ok (.iload_n 1, 1) := by decide +kernel
theorem d_Log_isPartWhole_57 : decode b_Log_isPartWhole 57 = .ok (.invokevirtual 330, 3) := by decide +kernel
theorem d_Log_isPartWhole_60 : decode b_Log_isPartWhole 60 = .ok (.i2l, 1) := by decide +kernel
theorem d_Log_isPartWhole_61 : decode b_Log_isPartWhole 61 = .ok (.lcmp, 1) := by decide +kernel
theorem d_Log_isPartWhole_62 : decode b_Log_isPartWhole 62 = .ok (.ifCond .ne 53, 3) := by decide +kernel
theorem d_Log_isPartWhole_65 : decode b_Log_isPartWhole 65 = .ok (.aload_n 0, 1) := by decide +kernel
theorem d_Log_isPartWhole_66 : decode b_Log_isPartWhole 66 = .ok (.getfield 14, 3) := by decide +kernel
theorem d_Log_isPartWhole_69 : decode b_Log_isPartWhole 69 = .ok (.iload_n 2, 1) := by decide +kernel
theorem d_Log_isPartWhole_70 : decode b_Log_isPartWhole 70 = .ok (.iconst 2, 1) := by decide +kernel
theorem d_Log_isPartWhole_71 : decode b_Log_isPartWhole 71 = .ok (.iconst 2, 1) := by decide +kernel
theorem d_Log_isPartWhole_72 : decode b_Log_isPartWhole 72 = .ok (.invokevirtual 311, 3) := by decide +kernel
theorem d_Log_isPartWhole_75 : decode b_Log_isPartWhole 75 = .ok (.iload_n 3, 1) := by decide +kernel
theorem d_Log_isPartWhole_76 : decode b_Log_isPartWhole 76 = .ok (.i2l, 1) := by decide +kernel
theorem d_Log_isPartWhole_77 : decode b_Log_isPartWhole 77 = .ok (.lcmp, 1) := by decide +kernel
theorem d_Log_isPartWhole_78 : decode b_Log_isPartWhole 78 = .ok (.ifCond .ne 37, 3) := by decide +kernel
theorem d_Log_isPartWhole_81 : decode b_Log_isPartWhole 81 = .ok (.aload_n 0, 1) := by decide +kernel
theorem d_Log_isPartWhole_82 : decode b_Log_isPartWhole 82 = .ok (.getfield 14, 3) := by decide +kernel
theorem d_Log_isPartWhole_85 : decode b_Log_isPartWhole 85 = .ok (.iload_n 2, 1) := by decide +kernel
theorem d_Log_isPartWhole_86 : decode b_Log_isPartWhole 86 = .ok (.bipush 16, 2) := by decide +kernel
theorem d_Log_isPartWhole_88 : decode b_Log_isPartWhole 88 = .ok (.bipush 8, 2) := by decide +kernel
theorem d_Log_isPartWhole_90 : decode b_Log_isPartWhole 90 = .ok (.invokevirtual 311, 3) := by decide +kernel
theorem d_Log_isPartWhole_93 : decode b_Log_isPartWhole 93 = .ok (.aload_n 0, 1) := by decide +kernel
theorem d_Log_isPartWhole_94 : decode b_Log_isPartWhole 94 = .ok (.getfield 14, 3) := by decide +kernel
theorem d_Log_isPartWhole_97 : decode b_Log_isPartWhole 97 = .ok (.iload_n 2, 1) := by decide +kernel
theorem d_Log_isPartWhole_98 : decode b_Log_isPartWhole 98 = .ok (.iconst 1, 1) := by decide +kernel
theorem d_Log_isPartWhole_99 : decode b_Log_isPartWhole 99 = .ok (.iadd, 1) := by decide +kernel
theorem d_Log_isPartWhole_100 : decode b_Log_isPartWhole 100 = .ok (.iload_n 3, 1) := by decide +kernel
theorem d_Log_isPartWhole_101 : decode b_Log_isPartWhole 101 = .ok (.invokestatic 259, 3) := by decide +kernel
theorem d_Log_isPartWhole_104 : decode b_Log_isPartWhole 104 = .ok (.invokevirtual 365, 3) := by decide +kernel
theorem d_Log_isPartWhole_107 : decode b_Log_isPartWhole 107 = .ok (.lcmp, 1) := by decide +kernel
theorem d_Log_isPartWhole_108 : decode b_Log_isPartWhole 108 = .ok (.ifCond .ne 7, 3) := by decide +kernel
theorem d_Log_isPartWhole_111 : decode b_Log_isPartWhole 111 = .ok (.iconst 1, 1) := by decide +kernel
theorem d_Log_isPartWhole_112 : decode b_Log_isPartWhole 112 = .ok (.goto 4, 3) := by decide +kernel
theorem d_Log_isPartWhole_115 : decode b_Log_isPartWhole 115 = .ok (.iconst 0, 1) := by decide +kernel
theorem d_Log_isPartWhole_116 : decode b_Log_isPartWhole 116 = .ok (.ireturn, 1) := by decide +kernel
theorem d_Log_isRoomForSavepoint_0 : decode b_Log_isRoomForSavepoint 0 = .ok (.aload_n 0, 1) := by decide +kernel
theorem d_Log_isRoomForSavepoint_1 : decode b_Log_isRoomForSavepoint 1 = .ok (.getfield 62, 3) := by decide +kernel
theorem d_Log_isRoomForSavepoint_4 : decode b_Log_isRoomForSavepoint 4 = .ok (.invokevirtual 88, 3) := by decide +kernel
theorem d_Log_isRoomForSavepoint_7 : decode b_Log_isRoomForSavepoint 7 = .ok (.bipush 6, 2) := by decide +kernel
theorem d_Log_isRoomForSavepoint_9 : decode b_Log_isRoomForSavepoint 9 = .ok (.if_icmp .ge 12, 3) := by decide +kernel
theorem d_Log_isRoomForSavepoint_12 : decode b_Log_isRoomForSavepoint 12 = .ok (.aload_n 0, 1) := by decide +kernel
theorem d_Log_isRoomForSavepoint_13 : decode b_Log_isRoomForSavepoint 13 = .ok (.getfield 89, 3) := by decide +kernel
theorem d_Log_isRoomForSavepoint_16 : decode b_Log_isRoomForSavepoint 16 = .ok (.ldc 93, 2) := by decide +kernel
theorem d_Log_isRoomForSavepoint_18 : decode b_Log_isRoomForSavepoint 18 = .ok (.if_icmp .lt 5, 3) := by decide +kernel
theorem d_Log_isRoomForSavepoint_21 : decode b_Log_isRoomForSavepoint 21 = .ok (.iconst 0, 1) := by decide +kernel
theorem d_Log_isRoomForSavepoint_22 : decode b_Log_isRoomForSavepoint 22 = .ok (.ireturn, 1) := by decide +kernel
theorem d_Log_isRoomForSavepoint_23 : decode b_Log_isRoomForSavepoint 23 = .ok (.aload_n 0, 1) := by decide +kernel
theorem d_Log_isRoomForSavepoint_24 : decode b_Log_isRoomForSavepoint 24 = .ok (.getfield 268, 3) := by decide +kernel
theorem d_Log_isRoomForSavepoint_27 : decode b_Log_isRoomForSavepoint 27 = .ok (.ldc 93, 2) := by decide +kernel
theorem d_Log_isRoomForSavepoint_29 : decode b_Log_isRoomForSavepoint 29 = .ok (.iload_n 1, 1) := by decide +kernel
theorem d_Log_isRoomForSavepoint_30 : decode b_Log_isRoomForSavepoint 30 = .ok (.isub, 1) := by decide +kernel
theorem d_Log_isRoomForSavepoint_31 : decode b_Log_isRoomForSavepoint 31 = .ok (.if_icmp .le 5, 3) := by decide +kernel
theorem d_Log_isRoomForSavepoint_34 : decode b_Log_isRoomForSavepoint 34 = .ok (.iconst 0, 1) := by decide +kernel
theorem d_Log_isRoomForSavepoint_35 : decode b_Log_isRoomForSavepoint 35 = .ok (.ireturn, 1) := by decide +kernel
theorem d_Log_isRoomForSavepoint_36 : decode b_Log_isRoomForSavepoint 36 = .ok (.aload_n 0, 1) := by decide +kernel
theorem d_Log_isRoomForSavepoint_37 : decode b_Log_isRoomForSavepoint 37 = .ok (.getfield 45, 3) := by decide +kernel
theorem d_Log_isRoomForSavepoint_40 : decode b_Log_isRoomForSavepoint 40 = .ok (.aload_n 0, 1) := by decide +kernel
theorem d_Log_isRoomForSavepoint_41 : decode b_Log_isRoomForSavepoint 41 = .ok (.getfield 41, 3) := by decide +kernel
theorem d_Log_isRoomForSavepoint_44 : decode b_Log_isRoomForSavepoint 44 = .ok (.invokevirtual 399, 3) := by decide +kernel
theorem d_Log_isRoomForSavepoint_47 : decode b_Log_isRoomForSavepoint 47 = .ok (.iconst 2, 1) := by decide +kernel
theorem d_Log_isRoomForSavepoint_48 : decode b_Log_isRoomForSavepoint 48 = .ok (.istore_n 2, 1) := by decide +kernel
theorem d_Log_isRoomForSavepoint_49 : decode b_Log_isRoomForSavepoint 49 = .ok (.iconst 0, 1) := by decide +kernel
theorem d_Log_isRoomForSavepoint_50 : decode b_Log_isRoomForSavepoint 50 = .ok (.istore_n 3, 1) := by decide +kernel
theorem d_Log_isRoomForSavepoint_51 : decode b_Log_isRoomForSavepoint 51 = .ok (.iload_n 3, 1) := by decide +kernel
theorem d_Log_isRoomForSavepoint_52 : decode b_Log_isRoomForSavepoint 52 = .ok (.iload_n 1, 1) := by decide +kernel
theorem d_Log_isRoomForSavepoint_53 : decode b_Log_isRoomForSavepoint 53 = .ok (.if_icmp .ge 55, 3) := by decide +kernel
theorem d_Log_isRoomForSavepoint_56 : decode b_Log_isRoomForSavepoint 56 = .ok (.aload_n 0, 1) := by decide +kernel
theorem d_Log_isRoomForSavepoint_57 : decode b_Log_isRoomForSavepoint 57 = .ok (.iload_n 2, 1) := by decide +kernel
theorem d_Log_isRoomForSavepoint_58 : decode b_Log_isRoomForSavepoint 58 = .ok (.invokevirtual 396, 3) := by decide +kernel
theorem d_Log_isRoomForSavepoint_61 : decode b_Log_isRoomForSavepoint 61 = .ok (.invokestatic 270, 3) := by decide +kernel
theorem d_Log_isRoomForSavepoint_64 : decode b_Log_isRoomForSavepoint 64 = .ok (.istore 4, 2) := by decide +kernel
theorem d_Log_isRoomForSavepoint_66 : decode b_Log_isRoomForSavepoint 66 = .ok (.aload_n 0, 1) := by decide +kernel
theorem d_Log_isRoomForSavepoint_67 : decode b_Log_isRoomForSavepoint 67 = .ok (.getfield 45, 3) := by decide +kernel
theorem d_Log_isRoomForSavepoint_70 : decode b_Log_isRoomForSavepoint 70 = .ok (.iload 4, 2) := by decide +kernel
theorem d_Log_isRoomForSavepoint_72 : decode b_Log_isRoomForSavepoint 72 = .ok (.invokevirtual 107, 3) := by decide +kernel
theorem d_Log_isRoomForSavepoint_75 : decode b_Log_isRoomForSavepoint 75 = .ok (.istore 5, 2) := by decide +kernel
theorem d_Log_isRoomForSavepoint_77 : decode b_Log_isRoomForSavepoint 77 = .ok (.iload 5, 2) := by decide +kernel
theorem d_Log_isRoomForSavepoint_79 : decode b_Log_isRoomForSavepoint 79 = .ok (.iconst (-1), 1) := by decide +kernel
theorem d_Log_isRoomForSavepoint_80 : decode b_Log_isRoomForSavepoint 80 = .ok (.if_icmp .ne 5, 3) := by decide +kernel
theorem d_Log_isRoomForSavepoint_83 : decode b_Log_isRoomForSavepoint 83 = .ok (.iconst 0, 1) := by decide +kernel
theorem d_Log_isRoomForSavepoint_84 : decode b_Log_isRoomForSavepoint 84 = .ok (.ireturn, 1) := by decide +kernel
theorem d_Log_isRoomForSavepoint_85 : decode b_Log_isRoomForSavepoint 85 = .ok (.aload_n 0, 1) := by decide +kernel
theorem d_Log_isRoomForSavepoint_86 : decode b_Log_isRoomForSavepoint 86 = .ok (.getfield 45, 3) := by decide +kernel
theorem d_Log_isRoomForSavepoint_89 : decode b_Log_isRoomForSavepoint 89 = .ok (.iload 5, 2) := by decide +kernel
theorem d_Log_isRoomForSavepoint_91 : decode b_Log_isRoomForSavepoint 91 = .ok (.iload 4, 2) := by decide +kernel
theorem d_Log_isRoomForSavepoint_93 : decode b_Log_isRoomForSavepoint 93 = .ok (.invokevirtual 321, 3) := by decide +kernel
theorem d_Log_isRoomForSavepoint_96 : decode b_Log_isRoomForSavepoint 96 = .ok (.aload_n 0, 1) := by decide +kernel
theorem d_Log_isRoomForSavepoint_97 : decode b_Log_isRoomForSavepoint 97 = .ok (.iload_n 2, 1) := by decide +kernel
theorem d_Log_isRoomForSavepoint_98 : decode b_Log_isRoomForSavepoint 98 = .ok (.invokevirtual 391, 3) := by decide +kernel
theorem d_Log_isRoomForSavepoint_101 : decode b_Log_isRoomForSavepoint 101 = .ok (.istore_n 2, 1) := by decide +kernel
theorem d_Log_isRoomForSavepoint_102 : decode b_Log_isRoomForSavepoint 102 = .ok (.iinc 3 1, 3) := by decide +kernel
theorem d_Log_isRoomForSavepoint_105 : decode b_Log_isRoomForSavepoint 105 = .ok (.goto (-54), 3) := by decide +kernel
theorem d_Log_isRoomForSavepoint_108 : decode b_Log_isRoomForSavepoint 108 = .ok (.iconst 1, 1) := by decide +kernel
theorem d_Log_isRoomForSavepoint_109 : decode b_Log_isRoomForSavepoint 109 = .ok (.ireturn, 1) := by decide +kernel
theorem d_Log_isSavepointOnTape_0 : decode b_Log_isSavepointOnTape 0 = .ok (.aload_n 0, 1) := by decide +kernel
theorem d_Log_isSavepointOnTape_1 : decode b_Log_isSavepointOnTape 1 = .ok (.getfield 21, 3) := by decide +kernel
theorem d_Log_isSavepointOnTape_4 : decode b_Log_isSavepointOnTape 4 = .ok (.iconst 1, 1) := by decide +kernel
theorem d_Log_isSavepointOnTape_5 : decode b_Log_isSavepointOnTape 5 = .ok (.invokevirtual 239, 3) := by decide +kernel
theorem d_Log_isSavepointOnTape_8 : decode b_Log_isSavepointOnTape 8 = .ok (.istore_n 1, 1) := by decide +kernel
theorem d_Log_isSavepointOnTape_9 : decode b_Log_isSavepointOnTape 9 = .ok (.aload_n 0, 1) := by decide +kernel
theorem d_Log_isSavepointOnTape_10 : decode b_Log_isSavepointOnTape 10 = .ok (.getfield 21, 3) := by decide +kernel
theorem d_Log_isSavepointOnTape_13 : decode b_Log_isSavepointOnTape 13 = .ok (.iconst 0, 1) := by decide +kernel
theorem d_Log_isSavepointOnTape_14 : decode b_Log_isSavepointOnTape 14 = .ok (.invokevirtual 239, 3) := by decide +kernel
theorem d_Log_isSavepointOnTape_17 : decode b_Log_isSavepointOnTape 17 = .ok (.bipush 77, 2) := by decide +kernel
theorem d_Log_isSavepointOnTape_19 : decode b_Log_isSavepointOnTape 19 = .ok (.if_icmp .ne 14, 3) := by decide +kernel
theorem d_Log_isSavepointOnTape_22 : decode b_Log_isSavepointOnTape 22 = .ok (.iload_n 1, 1) := by decide +kernel
theorem d_Log_isSavepointOnTape_23 : decode b_Log_isSavepointOnTape 23 = .ok (.iconst 1, 1) := by decide +kernel
theorem d_Log_isSavepointOnTape_24 : decode b_Log_isSavepointOnTape 24 = .ok (.if_icmp .lt 9, 3) := by decide +kernel
theorem d_Log_isSavepointOnTape_27 : decode b_Log_isSavepointOnTape 27 = .ok (.iload_n 1, 1) := by decide +kernel
theorem d_Log_isSavepointOnTape_28 : decode b_Log_isSavepointOnTape 28 = .ok (.bipush 12, 2) := by decide +kernel
theorem d_Log_isSavepointOnTape_30 : decode b_Log_isSavepointOnTape 30 = .ok (.if_icmp .le 5, 3) := by decide +kernel
theorem d_Log_isSavepointOnTape_33 : decode b_Log_isSavepointOnTape 33 = .ok (.iconst 0, 1) := by decide +kernel
theorem d_Log_isSavepointOnTape_34 : decode b_Log_isSavepointOnTape 34 = .ok (.ireturn, 1) := by decide +kernel
theorem d_Log_isSavepointOnTape_35 : decode b_Log_isSavepointOnTape 35 = .ok (.iconst 2, 1) := by decide +kernel
theorem d_Log_isSavepointOnTape_36 : decode b_Log_isSavepointOnTape 36 = .ok (.istore_n 2, 1) := by decide +kernel
theorem d_Log_isSavepointOnTape_37 : decode b_Log_isSavepointOnTape 37 = .ok (.iconst 0, 1) := by decide +kernel
theorem d_Log_isSavepointOnTape_38 : decode b_Log_isSavepointOnTape 38 = .ok (.istore_n 3, 1) := by decide +kernel
theorem d_Log_isSavepointOnTape_39 : decode b_Log_isSavepointOnTape 39 = .ok (.iload_n 3, 1) := by decide +kernel
theorem d_Log_isSavepointOnTape_40 : decode b_Log_isSavepointOnTape 40 = .ok (.iload_n 1, 1) := by decide +kernel
theorem d_Log_isSavepointOnTape_41 : decode b_Log_isSavepointOnTape 41 = .ok (.if_icmp .ge 25, 3) := by decide +kernel
theorem d_Log_isSavepointOnTape_44 : decode b_Log_isSavepointOnTape 44 = .ok (.aload_n 0, 1) := by decide +kernel
theorem d_Log_isSavepointOnTape_45 : decode b_Log_isSavepointOnTape 45 = .ok (.iload_n 2, 1) := by decide +kernel
theorem d_Log_isSavepointOnTape_46 : decode b_Log_isSavepointOnTape 46 = .ok (.invokevirtual 388, 3) := by decide +kernel
theorem d_Log_isSavepointOnTape_49 : decode b_Log_isSavepointOnTape 49 = .ok (.ifCond .ne 5, 3) := by decide +kernel
theorem d_Log_isSavepointOnTape_52 : decode b_Log_isSavepointOnTape 52 = .ok (.iconst 0, 1) := by decide +kernel
theorem d_Log_isSavepointOnTape_53 : decode b_Log_isSavepointOnTape 53 = .ok (.ireturn, 1) := by decide +kernel
theorem d_Log_isSavepointOnTape_54 : decode b_Log_isSavepointOnTape 54 = .ok (.aload_n 0, 1) := by decide +kernel
theorem d_Log_isSavepointOnTape_55 : decode b_Log_isSavepointOnTape 55 = .ok (.iload_n 2, 1) := by decide +kernel
theorem d_Log_isSavepointOnTape_56 : decode b_Log_isSavepointOnTape 56 = .ok (.invokevirtual 391, 3) := by decide +kernel
theorem d_Log_isSavepointOnTape_59 : decode b_Log_isSavepointOnTape 59 = .ok (.istore_n 2, 1) := by decide +kernel
theorem d_Log_isSavepointOnTape_60 : decode b_Log_isSavepointOnTape 60 = .ok (.iinc 3 1, 3) := by decide +kernel
theorem d_Log_isSavepointOnTape_63 : decode b_Log_isSavepointOnTape 63 = .ok (.goto (-24), 3) := by decide +kernel
theorem d_Log_isSavepointOnTape_66 : decode b_Log_isSavepointOnTape 66 = .ok (.iload_n 2, 1) := by decide +kernel
theorem d_Log_isSavepointOnTape_67 : decode b_Log_isSavepointOnTape 67 = .ok (.bipush 8, 2) := by decide +kernel
theorem d_Log_isSavepointOnTape_69 : decode b_Log_isSavepointOnTape 69 = .ok (.iadd, 1) := by decide +kernel
theorem d_Log_isSavepointOnTape_70 : decode b_Log_isSavepointOnTape 70 = .ok (.aload_n 0, 1) := by decide +kernel
theorem d_Log_isSavepointOnTape_71 : decode b_Log_isSavepointOnTape 71 = .ok (.getfield 21, 3) := by decide +kernel
theorem d_Log_isSavepointOnTape_74 : decode b_Log_isSavepointOnTape 74 = .ok (.invokevirtual 73, 3) := by decide +kernel
theorem d_Log_isSavepointOnTape_77 : decode b_Log_isSavepointOnTape 77 = .ok (.if_icmp .ne 30, 3) := by decide +kernel
theorem d_Log_isSavepointOnTape_80 : decode b_Log_isSavepointOnTape 80 = .ok (.aload_n 0, 1) := by decide +kernel
theorem d_Log_isSavepointOnTape_81 : decode b_Log_isSavepointOnTape 81 = .ok (.getfield 21, 3) := by decide +kernel
theorem d_Log_isSavepointOnTape_84 : decode b_Log_isSavepointOnTape 84 = .ok (.iload_n 2, 1) := by decide +kernel
theorem d_Log_isSavepointOnTape_85 : decode b_Log_isSavepointOnTape 85 = .ok (.bipush 8, 2) := by decide +kernel
theorem d_Log_isSavepointOnTape_87 : decode b_Log_isSavepointOnTape 87 = .ok (.invokevirtual 394, 3) := by decide +kernel
theorem d_Log_isSavepointOnTape_90 : decode b_Log_isSavepointOnTape 90 = .ok (.aload_n 0, 1) := by decide +kernel
theorem d_Log_isSavepointOnTape_91 : decode b_Log_isSavepointOnTape 91 = .ok (.getfield 21, 3) := by decide +kernel
theorem d_Log_isSavepointOnTape_94 : decode b_Log_isSavepointOnTape 94 = .ok (.iconst 0, 1) := by decide +kernel
theorem d_Log_isSavepointOnTape_95 : decode b_Log_isSavepointOnTape 95 = .ok (.iload_n 2, 1) := by decide +kernel
theorem d_Log_isSavepointOnTape_96 : decode b_Log_isSavepointOnTape 96 = .ok (.invokevirtual 290, 3) := by decide +kernel
theorem d_Log_isSavepointOnTape_99 : decode b_Log_isSavepointOnTape 99 = .ok (.lcmp, 1) := by decide +kernel
theorem d_Log_isSavepointOnTape_100 : decode b_Log_isSavepointOnTape 100 = .ok (.ifCond .ne 7, 3) := by decide +kernel
theorem d_Log_isSavepointOnTape_103 : decode b_Log_isSavepointOnTape 103 = .ok (.iconst 1, 1) := by decide +kernel
theorem d_Log_isSavepointOnTape_104 : decode b_Log_isSavepointOnTape 104 = .ok (.goto 4, 3) := by decide +kernel
theorem d_Log_isSavepointOnTape_107 : decode b_Log_isSavepointOnTape 107 = .ok (.iconst 0, 1) := by decide +kernel
theorem d_Log_isSavepointOnTape_108 : decode b_Log_isSavepointOnTape 108 = .ok (.ireturn, 1) := by decide +kernel
theorem d_Log_keep_0 : decode b_Log_keep 0 = .ok (.aload_n 0, 1) := by decide +kernel
theorem d_Log_keep_1 : decode b_Log_keep 1 = .ok (.getfield 69, 3) := by decide +kernel
theorem d_Log_keep_4 : decode b_Log_keep 4 = .ok (.ifCond .ne 6, 3) := by decide +kernel
theorem d_Log_keep_7 : decode b_Log_keep 7 = .ok (.bipush (-3), 2) := by decide +kernel
theorem d_Log_keep_9 : decode b_Log_keep 9 = .ok (.ireturn, 1) := by decide +kernel
theorem d_Log_keep_10 : decode b_Log_keep 10 = .ok (.aload_n 0, 1) := by decide +kernel
theorem d_Log_keep_11 : decode b_Log_keep 11 = .ok (.getfield 62, 3) := by decide +kernel
theorem d_Log_keep_14 : decode b_Log_keep 14 = .ok (.iload_n 1, 1) := by decide +kernel
theorem d_Log_keep_15 : decode b_Log_keep 15 = .ok (.invokevirtual 98, 3) := by decide +kernel
theorem d_Log_keep_18 : decode b_Log_keep 18 = .ok (.istore_n 2, 1) := by decide +kernel
theorem d_Log_keep_19 : decode b_Log_keep 19 = .ok (.iload_n 2, 1) := by decide +kernel
theorem d_Log_keep_20 : decode b_Log_keep 20 = .ok (.iconst (-1), 1) := by decide +kernel
theorem d_Log_keep_21 : decode b_Log_keep 21 = .ok (.if_icmp .ne 5, 3) := by decide +kernel
theorem d_Log_keep_24 : decode b_Log_keep 24 = .ok (.iconst (-1), 1) := by decide +kernel
theorem d_Log_keep_25 : decode b_Log_keep 25 = .ok (.ireturn, 1) := by decide +kernel
theorem d_Log_keep_26 : decode b_Log_keep 26 = .ok (.aload_n 0, 1) := by decide +kernel
theorem d_Log_keep_27 : decode b_Log_keep 27 = .ok (.getfield 62, 3) := by decide +kernel
theorem d_Log_keep_30 : decode b_Log_keep 30 = .ok (.iload_n 2, 1) := by decide +kernel
theorem d_Log_keep_31 : decode b_Log_keep 31 = .ok (.invokevirtual 101, 3) := by decide +kernel
theorem d_Log_keep_34 : decode b_Log_keep 34 = .ok (.istore_n 3, 1) := by decide +kernel
theorem d_Log_keep_35 : decode b_Log_keep 35 = .ok (.aload_n 0, 1) := by decide +kernel
theorem d_Log_keep_36 : decode b_Log_keep 36 = .ok (.getfield 41, 3) := by decide +kernel
theorem d_Log_keep_39 : decode b_Log_keep 39 = .ok (.iload_n 3, 1) := by decide +kernel
theorem d_Log_keep_40 : decode b_Log_keep 40 = .ok (.invokestatic 104, 3) := by decide +kernel
theorem d_Log_keep_43 : decode b_Log_keep 43 = .ok (.invokevirtual 107, 3) := by decide +kernel
theorem d_Log_keep_46 : decode b_Log_keep 46 = .ok (.istore 4, 2) := by decide +kernel
theorem d_Log_keep_48 : decode b_Log_keep 48 = .ok (.iload 4, 2) := by decide +kernel
theorem d_Log_keep_50 : decode b_Log_keep 50 = .ok (.iconst (-1), 1) := by decide +kernel
theorem d_Log_keep_51 : decode b_Log_keep 51 = .ok (.if_icmp .ne 6, 3) := by decide +kernel
theorem d_Log_keep_54 : decode b_Log_keep 54 = .ok (.bipush (-4), 2) := by decide +kernel
theorem d_Log_keep_56 : decode b_Log_keep 56 = .ok (.ireturn, 1) := by decide +kernel
theorem d_Log_keep_57 : decode b_Log_keep 57 = .ok (.aload_n 0, 1) := by decide +kernel
theorem d_Log_keep_58 : decode b_Log_keep 58 = .ok (.iload_n 2, 1) := by decide +kernel
theorem d_Log_keep_59 : decode b_Log_keep 59 = .ok (.invokevirtual 110, 3) := by decide +kernel
theorem d_Log_keep_62 : decode b_Log_keep 62 = .ok (.lstore 5, 2) := by decide +kernel
theorem d_Log_keep_64 : decode b_Log_keep 64 = .ok (.aload_n 0, 1) := by decide +kernel
theorem d_Log_keep_65 : decode b_Log_keep 65 = .ok (.iload 4, 2) := by decide +kernel
theorem d_Log_keep_67 : decode b_Log_keep 67 = .ok (.iload_n 3, 1) := by decide +kernel
theorem d_Log_keep_68 : decode b_Log_keep 68 = .ok (.invokestatic 104, 3) := by decide +kernel
theorem d_Log_keep_71 : decode b_Log_keep 71 = .ok (.invokevirtual 114, 3) := by decide +kernel
theorem d_Log_keep_74 : decode b_Log_keep 74 = .ok (.ifCond .ne 6, 3) := by decide +kernel
theorem d_Log_keep_77 : decode b_Log_keep 77 = .ok (.bipush (-5), 2) := by decide +kernel
theorem d_Log_keep_79 : decode b_Log_keep 79 = .ok (.ireturn, 1) := by decide +kernel
theorem d_Log_keep_80 : decode b_Log_keep 80 = .ok (.aload_n 0, 1) := by decide +kernel
theorem d_Log_keep_81 : decode b_Log_keep 81 = .ok (.getfield 58, 3) := by decide +kernel
theorem d_Log_keep_84 : decode b_Log_keep 84 = .ok (.iload_n 1, 1) := by decide +kernel
theorem d_Log_keep_85 : decode b_Log_keep 85 = .ok (.iload_n 3, 1) := by decide +kernel
theorem d_Log_keep_86 : decode b_Log_keep 86 = .ok (.iload 4, 2) := by decide +kernel
theorem d_Log_keep_88 : decode b_Log_keep 88 = .ok (.lload 5, 2) := by decide +kernel
theorem d_Log_keep_90 : decode b_Log_keep 90 = .ok (.invokevirtual 118, 3) := by decide +kernel
theorem d_Log_keep_93 : decode b_Log_keep 93 = .ok (.istore 7, 2) := by decide +kernel
theorem d_Log_keep_95 : decode b_Log_keep 95 = .ok (.iconst 0, 1) := by decide +kernel
theorem d_Log_keep_96 : decode b_Log_keep 96 = .ok (.istore 8, 2) := by decide +kernel
theorem d_Log_keep_98 : decode b_Log_keep 98 = .ok (.iload 8, 2) := by decide +kernel
theorem d_Log_keep_100 : decode b_Log_keep 100 = .ok (.iload_n 3, 1) := by decide +kernel
theorem d_Log_keep_101 : decode b_Log_keep 101 = .ok (.if_icmp .ge 30, 3) := by decide +kernel
theorem d_Log_keep_104 : decode b_Log_keep 104 = .ok (.aload_n 0, 1) := by decide +kernel
theorem d_Log_keep_105 : decode b_Log_keep 105 = .ok (.getfield 58, 3) := by decide +kernel
theorem d_Log_keep_108 : decode b_Log_keep 108 = .ok (.iload 7, 2) := by decide +kernel
theorem d_Log_keep_110 : decode b_Log_keep 110 = .ok (.iload 8, 2) := by decide +kernel
theorem d_Log_keep_112 : decode b_Log_keep 112 = .ok (.aload_n 0, 1) := by decide +kernel
theorem d_Log_keep_113 : decode b_Log_keep 113 = .ok (.getfield 62, 3) := by decide +kernel
theorem d_Log_keep_116 : decode b_Log_keep 116 = .ok (.iload_n 2, 1) := by decide +kernel
theorem d_Log_keep_117 : decode b_Log_keep 117 = .ok (.iload 8, 2) := by decide +kernel
theorem d_Log_keep_119 : decode b_Log_keep 119 = .ok (.invokevirtual 121, 3) := by decide +kernel
theorem d_Log_keep_122 : decode b_Log_keep 122 = .ok (.invokevirtual 125, 3) := by decide +kernel
theorem d_Log_keep_125 : decode b_Log_keep 125 = .ok (.iinc 8 1, 3) := by decide +kernel
theorem d_Log_keep_128 : decode b_Log_keep 128 = .ok (.goto (-30), 3) := by decide +kernel
theorem d_Log_keep_131 : decode b_Log_keep 131 = .ok (.aload_n 0, 1) := by decide +kernel
theorem d_Log_keep_132 : decode b_Log_keep 132 = .ok (.getfield 62, 3) := by decide +kernel
theorem d_Log_keep_135 : decode b_Log_keep 135 = .ok (.iload_n 2, 1) := by decide +kernel
theorem d_Log_keep_136 : decode b_Log_keep 136 = .ok (.invokevirtual 129, 3) := by decide +kernel
theorem d_Log_keep_139 : decode b_Log_keep 139 = .ok (.iconst 1, 1) := by decide +kernel
theorem d_Log_keep_140 : decode b_Log_keep 140 = .ok (.ireturn, 1) := by decide +kernel
theorem d_Log_learnMark_0 : decode b_Log_learnMark 0 = .ok (.aload_n 0, 1) := by decide +kernel
theorem d_Log_learnMark_1 : decode b_Log_learnMark 1 = .ok (.getfield 14, 3) := by decide +kernel
theorem d_Log_learnMark_4 : decode b_Log_learnMark 4 = .ok (.iload_n 1, 1) := by decide +kernel
theorem d_Log_learnMark_5 : decode b_Log_learnMark 5 = .ok (.iconst 4, 1) := by decide +kernel
theorem d_Log_learnMark_6 : decode b_Log_learnMark 6 = .ok (.iconst 4, 1) := by decide +kernel
theorem d_Log_learnMark_7 : decode b_Log_learnMark 7 = .ok (.invokevirtual 311, 3) := by decide +kernel
theorem d_Log_learnMark_10 : decode b_Log_learnMark 10 = .ok (.l2i, 1) := by decide +kernel
theorem d_Log_learnMark_11 : decode b_Log_learnMark 11 = .ok (.istore_n 2, 1) := by decide +kernel
theorem d_Log_learnMark_12 : decode b_Log_learnMark 12 = .ok (.aload_n 0, 1) := by decide +kernel
theorem d_Log_learnMark_13 : decode b_Log_learnMark 13 = .ok (.getfield 14, 3) := by decide +kernel
theorem d_Log_learnMark_16 : decode b_Log_learnMark 16 = .ok (.iload_n 1, 1) := by decide +kernel
theorem d_Log_learnMark_17 : decode b_Log_learnMark 17 = .ok (.iconst 1, 1) := by decide +kernel
theorem d_Log_learnMark_18 : decode b_Log_learnMark 18 = .ok (.invokevirtual 226, 3) := by decide +kernel
theorem d_Log_learnMark_21 : decode b_Log_learnMark 21 = .ok (.istore_n 3, 1) := by decide +kernel
theorem d_Log_learnMark_22 : decode b_Log_learnMark 22 = .ok (.aload_n 0, 1) := by decide +kernel
theorem d_Log_learnMark_23 : decode b_Log_learnMark 23 = .ok (.getfield 58, 3) := by decide +kernel
theorem d_Log_learnMark_26 : decode b_Log_learnMark 26 = .ok (.iload_n 2, 1) := by decide +kernel
theorem d_Log_learnMark_27 : decode b_Log_learnMark 27 = .ok (.invokevirtual 98, 3) := by decide +kernel
theorem d_Log_learnMark_30 : decode b_Log_learnMark 30 = .ok (.iconst (-1), 1) := by decide +kernel
theorem d_Log_learnMark_31 : decode b_Log_learnMark 31 = .ok (.if_icmp .ne 114, 3) := by decide +kernel
theorem d_Log_learnMark_34 : decode b_Log_learnMark 34 = .ok (.aload_n 0, 1) := by decide +kernel
theorem d_Log_learnMark_35 : decode b_Log_learnMark 35 = .ok (.getfield 58, 3) := by decide +kernel
theorem d_Log_learnMark_38 : decode b_Log_learnMark 38 = .ok (.iload_n 2, 1) := by decide +kernel
theorem d_Log_learnMark_39 : decode b_Log_learnMark 39 = .ok (.iload_n 3, 1) := by decide +kernel
theorem d_Log_learnMark_40 : decode b_Log_learnMark 40 = .ok (.iload_n 1, 1) := by decide +kernel
theorem d_Log_learnMark_41 : decode b_Log_learnMark 41 = .ok (.aload_n 0, 1) := by decide +kernel
theorem d_Log_learnMark_42 : decode b_Log_learnMark 42 = .ok (.getfield 14, 3) := by decide +kernel
theorem d_Log_learnMark_45 : decode b_Log_learnMark 45 = .ok (.iload_n 1, 1) := by decide +kernel
theorem d_Log_learnMark_46 : decode b_Log_learnMark 46 = .ok (.bipush 8, 2) := by decide +kernel
theorem d_Log_learnMark_48 : decode b_Log_learnMark 48 = .ok (.bipush 8, 2) := by decide +kernel
theorem d_Log_learnMark_50 : decode b_Log_learnMark 50 = .ok (.invokevirtual 311, 3) := by decide +kernel
theorem d_Log_learnMark_53 : decode b_Log_learnMark 53 = .ok (.invokevirtual 118, 3) := by decide +kernel
theorem d_Log_learnMark_56 : decode b_Log_learnMark 56 = .ok (.istore 4, 2) := by decide +kernel
theorem d_Log_learnMark_58 : decode b_Log_learnMark 58 = .ok (.iconst 0, 1) := by decide +kernel
theorem d_Log_learnMark_59 : decode b_Log_learnMark 59 = .ok (.istore 5, 2) := by decide +kernel
theorem d_Log_learnMark_61 : decode b_Log_learnMark 61 = .ok (.iload 5, 2) := by decide +kernel
theorem d_Log_learnMark_63 : decode b_Log_learnMark 63 = .ok (.iload_n 3, 1) := by decide +kernel
theorem d_Log_learnMark_64 : decode b_Log_learnMark 64 = .ok (.if_icmp .ge 57, 3) := by decide +kernel
theorem d_Log_learnMark_67 : decode b_Log_learnMark 67 = .ok (.aload_n 0, 1) := by decide +kernel
theorem d_Log_learnMark_68 : decode b_Log_learnMark 68 = .ok (.getfield 14, 3) := by decide +kernel
theorem d_Log_learnMark_71 : decode b_Log_learnMark 71 = .ok (.iload_n 1, 1) := by decide +kernel
theorem d_Log_learnMark_72 : decode b_Log_learnMark 72 = .ok (.iload 5, 2) := by decide +kernel
theorem d_Log_learnMark_74 : decode b_Log_learnMark 74 = .ok (.invokestatic 303, 3) := by decide +kernel
theorem d_Log_learnMark_77 : decode b_Log_learnMark 77 = .ok (.iload 5, 2) := by decide +kernel
theorem d_Log_learnMark_79 : decode b_Log_learnMark 79 = .ok (.invokestatic 308, 3) := by decide +kernel
theorem d_Log_learnMark_82 : decode b_Log_learnMark 82 = .ok (.iconst 4, 1) := by decide +kernel
theorem d_Log_learnMark_83 : decode b_Log_learnMark 83 = .ok (.invokevirtual 311, 3) := by decide +kernel
theorem d_Log_learnMark_86 : decode b_Log_learnMark 86 = .ok (.l2i, 1) := by decide +kernel
theorem d_Log_learnMark_87 : decode b_Log_learnMark 87 = .ok (.istore 6, 2) := by decide +kernel
theorem d_Log_learnMark_89 : decode b_Log_learnMark 89 = .ok (.aload_n 0, 1) := by decide +kernel
theorem d_Log_learnMark_90 : decode b_Log_learnMark 90 = .ok (.getfield 58, 3) := by decide +kernel
theorem d_Log_learnMark_93 : decode b_Log_learnMark 93 = .ok (.iload 4, 2) := by decide +kernel
theorem d_Log_learnMark_95 : decode b_Log_learnMark 95 = .ok (.iload 5, 2) := by decide +kernel
theorem d_Log_learnMark_97 : decode b_Log_learnMark 97 = .ok (.iload 6, 2) := by decide +kernel
theorem d_Log_learnMark_99 : decode b_Log_learnMark 99 = .ok (.invokevirtual 125, 3) := by decide +kernel
theorem d_Log_learnMark_102 : decode b_Log_learnMark 102 = .ok (.aload_n 0, 1) := by decide +kernel
theorem d_Log_learnMark_103 : decode b_Log_learnMark 103 = .ok (.aload_n 0, 1) := by decide +kernel
theorem d_Log_learnMark_104 : decode b_Log_learnMark 104 = .ok (.getfield 268, 3) := by decide +kernel
theorem d_Log_learnMark_107 : decode b_Log_learnMark 107 = .ok (.iload 6, 2) := by decide +kernel
theorem d_Log_learnMark_109 : decode b_Log_learnMark 109 = .ok (.invokestatic 164, 3) := by decide +kernel
theorem d_Log_learnMark_112 : decode b_Log_learnMark 112 = .ok (.putfield 268, 3) := by decide +kernel
theorem d_Log_learnMark_115 : decode b_Log_learnMark 115 = .ok (.iinc 5 1, 3) := by decide +kernel
theorem d_Log_learnMark_118 : decode b_Log_learnMark 118 = .ok (.goto (-57), 3) := by decide +kernel
theorem d_Log_learnMark_121 : decode b_Log_learnMark 121 = .ok (.aload_n 0, 1) := by decide +kernel
theorem d_Log_learnMark_122 : decode b_Log_learnMark 122 = .ok (.getfield 41, 3) := by decide +kernel
theorem d_Log_learnMark_125 : decode b_Log_learnMark 125 = .ok (.iload_n 1, 1) := by decide +kernel
theorem d_Log_learnMark_126 : decode b_Log_learnMark 126 = .ok (.iload_n 3, 1) := by decide +kernel
theorem d_Log_learnMark_127 : decode b_Log_learnMark 127 = .ok (.invokestatic 104, 3) := by decide +kernel
theorem d_Log_learnMark_130 : decode b_Log_learnMark 130 = .ok (.invokevirtual 321, 3) := by decide +kernel
theorem d_Log_learnMark_133 : decode b_Log_learnMark 133 = .ok (.aload_n 0, 1) := by decide +kernel
theorem d_Log_learnMark_134 : decode b_Log_learnMark 134 = .ok (.aload_n 0, 1) := by decide +kernel
theorem d_Log_learnMark_135 : decode b_Log_learnMark 135 = .ok (.getfield 89, 3) := by decide +kernel
theorem d_Log_learnMark_138 : decode b_Log_learnMark 138 = .ok (.iload_n 2, 1) := by decide +kernel
theorem d_Log_learnMark_139 : decode b_Log_learnMark 139 = .ok (.invokestatic 164, 3) := by decide +kernel
theorem d_Log_learnMark_142 : decode b_Log_learnMark 142 = .ok (.putfield 89, 3) := by decide +kernel
theorem d_Log_learnMark_145 : decode b_Log_learnMark 145 = .ok (.iload_n 3, 1) := by decide +kernel
theorem d_Log_learnMark_146 : decode b_Log_learnMark 146 = .ok (.invokestatic 104, 3) := by decide +kernel
theorem d_Log_learnMark_149 : decode b_Log_learnMark 149 = .ok (.ireturn, 1) := by decide +kernel
theorem d_Log_learnPart_0 : decode b_Log_learnPart 0 = .ok (.aload_n 0, 1) := by decide +kernel
theorem d_Log_learnPart_1 : decode b_Log_learnPart 1 = .ok (.getfield 14, 3) := by decide +kernel
theorem d_Log_learnPart_4 : decode b_Log_learnPart 4 = .ok (.iload_n 1, 1) := by decide +kernel
theorem d_Log_learnPart_5 : decode b_Log_learnPart 5 = .ok (.iconst 4, 1) := by decide +kernel
theorem d_Log_learnPart_6 : decode b_Log_learnPart 6 = .ok (.iconst 4, 1) := by decide +kernel
theorem d_Log_learnPart_7 : decode b_Log_learnPart 7 = .ok (.invokevirtual 311, 3) := by decide +kernel
theorem d_Log_learnPart_10 : decode b_Log_learnPart 10 = .ok (.l2i, 1) := by decide +kernel
theorem d_Log_learnPart_11 : decode b_Log_learnPart 11 = .ok (.istore_n 2, 1) := by decide +kernel
theorem d_Log_learnPart_12 : decode b_Log_learnPart 12 = .ok (.aload_n 0, 1) := by decide +kernel
theorem d_Log_learnPart_13 : decode b_Log_learnPart 13 = .ok (.getfield 14, 3) := by decide +kernel
theorem d_Log_learnPart_16 : decode b_Log_learnPart 16 = .ok (.iload_n 1, 1) := by decide +kernel
theorem d_Log_learnPart_17 : decode b_Log_learnPart 17 = .ok (.iconst 2, 1) := by decide +kernel
theorem d_Log_learnPart_18 : decode b_Log_learnPart 18 = .ok (.iconst 2, 1) := by decide +kernel
theorem d_Log_learnPart_19 : decode b_Log_learnPart 19 = .ok (.invokevirtual 311, 3) := by decide +kernel
theorem d_Log_learnPart_22 : decode b_Log_learnPart 22 = .ok (.l2i, 1) := by decide +kernel
theorem d_Log_learnPart_23 : decode b_Log_learnPart 23 = .ok (.istore_n 3, 1) := by decide +kernel
theorem d_Log_learnPart_24 : decode b_Log_learnPart 24 = .ok (.aload_n 0, 1) := by decide +kernel
theorem d_Log_learnPart_25 : decode b_Log_learnPart 25 = .ok (.getfield 51, 3) := by decide +kernel
theorem d_Log_learnPart_28 : decode b_Log_learnPart 28 = .ok (.iload_n 2, 1) := by decide +kernel
theorem d_Log_learnPart_29 : decode b_Log_learnPart 29 = .ok (.invokevirtual 186, 3) := by decide +kernel
theorem d_Log_learnPart_32 : decode b_Log_learnPart 32 = .ok (.iconst (-1), 1) := by decide +kernel
theorem d_Log_learnPart_33 : decode b_Log_learnPart 33 = .ok (.if_icmp .ne 58, 3) := by decide +kernel
theorem d_Log_learnPart_36 : decode b_Log_learnPart 36 = .ok (.aload_n 0, 1) := by decide +kernel
theorem d_Log_learnPart_37 : decode b_Log_learnPart 37 = .ok (.getfield 51, 3) := by decide +kernel
theorem d_Log_learnPart_40 : decode b_Log_learnPart 40 = .ok (.iload_n 2, 1) := by decide +kernel
theorem d_Log_learnPart_41 : decode b_Log_learnPart 41 = .ok (.aload_n 0, 1) := by decide +kernel
theorem d_Log_learnPart_42 : decode b_Log_learnPart 42 = .ok (.getfield 14, 3) := by decide +kernel
theorem d_Log_learnPart_45 : decode b_Log_learnPart 45 = .ok (.iload_n 1, 1) := by decide +kernel
theorem d_Log_learnPart_46 : decode b_Log_learnPart 46 = .ok (.iconst 1, 1) := by decide +kernel
theorem d_Log_learnPart_47 : decode b_Log_learnPart 47 = .ok (.invokevirtual 226, 3) := by decide +kernel
theorem d_Log_learnPart_50 : decode b_Log_learnPart 50 = .ok (.iload_n 3, 1) := by decide +kernel
theorem d_Log_learnPart_51 : decode b_Log_learnPart 51 = .ok (.iload_n 1, 1) := by decide +kernel
theorem d_Log_learnPart_52 : decode b_Log_learnPart 52 = .ok (.aload_n 0, 1) := by decide +kernel
theorem d_Log_learnPart_53 : decode b_Log_learnPart 53 = .ok (.getfield 14, 3) := by decide +kernel
theorem d_Log_learnPart_56 : decode b_Log_learnPart 56 = .ok (.iload_n 1, 1) := by decide +kernel
theorem d_Log_learnPart_57 : decode b_Log_learnPart 57 = .ok (.bipush 8, 2) := by decide +kernel
theorem d_Log_learnPart_59 : decode b_Log_learnPart 59 = .ok (.bipush 8, 2) := by decide +kernel
theorem d_Log_learnPart_61 : decode b_Log_learnPart 61 = .ok (.invokevirtual 311, 3) := by decide +kernel
theorem d_Log_learnPart_64 : decode b_Log_learnPart 64 = .ok (.invokevirtual 281, 3) := by decide +kernel
theorem d_Log_learnPart_67 : decode b_Log_learnPart 67 = .ok (.aload_n 0, 1) := by decide +kernel
theorem d_Log_learnPart_68 : decode b_Log_learnPart 68 = .ok (.getfield 41, 3) := by decide +kernel
theorem d_Log_learnPart_71 : decode b_Log_learnPart 71 = .ok (.iload_n 1, 1) := by decide +kernel
theorem d_Log_learnPart_72 : decode b_Log_learnPart 72 = .ok (.iload_n 3, 1) := by decide +kernel
theorem d_Log_learnPart_73 : decode b_Log_learnPart 73 = .ok (.invokestatic 270, 3) := by decide +kernel
theorem d_Log_learnPart_76 : decode b_Log_learnPart 76 = .ok (.invokevirtual 321, 3) := by decide +kernel
theorem d_Log_learnPart_79 : decode b_Log_learnPart 79 = .ok (.aload_n 0, 1) := by decide +kernel
theorem d_Log_learnPart_80 : decode b_Log_learnPart 80 = .ok (.aload_n 0, 1) := by decide +kernel
theorem d_Log_learnPart_81 : decode b_Log_learnPart 81 = .ok (.getfield 268, 3) := by decide +kernel
theorem d_Log_learnPart_84 : decode b_Log_learnPart 84 = .ok (.iload_n 2, 1) := by decide +kernel
theorem d_Log_learnPart_85 : decode b_Log_learnPart 85 = .ok (.invokestatic 164, 3) := by decide +kernel
theorem d_Log_learnPart_88 : decode b_Log_learnPart 88 = .ok (.putfield 268, 3) := by decide +kernel
theorem d_Log_learnPart_91 : decode b_Log_learnPart 91 = .ok (.iload_n 3, 1) := by decide +kernel
theorem d_Log_learnPart_92 : decode b_Log_learnPart 92 = .ok (.invokestatic 270, 3) := by decide +kernel
theorem d_Log_learnPart_95 : decode b_Log_learnPart 95 = .ok (.ireturn, 1) := by decide +kernel
theorem d_Log_learnRow_0 : decode b_Log_learnRow 0 = .ok (.aload_n 0, 1) := by decide +kernel
theorem d_Log_learnRow_1 : decode b_Log_learnRow 1 = .ok (.iload_n 1, 1) := by decide +kernel
theorem d_Log_learnRow_2 : decode b_Log_learnRow 2 = .ok (.invokevirtual 353, 3) := by decide +kernel
theorem d_Log_learnRow_5 : decode b_Log_learnRow 5 = .ok (.ifCond .eq 9, 3) := by decide +kernel
theorem d_Log_learnRow_8 : decode b_Log_learnRow 8 = .ok (.aload_n 0, 1) := by decide +kernel
theorem d_Log_learnRow_9 : decode b_Log_learnRow 9 = .ok (.iload_n 1, 1) := by decide +kernel
theorem d_Log_learnRow_10 : decode b_Log_learnRow 10 = .ok (.invokevirtual 356, 3) := by decide +kernel
theorem d_Log_learnRow_13 : decode b_Log_learnRow 13 = .ok (.ireturn, 1) := by decide +kernel
theorem d_Log_learnRow_14 : decode b_Log_learnRow 14 = .ok (.aload_n 0, 1) := by decide +kernel
theorem d_Log_learnRow_15 : decode b_Log_learnRow 15 = .ok (.iload_n 1, 1) := by decide +kernel
theorem d_Log_learnRow_16 : decode b_Log_learnRow 16 = .ok (.invokevirtual 359, 3) := by decide +kernel
theorem d_Log_learnRow_19 : decode b_Log_learnRow 19 = .ok (.ifCond .eq 9, 3) := by decide +kernel
theorem d_Log_learnRow_22 : decode b_Log_learnRow 22 = .ok (.aload_n 0, 1) := by decide +kernel
theorem d_Log_learnRow_23 : decode b_Log_learnRow 23 = .ok (.iload_n 1, 1) := by decide +kernel
theorem d_Log_learnRow_24 : decode b_Log_learnRow 24 = .ok (.invokevirtual 362, 3) := by decide +kernel
theorem d_Log_learnRow_27 : decode b_Log_learnRow 27 = .ok (.ireturn, 1) := by decide +kernel
theorem d_Log_learnRow_28 : decode b_Log_learnRow 28 = .ok (.iconst 1, 1) := by decide +kernel
theorem d_Log_learnRow_29 : decode b_Log_learnRow 29 = .ok (.ireturn, 1) := by decide +kernel
theorem d_Log_lengthOnTape_0 : decode b_Log_lengthOnTape 0 = .ok (.aload_n 0, 1) := by decide +kernel
theorem d_Log_lengthOnTape_1 : decode b_Log_lengthOnTape 1 = .ok (.getfield 21, 3) := by decide +kernel
theorem d_Log_lengthOnTape_4 : decode b_Log_lengthOnTape 4 = .ok (.iload_n 1, 1) := by decide +kernel
theorem d_Log_lengthOnTape_5 : decode b_Log_lengthOnTape 5 = .ok (.bipush 9, 2) := by decide +kernel
theorem d_Log_lengthOnTape_7 : decode b_Log_lengthOnTape 7 = .ok (.iadd, 1) := by decide +kernel
theorem d_Log_lengthOnTape_8 : decode b_Log_lengthOnTape 8 = .ok (.iconst 2, 1) := by decide +kernel
theorem d_Log_lengthOnTape_9 : decode b_Log_lengthOnTape 9 = .ok (.invokevirtual 394, 3) := by decide +kernel
theorem d_Log_lengthOnTape_12 : decode b_Log_lengthOnTape 12 = .ok (.l2i, 1) := by decide +kernel
theorem d_Log_lengthOnTape_13 : decode b_Log_lengthOnTape 13 = .ok (.ireturn, 1) := by decide +kernel
theorem d_Log_makeMark_0 : decode b_Log_makeMark 0 = .ok (.aload_n 0, 1) := by decide +kernel
theorem d_Log_makeMark_1 : decode b_Log_makeMark 1 = .ok (.dup, 1) := by decide +kernel
theorem d_Log_makeMark_2 : decode b_Log_makeMark 2 = .ok (.getfield 89, 3) := by decide +kernel
theorem d_Log_makeMark_5 : decode b_Log_makeMark 5 = .ok (.iconst 1, 1) := by decide +kernel
theorem d_Log_makeMark_6 : decode b_Log_makeMark 6 = .ok (.iadd, 1) := by decide +kernel
theorem d_Log_makeMark_7 : decode b_Log_makeMark 7 = .ok (.putfield 89, 3) := by decide +kernel
theorem d_Log_makeMark_10 : decode b_Log_makeMark 10 = .ok (.aload_n 0, 1) := by decide +kernel
theorem d_Log_makeMark_11 : decode b_Log_makeMark 11 = .ok (.getfield 62, 3) := by decide +kernel
theorem d_Log_makeMark_14 : decode b_Log_makeMark 14 = .ok (.aload_n 0, 1) := by decide +kernel
theorem d_Log_makeMark_15 : decode b_Log_makeMark 15 = .ok (.getfield 89, 3) := by decide +kernel
theorem d_Log_makeMark_18 : decode b_Log_makeMark 18 = .ok (.iload_n 1, 1) := by decide +kernel
theorem d_Log_makeMark_19 : decode b_Log_makeMark 19 = .ok (.iconst (-1), 1) := by decide +kernel
theorem d_Log_makeMark_20 : decode b_Log_makeMark 20 = .ok (.lconst 0, 1) := by decide +kernel
theorem d_Log_makeMark_21 : decode b_Log_makeMark 21 = .ok (.invokevirtual 118, 3) := by decide +kernel
theorem d_Log_makeMark_24 : decode b_Log_makeMark 24 = .ok (.istore_n 2, 1) := by decide +kernel
theorem d_Log_makeMark_25 : decode b_Log_makeMark 25 = .ok (.aload_n 0, 1) := by decide +kernel
theorem d_Log_makeMark_26 : decode b_Log_makeMark 26 = .ok (.getfield 51, 3) := by decide +kernel
theorem d_Log_makeMark_29 : decode b_Log_makeMark 29 = .ok (.invokevirtual 87, 3) := by decide +kernel
theorem d_Log_makeMark_32 : decode b_Log_makeMark 32 = .ok (.iload_n 1, 1) := by decide +kernel
theorem d_Log_makeMark_33 : decode b_Log_makeMark 33 = .ok (.isub, 1) := by decide +kernel
theorem d_Log_makeMark_34 : decode b_Log_makeMark 34 = .ok (.istore_n 3, 1) := by decide +kernel
theorem d_Log_makeMark_35 : decode b_Log_makeMark 35 = .ok (.iconst 0, 1) := by decide +kernel
theorem d_Log_makeMark_36 : decode b_Log_makeMark 36 = .ok (.istore 4, 2) := by decide +kernel
theorem d_Log_makeMark_38 : decode b_Log_makeMark 38 = .ok (.iload 4, 2) := by decide +kernel
theorem d_Log_makeMark_40 : decode b_Log_makeMark 40 = .ok (.iload_n 1, 1) := by decide +kernel
theorem d_Log_makeMark_41 : decode b_Log_makeMark 41 = .ok (.if_icmp .ge 30, 3) := by decide +kernel
theorem d_Log_makeMark_44 : decode b_Log_makeMark 44 = .ok (.aload_n 0, 1) := by decide +kernel
theorem d_Log_makeMark_45 : decode b_Log_makeMark 45 = .ok (.getfield 62, 3) := by decide +kernel
theorem d_Log_makeMark_48 : decode b_Log_makeMark 48 = .ok (.iload_n 2, 1) := by decide +kernel
theorem d_Log_makeMark_49 : decode b_Log_makeMark 49 = .ok (.iload 4, 2) := by decide +kernel
theorem d_Log_makeMark_51 : decode b_Log_makeMark 51 = .ok (.aload_n 0, 1) := by decide +kernel
theorem d_Log_makeMark_52 : decode b_Log_makeMark 52 = .ok (.getfield 51, 3) := by decide +kernel
theorem d_Log_makeMark_55 : decode b_Log_makeMark 55 = .ok (.iload_n 3, 1) := by decide +kernel
theorem d_Log_makeMark_56 : decode b_Log_makeMark 56 = .ok (.iload 4, 2) := by decide +kernel
theorem d_Log_makeMark_58 : decode b_Log_makeMark 58 = .ok (.iadd, 1) := by decide +kernel
theorem d_Log_makeMark_59 : decode b_Log_makeMark 59 = .ok (.invokevirtual 330, 3) := by decide +kernel
theorem d_Log_makeMark_62 : decode b_Log_makeMark 62 = .ok (.invokevirtual 125, 3) := by decide +kernel
theorem d_Log_makeMark_65 : decode b_Log_makeMark 65 = .ok (.iinc 4 1, 3) := by decide +kernel
theorem d_Log_makeMark_68 : decode b_Log_makeMark 68 = .ok (.goto (-30), 3) := by decide +kernel
theorem d_Log_makeMark_71 : decode b_Log_makeMark 71 = .ok (.aload_n 0, 1) := by decide +kernel
theorem d_Log_makeMark_72 : decode b_Log_makeMark 72 = .ok (.getfield 89, 3) := by decide +kernel
theorem d_Log_makeMark_75 : decode b_Log_makeMark 75 = .ok (.ireturn, 1) := by decide +kernel
theorem d_Log_mark_0 : decode b_Log_mark 0 = .ok (.aload_n 0, 1) := by decide +kernel
theorem d_Log_mark_1 : decode b_Log_mark 1 = .ok (.getfield 69, 3) := by decide +kernel
theorem d_Log_mark_4 : decode b_Log_mark 4 = .ok (.ifCond .ne 6, 3) := by decide +kernel
theorem d_Log_mark_7 : decode b_Log_mark 7 = .ok (.bipush (-3), 2) := by decide +kernel
theorem d_Log_mark_9 : decode b_Log_mark 9 = .ok (.ireturn, 1) := by decide +kernel
theorem d_Log_mark_10 : decode b_Log_mark 10 = .ok (.iload_n 1, 1) := by decide +kernel
theorem d_Log_mark_11 : decode b_Log_mark 11 = .ok (.iconst 1, 1) := by decide +kernel
theorem d_Log_mark_12 : decode b_Log_mark 12 = .ok (.if_icmp .lt 9, 3) := by decide +kernel
theorem d_Log_mark_15 : decode b_Log_mark 15 = .ok (.iload_n 1, 1) := by decide +kernel
theorem d_Log_mark_16 : decode b_Log_mark 16 = .ok (.bipush 12, 2) := by decide +kernel
theorem d_Log_mark_18 : decode b_Log_mark 18 = .ok (.if_icmp .le 6, 3) := by decide +kernel
theorem d_Log_mark_21 : decode b_Log_mark 21 = .ok (.bipush (-2), 2) := by decide +kernel
theorem d_Log_mark_23 : decode b_Log_mark 23 = .ok (.ireturn, 1) := by decide +kernel
theorem d_Log_mark_24 : decode b_Log_mark 24 = .ok (.aload_n 0, 1) := by decide +kernel
theorem d_Log_mark_25 : decode b_Log_mark 25 = .ok (.getfield 51, 3) := by decide +kernel
theorem d_Log_mark_28 : decode b_Log_mark 28 = .ok (.invokevirtual 87, 3) := by decide +kernel
theorem d_Log_mark_31 : decode b_Log_mark 31 = .ok (.iload_n 1, 1) := by decide +kernel
theorem d_Log_mark_32 : decode b_Log_mark 32 = .ok (.if_icmp .ge 5, 3) := by decide +kernel
theorem d_Log_mark_35 : decode b_Log_mark 35 = .ok (.iconst (-1), 1) := by decide +kernel
theorem d_Log_mark_36 : decode b_Log_mark 36 = .ok (.ireturn, 1) := by decide +kernel
theorem d_Log_mark_37 : decode b_Log_mark 37 = .ok (.aload_n 0, 1) := by decide +kernel
theorem d_Log_mark_38 : decode b_Log_mark 38 = .ok (.getfield 62, 3) := by decide +kernel
theorem d_Log_mark_41 : decode b_Log_mark 41 = .ok (.invokevirtual 88, 3) := by decide +kernel
theorem d_Log_mark_44 : decode b_Log_mark 44 = .ok (.bipush 6, 2) := by decide +kernel
theorem d_Log_mark_46 : decode b_Log_mark 46 = .ok (.if_icmp .ge 12, 3) := by decide +kernel
theorem d_Log_mark_49 : decode b_Log_mark 49 = .ok (.aload_n 0, 1) := by decide +kernel
theorem d_Log_mark_50 : decode b_Log_mark 50 = .ok (.getfield 89, 3) := by decide +kernel
theorem d_Log_mark_53 : decode b_Log_mark 53 = .ok (.ldc 93, 2) := by decide +kernel
theorem d_Log_mark_55 : decode b_Log_mark 55 = .ok (.if_icmp .lt 6, 3) := by decide +kernel
theorem d_Log_mark_58 : decode b_Log_mark 58 = .ok (.bipush (-4), 2) := by decide +kernel
theorem d_Log_mark_60 : decode b_Log_mark 60 = .ok (.ireturn, 1) := by decide +kernel
theorem d_Log_mark_61 : decode b_Log_mark 61 = .ok (.aload_n 0, 1) := by decide +kernel
theorem d_Log_mark_62 : decode b_Log_mark 62 = .ok (.iload_n 1, 1) := by decide +kernel
theorem d_Log_mark_63 : decode b_Log_mark 63 = .ok (.invokevirtual 94, 3) := by decide +kernel
theorem d_Log_mark_66 : decode b_Log_mark 66 = .ok (.ireturn, 1) := by decide +kernel
theorem d_Log_markOf_0 : decode b_Log_markOf 0 = .ok (.aload_n 0, 1) := by decide +kernel
theorem d_Log_markOf_1 : decode b_Log_markOf 1 = .ok (.getfield 69, 3) := by decide +kernel
theorem d_Log_markOf_4 : decode b_Log_markOf 4 = .ok (.ifCond .ne 6, 3) := by decide +kernel
theorem d_Log_markOf_7 : decode b_Log_markOf 7 = .ok (.bipush (-3), 2) := by decide +kernel
theorem d_Log_markOf_9 : decode b_Log_markOf 9 = .ok (.ireturn, 1) := by decide +kernel
theorem d_Log_markOf_10 : decode b_Log_markOf 10 = .ok (.aload_n 0, 1) := by decide +kernel
theorem d_Log_markOf_11 : decode b_Log_markOf 11 = .ok (.iload_n 1, 1) := by decide +kernel
theorem d_Log_markOf_12 : decode b_Log_markOf 12 = .ok (.invokevirtual 175, 3) := by decide +kernel
theorem d_Log_markOf_15 : decode b_Log_markOf 15 = .ok (.astore_n 3, 1) := by decide +kernel
theorem d_Log_markOf_16 : decode b_Log_markOf 16 = .ok (.aload_n 3, 1) := by decide +kernel
theorem d_Log_markOf_17 : decode b_Log_markOf 17 = .ok (.ifnonnull 5, 3) := by decide +kernel
theorem d_Log_markOf_20 : decode b_Log_markOf 20 = .ok (.iconst (-1), 1) := by decide +kernel
theorem d_Log_markOf_21 : decode b_Log_markOf 21 = .ok (.ireturn, 1) := by decide +kernel
theorem d_Log_markOf_22 : decode b_Log_markOf 22 = .ok (.aload_n 3, 1) := by decide +kernel
theorem d_Log_markOf_23 : decode b_Log_markOf 23 = .ok (.iload_n 1, 1) := by decide +kernel
theorem d_Log_markOf_24 : decode b_Log_markOf 24 = .ok (.invokevirtual 98, 3) := by decide +kernel
theorem d_Log_markOf_27 : decode b_Log_markOf 27 = .ok (.istore 4, 2) := by decide +kernel
theorem d_Log_markOf_29 : decode b_Log_markOf 29 = .ok (.iload_n 2, 1) := by decide +kernel
theorem d_Log_markOf_30 : decode b_Log_markOf 30 = .ok (.iconst (-1), 1) := by decide +kernel
theorem d_Log_markOf_31 : decode b_Log_markOf 31 = .ok (.if_icmp .ne 12, 3) := by decide +kernel
theorem d_Log_markOf_34 : decode b_Log_markOf 34 = .ok (.aload_n 3, 1) := by decide +kernel
theorem d_Log_markOf_35 : decode b_Log_markOf 35 = .ok (.iload 4, 2) := by decide +kernel
theorem d_Log_markOf_37 : decode b_Log_markOf 37 = .ok (.invokevirtual 101, 3) := by decide +kernel
theorem d_Log_markOf_40 : decode b_Log_markOf 40 = .ok (.goto 10, 3) := by decide +kernel
theorem d_Log_markOf_43 : decode b_Log_markOf 43 = .ok (.aload_n 3, 1) := by decide +kernel
theorem d_Log_markOf_44 : decode b_Log_markOf 44 = .ok (.iload 4, 2) := by decide +kernel
theorem d_Log_markOf_46 : decode b_Log_markOf 46 = .ok (.iload_n 2, 1) := by decide +kernel
theorem d_Log_markOf_47 : decode b_Log_markOf 47 = .ok (.invokevirtual 121, 3) := by decide +kernel
theorem d_Log_markOf_50 : decode b_Log_markOf 50 = .ok (.ireturn, 1) := by decide +kernel
theorem d_Log_marks_0 : decode b_Log_marks 0 = .ok (.aload_n 0, 1) := by decide +kernel
theorem d_Log_marks_1 : decode b_Log_marks 1 = .ok (.getfield 69, 3) := by decide +kernel
theorem d_Log_marks_4 : decode b_Log_marks 4 = .ok (.ifCond .ne 6, 3) := by decide +kernel
theorem d_Log_marks_7 : decode b_Log_marks 7 = .ok (.bipush (-3), 2) := by decide +kernel
theorem d_Log_marks_9 : decode b_Log_marks 9 = .ok (.ireturn, 1) := by decide +kernel
theorem d_Log_marks_10 : decode b_Log_marks 10 = .ok (.iload_n 1, 1) := by decide +kernel
theorem d_Log_marks_11 : decode b_Log_marks 11 = .ok (.iconst (-1), 1) := by decide +kernel
theorem d_Log_marks_12 : decode b_Log_marks 12 = .ok (.if_icmp .ne 11, 3) := by decide +kernel
theorem d_Log_marks_15 : decode b_Log_marks 15 = .ok (.aload_n 0, 1) := by decide +kernel
theorem d_Log_marks_16 : decode b_Log_marks 16 = .ok (.getfield 58, 3) := by decide +kernel
theorem d_Log_marks_19 : decode b_Log_marks 19 = .ok (.invokevirtual 88, 3) := by decide +kernel
theorem d_Log_marks_22 : decode b_Log_marks 22 = .ok (.ireturn, 1) := by decide +kernel
theorem d_Log_marks_23 : decode b_Log_marks 23 = .ok (.aload_n 0, 1) := by decide +kernel
theorem d_Log_marks_24 : decode b_Log_marks 24 = .ok (.getfield 58, 3) := by decide +kernel
theorem d_Log_marks_27 : decode b_Log_marks 27 = .ok (.iload_n 1, 1) := by decide +kernel
theorem d_Log_marks_28 : decode b_Log_marks 28 = .ok (.invokevirtual 172, 3) := by decide +kernel
theorem d_Log_marks_31 : decode b_Log_marks 31 = .ok (.ireturn, 1) := by decide +kernel
theorem d_Log_named_0 : decode b_Log_named 0 = .ok (.aload_n 0, 1) := by decide +kernel
theorem d_Log_named_1 : decode b_Log_named 1 = .ok (.getfield 69, 3) := by decide +kernel
theorem d_Log_named_4 : decode b_Log_named 4 = .ok (.ifCond .eq 11, 3) := by decide +kernel
theorem d_Log_named_7 : decode b_Log_named 7 = .ok (.aload_n 0, 1) := by decide +kernel
theorem d_Log_named_8 : decode b_Log_named 8 = .ok (.iload_n 1, 1) := by decide +kernel
theorem d_Log_named_9 : decode b_Log_named 9 = .ok (.invokevirtual 204, 3) := by decide +kernel
theorem d_Log_named_12 : decode b_Log_named 12 = .ok (.goto 5, 3) := by decide +kernel
theorem d_Log_named_15 : decode b_Log_named 15 = .ok (.bipush (-3), 2) := by decide +kernel
theorem d_Log_named_17 : decode b_Log_named 17 = .ok (.ireturn, 1) := by decide +kernel
theorem d_Log_open__0 : decode b_Log_open_ 0 = .ok (.aload_n 0, 1) := by decide +kernel
theorem d_Log_open__1 : decode b_Log_open_ 1 = .ok (.invokevirtual 155, 3) := by decide +kernel
theorem d_Log_open__4 : decode b_Log_open_ 4 = .ok (.aload_n 0, 1) := by decide +kernel
theorem d_Log_open__5 : decode b_Log_open_ 5 = .ok (.invokevirtual 158, 3) := by decide +kernel
theorem d_Log_open__8 : decode b_Log_open_ 8 = .ok (.iconst 1, 1) := by decide +kernel
theorem d_Log_open__9 : decode b_Log_open_ 9 = .ok (.istore_n 1, 1) := by decide +kernel
theorem d_Log_open__10 : decode b_Log_open_ 10 = .ok (.iconst 2, 1) := by decide +kernel
theorem d_Log_open__11 : decode b_Log_open_ 11 = .ok (.istore_n 2, 1) := by decide +kernel
theorem d_Log_open__12 : decode b_Log_open_ 12 = .ok (.iload_n 2, 1) := by decide +kernel
theorem d_Log_open__13 : decode b_Log_open_ 13 = .ok (.aload_n 0, 1) := by decide +kernel
theorem d_Log_open__14 : decode b_Log_open_ 14 = .ok (.getfield 14, 3) := by decide +kernel
theorem d_Log_open__17 : decode b_Log_open_ 17 = .ok (.invokevirtual 36, 3) := by decide +kernel
theorem d_Log_open__20 : decode b_Log_open_ 20 = .ok (.if_icmp .ge 20, 3) := by decide +kernel
theorem d_Log_open__23 : decode b_Log_open_ 23 = .ok (.iconst 1, 1) := by decide +kernel
theorem d_Log_open__24 : decode b_Log_open_ 24 = .ok (.aload_n 0, 1) := by decide +kernel
theorem d_Log_open__25 : decode b_Log_open_ 25 = .ok (.iload_n 2, 1) := by decide +kernel
theorem d_Log_open__26 : decode b_Log_open_ 26 = .ok (.invokevirtual 161, 3) := by decide +kernel
theorem d_Log_open__29 : decode b_Log_open_ 29 = .ok (.invokestatic 164, 3) := by decide +kernel
theorem d_Log_open__32 : decode b_Log_open_ 32 = .ok (.istore_n 1, 1) := by decide +kernel
theorem d_Log_open__33 : decode b_Log_open_ 33 = .ok (.iload_n 2, 1) := by decide +kernel
theorem d_Log_open__34 : decode b_Log_open_ 34 = .ok (.iload_n 1, 1) := by decide +kernel
theorem d_Log_open__35 : decode b_Log_open_ 35 = .ok (.iadd, 1) := by decide +kernel
theorem d_Log_open__36 : decode b_Log_open_ 36 = .ok (.istore_n 2, 1) := by decide +kernel
theorem d_Log_open__37 : decode b_Log_open_ 37 = .ok (.goto (-25), 3) := by decide +kernel
theorem d_Log_open__40 : decode b_Log_open_ 40 = .ok (.aload_n 0, 1) := by decide +kernel
theorem d_Log_open__41 : decode b_Log_open_ 41 = .ok (.iconst 1, 1) := by decide +kernel
theorem d_Log_open__42 : decode b_Log_open_ 42 = .ok (.putfield 69, 3) := by decide +kernel
theorem d_Log_open__45 : decode b_Log_open_ 45 = .ok (.aload_n 0, 1) := by decide +kernel
theorem d_Log_open__46 : decode b_Log_open_ 46 = .ok (.getfield 58, 3) := by decide +kernel
theorem d_Log_open__49 : decode b_Log_open_ 49 = .ok (.invokevirtual 88, 3) := by decide +kernel
theorem d_Log_open__52 : decode b_Log_open_ 52 = .ok (.ireturn, 1) := by decide +kernel
theorem d_Log_out_0 : decode b_Log_out 0 = .ok (.aload_n 0, 1) := by decide +kernel
theorem d_Log_out_1 : decode b_Log_out 1 = .ok (.getfield 69, 3) := by decide +kernel
theorem d_Log_out_4 : decode b_Log_out 4 = .ok (.ifCond .ne 6, 3) := by decide +kernel
theorem d_Log_out_7 : decode b_Log_out 7 = .ok (.bipush (-3), 2) := by decide +kernel
theorem d_Log_out_9 : decode b_Log_out 9 = .ok (.ireturn, 1) := by decide +kernel
theorem d_Log_out_10 : decode b_Log_out 10 = .ok (.aload_n 0, 1) := by decide +kernel
theorem d_Log_out_11 : decode b_Log_out 11 = .ok (.iload_n 1, 1) := by decide +kernel
theorem d_Log_out_12 : decode b_Log_out 12 = .ok (.invokevirtual 175, 3) := by decide +kernel
theorem d_Log_out_15 : decode b_Log_out 15 = .ok (.ifnonnull 5, 3) := by decide +kernel
theorem d_Log_out_18 : decode b_Log_out 18 = .ok (.iconst (-1), 1) := by decide +kernel
theorem d_Log_out_19 : decode b_Log_out 19 = .ok (.ireturn, 1) := by decide +kernel
theorem d_Log_out_20 : decode b_Log_out 20 = .ok (.aload_n 0, 1) := by decide +kernel
theorem d_Log_out_21 : decode b_Log_out 21 = .ok (.iload_n 1, 1) := by decide +kernel
theorem d_Log_out_22 : decode b_Log_out 22 = .ok (.invokevirtual 179, 3) := by decide +kernel
theorem d_Log_out_25 : decode b_Log_out 25 = .ok (.ifCond .ne 6, 3) := by decide +kernel
theorem d_Log_out_28 : decode b_Log_out 28 = .ok (.bipush (-2), 2) := by decide +kernel
theorem d_Log_out_30 : decode b_Log_out 30 = .ok (.ireturn, 1) := by decide +kernel
theorem d_Log_out_31 : decode b_Log_out 31 = .ok (.aload_n 0, 1) := by decide +kernel
theorem d_Log_out_32 : decode b_Log_out 32 = .ok (.aload_n 0, 1) := by decide +kernel
theorem d_Log_out_33 : decode b_Log_out 33 = .ok (.getfield 28, 3) := by decide +kernel
theorem d_Log_out_36 : decode b_Log_out 36 = .ok (.iload_n 1, 1) := by decide +kernel
theorem d_Log_out_37 : decode b_Log_out 37 = .ok (.invokevirtual 235, 3) := by decide +kernel
theorem d_Log_out_40 : decode b_Log_out 40 = .ok (.iload_n 2, 1) := by decide +kernel
theorem d_Log_out_41 : decode b_Log_out 41 = .ok (.iconst (-1), 1) := by decide +kernel
theorem d_Log_out_42 : decode b_Log_out 42 = .ok (.if_icmp .ne 11, 3) := by decide +kernel
theorem d_Log_out_45 : decode b_Log_out 45 = .ok (.aload_n 0, 1) := by decide +kernel
theorem d_Log_out_46 : decode b_Log_out 46 = .ok (.getfield 28, 3) := by decide +kernel
theorem d_Log_out_49 : decode b_Log_out 49 = .ok (.invokevirtual 73, 3) := by decide +kernel
theorem d_Log_out_52 : decode b_Log_out 52 = .ok (.ireturn, 1) := by decide +kernel
theorem d_Log_out_53 : decode b_Log_out 53 = .ok (.iload_n 2, 1) := by decide +kernel
theorem d_Log_out_54 : decode b_Log_out 54 = .ok (.ifCond .lt 25, 3) := by decide +kernel
theorem d_Log_out_57 : decode b_Log_out 57 = .ok (.iload_n 2, 1) := by decide +kernel
theorem d_Log_out_58 : decode b_Log_out 58 = .ok (.aload_n 0, 1) := by decide +kernel
theorem d_Log_out_59 : decode b_Log_out 59 = .ok (.getfield 28, 3) := by decide +kernel
theorem d_Log_out_62 : decode b_Log_out 62 = .ok (.invokevirtual 73, 3) := by decide +kernel
theorem d_Log_out_65 : decode b_Log_out 65 = .ok (.if_icmp .ge 14, 3) := by decide +kernel
theorem d_Log_out_68 : decode b_Log_out 68 = .ok (.aload_n 0, 1) := by decide +kernel
theorem d_Log_out_69 : decode b_Log_out 69 = .ok (.getfield 28, 3) := by decide +kernel
theorem d_Log_out_72 : decode b_Log_out 72 = .ok (.iload_n 2, 1) := by decide +kernel
theorem d_Log_out_73 : decode b_Log_out 73 = .ok (.invokevirtual 239, 3) := by decide +kernel
theorem d_Log_out_76 : decode b_Log_out 76 = .ok (.goto 4, 3) := by decide +kernel
theorem d_Log_out_79 : decode b_Log_out 79 = .ok (.iconst (-1), 1) := by decide +kernel
theorem d_Log_out_80 : decode b_Log_out 80 = .ok (.ireturn, 1) := by decide +kernel
theorem d_Log_owner_0 : decode b_Log_owner 0 = .ok (.aload_n 0, 1) := by decide +kernel
theorem d_Log_owner_1 : decode b_Log_owner 1 = .ok (.getfield 69, 3) := by decide +kernel
theorem d_Log_owner_4 : decode b_Log_owner 4 = .ok (.ifCond .ne 6, 3) := by decide +kernel
theorem d_Log_owner_7 : decode b_Log_owner 7 = .ok (.bipush (-3), 2) := by decide +kernel
theorem d_Log_owner_9 : decode b_Log_owner 9 = .ok (.ireturn, 1) := by decide +kernel
theorem d_Log_owner_10 : decode b_Log_owner 10 = .ok (.iload_n 1, 1) := by decide +kernel
theorem d_Log_owner_11 : decode b_Log_owner 11 = .ok (.invokestatic 132, 3) := by decide +kernel
theorem d_Log_owner_14 : decode b_Log_owner 14 = .ok (.ifCond .ne 6, 3) := by decide +kernel
theorem d_Log_owner_17 : decode b_Log_owner 17 = .ok (.bipush (-2), 2) := by decide +kernel
theorem d_Log_owner_19 : decode b_Log_owner 19 = .ok (.ireturn, 1) := by decide +kernel
theorem d_Log_owner_20 : decode b_Log_owner 20 = .ok (.aload_n 0, 1) := by decide +kernel
theorem d_Log_owner_21 : decode b_Log_owner 21 = .ok (.getfield 65, 3) := by decide +kernel
theorem d_Log_owner_24 : decode b_Log_owner 24 = .ok (.iload_n 1, 1) := by decide +kernel
theorem d_Log_owner_25 : decode b_Log_owner 25 = .ok (.iaload, 1) := by decide +kernel
theorem d_Log_owner_26 : decode b_Log_owner 26 = .ok (.ldc 136, 2) := by decide +kernel
theorem d_Log_owner_28 : decode b_Log_owner 28 = .ok (.if_icmp .ge 12, 3) := by decide +kernel
theorem d_Log_owner_31 : decode b_Log_owner 31 = .ok (.aload_n 0, 1) := by decide +kernel
theorem d_Log_owner_32 : decode b_Log_owner 32 = .ok (.getfield 137, 3) := by decide +kernel
theorem d_Log_owner_35 : decode b_Log_owner 35 = .ok (.ldc 93, 2) := by decide +kernel
theorem d_Log_owner_37 : decode b_Log_owner 37 = .ok (.if_icmp .lt 6, 3) := by decide +kernel
theorem d_Log_owner_40 : decode b_Log_owner 40 = .ok (.bipush (-4), 2) := by decide +kernel
theorem d_Log_owner_42 : decode b_Log_owner 42 = .ok (.ireturn, 1) := by decide +kernel
theorem d_Log_owner_43 : decode b_Log_owner 43 = .ok (.aload_n 0, 1) := by decide +kernel
theorem d_Log_owner_44 : decode b_Log_owner 44 = .ok (.getfield 65, 3) := by decide +kernel
theorem d_Log_owner_47 : decode b_Log_owner 47 = .ok (.iload_n 1, 1) := by decide +kernel
theorem d_Log_owner_48 : decode b_Log_owner 48 = .ok (.dup2, 1) := by decide +kernel
theorem d_Log_owner_49 : decode b_Log_owner 49 = .ok (.iaload, 1) := by decide +kernel
theorem d_Log_owner_50 : decode b_Log_owner 50 = .ok (.iconst 1, 1) := by decide +kernel
theorem d_Log_owner_51 : decode b_Log_owner 51 = .ok (.iadd, 1) := by decide +kernel
theorem d_Log_owner_52 : decode b_Log_owner 52 = .ok (.iastore, 1) := by decide +kernel
theorem d_Log_owner_53 : decode b_Log_owner 53 = .ok (.aload_n 0, 1) := by decide +kernel
theorem d_Log_owner_54 : decode b_Log_owner 54 = .ok (.dup, 1) := by decide +kernel
theorem d_Log_owner_55 : decode b_Log_owner 55 = .ok (.getfield 137, 3) := by decide +kernel
theorem d_Log_owner_58 : decode b_Log_owner 58 = .ok (.iconst 1, 1) := by decide +kernel
theorem d_Log_owner_59 : decode b_Log_owner 59 = .ok (.iadd, 1) := by decide +kernel
theorem d_Log_owner_60 : decode b_Log_owner 60 = .ok (.putfield 137, 3) := by decide +kernel
theorem d_Log_owner_63 : decode b_Log_owner 63 = .ok (.aload_n 0, 1) := by decide +kernel
theorem d_Log_owner_64 : decode b_Log_owner 64 = .ok (.invokevirtual 140, 3) := by decide +kernel
theorem d_Log_owner_67 : decode b_Log_owner 67 = .ok (.aload_n 0, 1) := by decide +kernel
theorem d_Log_owner_68 : decode b_Log_owner 68 = .ok (.aload_n 0, 1) := by decide +kernel
theorem d_Log_owner_69 : decode b_Log_owner 69 = .ok (.getfield 137, 3) := by decide +kernel
theorem d_Log_owner_72 : decode b_Log_owner 72 = .ok (.iconst 2, 1) := by decide +kernel
theorem d_Log_owner_73 : decode b_Log_owner 73 = .ok (.irem, 1) := by decide +kernel
theorem d_Log_owner_74 : decode b_Log_owner 74 = .ok (.iconst 1, 1) := by decide +kernel
theorem d_Log_owner_75 : decode b_Log_owner 75 = .ok (.invokevirtual 114, 3) := by decide +kernel
theorem d_Log_owner_78 : decode b_Log_owner 78 = .ok (.ifCond .eq 12, 3) := by decide +kernel
theorem d_Log_owner_81 : decode b_Log_owner 81 = .ok (.aload_n 0, 1) := by decide +kernel
theorem d_Log_owner_82 : decode b_Log_owner 82 = .ok (.getfield 65, 3) := by decide +kernel
theorem d_Log_owner_85 : decode b_Log_owner 85 = .ok (.iload_n 1, 1) := by decide +kernel
theorem d_Log_owner_86 : decode b_Log_owner 86 = .ok (.iaload, 1) := by decide +kernel
theorem d_Log_owner_87 : decode b_Log_owner 87 = .ok (.goto 5, 3) := by decide +kernel
theorem d_Log_owner_90 : decode b_Log_owner 90 = .ok (.bipush (-5), 2) := by decide +kernel
theorem d_Log_owner_92 : decode b_Log_owner 92 = .ok (.ireturn, 1) := by decide +kernel
theorem d_Log_part_0 : decode b_Log_part 0 = .ok (.aload_n 0, 1) := by decide +kernel
theorem d_Log_part_1 : decode b_Log_part 1 = .ok (.getfield 69, 3) := by decide +kernel
theorem d_Log_part_4 : decode b_Log_part 4 = .ok (.ifCond .eq 12, 3) := by decide +kernel
theorem d_Log_part_7 : decode b_Log_part 7 = .ok (.aload_n 0, 1) := by decide +kernel
theorem d_Log_part_8 : decode b_Log_part 8 = .ok (.iload_n 1, 1) := by decide +kernel
theorem d_Log_part_9 : decode b_Log_part 9 = .ok (.lload_n 2, 1) := by decide +kernel
theorem d_Log_part_10 : decode b_Log_part 10 = .ok (.invokevirtual 83, 3) := by decide +kernel
theorem d_Log_part_13 : decode b_Log_part 13 = .ok (.goto 5, 3) := by decide +kernel
theorem d_Log_part_16 : decode b_Log_part 16 = .ok (.bipush (-3), 2) := by decide +kernel
theorem d_Log_part_18 : decode b_Log_part 18 = .ok (.istore 4, 2) := by decide +kernel
theorem d_Log_part_20 : decode b_Log_part 20 = .ok (.aload_n 0, 1) := by decide +kernel
theorem d_Log_part_21 : decode b_Log_part 21 = .ok (.getfield 21, 3) := by decide +kernel
theorem d_Log_part_24 : decode b_Log_part 24 = .ok (.invokevirtual 80, 3) := by decide +kernel
theorem d_Log_part_27 : decode b_Log_part 27 = .ok (.iload 4, 2) := by decide +kernel
theorem d_Log_part_29 : decode b_Log_part 29 = .ok (.ireturn, 1) := by decide +kernel
theorem d_Log_partByte_0 : decode b_Log_partByte 0 = .ok (.aload_n 0, 1) := by decide +kernel
theorem d_Log_partByte_1 : decode b_Log_partByte 1 = .ok (.getfield 69, 3) := by decide +kernel
theorem d_Log_partByte_4 : decode b_Log_partByte 4 = .ok (.ifCond .ne 6, 3) := by decide +kernel
theorem d_Log_partByte_7 : decode b_Log_partByte 7 = .ok (.bipush (-3), 2) := by decide +kernel
theorem d_Log_partByte_9 : decode b_Log_partByte 9 = .ok (.ireturn, 1) := by decide +kernel
theorem d_Log_partByte_10 : decode b_Log_partByte 10 = .ok (.aload_n 0, 1) := by decide +kernel
theorem d_Log_partByte_11 : decode b_Log_partByte 11 = .ok (.getfield 51, 3) := by decide +kernel
theorem d_Log_partByte_14 : decode b_Log_partByte 14 = .ok (.iload_n 1, 1) := by decide +kernel
theorem d_Log_partByte_15 : decode b_Log_partByte 15 = .ok (.invokevirtual 186, 3) := by decide +kernel
theorem d_Log_partByte_18 : decode b_Log_partByte 18 = .ok (.istore_n 3, 1) := by decide +kernel
theorem d_Log_partByte_19 : decode b_Log_partByte 19 = .ok (.iload_n 3, 1) := by decide +kernel
theorem d_Log_partByte_20 : decode b_Log_partByte 20 = .ok (.iconst (-1), 1) := by decide +kernel
theorem d_Log_partByte_21 : decode b_Log_partByte 21 = .ok (.if_icmp .eq 19, 3) := by decide +kernel
theorem d_Log_partByte_24 : decode b_Log_partByte 24 = .ok (.iload_n 2, 1) := by decide +kernel
theorem d_Log_partByte_25 : decode b_Log_partByte 25 = .ok (.ifCond .lt 15, 3) := by decide +kernel
theorem d_Log_partByte_28 : decode b_Log_partByte 28 = .ok (.iload_n 2, 1) := by decide +kernel
theorem d_Log_partByte_29 : decode b_Log_partByte 29 = .ok (.aload_n 0, 1) := by decide +kernel
theorem d_Log_partByte_30 : decode b_Log_partByte 30 = .ok (.getfield 51, 3) := by decide +kernel
theorem d_Log_partByte_33 : decode b_Log_partByte 33 = .ok (.iload_n 3, 1) := by decide +kernel
theorem d_Log_partByte_34 : decode b_Log_partByte 34 = .ok (.invokevirtual 195, 3) := by decide +kernel
theorem d_Log_partByte_37 : decode b_Log_partByte 37 = .ok (.if_icmp .lt 5, 3) := by decide +kernel
theorem d_Log_partByte_40 : decode b_Log_partByte 40 = .ok (.iconst (-1), 1) := by decide +kernel
theorem d_Log_partByte_41 : decode b_Log_partByte 41 = .ok (.ireturn, 1) := by decide +kernel
theorem d_Log_partByte_42 : decode b_Log_partByte 42 = .ok (.aload_n 0, 1) := by decide +kernel
theorem d_Log_partByte_43 : decode b_Log_partByte 43 = .ok (.iload_n 3, 1) := by decide +kernel
theorem d_Log_partByte_44 : decode b_Log_partByte 44 = .ok (.iload_n 2, 1) := by decide +kernel
theorem d_Log_partByte_45 : decode b_Log_partByte 45 = .ok (.invokevirtual 207, 3) := by decide +kernel
theorem d_Log_partByte_48 : decode b_Log_partByte 48 = .ok (.ireturn, 1) := by decide +kernel
theorem d_Log_partOf_0 : decode b_Log_partOf 0 = .ok (.aload_n 0, 1) := by decide +kernel
theorem d_Log_partOf_1 : decode b_Log_partOf 1 = .ok (.getfield 69, 3) := by decide +kernel
theorem d_Log_partOf_4 : decode b_Log_partOf 4 = .ok (.ifCond .ne 7, 3) := by decide +kernel
theorem d_Log_partOf_7 : decode b_Log_partOf 7 = .ok (.ldc2_w 182, 3) := by decide +kernel
theorem d_Log_partOf_10 : decode b_Log_partOf 10 = .ok (.lreturn, 1) := by decide +kernel
theorem d_Log_partOf_11 : decode b_Log_partOf 11 = .ok (.iload_n 2, 1) := by decide +kernel
theorem d_Log_partOf_12 : decode b_Log_partOf 12 = .ok (.ifCond .lt 8, 3) := by decide +kernel
theorem d_Log_partOf_15 : decode b_Log_partOf 15 = .ok (.iload_n 2, 1) := by decide +kernel
theorem d_Log_partOf_16 : decode b_Log_partOf 16 = .ok (.iconst 5, 1) := by decide +kernel
theorem d_Log_partOf_17 : decode b_Log_partOf 17 = .ok (.if_icmp .le 7, 3) := by decide +kernel
theorem d_Log_partOf_20 : decode b_Log_partOf 20 = .ok (.ldc2_w 184, 3) := by decide +kernel
theorem d_Log_partOf_23 : decode b_Log_partOf 23 = .ok (.lreturn, 1) := by decide +kernel
theorem d_Log_partOf_24 : decode b_Log_partOf 24 = .ok (.aload_n 0, 1) := by decide +kernel
theorem d_Log_partOf_25 : decode b_Log_partOf 25 = .ok (.getfield 51, 3) := by decide +kernel
theorem d_Log_partOf_28 : decode b_Log_partOf 28 = .ok (.iload_n 1, 1) := by decide +kernel
theorem d_Log_partOf_29 : decode b_Log_partOf 29 = .ok (.invokevirtual 186, 3) := by decide +kernel
theorem d_Log_partOf_32 : decode b_Log_partOf 32 = .ok (.istore_n 3, 1) := by decide +kernel
theorem d_Log_partOf_33 : decode b_Log_partOf 33 = .ok (.iload_n 3, 1) := by decide +kernel
theorem d_Log_partOf_34 : decode b_Log_partOf 34 = .ok (.iconst (-1), 1) := by decide +kernel
theorem d_Log_partOf_35 : decode b_Log_partOf 35 = .ok (.if_icmp .ne 7, 3) := by decide +kernel
theorem d_Log_partOf_38 : decode b_Log_partOf 38 = .ok (.ldc2_w 187, 3) := by decide +kernel
theorem d_Log_partOf_41 : decode b_Log_partOf 41 = .ok (.lreturn, 1) := by decide +kernel
theorem d_Log_partOf_42 : decode b_Log_partOf 42 = .ok (.iload_n 2, 1) := by decide +kernel
theorem d_Log_partOf_43 : decode b_Log_partOf 43 = .ok (.tableswitch 86 0 4 #[33, 43, 52, 62, 72], 33) := by decide +kernel
theorem d_Log_partOf_76 : decode b_Log_partOf 76 = .ok (.aload_n 0, 1) := by decide +kernel
theorem d_Log_partOf_77 : decode b_Log_partOf 77 = .ok (.getfield 51, 3) := by decide +kernel
theorem d_Log_partOf_80 : decode b_Log_partOf 80 = .ok (.iload_n 3, 1) := by decide +kernel
theorem d_Log_partOf_81 : decode b_Log_partOf 81 = .ok (.invokevirtual 189, 3) := by decide +kernel
theorem d_Log_partOf_84 : decode b_Log_partOf 84 = .ok (.i2l, 1) := by decide +kernel
theorem d_Log_partOf_85 : decode b_Log_partOf 85 = .ok (.lreturn, 1) := by decide +kernel
theorem d_Log_partOf_86 : decode b_Log_partOf 86 = .ok (.aload_n 0, 1) := by decide +kernel
theorem d_Log_partOf_87 : decode b_Log_partOf 87 = .ok (.getfield 51, 3) := by decide +kernel
theorem d_Log_partOf_90 : decode b_Log_partOf 90 = .ok (.iload_n 3, 1) := by decide +kernel
theorem d_Log_partOf_91 : decode b_Log_partOf 91 = .ok (.invokevirtual 192, 3) := by decide +kernel
theorem d_Log_partOf_94 : decode b_Log_partOf 94 = .ok (.lreturn, 1) := by decide +kernel
theorem d_Log_partOf_95 : decode b_Log_partOf 95 = .ok (.aload_n 0, 1) := by decide +kernel
theorem d_Log_partOf_96 : decode b_Log_partOf 96 = .ok (.getfield 51, 3) := by decide +kernel
theorem d_Log_partOf_99 : decode b_Log_partOf 99 = .ok (.iload_n 3, 1) := by decide +kernel
theorem d_Log_partOf_100 : decode b_Log_partOf 100 = .ok (.invokevirtual 195, 3) := by decide +kernel
theorem d_Log_partOf_103 : decode b_Log_partOf 103 = .ok (.i2l, 1) := by decide +kernel
theorem d_Log_partOf_104 : decode b_Log_partOf 104 = .ok (.lreturn, 1) := by decide +kernel
theorem d_Log_partOf_105 : decode b_Log_partOf 105 = .ok (.aload_n 0, 1) := by decide +kernel
theorem d_Log_partOf_106 : decode b_Log_partOf 106 = .ok (.getfield 51, 3) := by decide +kernel
theorem d_Log_partOf_109 : decode b_Log_partOf 109 = .ok (.iload_n 3, 1) := by decide +kernel
theorem d_Log_partOf_110 : decode b_Log_partOf 110 = .ok (.invokevirtual 198, 3) := by decide +kernel
theorem d_Log_partOf_113 : decode b_Log_partOf 113 = .ok (.i2l, 1) := by decide +kernel
theorem d_Log_partOf_114 : decode b_Log_partOf 114 = .ok (.lreturn, 1) := by decide +kernel
theorem d_Log_partOf_115 : decode b_Log_partOf 115 = .ok (.aload_n 0, 1) := by decide +kernel
theorem d_Log_partOf_116 : decode b_Log_partOf 116 = .ok (.iload_n 3, 1) := by decide +kernel
theorem d_Log_partOf_117 : decode b_Log_partOf 117 = .ok (.invokevirtual 201, 3) := by decide +kernel
theorem d_Log_partOf_120 : decode b_Log_partOf 120 = .ok (.ifCond .eq 7, 3) := by decide +kernel
theorem d_Log_partOf_123 : decode b_Log_partOf 123 = .ok (.lconst 1, 1) := by decide +kernel
theorem d_Log_partOf_124 : decode b_Log_partOf 124 = .ok (.goto 4, 3) := by decide +kernel
theorem d_Log_partOf_127 : decode b_Log_partOf 127 = .ok (.lconst 0, 1) := by decide +kernel
theorem d_Log_partOf_128 : decode b_Log_partOf 128 = .ok (.lreturn, 1) := by decide +kernel
theorem d_Log_partOf_129 : decode b_Log_partOf 129 = .ok (.aload_n 0, 1) := by decide +kernel
theorem d_Log_partOf_130 : decode b_Log_partOf 130 = .ok (.iload_n 1, 1) := by decide +kernel
theorem d_Log_partOf_131 : decode b_Log_partOf 131 = .ok (.invokevirtual 204, 3) := by decide +kernel
theorem d_Log_partOf_134 : decode b_Log_partOf 134 = .ok (.i2l, 1) := by decide +kernel
theorem d_Log_partOf_135 : decode b_Log_partOf 135 = .ok (.lreturn, 1) := by decide +kernel
theorem d_Log_placeOf_0 : decode b_Log_placeOf 0 = .ok (.iconst 0, 1) := by decide +kernel
theorem d_Log_placeOf_1 : decode b_Log_placeOf 1 = .ok (.istore_n 3, 1) := by decide +kernel
theorem d_Log_placeOf_2 : decode b_Log_placeOf 2 = .ok (.iload_n 1, 1) := by decide +kernel
theorem d_Log_placeOf_3 : decode b_Log_placeOf 3 = .ok (.aload_n 0, 1) := by decide +kernel
theorem d_Log_placeOf_4 : decode b_Log_placeOf 4 = .ok (.arraylength, 1) := by decide +kernel
theorem d_Log_placeOf_5 : decode b_Log_placeOf 5 = .ok (.invokestatic 265, 3) := by decide +kernel
theorem d_Log_placeOf_8 : decode b_Log_placeOf 8 = .ok (.istore 4, 2) := by decide +kernel
theorem d_Log_placeOf_10 : decode b_Log_placeOf 10 = .ok (.iload_n 3, 1) := by decide +kernel
theorem d_Log_placeOf_11 : decode b_Log_placeOf 11 = .ok (.iload 4, 2) := by decide +kernel
theorem d_Log_placeOf_13 : decode b_Log_placeOf 13 = .ok (.if_icmp .ge 34, 3) := by decide +kernel
theorem d_Log_placeOf_16 : decode b_Log_placeOf 16 = .ok (.iload_n 3, 1) := by decide +kernel
theorem d_Log_placeOf_17 : decode b_Log_placeOf 17 = .ok (.iload 4, 2) := by decide +kernel
theorem d_Log_placeOf_19 : decode b_Log_placeOf 19 = .ok (.iadd, 1) := by decide +kernel
theorem d_Log_placeOf_20 : decode b_Log_placeOf 20 = .ok (.iconst 1, 1) := by decide +kernel
theorem d_Log_placeOf_21 : decode b_Log_placeOf 21 = .ok (.iushr, 1) := by decide +kernel
theorem d_Log_placeOf_22 : decode b_Log_placeOf 22 = .ok (.istore 5, 2) := by decide +kernel
theorem d_Log_placeOf_24 : decode b_Log_placeOf 24 = .ok (.aload_n 0, 1) := by decide +kernel
theorem d_Log_placeOf_25 : decode b_Log_placeOf 25 = .ok (.iload 5, 2) := by decide +kernel
theorem d_Log_placeOf_27 : decode b_Log_placeOf 27 = .ok (.iaload, 1) := by decide +kernel
theorem d_Log_placeOf_28 : decode b_Log_placeOf 28 = .ok (.iload_n 2, 1) := by decide +kernel
theorem d_Log_placeOf_29 : decode b_Log_placeOf 29 = .ok (.if_icmp .ge 11, 3) := by decide +kernel
theorem d_Log_placeOf_32 : decode b_Log_placeOf 32 = .ok (.iload 5, 2) := by decide +kernel
theorem d_Log_placeOf_34 : decode b_Log_placeOf 34 = .ok (.iconst 1, 1) := by decide +kernel
theorem d_Log_placeOf_35 : decode b_Log_placeOf 35 = .ok (.iadd, 1) := by decide +kernel
theorem d_Log_placeOf_36 : decode b_Log_placeOf 36 = .ok (.istore_n 3, 1) := by decide +kernel
theorem d_Log_placeOf_37 : decode b_Log_placeOf 37 = .ok (.goto 7, 3) := by decide +kernel
theorem d_Log_placeOf_40 : decode b_Log_placeOf 40 = .ok (.iload 5, 2) := by decide +kernel
theorem d_Log_placeOf_42 : decode b_Log_placeOf 42 = .ok (.istore 4, 2) := by decide +kernel
theorem d_Log_placeOf_44 : decode b_Log_placeOf 44 = .ok (.goto (-34), 3) := by decide +kernel
theorem d_Log_placeOf_47 : decode b_Log_placeOf 47 = .ok (.iload_n 3, 1) := by decide +kernel
theorem d_Log_placeOf_48 : decode b_Log_placeOf 48 = .ok (.ireturn, 1) := by decide +kernel
theorem d_Log_poke_0 : decode b_Log_poke 0 = .ok (.aload_n 0, 1) := by decide +kernel
theorem d_Log_poke_1 : decode b_Log_poke 1 = .ok (.getfield 14, 3) := by decide +kernel
theorem d_Log_poke_4 : decode b_Log_poke 4 = .ok (.iload_n 1, 1) := by decide +kernel
theorem d_Log_poke_5 : decode b_Log_poke 5 = .ok (.iload_n 2, 1) := by decide +kernel
theorem d_Log_poke_6 : decode b_Log_poke 6 = .ok (.invokevirtual 220, 3) := by decide +kernel
theorem d_Log_poke_9 : decode b_Log_poke 9 = .ok (.ifCond .eq 15, 3) := by decide +kernel
theorem d_Log_poke_12 : decode b_Log_poke 12 = .ok (.iload_n 3, 1) := by decide +kernel
theorem d_Log_poke_13 : decode b_Log_poke 13 = .ok (.iconst 1, 1) := by decide +kernel
theorem d_Log_poke_14 : decode b_Log_poke 14 = .ok (.if_icmp .lt 10, 3) := by decide +kernel
theorem d_Log_poke_17 : decode b_Log_poke 17 = .ok (.iload_n 3, 1) := by decide +kernel
theorem d_Log_poke_18 : decode b_Log_poke 18 = .ok (.sipush 255, 3) := by decide +kernel
theorem d_Log_poke_21 : decode b_Log_poke 21 = .ok (.if_icmp .le 6, 3) := by decide +kernel
theorem d_Log_poke_24 : decode b_Log_poke 24 = .ok (.bipush (-2), 2) := by decide +kernel
theorem d_Log_poke_26 : decode b_Log_poke 26 = .ok (.ireturn, 1) := by decide +kernel
theorem d_Log_poke_27 : decode b_Log_poke 27 = .ok (.aload_n 0, 1) := by decide +kernel
theorem d_Log_poke_28 : decode b_Log_poke 28 = .ok (.getfield 14, 3) := by decide +kernel
theorem d_Log_poke_31 : decode b_Log_poke 31 = .ok (.iload_n 1, 1) := by decide +kernel
theorem d_Log_poke_32 : decode b_Log_poke 32 = .ok (.iload_n 2, 1) := by decide +kernel
theorem d_Log_poke_33 : decode b_Log_poke 33 = .ok (.iload_n 3, 1) := by decide +kernel
theorem d_Log_poke_34 : decode b_Log_poke 34 = .ok (.invokevirtual 223, 3) := by decide +kernel
theorem d_Log_poke_37 : decode b_Log_poke 37 = .ok (.aload_n 0, 1) := by decide +kernel
theorem d_Log_poke_38 : decode b_Log_poke 38 = .ok (.getfield 14, 3) := by decide +kernel
theorem d_Log_poke_41 : decode b_Log_poke 41 = .ok (.iload_n 1, 1) := by decide +kernel
theorem d_Log_poke_42 : decode b_Log_poke 42 = .ok (.iload_n 2, 1) := by decide +kernel
theorem d_Log_poke_43 : decode b_Log_poke 43 = .ok (.invokevirtual 226, 3) := by decide +kernel
theorem d_Log_poke_46 : decode b_Log_poke 46 = .ok (.ireturn, 1) := by decide +kernel
theorem d_Log_readHeads_0 : decode b_Log_readHeads 0 = .ok (.aload_n 0, 1) := by decide +kernel
theorem d_Log_readHeads_1 : decode b_Log_readHeads 1 = .ok (.invokevirtual 343, 3) := by decide +kernel
theorem d_Log_readHeads_4 : decode b_Log_readHeads 4 = .ok (.istore_n 1, 1) := by decide +kernel
theorem d_Log_readHeads_5 : decode b_Log_readHeads 5 = .ok (.aload_n 0, 1) := by decide +kernel
theorem d_Log_readHeads_6 : decode b_Log_readHeads 6 = .ok (.iload_n 1, 1) := by decide +kernel
theorem d_Log_readHeads_7 : decode b_Log_readHeads 7 = .ok (.iconst (-1), 1) := by decide +kernel
theorem d_Log_readHeads_8 : decode b_Log_readHeads 8 = .ok (.if_icmp .ne 7, 3) := by decide +kernel
theorem d_Log_readHeads_11 : decode b_Log_readHeads 11 = .ok (.iconst 0, 1) := by decide +kernel
theorem d_Log_readHeads_12 : decode b_Log_readHeads 12 = .ok (.goto 14, 3) := by decide +kernel
theorem d_Log_readHeads_15 : decode b_Log_readHeads 15 = .ok (.aload_n 0, 1) := by decide +kernel
theorem d_Log_readHeads_16 : decode b_Log_readHeads 16 = .ok (.getfield 14, 3) := by decide +kernel
theorem d_Log_readHeads_19 : decode b_Log_readHeads 19 = .ok (.iload_n 1, 1) := by decide +kernel
theorem d_Log_readHeads_20 : decode b_Log_readHeads 20 = .ok (.iconst 4, 1) := by decide +kernel
theorem d_Log_readHeads_21 : decode b_Log_readHeads 21 = .ok (.iconst 4, 1) := by decide +kernel
theorem d_Log_readHeads_22 : decode b_Log_readHeads 22 = .ok (.invokevirtual 311, 3) := by decide +kernel
theorem d_Log_readHeads_25 : decode b_Log_readHeads 25 = .ok (.l2i, 1) := by decide +kernel
theorem d_Log_readHeads_26 : decode b_Log_readHeads 26 = .ok (.putfield 137, 3) := by decide +kernel
theorem d_Log_readHeads_29 : decode b_Log_readHeads 29 = .ok (.iconst 0, 1) := by decide +kernel
theorem d_Log_readHeads_30 : decode b_Log_readHeads 30 = .ok (.istore_n 2, 1) := by decide +kernel
theorem d_Log_readHeads_31 : decode b_Log_readHeads 31 = .ok (.iload_n 2, 1) := by decide +kernel
theorem d_Log_readHeads_32 : decode b_Log_readHeads 32 = .ok (.bipush 8, 2) := by decide +kernel
theorem d_Log_readHeads_34 : decode b_Log_readHeads 34 = .ok (.if_icmp .ge 40, 3) := by decide +kernel
theorem d_Log_readHeads_37 : decode b_Log_readHeads 37 = .ok (.aload_n 0, 1) := by decide +kernel
theorem d_Log_readHeads_38 : decode b_Log_readHeads 38 = .ok (.getfield 65, 3) := by decide +kernel
theorem d_Log_readHeads_41 : decode b_Log_readHeads 41 = .ok (.iload_n 2, 1) := by decide +kernel
theorem d_Log_readHeads_42 : decode b_Log_readHeads 42 = .ok (.iload_n 1, 1) := by decide +kernel
theorem d_Log_readHeads_43 : decode b_Log_readHeads 43 = .ok (.iconst (-1), 1) := by decide +kernel
theorem d_Log_readHeads_44 : decode b_Log_readHeads 44 = .ok (.if_icmp .ne 7, 3) := by decide +kernel
theorem d_Log_readHeads_47 : decode b_Log_readHeads 47 = .ok (.iconst 0, 1) := by decide +kernel
theorem d_Log_readHeads_48 : decode b_Log_readHeads 48 = .ok (.goto 19, 3) := by decide +kernel
theorem d_Log_readHeads_51 : decode b_Log_readHeads 51 = .ok (.aload_n 0, 1) := by decide +kernel
theorem d_Log_readHeads_52 : decode b_Log_readHeads 52 = .ok (.getfield 14, 3) := by decide +kernel
theorem d_Log_readHeads_55 : decode b_Log_readHeads 55 = .ok (.iload_n 1, 1) := by decide +kernel
theorem d_Log_readHeads_56 : decode b_Log_readHeads 56 = .ok (.bipush 8, 2) := by decide +kernel
theorem d_Log_readHeads_58 : decode b_Log_readHeads 58 = .ok (.iconst 2, 1) := by decide +kernel
theorem d_Log_readHeads_59 : decode b_Log_readHeads 59 = .ok (.iload_n 2, 1) := by decide +kernel
theorem d_Log_readHeads_60 : decode b_Log_readHeads 60 = .ok (.imul, 1) := by decide +kernel
theorem d_Log_readHeads_61 : decode b_Log_readHeads 61 = .ok (.iadd, 1) := by decide +kernel
theorem d_Log_readHeads_62 : decode b_Log_readHeads 62 = .ok (.iconst 2, 1) := by decide +kernel
theorem d_Log_readHeads_63 : decode b_Log_readHeads 63 = .ok (.invokevirtual 311, 3) := by decide +kernel
theorem d_Log_readHeads_66 : decode b_Log_readHeads 66 = .ok (.l2i, 1) := by decide +kernel
theorem d_Log_readHeads_67 : decode b_Log_readHeads 67 = .ok (.iastore, 1) := by decide +kernel
theorem d_Log_readHeads_68 : decode b_Log_readHeads 68 = .ok (.iinc 2 1, 3) := by decide +kernel
theorem d_Log_readHeads_71 : decode b_Log_readHeads 71 = .ok (.goto (-40), 3) := by decide +kernel
theorem d_Log_readHeads_74 : decode b_Log_readHeads 74 = .ok (.return_, 1) := by decide +kernel
theorem d_Log_rowsOfMark_0 : decode b_Log_rowsOfMark 0 = .ok (.iconst 1, 1) := by decide +kernel
theorem d_Log_rowsOfMark_1 : decode b_Log_rowsOfMark 1 = .ok (.iload_n 0, 1) := by decide +kernel
theorem d_Log_rowsOfMark_2 : decode b_Log_rowsOfMark 2 = .ok (.invokestatic 262, 3) := by decide +kernel
theorem d_Log_rowsOfMark_5 : decode b_Log_rowsOfMark 5 = .ok (.iadd, 1) := by decide +kernel
theorem d_Log_rowsOfMark_6 : decode b_Log_rowsOfMark 6 = .ok (.ireturn, 1) := by decide +kernel
theorem d_Log_rowsOfPart_0 : decode b_Log_rowsOfPart 0 = .ok (.iconst 1, 1) := by decide +kernel
theorem d_Log_rowsOfPart_1 : decode b_Log_rowsOfPart 1 = .ok (.iload_n 0, 1) := by decide +kernel
theorem d_Log_rowsOfPart_2 : decode b_Log_rowsOfPart 2 = .ok (.invokestatic 259, 3) := by decide +kernel
theorem d_Log_rowsOfPart_5 : decode b_Log_rowsOfPart 5 = .ok (.iadd, 1) := by decide +kernel
theorem d_Log_rowsOfPart_6 : decode b_Log_rowsOfPart 6 = .ok (.ireturn, 1) := by decide +kernel
theorem d_Log_tableOf_0 : decode b_Log_tableOf 0 = .ok (.aload_n 0, 1) := by decide +kernel
theorem d_Log_tableOf_1 : decode b_Log_tableOf 1 = .ok (.getfield 58, 3) := by decide +kernel
theorem d_Log_tableOf_4 : decode b_Log_tableOf 4 = .ok (.iload_n 1, 1) := by decide +kernel
theorem d_Log_tableOf_5 : decode b_Log_tableOf 5 = .ok (.invokevirtual 98, 3) := by decide +kernel
theorem d_Log_tableOf_8 : decode b_Log_tableOf 8 = .ok (.iconst (-1), 1) := by decide +kernel
theorem d_Log_tableOf_9 : decode b_Log_tableOf 9 = .ok (.if_icmp .eq 8, 3) := by decide +kernel
theorem d_Log_tableOf_12 : decode b_Log_tableOf 12 = .ok (.aload_n 0, 1) := by decide +kernel
theorem d_Log_tableOf_13 : decode b_Log_tableOf 13 = .ok (.getfield 58, 3) := by decide +kernel
theorem d_Log_tableOf_16 : decode b_Log_tableOf 16 = .ok (.areturn, 1) := by decide +kernel
theorem d_Log_tableOf_17 : decode b_Log_tableOf 17 = .ok (.aload_n 0, 1) := by decide +kernel
theorem d_Log_tableOf_18 : decode b_Log_tableOf 18 = .ok (.getfield 62, 3) := by decide +kernel
theorem d_Log_tableOf_21 : decode b_Log_tableOf 21 = .ok (.iload_n 1, 1) := by decide +kernel
theorem d_Log_tableOf_22 : decode b_Log_tableOf 22 = .ok (.invokevirtual 98, 3) := by decide +kernel
theorem d_Log_tableOf_25 : decode b_Log_tableOf 25 = .ok (.iconst (-1), 1) := by decide +kernel
theorem d_Log_tableOf_26 : decode b_Log_tableOf 26 = .ok (.if_icmp .eq 8, 3) := by decide +kernel
theorem d_Log_tableOf_29 : decode b_Log_tableOf 29 = .ok (.aload_n 0, 1) := by decide +kernel
theorem d_Log_tableOf_30 : decode b_Log_tableOf 30 = .ok (.getfield 62, 3) := by decide +kernel
theorem d_Log_tableOf_33 : decode b_Log_tableOf 33 = .ok (.areturn, 1) := by decide +kernel
theorem d_Log_tableOf_34 : decode b_Log_tableOf 34 = .ok (.aconst_null, 1) := by decide +kernel
theorem d_Log_tableOf_35 : decode b_Log_tableOf 35 = .ok (.areturn, 1) := by decide +kernel
theorem d_Log_takeBack_0 : decode b_Log_takeBack 0 = .ok (.iconst 0, 1) := by decide +kernel
theorem d_Log_takeBack_1 : decode b_Log_takeBack 1 = .ok (.istore_n 3, 1) := by decide +kernel
theorem d_Log_takeBack_2 : decode b_Log_takeBack 2 = .ok (.iload_n 3, 1) := by decide +kernel
theorem d_Log_takeBack_3 : decode b_Log_takeBack 3 = .ok (.iload_n 2, 1) := by decide +kernel
theorem d_Log_takeBack_4 : decode b_Log_takeBack 4 = .ok (.if_icmp .ge 30, 3) := by decide +kernel
theorem d_Log_takeBack_7 : decode b_Log_takeBack 7 = .ok (.aload_n 0, 1) := by decide +kernel
theorem d_Log_takeBack_8 : decode b_Log_takeBack 8 = .ok (.getfield 69, 3) := by decide +kernel
theorem d_Log_takeBack_11 : decode b_Log_takeBack 11 = .ok (.ifCond .eq 23, 3) := by decide +kernel
theorem d_Log_takeBack_14 : decode b_Log_takeBack 14 = .ok (.aload_n 0, 1) := by decide +kernel
theorem d_Log_takeBack_15 : decode b_Log_takeBack 15 = .ok (.aload_n 0, 1) := by decide +kernel
theorem d_Log_takeBack_16 : decode b_Log_takeBack 16 = .ok (.getfield 14, 3) := by decide +kernel
theorem d_Log_takeBack_19 : decode b_Log_takeBack 19 = .ok (.iload_n 1, 1) := by decide +kernel
theorem d_Log_takeBack_20 : decode b_Log_takeBack 20 = .ok (.iload_n 3, 1) := by decide +kernel
theorem d_Log_takeBack_21 : decode b_Log_takeBack 21 = .ok (.iadd, 1) := by decide +kernel
theorem d_Log_takeBack_22 : decode b_Log_takeBack 22 = .ok (.invokevirtual 324, 3) := by decide +kernel
theorem d_Log_takeBack_25 : decode b_Log_takeBack 25 = .ok (.putfield 69, 3) := by decide +kernel
theorem d_Log_takeBack_28 : decode b_Log_takeBack 28 = .ok (.iinc 3 1, 3) := by decide +kernel
theorem d_Log_takeBack_31 : decode b_Log_takeBack 31 = .ok (.goto (-29), 3) := by decide +kernel
theorem d_Log_takeBack_34 : decode b_Log_takeBack 34 = .ok (.aload_n 0, 1) := by decide +kernel
theorem d_Log_takeBack_35 : decode b_Log_takeBack 35 = .ok (.getfield 41, 3) := by decide +kernel
theorem d_Log_takeBack_38 : decode b_Log_takeBack 38 = .ok (.iload_n 1, 1) := by decide +kernel
theorem d_Log_takeBack_39 : decode b_Log_takeBack 39 = .ok (.iload_n 2, 1) := by decide +kernel
theorem d_Log_takeBack_40 : decode b_Log_takeBack 40 = .ok (.invokevirtual 327, 3) := by decide +kernel
theorem d_Log_takeBack_43 : decode b_Log_takeBack 43 = .ok (.aload_n 0, 1) := by decide +kernel
theorem d_Log_takeBack_44 : decode b_Log_takeBack 44 = .ok (.getfield 69, 3) := by decide +kernel
theorem d_Log_takeBack_47 : decode b_Log_takeBack 47 = .ok (.ireturn, 1) := by decide +kernel
theorem d_Log_told_0 : decode b_Log_told 0 = .ok (.iload_n 1, 1) := by decide +kernel
theorem d_Log_told_1 : decode b_Log_told 1 = .ok (.ifCond .lt 9, 3) := by decide +kernel
theorem d_Log_told_4 : decode b_Log_told 4 = .ok (.iload_n 1, 1) := by decide +kernel
theorem d_Log_told_5 : decode b_Log_told 5 = .ok (.bipush 17, 2) := by decide +kernel
theorem d_Log_told_7 : decode b_Log_told 7 = .ok (.if_icmp .lt 6, 3) := by decide +kernel
theorem d_Log_told_10 : decode b_Log_told 10 = .ok (.bipush (-2), 2) := by decide +kernel
theorem d_Log_told_12 : decode b_Log_told 12 = .ok (.ireturn, 1) := by decide +kernel
theorem d_Log_told_13 : decode b_Log_told 13 = .ok (.iload_n 1, 1) := by decide +kernel
theorem d_Log_told_14 : decode b_Log_told 14 = .ok (.ifCond .ne 16, 3) := by decide +kernel
theorem d_Log_told_17 : decode b_Log_told 17 = .ok (.aload_n 0, 1) := by decide +kernel
theorem d_Log_told_18 : decode b_Log_told 18 = .ok (.getfield 69, 3) := by decide +kernel
theorem d_Log_told_21 : decode b_Log_told 21 = .ok (.ifCond .eq 7, 3) := by decide +kernel
theorem d_Log_told_24 : decode b_Log_told 24 = .ok (.iconst 1, 1) := by decide +kernel
theorem d_Log_told_25 : decode b_Log_told 25 = .ok (.goto 4, 3) := by decide +kernel
theorem d_Log_told_28 : decode b_Log_told 28 = .ok (.iconst 0, 1) := by decide +kernel
theorem d_Log_told_29 : decode b_Log_told 29 = .ok (.ireturn, 1) := by decide +kernel
theorem d_Log_told_30 : decode b_Log_told 30 = .ok (.iload_n 1, 1) := by decide +kernel
theorem d_Log_told_31 : decode b_Log_told 31 = .ok (.iconst 1, 1) := by decide +kernel
theorem d_Log_told_32 : decode b_Log_told 32 = .ok (.if_icmp .ne 11, 3) := by decide +kernel
theorem d_Log_told_35 : decode b_Log_told 35 = .ok (.aload_n 0, 1) := by decide +kernel
theorem d_Log_told_36 : decode b_Log_told 36 = .ok (.getfield 14, 3) := by decide +kernel
theorem d_Log_told_39 : decode b_Log_told 39 = .ok (.invokevirtual 36, 3) := by decide +kernel
theorem d_Log_told_42 : decode b_Log_told 42 = .ok (.ireturn, 1) := by decide +kernel
theorem d_Log_told_43 : decode b_Log_told 43 = .ok (.iload_n 1, 1) := by decide +kernel
theorem d_Log_told_44 : decode b_Log_told 44 = .ok (.iconst 2, 1) := by decide +kernel
theorem d_Log_told_45 : decode b_Log_told 45 = .ok (.if_icmp .ne 11, 3) := by decide +kernel
theorem d_Log_told_48 : decode b_Log_told 48 = .ok (.aload_n 0, 1) := by decide +kernel
theorem d_Log_told_49 : decode b_Log_told 49 = .ok (.getfield 14, 3) := by decide +kernel
theorem d_Log_told_52 : decode b_Log_told 52 = .ok (.invokevirtual 229, 3) := by decide +kernel
theorem d_Log_told_55 : decode b_Log_told 55 = .ok (.ireturn, 1) := by decide +kernel
theorem d_Log_told_56 : decode b_Log_told 56 = .ok (.aload_n 0, 1) := by decide +kernel
theorem d_Log_told_57 : decode b_Log_told 57 = .ok (.getfield 69, 3) := by decide +kernel
theorem d_Log_told_60 : decode b_Log_told 60 = .ok (.ifCond .eq 11, 3) := by decide +kernel
theorem d_Log_told_63 : decode b_Log_told 63 = .ok (.aload_n 0, 1) := by decide +kernel
theorem d_Log_told_64 : decode b_Log_told 64 = .ok (.iload_n 1, 1) := by decide +kernel
theorem d_Log_told_65 : decode b_Log_told 65 = .ok (.invokevirtual 232, 3) := by decide +kernel
theorem d_Log_told_68 : decode b_Log_told 68 = .ok (.goto 4, 3) := by decide +kernel
theorem d_Log_told_71 : decode b_Log_told 71 = .ok (.iconst 0, 1) := by decide +kernel
theorem d_Log_told_72 : decode b_Log_told 72 = .ok (.ireturn, 1) := by decide +kernel
theorem d_Log_toldOpen_0 : decode b_Log_toldOpen 0 = .ok (.iload_n 1, 1) := by decide +kernel
theorem d_Log_toldOpen_1 : decode b_Log_toldOpen 1 = .ok (.tableswitch 78 3 8 #[39, 47, 55, 60, 65, 70], 39) := by decide +kernel
theorem d_Log_toldOpen_40 : decode b_Log_toldOpen 40 = .ok (.aload_n 0, 1) := by decide +kernel
theorem d_Log_toldOpen_41 : decode b_Log_toldOpen 41 = .ok (.getfield 41, 3) := by decide +kernel
theorem d_Log_toldOpen_44 : decode b_Log_toldOpen 44 = .ok (.invokevirtual 380, 3) := by decide +kernel
theorem d_Log_toldOpen_47 : decode b_Log_toldOpen 47 = .ok (.ireturn, 1) := by decide +kernel
theorem d_Log_toldOpen_48 : decode b_Log_toldOpen 48 = .ok (.aload_n 0, 1) := by decide +kernel
theorem d_Log_toldOpen_49 : decode b_Log_toldOpen 49 = .ok (.getfield 51, 3) := by decide +kernel
theorem d_Log_toldOpen_52 : decode b_Log_toldOpen 52 = .ok (.invokevirtual 87, 3) := by decide +kernel
theorem d_Log_toldOpen_55 : decode b_Log_toldOpen 55 = .ok (.ireturn, 1) := by decide +kernel
theorem d_Log_toldOpen_56 : decode b_Log_toldOpen 56 = .ok (.aload_n 0, 1) := by decide +kernel
theorem d_Log_toldOpen_57 : decode b_Log_toldOpen 57 = .ok (.getfield 268, 3) := by decide +kernel
theorem d_Log_toldOpen_60 : decode b_Log_toldOpen 60 = .ok (.ireturn, 1) := by decide +kernel
theorem d_Log_toldOpen_61 : decode b_Log_toldOpen 61 = .ok (.aload_n 0, 1) := by decide +kernel
theorem d_Log_toldOpen_62 : decode b_Log_toldOpen 62 = .ok (.getfield 89, 3) := by decide +kernel
theorem d_Log_toldOpen_65 : decode b_Log_toldOpen 65 = .ok (.ireturn, 1) := by decide +kernel
theorem d_Log_toldOpen_66 : decode b_Log_toldOpen 66 = .ok (.aload_n 0, 1) := by decide +kernel
theorem d_Log_toldOpen_67 : decode b_Log_toldOpen 67 = .ok (.getfield 137, 3) := by decide +kernel
theorem d_Log_toldOpen_70 : decode b_Log_toldOpen 70 = .ok (.ireturn, 1) := by decide +kernel
theorem d_Log_toldOpen_71 : decode b_Log_toldOpen 71 = .ok (.aload_n 0, 1) := by decide +kernel
theorem d_Log_toldOpen_72 : decode b_Log_toldOpen 72 = .ok (.getfield 62, 3) := by decide +kernel
theorem d_Log_toldOpen_75 : decode b_Log_toldOpen 75 = .ok (.invokevirtual 88, 3) := by decide +kernel
theorem d_Log_toldOpen_78 : decode b_Log_toldOpen 78 = .ok (.ireturn, 1) := by decide +kernel
theorem d_Log_toldOpen_79 : decode b_Log_toldOpen 79 = .ok (.iload_n 1, 1) := by decide +kernel
theorem d_Log_toldOpen_80 : decode b_Log_toldOpen 80 = .ok (.bipush 9, 2) := by decide +kernel
theorem d_Log_toldOpen_82 : decode b_Log_toldOpen 82 = .ok (.isub, 1) := by decide +kernel
theorem d_Log_toldOpen_83 : decode b_Log_toldOpen 83 = .ok (.istore_n 2, 1) := by decide +kernel
theorem d_Log_toldOpen_84 : decode b_Log_toldOpen 84 = .ok (.iload_n 2, 1) := by decide +kernel
theorem d_Log_toldOpen_85 : decode b_Log_toldOpen 85 = .ok (.invokestatic 132, 3) := by decide +kernel
theorem d_Log_toldOpen_88 : decode b_Log_toldOpen 88 = .ok (.ifCond .eq 12, 3) := by decide +kernel
theorem d_Log_toldOpen_91 : decode b_Log_toldOpen 91 = .ok (.aload_n 0, 1) := by decide +kernel
theorem d_Log_toldOpen_92 : decode b_Log_toldOpen 92 = .ok (.getfield 65, 3) := by decide +kernel
theorem d_Log_toldOpen_95 : decode b_Log_toldOpen 95 = .ok (.iload_n 2, 1) := by decide +kernel
theorem d_Log_toldOpen_96 : decode b_Log_toldOpen 96 = .ok (.iaload, 1) := by decide +kernel
theorem d_Log_toldOpen_97 : decode b_Log_toldOpen 97 = .ok (.goto 5, 3) := by decide +kernel
theorem d_Log_toldOpen_100 : decode b_Log_toldOpen 100 = .ok (.bipush (-2), 2) := by decide +kernel
theorem d_Log_toldOpen_102 : decode b_Log_toldOpen 102 = .ok (.ireturn, 1) := by decide +kernel
theorem d_Log_usable_0 : decode b_Log_usable 0 = .ok (.aload_n 0, 1) := by decide +kernel
theorem d_Log_usable_1 : decode b_Log_usable 1 = .ok (.getfield 69, 3) := by decide +kernel
theorem d_Log_usable_4 : decode b_Log_usable 4 = .ok (.ifCond .ne 6, 3) := by decide +kernel
theorem d_Log_usable_7 : decode b_Log_usable 7 = .ok (.bipush (-3), 2) := by decide +kernel
theorem d_Log_usable_9 : decode b_Log_usable 9 = .ok (.ireturn, 1) := by decide +kernel
theorem d_Log_usable_10 : decode b_Log_usable 10 = .ok (.aload_n 0, 1) := by decide +kernel
theorem d_Log_usable_11 : decode b_Log_usable 11 = .ok (.getfield 58, 3) := by decide +kernel
theorem d_Log_usable_14 : decode b_Log_usable 14 = .ok (.invokevirtual 88, 3) := by decide +kernel
theorem d_Log_usable_17 : decode b_Log_usable 17 = .ok (.iconst 1, 1) := by decide +kernel
theorem d_Log_usable_18 : decode b_Log_usable 18 = .ok (.isub, 1) := by decide +kernel
theorem d_Log_usable_19 : decode b_Log_usable 19 = .ok (.istore_n 1, 1) := by decide +kernel
theorem d_Log_usable_20 : decode b_Log_usable 20 = .ok (.iload_n 1, 1) := by decide +kernel
theorem d_Log_usable_21 : decode b_Log_usable 21 = .ok (.ifCond .lt 26, 3) := by decide +kernel
theorem d_Log_usable_24 : decode b_Log_usable 24 = .ok (.aload_n 0, 1) := by decide +kernel
theorem d_Log_usable_25 : decode b_Log_usable 25 = .ok (.iload_n 1, 1) := by decide +kernel
theorem d_Log_usable_26 : decode b_Log_usable 26 = .ok (.invokevirtual 169, 3) := by decide +kernel
theorem d_Log_usable_29 : decode b_Log_usable 29 = .ok (.ifCond .eq 12, 3) := by decide +kernel
theorem d_Log_usable_32 : decode b_Log_usable 32 = .ok (.aload_n 0, 1) := by decide +kernel
theorem d_Log_usable_33 : decode b_Log_usable 33 = .ok (.getfield 58, 3) := by decide +kernel
theorem d_Log_usable_36 : decode b_Log_usable 36 = .ok (.iload_n 1, 1) := by decide +kernel
theorem d_Log_usable_37 : decode b_Log_usable 37 = .ok (.invokevirtual 172, 3) := by decide +kernel
theorem d_Log_usable_40 : decode b_Log_usable 40 = .ok (.ireturn, 1) := by decide +kernel
theorem d_Log_usable_41 : decode b_Log_usable 41 = .ok (.iinc 1 (-1), 3) := by decide +kernel
theorem d_Log_usable_44 : decode b_Log_usable 44 = .ok (.goto (-24), 3) := by decide +kernel
theorem d_Log_usable_47 : decode b_Log_usable 47 = .ok (.iconst (-1), 1) := by decide +kernel
theorem d_Log_usable_48 : decode b_Log_usable 48 = .ok (.ireturn, 1) := by decide +kernel
theorem d_Log_whole_0 : decode b_Log_whole 0 = .ok (.aload_n 0, 1) := by decide +kernel
theorem d_Log_whole_1 : decode b_Log_whole 1 = .ok (.getfield 69, 3) := by decide +kernel
theorem d_Log_whole_4 : decode b_Log_whole 4 = .ok (.ifCond .ne 6, 3) := by decide +kernel
theorem d_Log_whole_7 : decode b_Log_whole 7 = .ok (.bipush (-3), 2) := by decide +kernel
theorem d_Log_whole_9 : decode b_Log_whole 9 = .ok (.ireturn, 1) := by decide +kernel
theorem d_Log_whole_10 : decode b_Log_whole 10 = .ok (.aload_n 0, 1) := by decide +kernel
theorem d_Log_whole_11 : decode b_Log_whole 11 = .ok (.iload_n 1, 1) := by decide +kernel
theorem d_Log_whole_12 : decode b_Log_whole 12 = .ok (.invokevirtual 175, 3) := by decide +kernel
theorem d_Log_whole_15 : decode b_Log_whole 15 = .ok (.ifnonnull 5, 3) := by decide +kernel
theorem d_Log_whole_18 : decode b_Log_whole 18 = .ok (.iconst (-1), 1) := by decide +kernel
theorem d_Log_whole_19 : decode b_Log_whole 19 = .ok (.ireturn, 1) := by decide +kernel
theorem d_Log_whole_20 : decode b_Log_whole 20 = .ok (.aload_n 0, 1) := by decide +kernel
theorem d_Log_whole_21 : decode b_Log_whole 21 = .ok (.iload_n 1, 1) := by decide +kernel
theorem d_Log_whole_22 : decode b_Log_whole 22 = .ok (.invokevirtual 179, 3) := by decide +kernel
theorem d_Log_whole_25 : decode b_Log_whole 25 = .ok (.ifCond .eq 7, 3) := by decide +kernel
theorem d_Log_whole_28 : decode b_Log_whole 28 = .ok (.iconst 1, 1) := by decide +kernel
theorem d_Log_whole_29 : decode b_Log_whole 29 = .ok (.goto 4, 3) := by decide +kernel
theorem d_Log_whole_32 : decode b_Log_whole 32 = .ok (.iconst 0, 1) := by decide +kernel
theorem d_Log_whole_33 : decode b_Log_whole 33 = .ok (.ireturn, 1) := by decide +kernel
theorem d_Log_wipe_0 : decode b_Log_wipe 0 = .ok (.aload_n 0, 1) := by decide +kernel
theorem d_Log_wipe_1 : decode b_Log_wipe 1 = .ok (.getfield 21, 3) := by decide +kernel
theorem d_Log_wipe_4 : decode b_Log_wipe 4 = .ok (.invokevirtual 73, 3) := by decide +kernel
theorem d_Log_wipe_7 : decode b_Log_wipe 7 = .ok (.istore_n 1, 1) := by decide +kernel
theorem d_Log_wipe_8 : decode b_Log_wipe 8 = .ok (.aload_n 0, 1) := by decide +kernel
theorem d_Log_wipe_9 : decode b_Log_wipe 9 = .ok (.getfield 21, 3) := by decide +kernel
theorem d_Log_wipe_12 : decode b_Log_wipe 12 = .ok (.invokevirtual 80, 3) := by decide +kernel
theorem d_Log_wipe_15 : decode b_Log_wipe 15 = .ok (.iload_n 1, 1) := by decide +kernel
theorem d_Log_wipe_16 : decode b_Log_wipe 16 = .ok (.ireturn, 1) := by decide +kernel
theorem d_Log_writeImage_0 : decode b_Log_writeImage 0 = .ok (.iconst 1, 1) := by decide +kernel
theorem d_Log_writeImage_1 : decode b_Log_writeImage 1 = .ok (.istore_n 3, 1) := by decide +kernel
theorem d_Log_writeImage_2 : decode b_Log_writeImage 2 = .ok (.iload_n 3, 1) := by decide +kernel
theorem d_Log_writeImage_3 : decode b_Log_writeImage 3 = .ok (.iload_n 2, 1) := by decide +kernel
theorem d_Log_writeImage_4 : decode b_Log_writeImage 4 = .ok (.if_icmp .ge 38, 3) := by decide +kernel
theorem d_Log_writeImage_7 : decode b_Log_writeImage 7 = .ok (.aload_n 0, 1) := by decide +kernel
theorem d_Log_writeImage_8 : decode b_Log_writeImage 8 = .ok (.getfield 69, 3) := by decide +kernel
theorem d_Log_writeImage_11 : decode b_Log_writeImage 11 = .ok (.ifCond .eq 31, 3) := by decide +kernel
theorem d_Log_writeImage_14 : decode b_Log_writeImage 14 = .ok (.aload_n 0, 1) := by decide +kernel
theorem d_Log_writeImage_15 : decode b_Log_writeImage 15 = .ok (.aload_n 0, 1) := by decide +kernel
theorem d_Log_writeImage_16 : decode b_Log_writeImage 16 = .ok (.getfield 14, 3) := by decide +kernel
theorem d_Log_writeImage_19 : decode b_Log_writeImage 19 = .ok (.iload_n 1, 1) := by decide +kernel
theorem d_Log_writeImage_20 : decode b_Log_writeImage 20 = .ok (.iload_n 3, 1) := by decide +kernel
theorem d_Log_writeImage_21 : decode b_Log_writeImage 21 = .ok (.iadd, 1) := by decide +kernel
theorem d_Log_writeImage_22 : decode b_Log_writeImage 22 = .ok (.aload_n 0, 1) := by decide +kernel
theorem d_Log_writeImage_23 : decode b_Log_writeImage 23 = .ok (.getfield 25, 3) := by decide +kernel
theorem d_Log_writeImage_26 : decode b_Log_writeImage 26 = .ok (.iload_n 3, 1) := by decide +kernel
theorem d_Log_writeImage_27 : decode b_Log_writeImage 27 = .ok (.bipush 32, 2) := by decide +kernel
theorem d_Log_writeImage_29 : decode b_Log_writeImage 29 = .ok (.imul, 1) := by decide +kernel
theorem d_Log_writeImage_30 : decode b_Log_writeImage 30 = .ok (.invokevirtual 317, 3) := by decide +kernel
theorem d_Log_writeImage_33 : decode b_Log_writeImage 33 = .ok (.putfield 69, 3) := by decide +kernel
theorem d_Log_writeImage_36 : decode b_Log_writeImage 36 = .ok (.iinc 3 1, 3) := by decide +kernel
theorem d_Log_writeImage_39 : decode b_Log_writeImage 39 = .ok (.goto (-37), 3) := by decide +kernel
theorem d_Log_writeImage_42 : decode b_Log_writeImage 42 = .ok (.aload_n 0, 1) := by decide +kernel
theorem d_Log_writeImage_43 : decode b_Log_writeImage 43 = .ok (.getfield 69, 3) := by decide +kernel
theorem d_Log_writeImage_46 : decode b_Log_writeImage 46 = .ok (.ifCond .eq 20, 3) := by decide +kernel
theorem d_Log_writeImage_49 : decode b_Log_writeImage 49 = .ok (.aload_n 0, 1) := by decide +kernel
theorem d_Log_writeImage_50 : decode b_Log_writeImage 50 = .ok (.aload_n 0, 1) := by decide +kernel
theorem d_Log_writeImage_51 : decode b_Log_writeImage 51 = .ok (.getfield 14, 3) := by decide +kernel
theorem d_Log_writeImage_54 : decode b_Log_writeImage 54 = .ok (.iload_n 1, 1) := by decide +kernel
theorem d_Log_writeImage_55 : decode b_Log_writeImage 55 = .ok (.aload_n 0, 1) := by decide +kernel
theorem d_Log_writeImage_56 : decode b_Log_writeImage 56 = .ok (.getfield 25, 3) := by decide +kernel
theorem d_Log_writeImage_59 : decode b_Log_writeImage 59 = .ok (.iconst 0, 1) := by decide +kernel
theorem d_Log_writeImage_60 : decode b_Log_writeImage 60 = .ok (.invokevirtual 317, 3) := by decide +kernel
theorem d_Log_writeImage_63 : decode b_Log_writeImage 63 = .ok (.putfield 69, 3) := by decide +kernel
theorem d_Log_writeImage_66 : decode b_Log_writeImage 66 = .ok (.aload_n 0, 1) := by decide +kernel
theorem d_Log_writeImage_67 : decode b_Log_writeImage 67 = .ok (.getfield 41, 3) := by decide +kernel
theorem d_Log_writeImage_70 : decode b_Log_writeImage 70 = .ok (.iload_n 1, 1) := by decide +kernel
theorem d_Log_writeImage_71 : decode b_Log_writeImage 71 = .ok (.iload_n 2, 1) := by decide +kernel
theorem d_Log_writeImage_72 : decode b_Log_writeImage 72 = .ok (.invokevirtual 321, 3) := by decide +kernel
theorem d_Log_writeImage_75 : decode b_Log_writeImage 75 = .ok (.aload_n 0, 1) := by decide +kernel
theorem d_Log_writeImage_76 : decode b_Log_writeImage 76 = .ok (.getfield 69, 3) := by decide +kernel
theorem d_Log_writeImage_79 : decode b_Log_writeImage 79 = .ok (.ireturn, 1) := by decide +kernel
theorem d_Log_writePart_0 : decode b_Log_writePart 0 = .ok (.aload_n 0, 1) := by decide +kernel
theorem d_Log_writePart_1 : decode b_Log_writePart 1 = .ok (.getfield 268, 3) := by decide +kernel
theorem d_Log_writePart_4 : decode b_Log_writePart 4 = .ok (.iconst 1, 1) := by decide +kernel
theorem d_Log_writePart_5 : decode b_Log_writePart 5 = .ok (.iadd, 1) := by decide +kernel
theorem d_Log_writePart_6 : decode b_Log_writePart 6 = .ok (.istore 7, 2) := by decide +kernel
theorem d_Log_writePart_8 : decode b_Log_writePart 8 = .ok (.aload_n 0, 1) := by decide +kernel
theorem d_Log_writePart_9 : decode b_Log_writePart 9 = .ok (.iload 7, 2) := by decide +kernel
theorem d_Log_writePart_11 : decode b_Log_writePart 11 = .ok (.iload_n 2, 1) := by decide +kernel
theorem d_Log_writePart_12 : decode b_Log_writePart 12 = .ok (.lload_n 3, 1) := by decide +kernel
theorem d_Log_writePart_13 : decode b_Log_writePart 13 = .ok (.iload 5, 2) := by decide +kernel
theorem d_Log_writePart_15 : decode b_Log_writePart 15 = .ok (.iload 6, 2) := by decide +kernel
theorem d_Log_writePart_17 : decode b_Log_writePart 17 = .ok (.invokevirtual 277, 3) := by decide +kernel
theorem d_Log_writePart_20 : decode b_Log_writePart 20 = .ok (.aload_n 0, 1) := by decide +kernel
theorem d_Log_writePart_21 : decode b_Log_writePart 21 = .ok (.iload_n 1, 1) := by decide +kernel
theorem d_Log_writePart_22 : decode b_Log_writePart 22 = .ok (.iload 6, 2) := by decide +kernel
theorem d_Log_writePart_24 : decode b_Log_writePart 24 = .ok (.invokestatic 270, 3) := by decide +kernel
theorem d_Log_writePart_27 : decode b_Log_writePart 27 = .ok (.invokevirtual 114, 3) := by decide +kernel
theorem d_Log_writePart_30 : decode b_Log_writePart 30 = .ok (.ifCond .ne 5, 3) := by decide +kernel
theorem d_Log_writePart_33 : decode b_Log_writePart 33 = .ok (.iconst 0, 1) := by decide +kernel
theorem d_Log_writePart_34 : decode b_Log_writePart 34 = .ok (.ireturn, 1) := by decide +kernel
theorem d_Log_writePart_35 : decode b_Log_writePart 35 = .ok (.aload_n 0, 1) := by decide +kernel
theorem d_Log_writePart_36 : decode b_Log_writePart 36 = .ok (.getfield 51, 3) := by decide +kernel
theorem d_Log_writePart_39 : decode b_Log_writePart 39 = .ok (.iload 7, 2) := by decide +kernel
theorem d_Log_writePart_41 : decode b_Log_writePart 41 = .ok (.iload_n 2, 1) := by decide +kernel
theorem d_Log_writePart_42 : decode b_Log_writePart 42 = .ok (.iload 6, 2) := by decide +kernel
theorem d_Log_writePart_44 : decode b_Log_writePart 44 = .ok (.iload_n 1, 1) := by decide +kernel
theorem d_Log_writePart_45 : decode b_Log_writePart 45 = .ok (.lload_n 3, 1) := by decide +kernel
theorem d_Log_writePart_46 : decode b_Log_writePart 46 = .ok (.invokevirtual 281, 3) := by decide +kernel
theorem d_Log_writePart_49 : decode b_Log_writePart 49 = .ok (.aload_n 0, 1) := by decide +kernel
theorem d_Log_writePart_50 : decode b_Log_writePart 50 = .ok (.iload 7, 2) := by decide +kernel
theorem d_Log_writePart_52 : decode b_Log_writePart 52 = .ok (.putfield 268, 3) := by decide +kernel
theorem d_Log_writePart_55 : decode b_Log_writePart 55 = .ok (.iconst 1, 1) := by decide +kernel
theorem d_Log_writePart_56 : decode b_Log_writePart 56 = .ok (.ireturn, 1) := by decide +kernel
theorem d_Log_writeSavepoint_0 : decode b_Log_writeSavepoint 0 = .ok (.iconst 2, 1) := by decide +kernel
theorem d_Log_writeSavepoint_1 : decode b_Log_writeSavepoint 1 = .ok (.istore_n 2, 1) := by decide +kernel
theorem d_Log_writeSavepoint_2 : decode b_Log_writeSavepoint 2 = .ok (.iconst 0, 1) := by decide +kernel
theorem d_Log_writeSavepoint_3 : decode b_Log_writeSavepoint 3 = .ok (.istore_n 3, 1) := by decide +kernel
theorem d_Log_writeSavepoint_4 : decode b_Log_writeSavepoint 4 = .ok (.iload_n 3, 1) := by decide +kernel
theorem d_Log_writeSavepoint_5 : decode b_Log_writeSavepoint 5 = .ok (.iload_n 1, 1) := by decide +kernel
theorem d_Log_writeSavepoint_6 : decode b_Log_writeSavepoint 6 = .ok (.if_icmp .ge 76, 3) := by decide +kernel
theorem d_Log_writeSavepoint_9 : decode b_Log_writeSavepoint 9 = .ok (.aload_n 0, 1) := by decide +kernel
theorem d_Log_writeSavepoint_10 : decode b_Log_writeSavepoint 10 = .ok (.getfield 69, 3) := by decide +kernel
theorem d_Log_writeSavepoint_13 : decode b_Log_writeSavepoint 13 = .ok (.ifCond .eq 69, 3) := by decide +kernel
theorem d_Log_writeSavepoint_16 : decode b_Log_writeSavepoint 16 = .ok (.aload_n 0, 1) := by decide +kernel
theorem d_Log_writeSavepoint_17 : decode b_Log_writeSavepoint 17 = .ok (.iload_n 2, 1) := by decide +kernel
theorem d_Log_writeSavepoint_18 : decode b_Log_writeSavepoint 18 = .ok (.invokevirtual 396, 3) := by decide +kernel
theorem d_Log_writeSavepoint_21 : decode b_Log_writeSavepoint 21 = .ok (.istore 4, 2) := by decide +kernel
theorem d_Log_writeSavepoint_23 : decode b_Log_writeSavepoint 23 = .ok (.aload_n 0, 1) := by decide +kernel
theorem d_Log_writeSavepoint_24 : decode b_Log_writeSavepoint 24 = .ok (.getfield 41, 3) := by decide +kernel
theorem d_Log_writeSavepoint_27 : decode b_Log_writeSavepoint 27 = .ok (.iload 4, 2) := by decide +kernel
theorem d_Log_writeSavepoint_29 : decode b_Log_writeSavepoint 29 = .ok (.invokestatic 270, 3) := by decide +kernel
theorem d_Log_writeSavepoint_32 : decode b_Log_writeSavepoint 32 = .ok (.invokevirtual 107, 3) := by decide +kernel
theorem d_Log_writeSavepoint_35 : decode b_Log_writeSavepoint 35 = .ok (.istore 5, 2) := by decide +kernel
theorem d_Log_writeSavepoint_37 : decode b_Log_writeSavepoint 37 = .ok (.aload_n 0, 1) := by decide +kernel
theorem d_Log_writeSavepoint_38 : decode b_Log_writeSavepoint 38 = .ok (.iload 5, 2) := by decide +kernel
theorem d_Log_writeSavepoint_40 : decode b_Log_writeSavepoint 40 = .ok (.aload_n 0, 1) := by decide +kernel
theorem d_Log_writeSavepoint_41 : decode b_Log_writeSavepoint 41 = .ok (.getfield 21, 3) := by decide +kernel
theorem d_Log_writeSavepoint_44 : decode b_Log_writeSavepoint 44 = .ok (.iload_n 2, 1) := by decide +kernel
theorem d_Log_writeSavepoint_45 : decode b_Log_writeSavepoint 45 = .ok (.invokevirtual 239, 3) := by decide +kernel
theorem d_Log_writeSavepoint_48 : decode b_Log_writeSavepoint 48 = .ok (.aload_n 0, 1) := by decide +kernel
theorem d_Log_writeSavepoint_49 : decode b_Log_writeSavepoint 49 = .ok (.getfield 21, 3) := by decide +kernel
theorem d_Log_writeSavepoint_52 : decode b_Log_writeSavepoint 52 = .ok (.iload_n 2, 1) := by decide +kernel
theorem d_Log_writeSavepoint_53 : decode b_Log_writeSavepoint 53 = .ok (.iconst 1, 1) := by decide +kernel
theorem d_Log_writeSavepoint_54 : decode b_Log_writeSavepoint 54 = .ok (.iadd, 1) := by decide +kernel
theorem d_Log_writeSavepoint_55 : decode b_Log_writeSavepoint 55 = .ok (.bipush 8, 2) := by decide +kernel
theorem d_Log_writeSavepoint_57 : decode b_Log_writeSavepoint 57 = .ok (.invokevirtual 394, 3) := by decide +kernel
theorem d_Log_writeSavepoint_60 : decode b_Log_writeSavepoint 60 = .ok (.iload_n 2, 1) := by decide +kernel
theorem d_Log_writeSavepoint_61 : decode b_Log_writeSavepoint 61 = .ok (.bipush 11, 2) := by decide +kernel
theorem d_Log_writeSavepoint_63 : decode b_Log_writeSavepoint 63 = .ok (.iadd, 1) := by decide +kernel
theorem d_Log_writeSavepoint_64 : decode b_Log_writeSavepoint 64 = .ok (.iload 4, 2) := by decide +kernel
theorem d_Log_writeSavepoint_66 : decode b_Log_writeSavepoint 66 = .ok (.invokevirtual 273, 3) := by decide +kernel
theorem d_Log_writeSavepoint_69 : decode b_Log_writeSavepoint 69 = .ok (.pop, 1) := by decide +kernel
theorem d_Log_writeSavepoint_70 : decode b_Log_writeSavepoint 70 = .ok (.aload_n 0, 1) := by decide +kernel
theorem d_Log_writeSavepoint_71 : decode b_Log_writeSavepoint 71 = .ok (.iload_n 2, 1) := by decide +kernel
theorem d_Log_writeSavepoint_72 : decode b_Log_writeSavepoint 72 = .ok (.invokevirtual 391, 3) := by decide +kernel
theorem d_Log_writeSavepoint_75 : decode b_Log_writeSavepoint 75 = .ok (.istore_n 2, 1) := by decide +kernel
theorem d_Log_writeSavepoint_76 : decode b_Log_writeSavepoint 76 = .ok (.iinc 3 1, 3) := by decide +kernel
theorem d_Log_writeSavepoint_79 : decode b_Log_writeSavepoint 79 = .ok (.goto (-75), 3) := by decide +kernel
theorem d_Log_writeSavepoint_82 : decode b_Log_writeSavepoint 82 = .ok (.aload_n 0, 1) := by decide +kernel
theorem d_Log_writeSavepoint_83 : decode b_Log_writeSavepoint 83 = .ok (.getfield 69, 3) := by decide +kernel
theorem d_Log_writeSavepoint_86 : decode b_Log_writeSavepoint 86 = .ok (.ifCond .eq 11, 3) := by decide +kernel
theorem d_Log_writeSavepoint_89 : decode b_Log_writeSavepoint 89 = .ok (.aload_n 0, 1) := by decide +kernel
theorem d_Log_writeSavepoint_90 : decode b_Log_writeSavepoint 90 = .ok (.iload_n 1, 1) := by decide +kernel
theorem d_Log_writeSavepoint_91 : decode b_Log_writeSavepoint 91 = .ok (.invokevirtual 94, 3) := by decide +kernel
theorem d_Log_writeSavepoint_94 : decode b_Log_writeSavepoint 94 = .ok (.goto 5, 3) := by decide +kernel
theorem d_Log_writeSavepoint_97 : decode b_Log_writeSavepoint 97 = .ok (.bipush (-5), 2) := by decide +kernel
theorem d_Log_writeSavepoint_99 : decode b_Log_writeSavepoint 99 = .ok (.ireturn, 1) := by decide +kernel
theorem d_Log_writeTape_0 : decode b_Log_writeTape 0 = .ok (.aload_n 0, 1) := by decide +kernel
theorem d_Log_writeTape_1 : decode b_Log_writeTape 1 = .ok (.getfield 21, 3) := by decide +kernel
theorem d_Log_writeTape_4 : decode b_Log_writeTape 4 = .ok (.invokevirtual 73, 3) := by decide +kernel
theorem d_Log_writeTape_7 : decode b_Log_writeTape 7 = .ok (.istore 4, 2) := by decide +kernel
theorem d_Log_writeTape_9 : decode b_Log_writeTape 9 = .ok (.iload_n 1, 1) := by decide +kernel
theorem d_Log_writeTape_10 : decode b_Log_writeTape 10 = .ok (.invokestatic 132, 3) := by decide +kernel
theorem d_Log_writeTape_13 : decode b_Log_writeTape 13 = .ok (.ifCond .eq 11, 3) := by decide +kernel
theorem d_Log_writeTape_16 : decode b_Log_writeTape 16 = .ok (.iload 4, 2) := by decide +kernel
theorem d_Log_writeTape_18 : decode b_Log_writeTape 18 = .ok (.sipush 155, 3) := by decide +kernel
theorem d_Log_writeTape_21 : decode b_Log_writeTape 21 = .ok (.if_icmp .le 6, 3) := by decide +kernel
theorem d_Log_writeTape_24 : decode b_Log_writeTape 24 = .ok (.bipush (-2), 2) := by decide +kernel
theorem d_Log_writeTape_26 : decode b_Log_writeTape 26 = .ok (.ireturn, 1) := by decide +kernel
theorem d_Log_writeTape_27 : decode b_Log_writeTape 27 = .ok (.aload_n 0, 1) := by decide +kernel
theorem d_Log_writeTape_28 : decode b_Log_writeTape 28 = .ok (.getfield 268, 3) := by decide +kernel
theorem d_Log_writeTape_31 : decode b_Log_writeTape 31 = .ok (.ldc 93, 2) := by decide +kernel
theorem d_Log_writeTape_33 : decode b_Log_writeTape 33 = .ok (.if_icmp .lt 6, 3) := by decide +kernel
theorem d_Log_writeTape_36 : decode b_Log_writeTape 36 = .ok (.bipush (-4), 2) := by decide +kernel
theorem d_Log_writeTape_38 : decode b_Log_writeTape 38 = .ok (.ireturn, 1) := by decide +kernel
theorem d_Log_writeTape_39 : decode b_Log_writeTape 39 = .ok (.aload_n 0, 1) := by decide +kernel
theorem d_Log_writeTape_40 : decode b_Log_writeTape 40 = .ok (.getfield 41, 3) := by decide +kernel
theorem d_Log_writeTape_43 : decode b_Log_writeTape 43 = .ok (.iload 4, 2) := by decide +kernel
theorem d_Log_writeTape_45 : decode b_Log_writeTape 45 = .ok (.invokestatic 270, 3) := by decide +kernel
theorem d_Log_writeTape_48 : decode b_Log_writeTape 48 = .ok (.invokevirtual 107, 3) := by decide +kernel
theorem d_Log_writeTape_51 : decode b_Log_writeTape 51 = .ok (.istore 5, 2) := by decide +kernel
theorem d_Log_writeTape_53 : decode b_Log_writeTape 53 = .ok (.iload 5, 2) := by decide +kernel
theorem d_Log_writeTape_55 : decode b_Log_writeTape 55 = .ok (.iconst (-1), 1) := by decide +kernel
theorem d_Log_writeTape_56 : decode b_Log_writeTape 56 = .ok (.if_icmp .ne 6, 3) := by decide +kernel
theorem d_Log_writeTape_59 : decode b_Log_writeTape 59 = .ok (.bipush (-4), 2) := by decide +kernel
theorem d_Log_writeTape_61 : decode b_Log_writeTape 61 = .ok (.ireturn, 1) := by decide +kernel
theorem d_Log_writeTape_62 : decode b_Log_writeTape 62 = .ok (.aload_n 0, 1) := by decide +kernel
theorem d_Log_writeTape_63 : decode b_Log_writeTape 63 = .ok (.iload 5, 2) := by decide +kernel
theorem d_Log_writeTape_65 : decode b_Log_writeTape 65 = .ok (.iload_n 1, 1) := by decide +kernel
theorem d_Log_writeTape_66 : decode b_Log_writeTape 66 = .ok (.lload_n 2, 1) := by decide +kernel
theorem d_Log_writeTape_67 : decode b_Log_writeTape 67 = .ok (.iconst 0, 1) := by decide +kernel
theorem d_Log_writeTape_68 : decode b_Log_writeTape 68 = .ok (.iload 4, 2) := by decide +kernel
theorem d_Log_writeTape_70 : decode b_Log_writeTape 70 = .ok (.invokevirtual 273, 3) := by decide +kernel
theorem d_Log_writeTape_73 : decode b_Log_writeTape 73 = .ok (.ifCond .eq 10, 3) := by decide +kernel
theorem d_Log_writeTape_76 : decode b_Log_writeTape 76 = .ok (.aload_n 0, 1) := by decide +kernel
theorem d_Log_writeTape_77 : decode b_Log_writeTape 77 = .ok (.getfield 268, 3) := by decide +kernel
theorem d_Log_writeTape_80 : decode b_Log_writeTape 80 = .ok (.goto 5, 3) := by decide +kernel
theorem d_Log_writeTape_83 : decode b_Log_writeTape 83 = .ok (.bipush (-5), 2) := by decide +kernel
theorem d_Log_writeTape_85 : decode b_Log_writeTape 85 = .ok (.ireturn, 1) := by decide +kernel
