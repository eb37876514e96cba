theorem dX9_peepOf_72 : decode cX9_peepOf 72 = .ok (.if_icmp .ge 42, 3) := by decide +kernel
theorem dX9_peepOf_75 : decode cX9_peepOf 75 = .ok (.aload_n 0, 1) := by decide +kernel
theorem dX9_peepOf_76 : decode cX9_peepOf 76 = .ok (.getfield 128, 3) := by decide +kernel
theorem dX9_peepOf_79 : decode cX9_peepOf 79 = .ok (.iload 6, 2) := by decide +kernel
theorem dX9_peepOf_81 : decode cX9_peepOf 81 = .ok (.iaload, 1) := by decide +kernel
theorem dX9_peepOf_82 : decode cX9_peepOf 82 = .ok (.iload_n 2, 1) := by decide +kernel
theorem dX9_peepOf_83 : decode cX9_peepOf 83 = .ok (.ishr, 1) := by decide +kernel
theorem dX9_peepOf_84 : decode cX9_peepOf 84 = .ok (.iconst 1, 1) := by decide +kernel
theorem dX9_peepOf_85 : decode cX9_peepOf 85 = .ok (.iand, 1) := by decide +kernel
theorem dX9_peepOf_86 : decode cX9_peepOf 86 = .ok (.iconst 1, 1) := by decide +kernel
theorem dX9_peepOf_87 : decode cX9_peepOf 87 = .ok (.if_icmp .ne 21, 3) := by decide +kernel
theorem dX9_peepOf_90 : decode cX9_peepOf 90 = .ok (.aload_n 0, 1) := by decide +kernel
theorem dX9_peepOf_91 : decode cX9_peepOf 91 = .ok (.getfield 128, 3) := by decide +kernel
theorem dX9_peepOf_94 : decode cX9_peepOf 94 = .ok (.iload 6, 2) := by decide +kernel
theorem dX9_peepOf_96 : decode cX9_peepOf 96 = .ok (.iaload, 1) := by decide +kernel
theorem dX9_peepOf_97 : decode cX9_peepOf 97 = .ok (.iload 5, 2) := by decide +kernel
theorem dX9_peepOf_99 : decode cX9_peepOf 99 = .ok (.ishr, 1) := by decide +kernel
theorem dX9_peepOf_100 : decode cX9_peepOf 100 = .ok (.iconst 1, 1) := by decide +kernel
theorem dX9_peepOf_101 : decode cX9_peepOf 101 = .ok (.iand, 1) := by decide +kernel
theorem dX9_peepOf_102 : decode cX9_peepOf 102 = .ok (.iconst 1, 1) := by decide +kernel
theorem dX9_peepOf_103 : decode cX9_peepOf 103 = .ok (.if_icmp .ne 5, 3) := by decide +kernel
theorem dX9_peepOf_106 : decode cX9_peepOf 106 = .ok (.iconst (-1), 1) := by decide +kernel
theorem dX9_peepOf_107 : decode cX9_peepOf 107 = .ok (.ireturn, 1) := by decide +kernel
theorem dX9_peepOf_108 : decode cX9_peepOf 108 = .ok (.iinc 6 1, 3) := by decide +kernel
theorem dX9_peepOf_111 : decode cX9_peepOf 111 = .ok (.goto (-42), 3) := by decide +kernel
theorem dX9_peepOf_114 : decode cX9_peepOf 114 = .ok (.iload_n 3, 1) := by decide +kernel
theorem dX9_peepOf_115 : decode cX9_peepOf 115 = .ok (.ifCond .ne 15, 3) := by decide +kernel
theorem dX9_peepOf_118 : decode cX9_peepOf 118 = .ok (.aload_n 0, 1) := by decide +kernel
theorem dX9_peepOf_119 : decode cX9_peepOf 119 = .ok (.iload_n 1, 1) := by decide +kernel
theorem dX9_peepOf_120 : decode cX9_peepOf 120 = .ok (.iload_n 2, 1) := by decide +kernel
theorem dX9_peepOf_121 : decode cX9_peepOf 121 = .ok (.iload 5, 2) := by decide +kernel
theorem dX9_peepOf_123 : decode cX9_peepOf 123 = .ok (.iconst 0, 1) := by decide +kernel
theorem dX9_peepOf_124 : decode cX9_peepOf 124 = .ok (.invokevirtual 385, 3) := by decide +kernel
theorem dX9_peepOf_127 : decode cX9_peepOf 127 = .ok (.ifCond .ne 27, 3) := by decide +kernel
theorem dX9_peepOf_130 : decode cX9_peepOf 130 = .ok (.iload_n 3, 1) := by decide +kernel
theorem dX9_peepOf_131 : decode cX9_peepOf 131 = .ok (.aload_n 0, 1) := by decide +kernel
theorem dX9_peepOf_132 : decode cX9_peepOf 132 = .ok (.getfield 92, 3) := by decide +kernel
theorem dX9_peepOf_135 : decode cX9_peepOf 135 = .ok (.iload_n 1, 1) := by decide +kernel
theorem dX9_peepOf_136 : decode cX9_peepOf 136 = .ok (.iaload, 1) := by decide +kernel
theorem dX9_peepOf_137 : decode cX9_peepOf 137 = .ok (.iconst 1, 1) := by decide +kernel
theorem dX9_peepOf_138 : decode cX9_peepOf 138 = .ok (.isub, 1) := by decide +kernel
theorem dX9_peepOf_139 : decode cX9_peepOf 139 = .ok (.if_icmp .ne 19, 3) := by decide +kernel
theorem dX9_peepOf_142 : decode cX9_peepOf 142 = .ok (.aload_n 0, 1) := by decide +kernel
theorem dX9_peepOf_143 : decode cX9_peepOf 143 = .ok (.iload_n 1, 1) := by decide +kernel
theorem dX9_peepOf_144 : decode cX9_peepOf 144 = .ok (.iload_n 2, 1) := by decide +kernel
theorem dX9_peepOf_145 : decode cX9_peepOf 145 = .ok (.iload 5, 2) := by decide +kernel
theorem dX9_peepOf_147 : decode cX9_peepOf 147 = .ok (.iconst 1, 1) := by decide +kernel
theorem dX9_peepOf_148 : decode cX9_peepOf 148 = .ok (.invokevirtual 385, 3) := by decide +kernel
theorem dX9_peepOf_151 : decode cX9_peepOf 151 = .ok (.ifCond .eq 7, 3) := by decide +kernel
theorem dX9_peepOf_154 : decode cX9_peepOf 154 = .ok (.iconst 1, 1) := by decide +kernel
theorem dX9_peepOf_155 : decode cX9_peepOf 155 = .ok (.goto 4, 3) := by decide +kernel
theorem dX9_peepOf_158 : decode cX9_peepOf 158 = .ok (.iconst 0, 1) := by decide +kernel
theorem dX9_peepOf_159 : decode cX9_peepOf 159 = .ok (.istore 6, 2) := by decide +kernel
theorem dX9_peepOf_161 : decode cX9_peepOf 161 = .ok (.iload 6, 2) := by decide +kernel
theorem dX9_peepOf_163 : decode cX9_peepOf 163 = .ok (.ifCond .ne 5, 3) := by decide +kernel
theorem dX9_peepOf_166 : decode cX9_peepOf 166 = .ok (.iconst (-1), 1) := by decide +kernel
theorem dX9_peepOf_167 : decode cX9_peepOf 167 = .ok (.ireturn, 1) := by decide +kernel
theorem dX9_peepOf_168 : decode cX9_peepOf 168 = .ok (.aload_n 0, 1) := by decide +kernel
theorem dX9_peepOf_169 : decode cX9_peepOf 169 = .ok (.bipush 6, 2) := by decide +kernel
theorem dX9_peepOf_171 : decode cX9_peepOf 171 = .ok (.aload_n 0, 1) := by decide +kernel
theorem dX9_peepOf_172 : decode cX9_peepOf 172 = .ok (.iload_n 1, 1) := by decide +kernel
theorem dX9_peepOf_173 : decode cX9_peepOf 173 = .ok (.iload_n 3, 1) := by decide +kernel
theorem dX9_peepOf_174 : decode cX9_peepOf 174 = .ok (.invokevirtual 309, 3) := by decide +kernel
theorem dX9_peepOf_177 : decode cX9_peepOf 177 = .ok (.iload_n 3, 1) := by decide +kernel
theorem dX9_peepOf_178 : decode cX9_peepOf 178 = .ok (.iload_n 2, 1) := by decide +kernel
theorem dX9_peepOf_179 : decode cX9_peepOf 179 = .ok (.iload 4, 2) := by decide +kernel
theorem dX9_peepOf_181 : decode cX9_peepOf 181 = .ok (.invokevirtual 369, 3) := by decide +kernel
theorem dX9_peepOf_184 : decode cX9_peepOf 184 = .ok (.aload_n 0, 1) := by decide +kernel
theorem dX9_peepOf_185 : decode cX9_peepOf 185 = .ok (.iconst 3, 1) := by decide +kernel
theorem dX9_peepOf_186 : decode cX9_peepOf 186 = .ok (.invokevirtual 376, 3) := by decide +kernel
theorem dX9_peepOf_189 : decode cX9_peepOf 189 = .ok (.istore 7, 2) := by decide +kernel
theorem dX9_peepOf_191 : decode cX9_peepOf 191 = .ok (.iload 7, 2) := by decide +kernel
theorem dX9_peepOf_193 : decode cX9_peepOf 193 = .ok (.iconst (-1), 1) := by decide +kernel
theorem dX9_peepOf_194 : decode cX9_peepOf 194 = .ok (.if_icmp .ne 7, 3) := by decide +kernel
theorem dX9_peepOf_197 : decode cX9_peepOf 197 = .ok (.iconst (-1), 1) := by decide +kernel
theorem dX9_peepOf_198 : decode cX9_peepOf 198 = .ok (.goto 9, 3) := by decide +kernel
theorem dX9_peepOf_201 : decode cX9_peepOf 201 = .ok (.aload_n 0, 1) := by decide +kernel
theorem dX9_peepOf_202 : decode cX9_peepOf 202 = .ok (.iload 7, 2) := by decide +kernel
theorem dX9_peepOf_204 : decode cX9_peepOf 204 = .ok (.invokevirtual 379, 3) := by decide +kernel
theorem dX9_peepOf_207 : decode cX9_peepOf 207 = .ok (.ireturn, 1) := by decide +kernel
theorem dX9_isPart_0 : decode cX9_isPart 0 = .ok (.iload_n 1, 1) := by decide +kernel
theorem dX9_isPart_1 : decode cX9_isPart 1 = .ok (.ifCond .lt 15, 3) := by decide +kernel
theorem dX9_isPart_4 : decode cX9_isPart 4 = .ok (.iload_n 1, 1) := by decide +kernel
theorem dX9_isPart_5 : decode cX9_isPart 5 = .ok (.aload_n 0, 1) := by decide +kernel
theorem dX9_isPart_6 : decode cX9_isPart 6 = .ok (.getfield 189, 3) := by decide +kernel
theorem dX9_isPart_9 : decode cX9_isPart 9 = .ok (.if_icmp .ge 7, 3) := by decide +kernel
theorem dX9_isPart_12 : decode cX9_isPart 12 = .ok (.iconst 1, 1) := by decide +kernel
theorem dX9_isPart_13 : decode cX9_isPart 13 = .ok (.goto 4, 3) := by decide +kernel
theorem dX9_isPart_16 : decode cX9_isPart 16 = .ok (.iconst 0, 1) := by decide +kernel
theorem dX9_isPart_17 : decode cX9_isPart 17 = .ok (.ireturn, 1) := by decide +kernel
theorem dX9_part_0 : decode cX9_part 0 = .ok (.aload_n 0, 1) := by decide +kernel
theorem dX9_part_1 : decode cX9_part 1 = .ok (.iload_n 1, 1) := by decide +kernel
theorem dX9_part_2 : decode cX9_part 2 = .ok (.invokevirtual 388, 3) := by decide +kernel
theorem dX9_part_5 : decode cX9_part 5 = .ok (.ifCond .ne 5, 3) := by decide +kernel
theorem dX9_part_8 : decode cX9_part 8 = .ok (.iconst (-1), 1) := by decide +kernel
theorem dX9_part_9 : decode cX9_part 9 = .ok (.ireturn, 1) := by decide +kernel
theorem dX9_part_10 : decode cX9_part 10 = .ok (.bipush 8, 2) := by decide +kernel
theorem dX9_part_12 : decode cX9_part 12 = .ok (.aload_n 0, 1) := by decide +kernel
theorem dX9_part_13 : decode cX9_part 13 = .ok (.getfield 333, 3) := by decide +kernel
theorem dX9_part_16 : decode cX9_part 16 = .ok (.imul, 1) := by decide +kernel
theorem dX9_part_17 : decode cX9_part 17 = .ok (.iload_n 1, 1) := by decide +kernel
theorem dX9_part_18 : decode cX9_part 18 = .ok (.iadd, 1) := by decide +kernel
theorem dX9_part_19 : decode cX9_part 19 = .ok (.istore_n 3, 1) := by decide +kernel
theorem dX9_part_20 : decode cX9_part 20 = .ok (.iload_n 2, 1) := by decide +kernel
theorem dX9_part_21 : decode cX9_part 21 = .ok (.tableswitch 161 0 7 #[47, 54, 61, 76, 83, 90, 125, 142], 47) := by decide +kernel
theorem dX9_part_68 : decode cX9_part 68 = .ok (.aload_n 0, 1) := by decide +kernel
theorem dX9_part_69 : decode cX9_part 69 = .ok (.getfield 95, 3) := by decide +kernel
theorem dX9_part_72 : decode cX9_part 72 = .ok (.iload_n 3, 1) := by decide +kernel
theorem dX9_part_73 : decode cX9_part 73 = .ok (.iaload, 1) := by decide +kernel
theorem dX9_part_74 : decode cX9_part 74 = .ok (.ireturn, 1) := by decide +kernel
theorem dX9_part_75 : decode cX9_part 75 = .ok (.aload_n 0, 1) := by decide +kernel
theorem dX9_part_76 : decode cX9_part 76 = .ok (.getfield 98, 3) := by decide +kernel
theorem dX9_part_79 : decode cX9_part 79 = .ok (.iload_n 3, 1) := by decide +kernel
theorem dX9_part_80 : decode cX9_part 80 = .ok (.iaload, 1) := by decide +kernel
theorem dX9_part_81 : decode cX9_part 81 = .ok (.ireturn, 1) := by decide +kernel
theorem dX9_part_82 : decode cX9_part 82 = .ok (.aload_n 0, 1) := by decide +kernel
theorem dX9_part_83 : decode cX9_part 83 = .ok (.getfield 101, 3) := by decide +kernel
theorem dX9_part_86 : decode cX9_part 86 = .ok (.iload_n 3, 1) := by decide +kernel
theorem dX9_part_87 : decode cX9_part 87 = .ok (.baload, 1) := by decide +kernel
theorem dX9_part_88 : decode cX9_part 88 = .ok (.ifCond .eq 7, 3) := by decide +kernel
theorem dX9_part_91 : decode cX9_part 91 = .ok (.iconst 1, 1) := by decide +kernel
theorem dX9_part_92 : decode cX9_part 92 = .ok (.goto 4, 3) := by decide +kernel
theorem dX9_part_95 : decode cX9_part 95 = .ok (.iconst 0, 1) := by decide +kernel
theorem dX9_part_96 : decode cX9_part 96 = .ok (.ireturn, 1) := by decide +kernel
theorem dX9_part_97 : decode cX9_part 97 = .ok (.aload_n 0, 1) := by decide +kernel
theorem dX9_part_98 : decode cX9_part 98 = .ok (.getfield 107, 3) := by decide +kernel
theorem dX9_part_101 : decode cX9_part 101 = .ok (.iload_n 1, 1) := by decide +kernel
theorem dX9_part_102 : decode cX9_part 102 = .ok (.iaload, 1) := by decide +kernel
theorem dX9_part_103 : decode cX9_part 103 = .ok (.ireturn, 1) := by decide +kernel
theorem dX9_part_104 : decode cX9_part 104 = .ok (.aload_n 0, 1) := by decide +kernel
theorem dX9_part_105 : decode cX9_part 105 = .ok (.getfield 110, 3) := by decide +kernel
theorem dX9_part_108 : decode cX9_part 108 = .ok (.iload_n 1, 1) := by decide +kernel
theorem dX9_part_109 : decode cX9_part 109 = .ok (.iaload, 1) := by decide +kernel
theorem dX9_part_110 : decode cX9_part 110 = .ok (.ireturn, 1) := by decide +kernel
theorem dX9_part_111 : decode cX9_part 111 = .ok (.aload_n 0, 1) := by decide +kernel
theorem dX9_part_112 : decode cX9_part 112 = .ok (.aload_n 0, 1) := by decide +kernel
theorem dX9_part_113 : decode cX9_part 113 = .ok (.getfield 333, 3) := by decide +kernel
theorem dX9_part_116 : decode cX9_part 116 = .ok (.iload_n 1, 1) := by decide +kernel
theorem dX9_part_117 : decode cX9_part 117 = .ok (.invokevirtual 391, 3) := by decide +kernel
theorem dX9_part_120 : decode cX9_part 120 = .ok (.ifCond .eq 7, 3) := by decide +kernel
theorem dX9_part_123 : decode cX9_part 123 = .ok (.iconst 1, 1) := by decide +kernel
theorem dX9_part_124 : decode cX9_part 124 = .ok (.goto 21, 3) := by decide +kernel
theorem dX9_part_127 : decode cX9_part 127 = .ok (.aload_n 0, 1) := by decide +kernel
theorem dX9_part_128 : decode cX9_part 128 = .ok (.aload_n 0, 1) := by decide +kernel
theorem dX9_part_129 : decode cX9_part 129 = .ok (.getfield 333, 3) := by decide +kernel
theorem dX9_part_132 : decode cX9_part 132 = .ok (.iload_n 1, 1) := by decide +kernel
theorem dX9_part_133 : decode cX9_part 133 = .ok (.invokevirtual 394, 3) := by decide +kernel
theorem dX9_part_136 : decode cX9_part 136 = .ok (.iconst (-1), 1) := by decide +kernel
theorem dX9_part_137 : decode cX9_part 137 = .ok (.if_icmp .eq 7, 3) := by decide +kernel
theorem dX9_part_140 : decode cX9_part 140 = .ok (.iconst 2, 1) := by decide +kernel
theorem dX9_part_141 : decode cX9_part 141 = .ok (.goto 4, 3) := by decide +kernel
theorem dX9_part_144 : decode cX9_part 144 = .ok (.iconst 0, 1) := by decide +kernel
theorem dX9_part_145 : decode cX9_part 145 = .ok (.ireturn, 1) := by decide +kernel
theorem dX9_part_146 : decode cX9_part 146 = .ok (.aload_n 0, 1) := by decide +kernel
theorem dX9_part_147 : decode cX9_part 147 = .ok (.getfield 113, 3) := by decide +kernel
theorem dX9_part_150 : decode cX9_part 150 = .ok (.iconst 2, 1) := by decide +kernel
theorem dX9_part_151 : decode cX9_part 151 = .ok (.iload_n 1, 1) := by decide +kernel
theorem dX9_part_152 : decode cX9_part 152 = .ok (.imul, 1) := by decide +kernel
theorem dX9_part_153 : decode cX9_part 153 = .ok (.baload, 1) := by decide +kernel
theorem dX9_part_154 : decode cX9_part 154 = .ok (.ifCond .eq 7, 3) := by decide +kernel
theorem dX9_part_157 : decode cX9_part 157 = .ok (.iconst 1, 1) := by decide +kernel
theorem dX9_part_158 : decode cX9_part 158 = .ok (.goto 4, 3) := by decide +kernel
theorem dX9_part_161 : decode cX9_part 161 = .ok (.iconst 0, 1) := by decide +kernel
theorem dX9_part_162 : decode cX9_part 162 = .ok (.ireturn, 1) := by decide +kernel
theorem dX9_part_163 : decode cX9_part 163 = .ok (.aload_n 0, 1) := by decide +kernel
theorem dX9_part_164 : decode cX9_part 164 = .ok (.getfield 113, 3) := by decide +kernel
theorem dX9_part_167 : decode cX9_part 167 = .ok (.iconst 2, 1) := by decide +kernel
theorem dX9_part_168 : decode cX9_part 168 = .ok (.iload_n 1, 1) := by decide +kernel
theorem dX9_part_169 : decode cX9_part 169 = .ok (.imul, 1) := by decide +kernel
theorem dX9_part_170 : decode cX9_part 170 = .ok (.iconst 1, 1) := by decide +kernel
theorem dX9_part_171 : decode cX9_part 171 = .ok (.iadd, 1) := by decide +kernel
theorem dX9_part_172 : decode cX9_part 172 = .ok (.baload, 1) := by decide +kernel
theorem dX9_part_173 : decode cX9_part 173 = .ok (.ifCond .eq 7, 3) := by decide +kernel
theorem dX9_part_176 : decode cX9_part 176 = .ok (.iconst 1, 1) := by decide +kernel
theorem dX9_part_177 : decode cX9_part 177 = .ok (.goto 4, 3) := by decide +kernel
theorem dX9_part_180 : decode cX9_part 180 = .ok (.iconst 0, 1) := by decide +kernel
theorem dX9_part_181 : decode cX9_part 181 = .ok (.ireturn, 1) := by decide +kernel
theorem dX9_part_182 : decode cX9_part 182 = .ok (.iconst (-1), 1) := by decide +kernel
theorem dX9_part_183 : decode cX9_part 183 = .ok (.ireturn, 1) := by decide +kernel
theorem dX9_mark_0 : decode cX9_mark 0 = .ok (.iload_n 1, 1) := by decide +kernel
theorem dX9_mark_1 : decode cX9_mark 1 = .ok (.ifCond .lt 22, 3) := by decide +kernel
theorem dX9_mark_4 : decode cX9_mark 4 = .ok (.iload_n 1, 1) := by decide +kernel
theorem dX9_mark_5 : decode cX9_mark 5 = .ok (.aload_n 0, 1) := by decide +kernel
theorem dX9_mark_6 : decode cX9_mark 6 = .ok (.getfield 189, 3) := by decide +kernel
theorem dX9_mark_9 : decode cX9_mark 9 = .ok (.iconst 1, 1) := by decide +kernel
theorem dX9_mark_10 : decode cX9_mark 10 = .ok (.isub, 1) := by decide +kernel
theorem dX9_mark_11 : decode cX9_mark 11 = .ok (.if_icmp .ge 12, 3) := by decide +kernel
theorem dX9_mark_14 : decode cX9_mark 14 = .ok (.aload_n 0, 1) := by decide +kernel
theorem dX9_mark_15 : decode cX9_mark 15 = .ok (.getfield 104, 3) := by decide +kernel
theorem dX9_mark_18 : decode cX9_mark 18 = .ok (.iload_n 1, 1) := by decide +kernel
theorem dX9_mark_19 : decode cX9_mark 19 = .ok (.iaload, 1) := by decide +kernel
theorem dX9_mark_20 : decode cX9_mark 20 = .ok (.goto 4, 3) := by decide +kernel
theorem dX9_mark_23 : decode cX9_mark 23 = .ok (.iconst (-1), 1) := by decide +kernel
theorem dX9_mark_24 : decode cX9_mark 24 = .ok (.ireturn, 1) := by decide +kernel
theorem dX9_layers_0 : decode cX9_layers 0 = .ok (.aload_n 0, 1) := by decide +kernel
theorem dX9_layers_1 : decode cX9_layers 1 = .ok (.iload_n 1, 1) := by decide +kernel
theorem dX9_layers_2 : decode cX9_layers 2 = .ok (.invokevirtual 357, 3) := by decide +kernel
theorem dX9_layers_5 : decode cX9_layers 5 = .ok (.ifCond .eq 15, 3) := by decide +kernel
theorem dX9_layers_8 : decode cX9_layers 8 = .ok (.aload_n 0, 1) := by decide +kernel
theorem dX9_layers_9 : decode cX9_layers 9 = .ok (.aload_n 0, 1) := by decide +kernel
theorem dX9_layers_10 : decode cX9_layers 10 = .ok (.getfield 333, 3) := by decide +kernel
theorem dX9_layers_13 : decode cX9_layers 13 = .ok (.iload_n 1, 1) := by decide +kernel
theorem dX9_layers_14 : decode cX9_layers 14 = .ok (.invokevirtual 309, 3) := by decide +kernel
theorem dX9_layers_17 : decode cX9_layers 17 = .ok (.goto 4, 3) := by decide +kernel
theorem dX9_layers_20 : decode cX9_layers 20 = .ok (.iconst (-1), 1) := by decide +kernel
theorem dX9_layers_21 : decode cX9_layers 21 = .ok (.ireturn, 1) := by decide +kernel
theorem dX9_at_0 : decode cX9_at 0 = .ok (.aload_n 0, 1) := by decide +kernel
theorem dX9_at_1 : decode cX9_at 1 = .ok (.iload_n 1, 1) := by decide +kernel
theorem dX9_at_2 : decode cX9_at 2 = .ok (.invokevirtual 357, 3) := by decide +kernel
theorem dX9_at_5 : decode cX9_at 5 = .ok (.ifCond .eq 16, 3) := by decide +kernel
theorem dX9_at_8 : decode cX9_at 8 = .ok (.aload_n 0, 1) := by decide +kernel
theorem dX9_at_9 : decode cX9_at 9 = .ok (.aload_n 0, 1) := by decide +kernel
theorem dX9_at_10 : decode cX9_at 10 = .ok (.getfield 333, 3) := by decide +kernel
theorem dX9_at_13 : decode cX9_at 13 = .ok (.iload_n 1, 1) := by decide +kernel
theorem dX9_at_14 : decode cX9_at 14 = .ok (.iload_n 2, 1) := by decide +kernel
theorem dX9_at_15 : decode cX9_at 15 = .ok (.invokevirtual 354, 3) := by decide +kernel
theorem dX9_at_18 : decode cX9_at 18 = .ok (.goto 4, 3) := by decide +kernel
theorem dX9_at_21 : decode cX9_at 21 = .ok (.iconst (-1), 1) := by decide +kernel
theorem dX9_at_22 : decode cX9_at 22 = .ok (.ireturn, 1) := by decide +kernel
theorem dX9_easeOf_0 : decode cX9_easeOf 0 = .ok (.iconst (-1), 1) := by decide +kernel
theorem dX9_easeOf_1 : decode cX9_easeOf 1 = .ok (.istore_n 2, 1) := by decide +kernel
theorem dX9_easeOf_2 : decode cX9_easeOf 2 = .ok (.iconst 0, 1) := by decide +kernel
theorem dX9_easeOf_3 : decode cX9_easeOf 3 = .ok (.istore_n 3, 1) := by decide +kernel
theorem dX9_easeOf_4 : decode cX9_easeOf 4 = .ok (.iconst 0, 1) := by decide +kernel
theorem dX9_easeOf_5 : decode cX9_easeOf 5 = .ok (.istore 4, 2) := by decide +kernel
theorem dX9_easeOf_7 : decode cX9_easeOf 7 = .ok (.iload 4, 2) := by decide +kernel
theorem dX9_easeOf_9 : decode cX9_easeOf 9 = .ok (.aload_n 0, 1) := by decide +kernel
theorem dX9_easeOf_10 : decode cX9_easeOf 10 = .ok (.getfield 333, 3) := by decide +kernel
theorem dX9_easeOf_13 : decode cX9_easeOf 13 = .ok (.if_icmp .gt 93, 3) := by decide +kernel
theorem dX9_easeOf_16 : decode cX9_easeOf 16 = .ok (.iload 4, 2) := by decide +kernel
theorem dX9_easeOf_18 : decode cX9_easeOf 18 = .ok (.ifCond .le 17, 3) := by decide +kernel
theorem dX9_easeOf_21 : decode cX9_easeOf 21 = .ok (.iload_n 3, 1) := by decide +kernel
theorem dX9_easeOf_22 : decode cX9_easeOf 22 = .ok (.aload_n 0, 1) := by decide +kernel
theorem dX9_easeOf_23 : decode cX9_easeOf 23 = .ok (.aload_n 0, 1) := by decide +kernel
theorem dX9_easeOf_24 : decode cX9_easeOf 24 = .ok (.getfield 333, 3) := by decide +kernel
theorem dX9_easeOf_27 : decode cX9_easeOf 27 = .ok (.iload 4, 2) := by decide +kernel
theorem dX9_easeOf_29 : decode cX9_easeOf 29 = .ok (.isub, 1) := by decide +kernel
theorem dX9_easeOf_30 : decode cX9_easeOf 30 = .ok (.invokevirtual 382, 3) := by decide +kernel
theorem dX9_easeOf_33 : decode cX9_easeOf 33 = .ok (.iadd, 1) := by decide +kernel
theorem dX9_easeOf_34 : decode cX9_easeOf 34 = .ok (.istore_n 3, 1) := by decide +kernel
theorem dX9_easeOf_35 : decode cX9_easeOf 35 = .ok (.aload_n 0, 1) := by decide +kernel
theorem dX9_easeOf_36 : decode cX9_easeOf 36 = .ok (.getfield 333, 3) := by decide +kernel
theorem dX9_easeOf_39 : decode cX9_easeOf 39 = .ok (.iload 4, 2) := by decide +kernel
theorem dX9_easeOf_41 : decode cX9_easeOf 41 = .ok (.isub, 1) := by decide +kernel
theorem dX9_easeOf_42 : decode cX9_easeOf 42 = .ok (.istore 5, 2) := by decide +kernel
theorem dX9_easeOf_44 : decode cX9_easeOf 44 = .ok (.aload_n 0, 1) := by decide +kernel
theorem dX9_easeOf_45 : decode cX9_easeOf 45 = .ok (.iload 5, 2) := by decide +kernel
theorem dX9_easeOf_47 : decode cX9_easeOf 47 = .ok (.iload_n 1, 1) := by decide +kernel
theorem dX9_easeOf_48 : decode cX9_easeOf 48 = .ok (.invokevirtual 391, 3) := by decide +kernel
theorem dX9_easeOf_51 : decode cX9_easeOf 51 = .ok (.ifCond .eq 7, 3) := by decide +kernel
theorem dX9_easeOf_54 : decode cX9_easeOf 54 = .ok (.iconst 0, 1) := by decide +kernel
theorem dX9_easeOf_55 : decode cX9_easeOf 55 = .ok (.goto 10, 3) := by decide +kernel
theorem dX9_easeOf_58 : decode cX9_easeOf 58 = .ok (.aload_n 0, 1) := by decide +kernel
theorem dX9_easeOf_59 : decode cX9_easeOf 59 = .ok (.iload 5, 2) := by decide +kernel
theorem dX9_easeOf_61 : decode cX9_easeOf 61 = .ok (.iload_n 1, 1) := by decide +kernel
theorem dX9_easeOf_62 : decode cX9_easeOf 62 = .ok (.invokevirtual 394, 3) := by decide +kernel
theorem dX9_easeOf_65 : decode cX9_easeOf 65 = .ok (.istore 6, 2) := by decide +kernel
theorem dX9_easeOf_67 : decode cX9_easeOf 67 = .ok (.iload 6, 2) := by decide +kernel
theorem dX9_easeOf_69 : decode cX9_easeOf 69 = .ok (.iconst (-1), 1) := by decide +kernel
theorem dX9_easeOf_70 : decode cX9_easeOf 70 = .ok (.if_icmp .eq 30, 3) := by decide +kernel
theorem dX9_easeOf_73 : decode cX9_easeOf 73 = .ok (.iload_n 2, 1) := by decide +kernel
theorem dX9_easeOf_74 : decode cX9_easeOf 74 = .ok (.iconst (-1), 1) := by decide +kernel
theorem dX9_easeOf_75 : decode cX9_easeOf 75 = .ok (.if_icmp .eq 14, 3) := by decide +kernel
theorem dX9_easeOf_78 : decode cX9_easeOf 78 = .ok (.iload_n 3, 1) := by decide +kernel
theorem dX9_easeOf_79 : decode cX9_easeOf 79 = .ok (.iload 6, 2) := by decide +kernel
theorem dX9_easeOf_81 : decode cX9_easeOf 81 = .ok (.iadd, 1) := by decide +kernel
theorem dX9_easeOf_82 : decode cX9_easeOf 82 = .ok (.iload_n 2, 1) := by decide +kernel
theorem dX9_easeOf_83 : decode cX9_easeOf 83 = .ok (.if_icmp .lt 6, 3) := by decide +kernel
theorem dX9_easeOf_86 : decode cX9_easeOf 86 = .ok (.goto 14, 3) := by decide +kernel
theorem dX9_easeOf_89 : decode cX9_easeOf 89 = .ok (.iload_n 3, 1) := by decide +kernel
theorem dX9_easeOf_90 : decode cX9_easeOf 90 = .ok (.iload 6, 2) := by decide +kernel
theorem dX9_easeOf_92 : decode cX9_easeOf 92 = .ok (.iadd, 1) := by decide +kernel
theorem dX9_easeOf_93 : decode cX9_easeOf 93 = .ok (.istore_n 2, 1) := by decide +kernel
theorem dX9_easeOf_94 : decode cX9_easeOf 94 = .ok (.aload_n 0, 1) := by decide +kernel
theorem dX9_easeOf_95 : decode cX9_easeOf 95 = .ok (.iload 4, 2) := by decide +kernel
theorem dX9_easeOf_97 : decode cX9_easeOf 97 = .ok (.putfield 397, 3) := by decide +kernel
theorem dX9_easeOf_100 : decode cX9_easeOf 100 = .ok (.iinc 4 1, 3) := by decide +kernel
theorem dX9_easeOf_103 : decode cX9_easeOf 103 = .ok (.goto (-96), 3) := by decide +kernel
theorem dX9_easeOf_106 : decode cX9_easeOf 106 = .ok (.iload_n 2, 1) := by decide +kernel
theorem dX9_easeOf_107 : decode cX9_easeOf 107 = .ok (.ireturn, 1) := by decide +kernel
theorem dX9_ease_0 : decode cX9_ease 0 = .ok (.aload_n 0, 1) := by decide +kernel
theorem dX9_ease_1 : decode cX9_ease 1 = .ok (.iload_n 1, 1) := by decide +kernel
theorem dX9_ease_2 : decode cX9_ease 2 = .ok (.invokevirtual 388, 3) := by decide +kernel
theorem dX9_ease_5 : decode cX9_ease 5 = .ok (.ifCond .eq 11, 3) := by decide +kernel
theorem dX9_ease_8 : decode cX9_ease 8 = .ok (.aload_n 0, 1) := by decide +kernel
theorem dX9_ease_9 : decode cX9_ease 9 = .ok (.iload_n 1, 1) := by decide +kernel
theorem dX9_ease_10 : decode cX9_ease 10 = .ok (.invokevirtual 400, 3) := by decide +kernel
theorem dX9_ease_13 : decode cX9_ease 13 = .ok (.goto 4, 3) := by decide +kernel
theorem dX9_ease_16 : decode cX9_ease 16 = .ok (.iconst (-1), 1) := by decide +kernel
theorem dX9_ease_17 : decode cX9_ease 17 = .ok (.ireturn, 1) := by decide +kernel
theorem dX9_undone_0 : decode cX9_undone 0 = .ok (.aload_n 0, 1) := by decide +kernel
theorem dX9_undone_1 : decode cX9_undone 1 = .ok (.iload_n 1, 1) := by decide +kernel
theorem dX9_undone_2 : decode cX9_undone 2 = .ok (.invokevirtual 388, 3) := by decide +kernel
theorem dX9_undone_5 : decode cX9_undone 5 = .ok (.ifCond .ne 5, 3) := by decide +kernel
theorem dX9_undone_8 : decode cX9_undone 8 = .ok (.iconst (-1), 1) := by decide +kernel
theorem dX9_undone_9 : decode cX9_undone 9 = .ok (.ireturn, 1) := by decide +kernel
theorem dX9_undone_10 : decode cX9_undone 10 = .ok (.aload_n 0, 1) := by decide +kernel
theorem dX9_undone_11 : decode cX9_undone 11 = .ok (.iload_n 1, 1) := by decide +kernel
theorem dX9_undone_12 : decode cX9_undone 12 = .ok (.invokevirtual 400, 3) := by decide +kernel
theorem dX9_undone_15 : decode cX9_undone 15 = .ok (.istore_n 2, 1) := by decide +kernel
theorem dX9_undone_16 : decode cX9_undone 16 = .ok (.iload_n 2, 1) := by decide +kernel
theorem dX9_undone_17 : decode cX9_undone 17 = .ok (.iconst (-1), 1) := by decide +kernel
theorem dX9_undone_18 : decode cX9_undone 18 = .ok (.if_icmp .ne 7, 3) := by decide +kernel
theorem dX9_undone_21 : decode cX9_undone 21 = .ok (.iconst (-1), 1) := by decide +kernel
theorem dX9_undone_22 : decode cX9_undone 22 = .ok (.goto 7, 3) := by decide +kernel
theorem dX9_undone_25 : decode cX9_undone 25 = .ok (.aload_n 0, 1) := by decide +kernel
theorem dX9_undone_26 : decode cX9_undone 26 = .ok (.getfield 397, 3) := by decide +kernel
theorem dX9_undone_29 : decode cX9_undone 29 = .ok (.ireturn, 1) := by decide +kernel
theorem dX9_forgets_0 : decode cX9_forgets 0 = .ok (.iconst 0, 1) := by decide +kernel
theorem dX9_forgets_1 : decode cX9_forgets 1 = .ok (.istore_n 1, 1) := by decide +kernel
theorem dX9_forgets_2 : decode cX9_forgets 2 = .ok (.iload_n 1, 1) := by decide +kernel
theorem dX9_forgets_3 : decode cX9_forgets 3 = .ok (.bipush 8, 2) := by decide +kernel
theorem dX9_forgets_5 : decode cX9_forgets 5 = .ok (.if_icmp .ge 23, 3) := by decide +kernel
theorem dX9_forgets_8 : decode cX9_forgets 8 = .ok (.aload_n 0, 1) := by decide +kernel
theorem dX9_forgets_9 : decode cX9_forgets 9 = .ok (.getfield 131, 3) := by decide +kernel
theorem dX9_forgets_12 : decode cX9_forgets 12 = .ok (.iload_n 1, 1) := by decide +kernel
theorem dX9_forgets_13 : decode cX9_forgets 13 = .ok (.iconst (-1), 1) := by decide +kernel
theorem dX9_forgets_14 : decode cX9_forgets 14 = .ok (.iastore, 1) := by decide +kernel
theorem dX9_forgets_15 : decode cX9_forgets 15 = .ok (.aload_n 0, 1) := by decide +kernel
theorem dX9_forgets_16 : decode cX9_forgets 16 = .ok (.getfield 134, 3) := by decide +kernel
theorem dX9_forgets_19 : decode cX9_forgets 19 = .ok (.iload_n 1, 1) := by decide +kernel
theorem dX9_forgets_20 : decode cX9_forgets 20 = .ok (.iconst (-1), 1) := by decide +kernel
theorem dX9_forgets_21 : decode cX9_forgets 21 = .ok (.iastore, 1) := by decide +kernel
theorem dX9_forgets_22 : decode cX9_forgets 22 = .ok (.iinc 1 1, 3) := by decide +kernel
theorem dX9_forgets_25 : decode cX9_forgets 25 = .ok (.goto (-23), 3) := by decide +kernel
theorem dX9_forgets_28 : decode cX9_forgets 28 = .ok (.iconst 0, 1) := by decide +kernel
theorem dX9_forgets_29 : decode cX9_forgets 29 = .ok (.istore_n 1, 1) := by decide +kernel
theorem dX9_forgets_30 : decode cX9_forgets 30 = .ok (.iload_n 1, 1) := by decide +kernel
theorem dX9_forgets_31 : decode cX9_forgets 31 = .ok (.bipush 16, 2) := by decide +kernel
theorem dX9_forgets_33 : decode cX9_forgets 33 = .ok (.if_icmp .ge 16, 3) := by decide +kernel
theorem dX9_forgets_36 : decode cX9_forgets 36 = .ok (.aload_n 0, 1) := by decide +kernel
theorem dX9_forgets_37 : decode cX9_forgets 37 = .ok (.getfield 137, 3) := by decide +kernel
theorem dX9_forgets_40 : decode cX9_forgets 40 = .ok (.iload_n 1, 1) := by decide +kernel
theorem dX9_forgets_41 : decode cX9_forgets 41 = .ok (.iconst (-1), 1) := by decide +kernel
theorem dX9_forgets_42 : decode cX9_forgets 42 = .ok (.iastore, 1) := by decide +kernel
theorem dX9_forgets_43 : decode cX9_forgets 43 = .ok (.iinc 1 1, 3) := by decide +kernel
theorem dX9_forgets_46 : decode cX9_forgets 46 = .ok (.goto (-16), 3) := by decide +kernel
theorem dX9_forgets_49 : decode cX9_forgets 49 = .ok (.aload_n 0, 1) := by decide +kernel
theorem dX9_forgets_50 : decode cX9_forgets 50 = .ok (.iconst 0, 1) := by decide +kernel
theorem dX9_forgets_51 : decode cX9_forgets 51 = .ok (.putfield 403, 3) := by decide +kernel
theorem dX9_forgets_54 : decode cX9_forgets 54 = .ok (.return_, 1) := by decide +kernel
theorem dX9_find_0 : decode cX9_find 0 = .ok (.iload_n 1, 1) := by decide +kernel
theorem dX9_find_1 : decode cX9_find 1 = .ok (.ifCond .ne 12, 3) := by decide +kernel
theorem dX9_find_4 : decode cX9_find 4 = .ok (.aload_n 0, 1) := by decide +kernel
theorem dX9_find_5 : decode cX9_find 5 = .ok (.getfield 189, 3) := by decide +kernel
theorem dX9_find_8 : decode cX9_find 8 = .ok (.iconst 1, 1) := by decide +kernel
theorem dX9_find_9 : decode cX9_find 9 = .ok (.isub, 1) := by decide +kernel
theorem dX9_find_10 : decode cX9_find 10 = .ok (.goto 30, 3) := by decide +kernel
theorem dX9_find_13 : decode cX9_find 13 = .ok (.iload_n 1, 1) := by decide +kernel
theorem dX9_find_14 : decode cX9_find 14 = .ok (.iconst 1, 1) := by decide +kernel
theorem dX9_find_15 : decode cX9_find 15 = .ok (.if_icmp .ne 10, 3) := by decide +kernel
theorem dX9_find_18 : decode cX9_find 18 = .ok (.aload_n 0, 1) := by decide +kernel
theorem dX9_find_19 : decode cX9_find 19 = .ok (.getfield 189, 3) := by decide +kernel
theorem dX9_find_22 : decode cX9_find 22 = .ok (.goto 18, 3) := by decide +kernel
theorem dX9_find_25 : decode cX9_find 25 = .ok (.iload_n 1, 1) := by decide +kernel
theorem dX9_find_26 : decode cX9_find 26 = .ok (.iconst 2, 1) := by decide +kernel
theorem dX9_find_27 : decode cX9_find 27 = .ok (.if_icmp .ne 12, 3) := by decide +kernel
theorem dX9_find_30 : decode cX9_find 30 = .ok (.iconst 2, 1) := by decide +kernel
theorem dX9_find_31 : decode cX9_find 31 = .ok (.aload_n 0, 1) := by decide +kernel
theorem dX9_find_32 : decode cX9_find 32 = .ok (.getfield 189, 3) := by decide +kernel
theorem dX9_find_35 : decode cX9_find 35 = .ok (.imul, 1) := by decide +kernel
theorem dX9_find_36 : decode cX9_find 36 = .ok (.goto 4, 3) := by decide +kernel
theorem dX9_find_39 : decode cX9_find 39 = .ok (.iconst 0, 1) := by decide +kernel
theorem dX9_find_40 : decode cX9_find 40 = .ok (.istore 4, 2) := by decide +kernel
theorem dX9_find_42 : decode cX9_find 42 = .ok (.iload_n 2, 1) := by decide +kernel
theorem dX9_find_43 : decode cX9_find 43 = .ok (.ifCond .lt 27, 3) := by decide +kernel
theorem dX9_find_46 : decode cX9_find 46 = .ok (.iload_n 2, 1) := by decide +kernel
theorem dX9_find_47 : decode cX9_find 47 = .ok (.iload 4, 2) := by decide +kernel
theorem dX9_find_49 : decode cX9_find 49 = .ok (.if_icmp .ge 21, 3) := by decide +kernel
theorem dX9_find_52 : decode cX9_find 52 = .ok (.iload_n 3, 1) := by decide +kernel
theorem dX9_find_53 : decode cX9_find 53 = .ok (.iconst (-1), 1) := by decide +kernel
theorem dX9_find_54 : decode cX9_find 54 = .ok (.if_icmp .lt 16, 3) := by decide +kernel
theorem dX9_find_57 : decode cX9_find 57 = .ok (.iload_n 3, 1) := by decide +kernel
theorem dX9_find_58 : decode cX9_find 58 = .ok (.iload_n 1, 1) := by decide +kernel
theorem dX9_find_59 : decode cX9_find 59 = .ok (.ifCond .ne 7, 3) := by decide +kernel
theorem dX9_find_62 : decode cX9_find 62 = .ok (.iconst 3, 1) := by decide +kernel
theorem dX9_find_63 : decode cX9_find 63 = .ok (.goto 4, 3) := by decide +kernel
theorem dX9_find_66 : decode cX9_find 66 = .ok (.iconst 1, 1) := by decide +kernel
theorem dX9_find_67 : decode cX9_find 67 = .ok (.if_icmp .le 5, 3) := by decide +kernel
theorem dX9_find_70 : decode cX9_find 70 = .ok (.iconst 0, 1) := by decide +kernel
theorem dX9_find_71 : decode cX9_find 71 = .ok (.ireturn, 1) := by decide +kernel
theorem dX9_find_72 : decode cX9_find 72 = .ok (.iload_n 1, 1) := by decide +kernel
theorem dX9_find_73 : decode cX9_find 73 = .ok (.ifCond .ne 10, 3) := by decide +kernel
theorem dX9_find_76 : decode cX9_find 76 = .ok (.aload_n 0, 1) := by decide +kernel
theorem dX9_find_77 : decode cX9_find 77 = .ok (.getfield 131, 3) := by decide +kernel
theorem dX9_find_80 : decode cX9_find 80 = .ok (.iload_n 2, 1) := by decide +kernel
theorem dX9_find_81 : decode cX9_find 81 = .ok (.iload_n 3, 1) := by decide +kernel
theorem dX9_find_82 : decode cX9_find 82 = .ok (.iastore, 1) := by decide +kernel
theorem dX9_find_83 : decode cX9_find 83 = .ok (.iload_n 1, 1) := by decide +kernel
theorem dX9_find_84 : decode cX9_find 84 = .ok (.iconst 1, 1) := by decide +kernel
theorem dX9_find_85 : decode cX9_find 85 = .ok (.if_icmp .ne 10, 3) := by decide +kernel
theorem dX9_find_88 : decode cX9_find 88 = .ok (.aload_n 0, 1) := by decide +kernel
theorem dX9_find_89 : decode cX9_find 89 = .ok (.getfield 134, 3) := by decide +kernel
theorem dX9_find_92 : decode cX9_find 92 = .ok (.iload_n 2, 1) := by decide +kernel
theorem dX9_find_93 : decode cX9_find 93 = .ok (.iload_n 3, 1) := by decide +kernel
theorem dX9_find_94 : decode cX9_find 94 = .ok (.iastore, 1) := by decide +kernel
theorem dX9_find_95 : decode cX9_find 95 = .ok (.iload_n 1, 1) := by decide +kernel
theorem dX9_find_96 : decode cX9_find 96 = .ok (.iconst 2, 1) := by decide +kernel
theorem dX9_find_97 : decode cX9_find 97 = .ok (.if_icmp .ne 10, 3) := by decide +kernel
theorem dX9_find_100 : decode cX9_find 100 = .ok (.aload_n 0, 1) := by decide +kernel
theorem dX9_find_101 : decode cX9_find 101 = .ok (.getfield 137, 3) := by decide +kernel
theorem dX9_find_104 : decode cX9_find 104 = .ok (.iload_n 2, 1) := by decide +kernel
theorem dX9_find_105 : decode cX9_find 105 = .ok (.iload_n 3, 1) := by decide +kernel
theorem dX9_find_106 : decode cX9_find 106 = .ok (.iastore, 1) := by decide +kernel
theorem dX9_find_107 : decode cX9_find 107 = .ok (.aload_n 0, 1) := by decide +kernel
theorem dX9_find_108 : decode cX9_find 108 = .ok (.iconst 0, 1) := by decide +kernel
theorem dX9_find_109 : decode cX9_find 109 = .ok (.putfield 403, 3) := by decide +kernel
theorem dX9_find_112 : decode cX9_find 112 = .ok (.iconst 1, 1) := by decide +kernel
theorem dX9_find_113 : decode cX9_find 113 = .ok (.ireturn, 1) := by decide +kernel
theorem dX9_finds_0 : decode cX9_finds 0 = .ok (.aload_n 0, 1) := by decide +kernel
theorem dX9_finds_1 : decode cX9_finds 1 = .ok (.invokevirtual 196, 3) := by decide +kernel
theorem dX9_finds_4 : decode cX9_finds 4 = .ok (.iconst 0, 1) := by decide +kernel
theorem dX9_finds_5 : decode cX9_finds 5 = .ok (.istore_n 1, 1) := by decide +kernel
theorem dX9_finds_6 : decode cX9_finds 6 = .ok (.iload_n 1, 1) := by decide +kernel
theorem dX9_finds_7 : decode cX9_finds 7 = .ok (.iconst 1, 1) := by decide +kernel
theorem dX9_finds_8 : decode cX9_finds 8 = .ok (.iadd, 1) := by decide +kernel
theorem dX9_finds_9 : decode cX9_finds 9 = .ok (.aload_n 0, 1) := by decide +kernel
theorem dX9_finds_10 : decode cX9_finds 10 = .ok (.getfield 189, 3) := by decide +kernel
theorem dX9_finds_13 : decode cX9_finds 13 = .ok (.if_icmp .ge 21, 3) := by decide +kernel
theorem dX9_finds_16 : decode cX9_finds 16 = .ok (.aload_n 0, 1) := by decide +kernel
theorem dX9_finds_17 : decode cX9_finds 17 = .ok (.getfield 131, 3) := by decide +kernel
theorem dX9_finds_20 : decode cX9_finds 20 = .ok (.iload_n 1, 1) := by decide +kernel
theorem dX9_finds_21 : decode cX9_finds 21 = .ok (.aload_n 0, 1) := by decide +kernel
theorem dX9_finds_22 : decode cX9_finds 22 = .ok (.getfield 104, 3) := by decide +kernel
theorem dX9_finds_25 : decode cX9_finds 25 = .ok (.iload_n 1, 1) := by decide +kernel
theorem dX9_finds_26 : decode cX9_finds 26 = .ok (.iaload, 1) := by decide +kernel
theorem dX9_finds_27 : decode cX9_finds 27 = .ok (.iastore, 1) := by decide +kernel
theorem dX9_finds_28 : decode cX9_finds 28 = .ok (.iinc 1 1, 3) := by decide +kernel
theorem dX9_finds_31 : decode cX9_finds 31 = .ok (.goto (-25), 3) := by decide +kernel
theorem dX9_finds_34 : decode cX9_finds 34 = .ok (.iconst 0, 1) := by decide +kernel
theorem dX9_finds_35 : decode cX9_finds 35 = .ok (.istore_n 1, 1) := by decide +kernel
theorem dX9_finds_36 : decode cX9_finds 36 = .ok (.iload_n 1, 1) := by decide +kernel
theorem dX9_finds_37 : decode cX9_finds 37 = .ok (.aload_n 0, 1) := by decide +kernel
theorem dX9_finds_38 : decode cX9_finds 38 = .ok (.getfield 189, 3) := by decide +kernel
theorem dX9_finds_41 : decode cX9_finds 41 = .ok (.if_icmp .ge 29, 3) := by decide +kernel
theorem dX9_finds_44 : decode cX9_finds 44 = .ok (.aload_n 0, 1) := by decide +kernel
theorem dX9_finds_45 : decode cX9_finds 45 = .ok (.getfield 134, 3) := by decide +kernel
theorem dX9_finds_48 : decode cX9_finds 48 = .ok (.iload_n 1, 1) := by decide +kernel
theorem dX9_finds_49 : decode cX9_finds 49 = .ok (.aload_n 0, 1) := by decide +kernel
theorem dX9_finds_50 : decode cX9_finds 50 = .ok (.getfield 107, 3) := by decide +kernel
theorem dX9_finds_53 : decode cX9_finds 53 = .ok (.iload_n 1, 1) := by decide +kernel
theorem dX9_finds_54 : decode cX9_finds 54 = .ok (.iaload, 1) := by decide +kernel
theorem dX9_finds_55 : decode cX9_finds 55 = .ok (.ifCond .le 7, 3) := by decide +kernel
theorem dX9_finds_58 : decode cX9_finds 58 = .ok (.iconst 1, 1) := by decide +kernel
theorem dX9_finds_59 : decode cX9_finds 59 = .ok (.goto 4, 3) := by decide +kernel
theorem dX9_finds_62 : decode cX9_finds 62 = .ok (.iconst 0, 1) := by decide +kernel
theorem dX9_finds_63 : decode cX9_finds 63 = .ok (.iastore, 1) := by decide +kernel
theorem dX9_finds_64 : decode cX9_finds 64 = .ok (.iinc 1 1, 3) := by decide +kernel
theorem dX9_finds_67 : decode cX9_finds 67 = .ok (.goto (-31), 3) := by decide +kernel
theorem dX9_finds_70 : decode cX9_finds 70 = .ok (.iconst 0, 1) := by decide +kernel
theorem dX9_finds_71 : decode cX9_finds 71 = .ok (.istore_n 1, 1) := by decide +kernel
theorem dX9_finds_72 : decode cX9_finds 72 = .ok (.iload_n 1, 1) := by decide +kernel
theorem dX9_finds_73 : decode cX9_finds 73 = .ok (.iconst 2, 1) := by decide +kernel
theorem dX9_finds_74 : decode cX9_finds 74 = .ok (.aload_n 0, 1) := by decide +kernel
theorem dX9_finds_75 : decode cX9_finds 75 = .ok (.getfield 189, 3) := by decide +kernel
theorem dX9_finds_78 : decode cX9_finds 78 = .ok (.imul, 1) := by decide +kernel
theorem dX9_finds_79 : decode cX9_finds 79 = .ok (.if_icmp .ge 29, 3) := by decide +kernel
theorem dX9_finds_82 : decode cX9_finds 82 = .ok (.aload_n 0, 1) := by decide +kernel
theorem dX9_finds_83 : decode cX9_finds 83 = .ok (.getfield 137, 3) := by decide +kernel
theorem dX9_finds_86 : decode cX9_finds 86 = .ok (.iload_n 1, 1) := by decide +kernel
theorem dX9_finds_87 : decode cX9_finds 87 = .ok (.aload_n 0, 1) := by decide +kernel
theorem dX9_finds_88 : decode cX9_finds 88 = .ok (.getfield 113, 3) := by decide +kernel
theorem dX9_finds_91 : decode cX9_finds 91 = .ok (.iload_n 1, 1) := by decide +kernel
theorem dX9_finds_92 : decode cX9_finds 92 = .ok (.baload, 1) := by decide +kernel
theorem dX9_finds_93 : decode cX9_finds 93 = .ok (.ifCond .eq 7, 3) := by decide +kernel
theorem dX9_finds_96 : decode cX9_finds 96 = .ok (.iconst 1, 1) := by decide +kernel
theorem dX9_finds_97 : decode cX9_finds 97 = .ok (.goto 4, 3) := by decide +kernel
theorem dX9_finds_100 : decode cX9_finds 100 = .ok (.iconst 0, 1) := by decide +kernel
theorem dX9_finds_101 : decode cX9_finds 101 = .ok (.iastore, 1) := by decide +kernel
theorem dX9_finds_102 : decode cX9_finds 102 = .ok (.iinc 1 1, 3) := by decide +kernel
theorem dX9_finds_105 : decode cX9_finds 105 = .ok (.goto (-33), 3) := by decide +kernel
theorem dX9_finds_108 : decode cX9_finds 108 = .ok (.return_, 1) := by decide +kernel
theorem dX9_tries_0 : decode cX9_tries 0 = .ok (.aload_n 0, 1) := by decide +kernel
theorem dX9_tries_1 : decode cX9_tries 1 = .ok (.getfield 403, 3) := by decide +kernel
theorem dX9_tries_4 : decode cX9_tries 4 = .ok (.ifCond .eq 4, 3) := by decide +kernel
theorem dX9_tries_7 : decode cX9_tries 7 = .ok (.return_, 1) := by decide +kernel
theorem dX9_tries_8 : decode cX9_tries 8 = .ok (.aload_n 0, 1) := by decide +kernel
theorem dX9_tries_9 : decode cX9_tries 9 = .ok (.iconst 1, 1) := by decide +kernel
theorem dX9_tries_10 : decode cX9_tries 10 = .ok (.putfield 403, 3) := by decide +kernel
theorem dX9_tries_13 : decode cX9_tries 13 = .ok (.aload_n 0, 1) := by decide +kernel
theorem dX9_tries_14 : decode cX9_tries 14 = .ok (.iconst 0, 1) := by decide +kernel
theorem dX9_tries_15 : decode cX9_tries 15 = .ok (.putfield 407, 3) := by decide +kernel
theorem dX9_tries_18 : decode cX9_tries 18 = .ok (.aload_n 0, 1) := by decide +kernel
theorem dX9_tries_19 : decode cX9_tries 19 = .ok (.iconst (-1), 1) := by decide +kernel
theorem dX9_tries_20 : decode cX9_tries 20 = .ok (.putfield 410, 3) := by decide +kernel
theorem dX9_tries_23 : decode cX9_tries 23 = .ok (.aload_n 0, 1) := by decide +kernel
theorem dX9_tries_24 : decode cX9_tries 24 = .ok (.iconst 0, 1) := by decide +kernel
theorem dX9_tries_25 : decode cX9_tries 25 = .ok (.putfield 413, 3) := by decide +kernel
theorem dX9_tries_28 : decode cX9_tries 28 = .ok (.aload_n 0, 1) := by decide +kernel
theorem dX9_tries_29 : decode cX9_tries 29 = .ok (.iconst 0, 1) := by decide +kernel
theorem dX9_tries_30 : decode cX9_tries 30 = .ok (.putfield 416, 3) := by decide +kernel
theorem dX9_tries_33 : decode cX9_tries 33 = .ok (.iconst 0, 1) := by decide +kernel
theorem dX9_tries_34 : decode cX9_tries 34 = .ok (.istore_n 1, 1) := by decide +kernel
theorem dX9_tries_35 : decode cX9_tries 35 = .ok (.iload_n 1, 1) := by decide +kernel
theorem dX9_tries_36 : decode cX9_tries 36 = .ok (.iconst 1, 1) := by decide +kernel
theorem dX9_tries_37 : decode cX9_tries 37 = .ok (.iadd, 1) := by decide +kernel
theorem dX9_tries_38 : decode cX9_tries 38 = .ok (.aload_n 0, 1) := by decide +kernel
theorem dX9_tries_39 : decode cX9_tries 39 = .ok (.getfield 189, 3) := by decide +kernel
theorem dX9_tries_42 : decode cX9_tries 42 = .ok (.if_icmp .ge 55, 3) := by decide +kernel
theorem dX9_tries_45 : decode cX9_tries 45 = .ok (.aload_n 0, 1) := by decide +kernel
theorem dX9_tries_46 : decode cX9_tries 46 = .ok (.getfield 131, 3) := by decide +kernel
theorem dX9_tries_49 : decode cX9_tries 49 = .ok (.iload_n 1, 1) := by decide +kernel
theorem dX9_tries_50 : decode cX9_tries 50 = .ok (.iaload, 1) := by decide +kernel
theorem dX9_tries_51 : decode cX9_tries 51 = .ok (.iconst (-1), 1) := by decide +kernel
theorem dX9_tries_52 : decode cX9_tries 52 = .ok (.if_icmp .ne 6, 3) := by decide +kernel
theorem dX9_tries_55 : decode cX9_tries 55 = .ok (.goto 36, 3) := by decide +kernel
theorem dX9_tries_58 : decode cX9_tries 58 = .ok (.aload_n 0, 1) := by decide +kernel
theorem dX9_tries_59 : decode cX9_tries 59 = .ok (.dup, 1) := by decide +kernel
theorem dX9_tries_60 : decode cX9_tries 60 = .ok (.getfield 413, 3) := by decide +kernel
theorem dX9_tries_63 : decode cX9_tries 63 = .ok (.iconst 3, 1) := by decide +kernel
theorem dX9_tries_64 : decode cX9_tries 64 = .ok (.iconst 2, 1) := by decide +kernel
theorem dX9_tries_65 : decode cX9_tries 65 = .ok (.iload_n 1, 1) := by decide +kernel
theorem dX9_tries_66 : decode cX9_tries 66 = .ok (.imul, 1) := by decide +kernel
theorem dX9_tries_67 : decode cX9_tries 67 = .ok (.ishl, 1) := by decide +kernel
theorem dX9_tries_68 : decode cX9_tries 68 = .ok (.ior, 1) := by decide +kernel
theorem dX9_tries_69 : decode cX9_tries 69 = .ok (.putfield 413, 3) := by decide +kernel
theorem dX9_tries_72 : decode cX9_tries 72 = .ok (.aload_n 0, 1) := by decide +kernel
theorem dX9_tries_73 : decode cX9_tries 73 = .ok (.dup, 1) := by decide +kernel
theorem dX9_tries_74 : decode cX9_tries 74 = .ok (.getfield 416, 3) := by decide +kernel
theorem dX9_tries_77 : decode cX9_tries 77 = .ok (.aload_n 0, 1) := by decide +kernel
theorem dX9_tries_78 : decode cX9_tries 78 = .ok (.getfield 131, 3) := by decide +kernel
theorem dX9_tries_81 : decode cX9_tries 81 = .ok (.iload_n 1, 1) := by decide +kernel
theorem dX9_tries_82 : decode cX9_tries 82 = .ok (.iaload, 1) := by decide +kernel
theorem dX9_tries_83 : decode cX9_tries 83 = .ok (.iconst 2, 1) := by decide +kernel
theorem dX9_tries_84 : decode cX9_tries 84 = .ok (.iload_n 1, 1) := by decide +kernel
theorem dX9_tries_85 : decode cX9_tries 85 = .ok (.imul, 1) := by decide +kernel
theorem dX9_tries_86 : decode cX9_tries 86 = .ok (.ishl, 1) := by decide +kernel
theorem dX9_tries_87 : decode cX9_tries 87 = .ok (.ior, 1) := by decide +kernel
theorem dX9_tries_88 : decode cX9_tries 88 = .ok (.putfield 416, 3) := by decide +kernel
theorem dX9_tries_91 : decode cX9_tries 91 = .ok (.iinc 1 1, 3) := by decide +kernel
theorem dX9_tries_94 : decode cX9_tries 94 = .ok (.goto (-59), 3) := by decide +kernel
theorem dX9_tries_97 : decode cX9_tries 97 = .ok (.iconst 0, 1) := by decide +kernel
theorem dX9_tries_98 : decode cX9_tries 98 = .ok (.istore_n 1, 1) := by decide +kernel
theorem dX9_tries_99 : decode cX9_tries 99 = .ok (.iload_n 1, 1) := by decide +kernel
theorem dX9_tries_100 : decode cX9_tries 100 = .ok (.sipush 16384, 3) := by decide +kernel
theorem dX9_tries_103 : decode cX9_tries 103 = .ok (.if_icmp .ge 16, 3) := by decide +kernel
theorem dX9_tries_106 : decode cX9_tries 106 = .ok (.aload_n 0, 1) := by decide +kernel
theorem dX9_tries_107 : decode cX9_tries 107 = .ok (.getfield 143, 3) := by decide +kernel
theorem dX9_tries_110 : decode cX9_tries 110 = .ok (.iload_n 1, 1) := by decide +kernel
theorem dX9_tries_111 : decode cX9_tries 111 = .ok (.iconst 0, 1) := by decide +kernel
theorem dX9_tries_112 : decode cX9_tries 112 = .ok (.bastore, 1) := by decide +kernel
theorem dX9_tries_113 : decode cX9_tries 113 = .ok (.iinc 1 1, 3) := by decide +kernel
theorem dX9_tries_116 : decode cX9_tries 116 = .ok (.goto (-17), 3) := by decide +kernel
theorem dX9_tries_119 : decode cX9_tries 119 = .ok (.iconst 0, 1) := by decide +kernel
theorem dX9_tries_120 : decode cX9_tries 120 = .ok (.istore_n 1, 1) := by decide +kernel
theorem dX9_tries_121 : decode cX9_tries 121 = .ok (.iload_n 1, 1) := by decide +kernel
theorem dX9_tries_122 : decode cX9_tries 122 = .ok (.iconst 4, 1) := by decide +kernel
theorem dX9_tries_123 : decode cX9_tries 123 = .ok (.if_icmp .ge 14, 3) := by decide +kernel
theorem dX9_tries_126 : decode cX9_tries 126 = .ok (.aload_n 0, 1) := by decide +kernel
theorem dX9_tries_127 : decode cX9_tries 127 = .ok (.iload_n 1, 1) := by decide +kernel
theorem dX9_tries_128 : decode cX9_tries 128 = .ok (.invokevirtual 419, 3) := by decide +kernel
theorem dX9_tries_131 : decode cX9_tries 131 = .ok (.iinc 1 1, 3) := by decide +kernel
theorem dX9_tries_134 : decode cX9_tries 134 = .ok (.goto (-13), 3) := by decide +kernel
theorem dX9_tries_137 : decode cX9_tries 137 = .ok (.return_, 1) := by decide +kernel
theorem dX9_mostLayers_0 : decode cX9_mostLayers 0 = .ok (.iconst 0, 1) := by decide +kernel
theorem dX9_mostLayers_1 : decode cX9_mostLayers 1 = .ok (.istore_n 2, 1) := by decide +kernel
theorem dX9_mostLayers_2 : decode cX9_mostLayers 2 = .ok (.iconst 0, 1) := by decide +kernel
theorem dX9_mostLayers_3 : decode cX9_mostLayers 3 = .ok (.istore_n 3, 1) := by decide +kernel
theorem dX9_mostLayers_4 : decode cX9_mostLayers 4 = .ok (.iload_n 3, 1) := by decide +kernel
theorem dX9_mostLayers_5 : decode cX9_mostLayers 5 = .ok (.aload_n 0, 1) := by decide +kernel
theorem dX9_mostLayers_6 : decode cX9_mostLayers 6 = .ok (.getfield 92, 3) := by decide +kernel
theorem dX9_mostLayers_9 : decode cX9_mostLayers 9 = .ok (.iload_n 1, 1) := by decide +kernel
theorem dX9_mostLayers_10 : decode cX9_mostLayers 10 = .ok (.iaload, 1) := by decide +kernel
theorem dX9_mostLayers_11 : decode cX9_mostLayers 11 = .ok (.if_icmp .ge 26, 3) := by decide +kernel
theorem dX9_mostLayers_14 : decode cX9_mostLayers 14 = .ok (.aload_n 0, 1) := by decide +kernel
theorem dX9_mostLayers_15 : decode cX9_mostLayers 15 = .ok (.iload_n 1, 1) := by decide +kernel
theorem dX9_mostLayers_16 : decode cX9_mostLayers 16 = .ok (.iload_n 3, 1) := by decide +kernel
theorem dX9_mostLayers_17 : decode cX9_mostLayers 17 = .ok (.invokevirtual 309, 3) := by decide +kernel
theorem dX9_mostLayers_20 : decode cX9_mostLayers 20 = .ok (.iload_n 2, 1) := by decide +kernel
theorem dX9_mostLayers_21 : decode cX9_mostLayers 21 = .ok (.if_icmp .le 10, 3) := by decide +kernel
theorem dX9_mostLayers_24 : decode cX9_mostLayers 24 = .ok (.aload_n 0, 1) := by decide +kernel
theorem dX9_mostLayers_25 : decode cX9_mostLayers 25 = .ok (.iload_n 1, 1) := by decide +kernel
theorem dX9_mostLayers_26 : decode cX9_mostLayers 26 = .ok (.iload_n 3, 1) := by decide +kernel
theorem dX9_mostLayers_27 : decode cX9_mostLayers 27 = .ok (.invokevirtual 309, 3) := by decide +kernel
theorem dX9_mostLayers_30 : decode cX9_mostLayers 30 = .ok (.istore_n 2, 1) := by decide +kernel
theorem dX9_mostLayers_31 : decode cX9_mostLayers 31 = .ok (.iinc 3 1, 3) := by decide +kernel
theorem dX9_mostLayers_34 : decode cX9_mostLayers 34 = .ok (.goto (-30), 3) := by decide +kernel
theorem dX9_mostLayers_37 : decode cX9_mostLayers 37 = .ok (.iload_n 2, 1) := by decide +kernel
theorem dX9_mostLayers_38 : decode cX9_mostLayers 38 = .ok (.ireturn, 1) := by decide +kernel
theorem dX9_after_0 : decode cX9_after 0 = .ok (.iload_n 2, 1) := by decide +kernel
theorem dX9_after_1 : decode cX9_after 1 = .ok (.bipush 100, 2) := by decide +kernel
theorem dX9_after_3 : decode cX9_after 3 = .ok (.idiv, 1) := by decide +kernel
theorem dX9_after_4 : decode cX9_after 4 = .ok (.istore_n 3, 1) := by decide +kernel
theorem dX9_after_5 : decode cX9_after 5 = .ok (.iload_n 2, 1) := by decide +kernel
theorem dX9_after_6 : decode cX9_after 6 = .ok (.bipush 10, 2) := by decide +kernel
theorem dX9_after_8 : decode cX9_after 8 = .ok (.idiv, 1) := by decide +kernel
theorem dX9_after_9 : decode cX9_after 9 = .ok (.bipush 10, 2) := by decide +kernel
theorem dX9_after_11 : decode cX9_after 11 = .ok (.irem, 1) := by decide +kernel
theorem dX9_after_12 : decode cX9_after 12 = .ok (.istore 4, 2) := by decide +kernel
theorem dX9_after_14 : decode cX9_after 14 = .ok (.iload_n 2, 1) := by decide +kernel
theorem dX9_after_15 : decode cX9_after 15 = .ok (.bipush 10, 2) := by decide +kernel
theorem dX9_after_17 : decode cX9_after 17 = .ok (.irem, 1) := by decide +kernel
theorem dX9_after_18 : decode cX9_after 18 = .ok (.iconst 1, 1) := by decide +kernel
theorem dX9_after_19 : decode cX9_after 19 = .ok (.iadd, 1) := by decide +kernel
theorem dX9_after_20 : decode cX9_after 20 = .ok (.istore 5, 2) := by decide +kernel
theorem dX9_after_22 : decode cX9_after 22 = .ok (.iload 5, 2) := by decide +kernel
theorem dX9_after_24 : decode cX9_after 24 = .ok (.aload_n 0, 1) := by decide +kernel
theorem dX9_after_25 : decode cX9_after 25 = .ok (.iload_n 1, 1) := by decide +kernel
theorem dX9_after_26 : decode cX9_after 26 = .ok (.invokevirtual 422, 3) := by decide +kernel
theorem dX9_after_29 : decode cX9_after 29 = .ok (.if_icmp .le 15, 3) := by decide +kernel
theorem dX9_after_32 : decode cX9_after 32 = .ok (.iload 5, 2) := by decide +kernel
theorem dX9_after_34 : decode cX9_after 34 = .ok (.iconst 1, 1) := by decide +kernel
theorem dX9_after_35 : decode cX9_after 35 = .ok (.if_icmp .le 9, 3) := by decide +kernel
theorem dX9_after_38 : decode cX9_after 38 = .ok (.iconst 0, 1) := by decide +kernel
theorem dX9_after_39 : decode cX9_after 39 = .ok (.istore 5, 2) := by decide +kernel
theorem dX9_after_41 : decode cX9_after 41 = .ok (.iinc 4 1, 3) := by decide +kernel
theorem dX9_after_44 : decode cX9_after 44 = .ok (.iload 4, 2) := by decide +kernel
theorem dX9_after_46 : decode cX9_after 46 = .ok (.iconst 1, 1) := by decide +kernel
theorem dX9_after_47 : decode cX9_after 47 = .ok (.if_icmp .le 9, 3) := by decide +kernel
theorem dX9_after_50 : decode cX9_after 50 = .ok (.iconst 0, 1) := by decide +kernel
theorem dX9_after_51 : decode cX9_after 51 = .ok (.istore 4, 2) := by decide +kernel
theorem dX9_after_53 : decode cX9_after 53 = .ok (.iinc 3 1, 3) := by decide +kernel
theorem dX9_after_56 : decode cX9_after 56 = .ok (.iload_n 3, 1) := by decide +kernel
theorem dX9_after_57 : decode cX9_after 57 = .ok (.aload_n 0, 1) := by decide +kernel
theorem dX9_after_58 : decode cX9_after 58 = .ok (.getfield 92, 3) := by decide +kernel
theorem dX9_after_61 : decode cX9_after 61 = .ok (.iload_n 1, 1) := by decide +kernel
theorem dX9_after_62 : decode cX9_after 62 = .ok (.iaload, 1) := by decide +kernel
theorem dX9_after_63 : decode cX9_after 63 = .ok (.if_icmp .ge 19, 3) := by decide +kernel
theorem dX9_after_66 : decode cX9_after 66 = .ok (.bipush 100, 2) := by decide +kernel
theorem dX9_after_68 : decode cX9_after 68 = .ok (.iload_n 3, 1) := by decide +kernel
theorem dX9_after_69 : decode cX9_after 69 = .ok (.imul, 1) := by decide +kernel
theorem dX9_after_70 : decode cX9_after 70 = .ok (.bipush 10, 2) := by decide +kernel
theorem dX9_after_72 : decode cX9_after 72 = .ok (.iload 4, 2) := by decide +kernel
theorem dX9_after_74 : decode cX9_after 74 = .ok (.imul, 1) := by decide +kernel
theorem dX9_after_75 : decode cX9_after 75 = .ok (.iadd, 1) := by decide +kernel
theorem dX9_after_76 : decode cX9_after 76 = .ok (.iload 5, 2) := by decide +kernel
theorem dX9_after_78 : decode cX9_after 78 = .ok (.iadd, 1) := by decide +kernel
theorem dX9_after_79 : decode cX9_after 79 = .ok (.goto 4, 3) := by decide +kernel
theorem dX9_after_82 : decode cX9_after 82 = .ok (.iconst 0, 1) := by decide +kernel
theorem dX9_after_83 : decode cX9_after 83 = .ok (.ireturn, 1) := by decide +kernel
theorem dX9_goesThrough_0 : decode cX9_goesThrough 0 = .ok (.aload_n 0, 1) := by decide +kernel
theorem dX9_goesThrough_1 : decode cX9_goesThrough 1 = .ok (.bipush 17, 2) := by decide +kernel
theorem dX9_goesThrough_3 : decode cX9_goesThrough 3 = .ok (.invokevirtual 192, 3) := by decide +kernel
theorem dX9_goesThrough_6 : decode cX9_goesThrough 6 = .ok (.aload_n 0, 1) := by decide +kernel
theorem dX9_goesThrough_7 : decode cX9_goesThrough 7 = .ok (.getfield 146, 3) := by decide +kernel
theorem dX9_goesThrough_10 : decode cX9_goesThrough 10 = .ok (.iconst 0, 1) := by decide +kernel
theorem dX9_goesThrough_11 : decode cX9_goesThrough 11 = .ok (.iconst 0, 1) := by decide +kernel
theorem dX9_goesThrough_12 : decode cX9_goesThrough 12 = .ok (.iastore, 1) := by decide +kernel
theorem dX9_goesThrough_13 : decode cX9_goesThrough 13 = .ok (.iconst 0, 1) := by decide +kernel
theorem dX9_goesThrough_14 : decode cX9_goesThrough 14 = .ok (.istore_n 2, 1) := by decide +kernel
theorem dX9_goesThrough_15 : decode cX9_goesThrough 15 = .ok (.aload_n 0, 1) := by decide +kernel
theorem dX9_goesThrough_16 : decode cX9_goesThrough 16 = .ok (.iload_n 1, 1) := by decide +kernel
theorem dX9_goesThrough_17 : decode cX9_goesThrough 17 = .ok (.putfield 425, 3) := by decide +kernel
theorem dX9_goesThrough_20 : decode cX9_goesThrough 20 = .ok (.iload_n 1, 1) := by decide +kernel
theorem dX9_goesThrough_21 : decode cX9_goesThrough 21 = .ok (.ifCond .ne 11, 3) := by decide +kernel
theorem dX9_goesThrough_24 : decode cX9_goesThrough 24 = .ok (.aload_n 0, 1) := by decide +kernel
theorem dX9_goesThrough_25 : decode cX9_goesThrough 25 = .ok (.bipush 17, 2) := by decide +kernel
theorem dX9_goesThrough_27 : decode cX9_goesThrough 27 = .ok (.iconst 0, 1) := by decide +kernel
theorem dX9_goesThrough_28 : decode cX9_goesThrough 28 = .ok (.invokevirtual 428, 3) := by decide +kernel
theorem dX9_goesThrough_31 : decode cX9_goesThrough 31 = .ok (.return_, 1) := by decide +kernel
theorem dX9_goesThrough_32 : decode cX9_goesThrough 32 = .ok (.aload_n 0, 1) := by decide +kernel
theorem dX9_goesThrough_33 : decode cX9_goesThrough 33 = .ok (.getfield 149, 3) := by decide +kernel
theorem dX9_goesThrough_36 : decode cX9_goesThrough 36 = .ok (.iconst 0, 1) := by decide +kernel
theorem dX9_goesThrough_37 : decode cX9_goesThrough 37 = .ok (.aload_n 0, 1) := by decide +kernel
theorem dX9_goesThrough_38 : decode cX9_goesThrough 38 = .ok (.getfield 92, 3) := by decide +kernel
theorem dX9_goesThrough_41 : decode cX9_goesThrough 41 = .ok (.bipush 17, 2) := by decide +kernel
theorem dX9_goesThrough_43 : decode cX9_goesThrough 43 = .ok (.iaload, 1) := by decide +kernel
theorem dX9_goesThrough_44 : decode cX9_goesThrough 44 = .ok (.iconst 1, 1) := by decide +kernel
theorem dX9_goesThrough_45 : decode cX9_goesThrough 45 = .ok (.if_icmp .le 8, 3) := by decide +kernel
theorem dX9_goesThrough_48 : decode cX9_goesThrough 48 = .ok (.bipush 99, 2) := by decide +kernel
theorem dX9_goesThrough_50 : decode cX9_goesThrough 50 = .ok (.goto 4, 3) := by decide +kernel
theorem dX9_goesThrough_53 : decode cX9_goesThrough 53 = .ok (.iconst 0, 1) := by decide +kernel
theorem dX9_goesThrough_54 : decode cX9_goesThrough 54 = .ok (.iastore, 1) := by decide +kernel
theorem dX9_goesThrough_55 : decode cX9_goesThrough 55 = .ok (.iload_n 2, 1) := by decide +kernel
theorem dX9_goesThrough_56 : decode cX9_goesThrough 56 = .ok (.ifCond .lt 203, 3) := by decide +kernel
theorem dX9_goesThrough_59 : decode cX9_goesThrough 59 = .ok (.bipush 17, 2) := by decide +kernel
theorem dX9_goesThrough_61 : decode cX9_goesThrough 61 = .ok (.iload_n 2, 1) := by decide +kernel
theorem dX9_goesThrough_62 : decode cX9_goesThrough 62 = .ok (.iadd, 1) := by decide +kernel
theorem dX9_goesThrough_63 : decode cX9_goesThrough 63 = .ok (.istore_n 3, 1) := by decide +kernel
theorem dX9_goesThrough_64 : decode cX9_goesThrough 64 = .ok (.aload_n 0, 1) := by decide +kernel
theorem dX9_goesThrough_65 : decode cX9_goesThrough 65 = .ok (.getfield 149, 3) := by decide +kernel
theorem dX9_goesThrough_68 : decode cX9_goesThrough 68 = .ok (.iload_n 2, 1) := by decide +kernel
theorem dX9_goesThrough_69 : decode cX9_goesThrough 69 = .ok (.iaload, 1) := by decide +kernel
theorem dX9_goesThrough_70 : decode cX9_goesThrough 70 = .ok (.bipush 99, 2) := by decide +kernel
theorem dX9_goesThrough_72 : decode cX9_goesThrough 72 = .ok (.if_icmp .ne 8, 3) := by decide +kernel
theorem dX9_goesThrough_75 : decode cX9_goesThrough 75 = .ok (.bipush 100, 2) := by decide +kernel
theorem dX9_goesThrough_77 : decode cX9_goesThrough 77 = .ok (.goto 14, 3) := by decide +kernel
theorem dX9_goesThrough_80 : decode cX9_goesThrough 80 = .ok (.aload_n 0, 1) := by decide +kernel
theorem dX9_goesThrough_81 : decode cX9_goesThrough 81 = .ok (.iload_n 3, 1) := by decide +kernel
theorem dX9_goesThrough_82 : decode cX9_goesThrough 82 = .ok (.aload_n 0, 1) := by decide +kernel
theorem dX9_goesThrough_83 : decode cX9_goesThrough 83 = .ok (.getfield 149, 3) := by decide +kernel
theorem dX9_goesThrough_86 : decode cX9_goesThrough 86 = .ok (.iload_n 2, 1) := by decide +kernel
theorem dX9_goesThrough_87 : decode cX9_goesThrough 87 = .ok (.iaload, 1) := by decide +kernel
theorem dX9_goesThrough_88 : decode cX9_goesThrough 88 = .ok (.invokevirtual 431, 3) := by decide +kernel
theorem dX9_goesThrough_91 : decode cX9_goesThrough 91 = .ok (.istore 4, 2) := by decide +kernel
theorem dX9_goesThrough_93 : decode cX9_goesThrough 93 = .ok (.iload 4, 2) := by decide +kernel
theorem dX9_goesThrough_95 : decode cX9_goesThrough 95 = .ok (.ifCond .eq 13, 3) := by decide +kernel
theorem dX9_goesThrough_98 : decode cX9_goesThrough 98 = .ok (.aload_n 0, 1) := by decide +kernel
theorem dX9_goesThrough_99 : decode cX9_goesThrough 99 = .ok (.getfield 92, 3) := by decide +kernel
theorem dX9_goesThrough_102 : decode cX9_goesThrough 102 = .ok (.iload_n 3, 1) := by decide +kernel
theorem dX9_goesThrough_103 : decode cX9_goesThrough 103 = .ok (.iaload, 1) := by decide +kernel
theorem dX9_goesThrough_104 : decode cX9_goesThrough 104 = .ok (.iconst 2, 1) := by decide +kernel
theorem dX9_goesThrough_105 : decode cX9_goesThrough 105 = .ok (.if_icmp .ge 9, 3) := by decide +kernel
theorem dX9_goesThrough_108 : decode cX9_goesThrough 108 = .ok (.iinc 2 (-1), 3) := by decide +kernel
theorem dX9_goesThrough_111 : decode cX9_goesThrough 111 = .ok (.goto (-56), 3) := by decide +kernel
theorem dX9_goesThrough_114 : decode cX9_goesThrough 114 = .ok (.aload_n 0, 1) := by decide +kernel
theorem dX9_goesThrough_115 : decode cX9_goesThrough 115 = .ok (.getfield 149, 3) := by decide +kernel
theorem dX9_goesThrough_118 : decode cX9_goesThrough 118 = .ok (.iload_n 2, 1) := by decide +kernel
theorem dX9_goesThrough_119 : decode cX9_goesThrough 119 = .ok (.iload 4, 2) := by decide +kernel
theorem dX9_goesThrough_121 : decode cX9_goesThrough 121 = .ok (.iastore, 1) := by decide +kernel
theorem dX9_goesThrough_122 : decode cX9_goesThrough 122 = .ok (.iload 4, 2) := by decide +kernel
theorem dX9_goesThrough_124 : decode cX9_goesThrough 124 = .ok (.bipush 10, 2) := by decide +kernel
theorem dX9_goesThrough_126 : decode cX9_goesThrough 126 = .ok (.irem, 1) := by decide +kernel
theorem dX9_goesThrough_127 : decode cX9_goesThrough 127 = .ok (.istore 5, 2) := by decide +kernel
theorem dX9_goesThrough_129 : decode cX9_goesThrough 129 = .ok (.aload_n 0, 1) := by decide +kernel
theorem dX9_goesThrough_130 : decode cX9_goesThrough 130 = .ok (.getfield 146, 3) := by decide +kernel
theorem dX9_goesThrough_133 : decode cX9_goesThrough 133 = .ok (.iload_n 2, 1) := by decide +kernel
theorem dX9_goesThrough_134 : decode cX9_goesThrough 134 = .ok (.iaload, 1) := by decide +kernel
theorem dX9_goesThrough_135 : decode cX9_goesThrough 135 = .ok (.aload_n 0, 1) := by decide +kernel
theorem dX9_goesThrough_136 : decode cX9_goesThrough 136 = .ok (.iload_n 3, 1) := by decide +kernel
theorem dX9_goesThrough_137 : decode cX9_goesThrough 137 = .ok (.iload_n 3, 1) := by decide +kernel
theorem dX9_goesThrough_138 : decode cX9_goesThrough 138 = .ok (.iconst 1, 1) := by decide +kernel
theorem dX9_goesThrough_139 : decode cX9_goesThrough 139 = .ok (.iadd, 1) := by decide +kernel
theorem dX9_goesThrough_140 : decode cX9_goesThrough 140 = .ok (.iload 4, 2) := by decide +kernel
theorem dX9_goesThrough_142 : decode cX9_goesThrough 142 = .ok (.bipush 100, 2) := by decide +kernel
theorem dX9_goesThrough_144 : decode cX9_goesThrough 144 = .ok (.idiv, 1) := by decide +kernel
theorem dX9_goesThrough_145 : decode cX9_goesThrough 145 = .ok (.iload 4, 2) := by decide +kernel
theorem dX9_goesThrough_147 : decode cX9_goesThrough 147 = .ok (.bipush 10, 2) := by decide +kernel
theorem dX9_goesThrough_149 : decode cX9_goesThrough 149 = .ok (.idiv, 1) := by decide +kernel
theorem dX9_goesThrough_150 : decode cX9_goesThrough 150 = .ok (.bipush 10, 2) := by decide +kernel
theorem dX9_goesThrough_152 : decode cX9_goesThrough 152 = .ok (.irem, 1) := by decide +kernel
theorem dX9_goesThrough_153 : decode cX9_goesThrough 153 = .ok (.ifCond .ne 7, 3) := by decide +kernel
theorem dX9_goesThrough_156 : decode cX9_goesThrough 156 = .ok (.iconst 1, 1) := by decide +kernel
theorem dX9_goesThrough_157 : decode cX9_goesThrough 157 = .ok (.goto 4, 3) := by decide +kernel
theorem dX9_goesThrough_160 : decode cX9_goesThrough 160 = .ok (.iconst 0, 1) := by decide +kernel
theorem dX9_goesThrough_161 : decode cX9_goesThrough 161 = .ok (.iload 5, 2) := by decide +kernel
theorem dX9_goesThrough_163 : decode cX9_goesThrough 163 = .ok (.iconst 2, 1) := by decide +kernel
theorem dX9_goesThrough_164 : decode cX9_goesThrough 164 = .ok (.if_icmp .ge 8, 3) := by decide +kernel
theorem dX9_goesThrough_167 : decode cX9_goesThrough 167 = .ok (.iload 5, 2) := by decide +kernel
theorem dX9_goesThrough_169 : decode cX9_goesThrough 169 = .ok (.goto 7, 3) := by decide +kernel
theorem dX9_goesThrough_172 : decode cX9_goesThrough 172 = .ok (.iload 5, 2) := by decide +kernel
theorem dX9_goesThrough_174 : decode cX9_goesThrough 174 = .ok (.iconst 1, 1) := by decide +kernel
theorem dX9_goesThrough_175 : decode cX9_goesThrough 175 = .ok (.iadd, 1) := by decide +kernel
theorem dX9_goesThrough_176 : decode cX9_goesThrough 176 = .ok (.invokevirtual 336, 3) := by decide +kernel
theorem dX9_goesThrough_179 : decode cX9_goesThrough 179 = .ok (.ior, 1) := by decide +kernel
theorem dX9_goesThrough_180 : decode cX9_goesThrough 180 = .ok (.istore 6, 2) := by decide +kernel
theorem dX9_goesThrough_182 : decode cX9_goesThrough 182 = .ok (.iload 5, 2) := by decide +kernel
theorem dX9_goesThrough_184 : decode cX9_goesThrough 184 = .ok (.iconst 1, 1) := by decide +kernel
theorem dX9_goesThrough_185 : decode cX9_goesThrough 185 = .ok (.if_icmp .le 13, 3) := by decide +kernel
theorem dX9_goesThrough_188 : decode cX9_goesThrough 188 = .ok (.aload_n 0, 1) := by decide +kernel
theorem dX9_goesThrough_189 : decode cX9_goesThrough 189 = .ok (.iload_n 3, 1) := by decide +kernel
theorem dX9_goesThrough_190 : decode cX9_goesThrough 190 = .ok (.iconst 1, 1) := by decide +kernel
theorem dX9_goesThrough_191 : decode cX9_goesThrough 191 = .ok (.iadd, 1) := by decide +kernel
theorem dX9_goesThrough_192 : decode cX9_goesThrough 192 = .ok (.invokevirtual 351, 3) := by decide +kernel
theorem dX9_goesThrough_195 : decode cX9_goesThrough 195 = .ok (.ifCond .eq (-140), 3) := by decide +kernel
theorem dX9_goesThrough_198 : decode cX9_goesThrough 198 = .ok (.iload 6, 2) := by decide +kernel
theorem dX9_goesThrough_200 : decode cX9_goesThrough 200 = .ok (.aload_n 0, 1) := by decide +kernel
theorem dX9_goesThrough_201 : decode cX9_goesThrough 201 = .ok (.getfield 413, 3) := by decide +kernel
theorem dX9_goesThrough_204 : decode cX9_goesThrough 204 = .ok (.iand, 1) := by decide +kernel
theorem dX9_goesThrough_205 : decode cX9_goesThrough 205 = .ok (.aload_n 0, 1) := by decide +kernel
theorem dX9_goesThrough_206 : decode cX9_goesThrough 206 = .ok (.getfield 416, 3) := by decide +kernel
theorem dX9_goesThrough_209 : decode cX9_goesThrough 209 = .ok (.iconst (-1), 1) := by decide +kernel
theorem dX9_goesThrough_210 : decode cX9_goesThrough 210 = .ok (.ixor, 1) := by decide +kernel
theorem dX9_goesThrough_211 : decode cX9_goesThrough 211 = .ok (.iand, 1) := by decide +kernel
theorem dX9_goesThrough_212 : decode cX9_goesThrough 212 = .ok (.ifCond .eq 6, 3) := by decide +kernel
theorem dX9_goesThrough_215 : decode cX9_goesThrough 215 = .ok (.goto (-160), 3) := by decide +kernel
theorem dX9_goesThrough_218 : decode cX9_goesThrough 218 = .ok (.iload_n 2, 1) := by decide +kernel
theorem dX9_goesThrough_219 : decode cX9_goesThrough 219 = .ok (.iconst 1, 1) := by decide +kernel
theorem dX9_goesThrough_220 : decode cX9_goesThrough 220 = .ok (.iadd, 1) := by decide +kernel
theorem dX9_goesThrough_221 : decode cX9_goesThrough 221 = .ok (.iload_n 1, 1) := by decide +kernel
theorem dX9_goesThrough_222 : decode cX9_goesThrough 222 = .ok (.if_icmp .ne 15, 3) := by decide +kernel
theorem dX9_goesThrough_225 : decode cX9_goesThrough 225 = .ok (.aload_n 0, 1) := by decide +kernel
theorem dX9_goesThrough_226 : decode cX9_goesThrough 226 = .ok (.iload_n 3, 1) := by decide +kernel
theorem dX9_goesThrough_227 : decode cX9_goesThrough 227 = .ok (.iconst 1, 1) := by decide +kernel
theorem dX9_goesThrough_228 : decode cX9_goesThrough 228 = .ok (.iadd, 1) := by decide +kernel
theorem dX9_goesThrough_229 : decode cX9_goesThrough 229 = .ok (.iload 6, 2) := by decide +kernel
theorem dX9_goesThrough_231 : decode cX9_goesThrough 231 = .ok (.invokevirtual 428, 3) := by decide +kernel
theorem dX9_goesThrough_234 : decode cX9_goesThrough 234 = .ok (.goto (-179), 3) := by decide +kernel
theorem dX9_goesThrough_237 : decode cX9_goesThrough 237 = .ok (.iinc 2 1, 3) := by decide +kernel
theorem dX9_goesThrough_240 : decode cX9_goesThrough 240 = .ok (.aload_n 0, 1) := by decide +kernel
theorem dX9_goesThrough_241 : decode cX9_goesThrough 241 = .ok (.getfield 146, 3) := by decide +kernel
theorem dX9_goesThrough_244 : decode cX9_goesThrough 244 = .ok (.iload_n 2, 1) := by decide +kernel
theorem dX9_goesThrough_245 : decode cX9_goesThrough 245 = .ok (.iload 6, 2) := by decide +kernel
theorem dX9_goesThrough_247 : decode cX9_goesThrough 247 = .ok (.iastore, 1) := by decide +kernel
theorem dX9_goesThrough_248 : decode cX9_goesThrough 248 = .ok (.aload_n 0, 1) := by decide +kernel
theorem dX9_goesThrough_249 : decode cX9_goesThrough 249 = .ok (.getfield 149, 3) := by decide +kernel
theorem dX9_goesThrough_252 : decode cX9_goesThrough 252 = .ok (.iload_n 2, 1) := by decide +kernel
theorem dX9_goesThrough_253 : decode cX9_goesThrough 253 = .ok (.bipush 99, 2) := by decide +kernel
theorem dX9_goesThrough_255 : decode cX9_goesThrough 255 = .ok (.iastore, 1) := by decide +kernel
theorem dX9_goesThrough_256 : decode cX9_goesThrough 256 = .ok (.goto (-201), 3) := by decide +kernel
theorem dX9_goesThrough_259 : decode cX9_goesThrough 259 = .ok (.return_, 1) := by decide +kernel
theorem dX9_rowEnds_0 : decode cX9_rowEnds 0 = .ok (.aload_n 0, 1) := by decide +kernel
theorem dX9_rowEnds_1 : decode cX9_rowEnds 1 = .ok (.getfield 143, 3) := by decide +kernel
theorem dX9_rowEnds_4 : decode cX9_rowEnds 4 = .ok (.iload_n 2, 1) := by decide +kernel
theorem dX9_rowEnds_5 : decode cX9_rowEnds 5 = .ok (.iconst 1, 1) := by decide +kernel
theorem dX9_rowEnds_6 : decode cX9_rowEnds 6 = .ok (.bastore, 1) := by decide +kernel
theorem dX9_rowEnds_7 : decode cX9_rowEnds 7 = .ok (.iload_n 2, 1) := by decide +kernel
theorem dX9_rowEnds_8 : decode cX9_rowEnds 8 = .ok (.aload_n 0, 1) := by decide +kernel
theorem dX9_rowEnds_9 : decode cX9_rowEnds 9 = .ok (.getfield 413, 3) := by decide +kernel
theorem dX9_rowEnds_12 : decode cX9_rowEnds 12 = .ok (.iand, 1) := by decide +kernel
theorem dX9_rowEnds_13 : decode cX9_rowEnds 13 = .ok (.aload_n 0, 1) := by decide +kernel
theorem dX9_rowEnds_14 : decode cX9_rowEnds 14 = .ok (.getfield 416, 3) := by decide +kernel
theorem dX9_rowEnds_17 : decode cX9_rowEnds 17 = .ok (.if_icmp .eq 4, 3) := by decide +kernel
theorem dX9_rowEnds_20 : decode cX9_rowEnds 20 = .ok (.return_, 1) := by decide +kernel
theorem dX9_rowEnds_21 : decode cX9_rowEnds 21 = .ok (.aload_n 0, 1) := by decide +kernel
theorem dX9_rowEnds_22 : decode cX9_rowEnds 22 = .ok (.iload_n 1, 1) := by decide +kernel
theorem dX9_rowEnds_23 : decode cX9_rowEnds 23 = .ok (.invokevirtual 366, 3) := by decide +kernel
theorem dX9_rowEnds_26 : decode cX9_rowEnds 26 = .ok (.istore_n 3, 1) := by decide +kernel
theorem dX9_rowEnds_27 : decode cX9_rowEnds 27 = .ok (.aload_n 0, 1) := by decide +kernel
theorem dX9_rowEnds_28 : decode cX9_rowEnds 28 = .ok (.iconst 0, 1) := by decide +kernel
theorem dX9_rowEnds_29 : decode cX9_rowEnds 29 = .ok (.iconst 0, 1) := by decide +kernel
theorem dX9_rowEnds_30 : decode cX9_rowEnds 30 = .ok (.iconst 0, 1) := by decide +kernel
theorem dX9_rowEnds_31 : decode cX9_rowEnds 31 = .ok (.iconst 0, 1) := by decide +kernel
theorem dX9_rowEnds_32 : decode cX9_rowEnds 32 = .ok (.invokevirtual 434, 3) := by decide +kernel
theorem dX9_rowEnds_35 : decode cX9_rowEnds 35 = .ok (.aload_n 0, 1) := by decide +kernel
theorem dX9_rowEnds_36 : decode cX9_rowEnds 36 = .ok (.iconst 0, 1) := by decide +kernel
theorem dX9_rowEnds_37 : decode cX9_rowEnds 37 = .ok (.iconst 0, 1) := by decide +kernel
theorem dX9_rowEnds_38 : decode cX9_rowEnds 38 = .ok (.sipush 2000, 3) := by decide +kernel
theorem dX9_rowEnds_41 : decode cX9_rowEnds 41 = .ok (.iload_n 3, 1) := by decide +kernel
theorem dX9_rowEnds_42 : decode cX9_rowEnds 42 = .ok (.invokevirtual 434, 3) := by decide +kernel
theorem dX9_rowEnds_45 : decode cX9_rowEnds 45 = .ok (.iconst 0, 1) := by decide +kernel
theorem dX9_rowEnds_46 : decode cX9_rowEnds 46 = .ok (.istore 4, 2) := by decide +kernel
theorem dX9_rowEnds_48 : decode cX9_rowEnds 48 = .ok (.iload 4, 2) := by decide +kernel
theorem dX9_rowEnds_50 : decode cX9_rowEnds 50 = .ok (.aload_n 0, 1) := by decide +kernel
theorem dX9_rowEnds_51 : decode cX9_rowEnds 51 = .ok (.getfield 92, 3) := by decide +kernel
theorem dX9_rowEnds_54 : decode cX9_rowEnds 54 = .ok (.iload_n 1, 1) := by decide +kernel
theorem dX9_rowEnds_55 : decode cX9_rowEnds 55 = .ok (.iaload, 1) := by decide +kernel
theorem dX9_rowEnds_56 : decode cX9_rowEnds 56 = .ok (.if_icmp .ge 83, 3) := by decide +kernel
theorem dX9_rowEnds_59 : decode cX9_rowEnds 59 = .ok (.iconst 1, 1) := by decide +kernel
theorem dX9_rowEnds_60 : decode cX9_rowEnds 60 = .ok (.istore 5, 2) := by decide +kernel
theorem dX9_rowEnds_62 : decode cX9_rowEnds 62 = .ok (.iload 5, 2) := by decide +kernel
theorem dX9_rowEnds_64 : decode cX9_rowEnds 64 = .ok (.aload_n 0, 1) := by decide +kernel
theorem dX9_rowEnds_65 : decode cX9_rowEnds 65 = .ok (.iload_n 1, 1) := by decide +kernel
theorem dX9_rowEnds_66 : decode cX9_rowEnds 66 = .ok (.iload 4, 2) := by decide +kernel
theorem dX9_rowEnds_68 : decode cX9_rowEnds 68 = .ok (.invokevirtual 309, 3) := by decide +kernel
theorem dX9_rowEnds_71 : decode cX9_rowEnds 71 = .ok (.if_icmp .gt 62, 3) := by decide +kernel
theorem dX9_rowEnds_74 : decode cX9_rowEnds 74 = .ok (.aload_n 0, 1) := by decide +kernel
theorem dX9_rowEnds_75 : decode cX9_rowEnds 75 = .ok (.iload_n 1, 1) := by decide +kernel
theorem dX9_rowEnds_76 : decode cX9_rowEnds 76 = .ok (.iload 4, 2) := by decide +kernel
theorem dX9_rowEnds_78 : decode cX9_rowEnds 78 = .ok (.iload 5, 2) := by decide +kernel
theorem dX9_rowEnds_80 : decode cX9_rowEnds 80 = .ok (.invokevirtual 360, 3) := by decide +kernel
theorem dX9_rowEnds_83 : decode cX9_rowEnds 83 = .ok (.istore 6, 2) := by decide +kernel
theorem dX9_rowEnds_85 : decode cX9_rowEnds 85 = .ok (.aload_n 0, 1) := by decide +kernel
theorem dX9_rowEnds_86 : decode cX9_rowEnds 86 = .ok (.sipush 1000, 3) := by decide +kernel
theorem dX9_rowEnds_89 : decode cX9_rowEnds 89 = .ok (.bipush 10, 2) := by decide +kernel
theorem dX9_rowEnds_91 : decode cX9_rowEnds 91 = .ok (.iload 4, 2) := by decide +kernel
theorem dX9_rowEnds_93 : decode cX9_rowEnds 93 = .ok (.imul, 1) := by decide +kernel
theorem dX9_rowEnds_94 : decode cX9_rowEnds 94 = .ok (.iadd, 1) := by decide +kernel
theorem dX9_rowEnds_95 : decode cX9_rowEnds 95 = .ok (.iload 5, 2) := by decide +kernel
theorem dX9_rowEnds_97 : decode cX9_rowEnds 97 = .ok (.iadd, 1) := by decide +kernel
theorem dX9_rowEnds_98 : decode cX9_rowEnds 98 = .ok (.iload 6, 2) := by decide +kernel
theorem dX9_rowEnds_100 : decode cX9_rowEnds 100 = .ok (.iconst 0, 1) := by decide +kernel
theorem dX9_rowEnds_101 : decode cX9_rowEnds 101 = .ok (.iconst 0, 1) := by decide +kernel
theorem dX9_rowEnds_102 : decode cX9_rowEnds 102 = .ok (.invokevirtual 434, 3) := by decide +kernel
theorem dX9_rowEnds_105 : decode cX9_rowEnds 105 = .ok (.aload_n 0, 1) := by decide +kernel
theorem dX9_rowEnds_106 : decode cX9_rowEnds 106 = .ok (.sipush 1000, 3) := by decide +kernel
theorem dX9_rowEnds_109 : decode cX9_rowEnds 109 = .ok (.bipush 10, 2) := by decide +kernel
theorem dX9_rowEnds_111 : decode cX9_rowEnds 111 = .ok (.iload 4, 2) := by decide +kernel
theorem dX9_rowEnds_113 : decode cX9_rowEnds 113 = .ok (.imul, 1) := by decide +kernel
theorem dX9_rowEnds_114 : decode cX9_rowEnds 114 = .ok (.iadd, 1) := by decide +kernel
theorem dX9_rowEnds_115 : decode cX9_rowEnds 115 = .ok (.iload 5, 2) := by decide +kernel
theorem dX9_rowEnds_117 : decode cX9_rowEnds 117 = .ok (.iadd, 1) := by decide +kernel
theorem dX9_rowEnds_118 : decode cX9_rowEnds 118 = .ok (.iload 6, 2) := by decide +kernel
theorem dX9_rowEnds_120 : decode cX9_rowEnds 120 = .ok (.sipush 2000, 3) := by decide +kernel
theorem dX9_rowEnds_123 : decode cX9_rowEnds 123 = .ok (.iload_n 3, 1) := by decide +kernel
theorem dX9_rowEnds_124 : decode cX9_rowEnds 124 = .ok (.invokevirtual 434, 3) := by decide +kernel
theorem dX9_rowEnds_127 : decode cX9_rowEnds 127 = .ok (.iinc 5 1, 3) := by decide +kernel
theorem dX9_rowEnds_130 : decode cX9_rowEnds 130 = .ok (.goto (-68), 3) := by decide +kernel
theorem dX9_rowEnds_133 : decode cX9_rowEnds 133 = .ok (.iinc 4 1, 3) := by decide +kernel
theorem dX9_rowEnds_136 : decode cX9_rowEnds 136 = .ok (.goto (-88), 3) := by decide +kernel
theorem dX9_rowEnds_139 : decode cX9_rowEnds 139 = .ok (.return_, 1) := by decide +kernel
theorem dX9_fits_0 : decode cX9_fits 0 = .ok (.iconst 0, 1) := by decide +kernel
theorem dX9_fits_1 : decode cX9_fits 1 = .ok (.istore 5, 2) := by decide +kernel
theorem dX9_fits_3 : decode cX9_fits 3 = .ok (.iload 5, 2) := by decide +kernel
theorem dX9_fits_5 : decode cX9_fits 5 = .ok (.aload_n 0, 1) := by decide +kernel
theorem dX9_fits_6 : decode cX9_fits 6 = .ok (.getfield 189, 3) := by decide +kernel
theorem dX9_fits_9 : decode cX9_fits 9 = .ok (.if_icmp .ge 37, 3) := by decide +kernel
theorem dX9_fits_12 : decode cX9_fits 12 = .ok (.aload_n 0, 1) := by decide +kernel
theorem dX9_fits_13 : decode cX9_fits 13 = .ok (.getfield 134, 3) := by decide +kernel
theorem dX9_fits_16 : decode cX9_fits 16 = .ok (.iload 5, 2) := by decide +kernel
theorem dX9_fits_18 : decode cX9_fits 18 = .ok (.iaload, 1) := by decide +kernel
theorem dX9_fits_19 : decode cX9_fits 19 = .ok (.iconst (-1), 1) := by decide +kernel
theorem dX9_fits_20 : decode cX9_fits 20 = .ok (.if_icmp .eq 20, 3) := by decide +kernel
theorem dX9_fits_23 : decode cX9_fits 23 = .ok (.aload_n 0, 1) := by decide +kernel
theorem dX9_fits_24 : decode cX9_fits 24 = .ok (.getfield 134, 3) := by decide +kernel
theorem dX9_fits_27 : decode cX9_fits 27 = .ok (.iload 5, 2) := by decide +kernel
theorem dX9_fits_29 : decode cX9_fits 29 = .ok (.iaload, 1) := by decide +kernel
theorem dX9_fits_30 : decode cX9_fits 30 = .ok (.iload_n 2, 1) := by decide +kernel
theorem dX9_fits_31 : decode cX9_fits 31 = .ok (.iload 5, 2) := by decide +kernel
theorem dX9_fits_33 : decode cX9_fits 33 = .ok (.ishr, 1) := by decide +kernel
theorem dX9_fits_34 : decode cX9_fits 34 = .ok (.iconst 1, 1) := by decide +kernel
theorem dX9_fits_35 : decode cX9_fits 35 = .ok (.iand, 1) := by decide +kernel
theorem dX9_fits_36 : decode cX9_fits 36 = .ok (.if_icmp .eq 4, 3) := by decide +kernel
theorem dX9_fits_39 : decode cX9_fits 39 = .ok (.return_, 1) := by decide +kernel
theorem dX9_fits_40 : decode cX9_fits 40 = .ok (.iinc 5 1, 3) := by decide +kernel
theorem dX9_fits_43 : decode cX9_fits 43 = .ok (.goto (-40), 3) := by decide +kernel
theorem dX9_fits_46 : decode cX9_fits 46 = .ok (.iconst 0, 1) := by decide +kernel
theorem dX9_fits_47 : decode cX9_fits 47 = .ok (.istore 5, 2) := by decide +kernel
theorem dX9_fits_49 : decode cX9_fits 49 = .ok (.iload 5, 2) := by decide +kernel
theorem dX9_fits_51 : decode cX9_fits 51 = .ok (.iconst 2, 1) := by decide +kernel
theorem dX9_fits_52 : decode cX9_fits 52 = .ok (.aload_n 0, 1) := by decide +kernel
theorem dX9_fits_53 : decode cX9_fits 53 = .ok (.getfield 189, 3) := by decide +kernel
theorem dX9_fits_56 : decode cX9_fits 56 = .ok (.imul, 1) := by decide +kernel
theorem dX9_fits_57 : decode cX9_fits 57 = .ok (.if_icmp .ge 38, 3) := by decide +kernel
theorem dX9_fits_60 : decode cX9_fits 60 = .ok (.aload_n 0, 1) := by decide +kernel
theorem dX9_fits_61 : decode cX9_fits 61 = .ok (.getfield 137, 3) := by decide +kernel
theorem dX9_fits_64 : decode cX9_fits 64 = .ok (.iload 5, 2) := by decide +kernel
theorem dX9_fits_66 : decode cX9_fits 66 = .ok (.iaload, 1) := by decide +kernel
theorem dX9_fits_67 : decode cX9_fits 67 = .ok (.iconst (-1), 1) := by decide +kernel
theorem dX9_fits_68 : decode cX9_fits 68 = .ok (.if_icmp .eq 21, 3) := by decide +kernel
theorem dX9_fits_71 : decode cX9_fits 71 = .ok (.aload_n 0, 1) := by decide +kernel
theorem dX9_fits_72 : decode cX9_fits 72 = .ok (.getfield 137, 3) := by decide +kernel
theorem dX9_fits_75 : decode cX9_fits 75 = .ok (.iload 5, 2) := by decide +kernel
theorem dX9_fits_77 : decode cX9_fits 77 = .ok (.iaload, 1) := by decide +kernel
theorem dX9_fits_78 : decode cX9_fits 78 = .ok (.iload 4, 2) := by decide +kernel
theorem dX9_fits_80 : decode cX9_fits 80 = .ok (.iload 5, 2) := by decide +kernel
theorem dX9_fits_82 : decode cX9_fits 82 = .ok (.ishr, 1) := by decide +kernel
theorem dX9_fits_83 : decode cX9_fits 83 = .ok (.iconst 1, 1) := by decide +kernel
theorem dX9_fits_84 : decode cX9_fits 84 = .ok (.iand, 1) := by decide +kernel
theorem dX9_fits_85 : decode cX9_fits 85 = .ok (.if_icmp .eq 4, 3) := by decide +kernel
theorem dX9_fits_88 : decode cX9_fits 88 = .ok (.return_, 1) := by decide +kernel
theorem dX9_fits_89 : decode cX9_fits 89 = .ok (.iinc 5 1, 3) := by decide +kernel
theorem dX9_fits_92 : decode cX9_fits 92 = .ok (.goto (-43), 3) := by decide +kernel
theorem dX9_fits_95 : decode cX9_fits 95 = .ok (.aload_n 0, 1) := by decide +kernel
theorem dX9_fits_96 : decode cX9_fits 96 = .ok (.dup, 1) := by decide +kernel
theorem dX9_fits_97 : decode cX9_fits 97 = .ok (.getfield 407, 3) := by decide +kernel
theorem dX9_fits_100 : decode cX9_fits 100 = .ok (.iconst 1, 1) := by decide +kernel
theorem dX9_fits_101 : decode cX9_fits 101 = .ok (.iadd, 1) := by decide +kernel
theorem dX9_fits_102 : decode cX9_fits 102 = .ok (.putfield 407, 3) := by decide +kernel
theorem dX9_fits_105 : decode cX9_fits 105 = .ok (.aload_n 0, 1) := by decide +kernel
theorem dX9_fits_106 : decode cX9_fits 106 = .ok (.getfield 410, 3) := by decide +kernel
theorem dX9_fits_109 : decode cX9_fits 109 = .ok (.iconst (-1), 1) := by decide +kernel
theorem dX9_fits_110 : decode cX9_fits 110 = .ok (.if_icmp .eq 4, 3) := by decide +kernel
theorem dX9_fits_113 : decode cX9_fits 113 = .ok (.return_, 1) := by decide +kernel
theorem dX9_fits_114 : decode cX9_fits 114 = .ok (.aload_n 0, 1) := by decide +kernel
theorem dX9_fits_115 : decode cX9_fits 115 = .ok (.iconst 0, 1) := by decide +kernel
theorem dX9_fits_116 : decode cX9_fits 116 = .ok (.putfield 410, 3) := by decide +kernel
theorem dX9_fits_119 : decode cX9_fits 119 = .ok (.iconst 0, 1) := by decide +kernel
theorem dX9_fits_120 : decode cX9_fits 120 = .ok (.istore 5, 2) := by decide +kernel
theorem dX9_fits_122 : decode cX9_fits 122 = .ok (.iload 5, 2) := by decide +kernel
theorem dX9_fits_124 : decode cX9_fits 124 = .ok (.aload_n 0, 1) := by decide +kernel
theorem dX9_fits_125 : decode cX9_fits 125 = .ok (.getfield 425, 3) := by decide +kernel
theorem dX9_fits_128 : decode cX9_fits 128 = .ok (.if_icmp .ge 20, 3) := by decide +kernel
theorem dX9_fits_131 : decode cX9_fits 131 = .ok (.aload_n 0, 1) := by decide +kernel
theorem dX9_fits_132 : decode cX9_fits 132 = .ok (.aload_n 0, 1) := by decide +kernel
theorem dX9_fits_133 : decode cX9_fits 133 = .ok (.getfield 149, 3) := by decide +kernel
theorem dX9_fits_136 : decode cX9_fits 136 = .ok (.iload 5, 2) := by decide +kernel
theorem dX9_fits_138 : decode cX9_fits 138 = .ok (.iaload, 1) := by decide +kernel
theorem dX9_fits_139 : decode cX9_fits 139 = .ok (.invokevirtual 438, 3) := by decide +kernel
theorem dX9_fits_142 : decode cX9_fits 142 = .ok (.iinc 5 1, 3) := by decide +kernel
theorem dX9_fits_145 : decode cX9_fits 145 = .ok (.goto (-23), 3) := by decide +kernel
theorem dX9_fits_148 : decode cX9_fits 148 = .ok (.iload_n 1, 1) := by decide +kernel
theorem dX9_fits_149 : decode cX9_fits 149 = .ok (.ifCond .le 8, 3) := by decide +kernel
theorem dX9_fits_152 : decode cX9_fits 152 = .ok (.aload_n 0, 1) := by decide +kernel
theorem dX9_fits_153 : decode cX9_fits 153 = .ok (.iload_n 1, 1) := by decide +kernel
theorem dX9_fits_154 : decode cX9_fits 154 = .ok (.invokevirtual 438, 3) := by decide +kernel
theorem dX9_fits_157 : decode cX9_fits 157 = .ok (.iload_n 3, 1) := by decide +kernel
theorem dX9_fits_158 : decode cX9_fits 158 = .ok (.ifCond .le 8, 3) := by decide +kernel
theorem dX9_fits_161 : decode cX9_fits 161 = .ok (.aload_n 0, 1) := by decide +kernel
theorem dX9_fits_162 : decode cX9_fits 162 = .ok (.iload_n 3, 1) := by decide +kernel
theorem dX9_fits_163 : decode cX9_fits 163 = .ok (.invokevirtual 438, 3) := by decide +kernel
theorem dX9_fits_166 : decode cX9_fits 166 = .ok (.return_, 1) := by decide +kernel
theorem dX9_tells_0 : decode cX9_tells 0 = .ok (.aload_n 0, 1) := by decide +kernel
theorem dX9_tells_1 : decode cX9_tells 1 = .ok (.getfield 140, 3) := by decide +kernel
theorem dX9_tells_4 : decode cX9_tells 4 = .ok (.aload_n 0, 1) := by decide +kernel
theorem dX9_tells_5 : decode cX9_tells 5 = .ok (.getfield 410, 3) := by decide +kernel
theorem dX9_tells_8 : decode cX9_tells 8 = .ok (.iload_n 1, 1) := by decide +kernel
theorem dX9_tells_9 : decode cX9_tells 9 = .ok (.iastore, 1) := by decide +kernel
theorem dX9_tells_10 : decode cX9_tells 10 = .ok (.aload_n 0, 1) := by decide +kernel
theorem dX9_tells_11 : decode cX9_tells 11 = .ok (.dup, 1) := by decide +kernel
theorem dX9_tells_12 : decode cX9_tells 12 = .ok (.getfield 410, 3) := by decide +kernel
theorem dX9_tells_15 : decode cX9_tells 15 = .ok (.iconst 1, 1) := by decide +kernel
theorem dX9_tells_16 : decode cX9_tells 16 = .ok (.iadd, 1) := by decide +kernel
theorem dX9_tells_17 : decode cX9_tells 17 = .ok (.putfield 410, 3) := by decide +kernel
theorem dX9_tells_20 : decode cX9_tells 20 = .ok (.return_, 1) := by decide +kernel
theorem dX9_rows_0 : decode cX9_rows 0 = .ok (.aload_n 0, 1) := by decide +kernel
theorem dX9_rows_1 : decode cX9_rows 1 = .ok (.invokevirtual 441, 3) := by decide +kernel
theorem dX9_rows_4 : decode cX9_rows 4 = .ok (.aload_n 0, 1) := by decide +kernel
theorem dX9_rows_5 : decode cX9_rows 5 = .ok (.getfield 407, 3) := by decide +kernel
theorem dX9_rows_8 : decode cX9_rows 8 = .ok (.ireturn, 1) := by decide +kernel
theorem dX9_row_0 : decode cX9_row 0 = .ok (.aload_n 0, 1) := by decide +kernel
theorem dX9_row_1 : decode cX9_row 1 = .ok (.invokevirtual 441, 3) := by decide +kernel
theorem dX9_row_4 : decode cX9_row 4 = .ok (.iload_n 1, 1) := by decide +kernel
theorem dX9_row_5 : decode cX9_row 5 = .ok (.ifCond .lt 20, 3) := by decide +kernel
theorem dX9_row_8 : decode cX9_row 8 = .ok (.iload_n 1, 1) := by decide +kernel
theorem dX9_row_9 : decode cX9_row 9 = .ok (.aload_n 0, 1) := by decide +kernel
theorem dX9_row_10 : decode cX9_row 10 = .ok (.getfield 410, 3) := by decide +kernel
theorem dX9_row_13 : decode cX9_row 13 = .ok (.if_icmp .ge 12, 3) := by decide +kernel
theorem dX9_row_16 : decode cX9_row 16 = .ok (.aload_n 0, 1) := by decide +kernel
theorem dX9_row_17 : decode cX9_row 17 = .ok (.getfield 140, 3) := by decide +kernel
theorem dX9_row_20 : decode cX9_row 20 = .ok (.iload_n 1, 1) := by decide +kernel
theorem dX9_row_21 : decode cX9_row 21 = .ok (.iaload, 1) := by decide +kernel
theorem dX9_row_22 : decode cX9_row 22 = .ok (.goto 4, 3) := by decide +kernel
theorem dX9_row_25 : decode cX9_row 25 = .ok (.iconst (-1), 1) := by decide +kernel
theorem dX9_row_26 : decode cX9_row 26 = .ok (.ireturn, 1) := by decide +kernel
theorem dX9_shut_0 : decode cX9_shut 0 = .ok (.aload_n 0, 1) := by decide +kernel
theorem dX9_shut_1 : decode cX9_shut 1 = .ok (.invokevirtual 441, 3) := by decide +kernel
theorem dX9_shut_4 : decode cX9_shut 4 = .ok (.aload_n 0, 1) := by decide +kernel
theorem dX9_shut_5 : decode cX9_shut 5 = .ok (.getfield 407, 3) := by decide +kernel
theorem dX9_shut_8 : decode cX9_shut 8 = .ok (.ifCond .le 5, 3) := by decide +kernel
theorem dX9_shut_11 : decode cX9_shut 11 = .ok (.iconst 1, 1) := by decide +kernel
theorem dX9_shut_12 : decode cX9_shut 12 = .ok (.ireturn, 1) := by decide +kernel
theorem dX9_shut_13 : decode cX9_shut 13 = .ok (.iconst 0, 1) := by decide +kernel
theorem dX9_shut_14 : decode cX9_shut 14 = .ok (.istore_n 1, 1) := by decide +kernel
theorem dX9_shut_15 : decode cX9_shut 15 = .ok (.iload_n 1, 1) := by decide +kernel
theorem dX9_shut_16 : decode cX9_shut 16 = .ok (.sipush 16384, 3) := by decide +kernel
theorem dX9_shut_19 : decode cX9_shut 19 = .ok (.if_icmp .ge 62, 3) := by decide +kernel
theorem dX9_shut_22 : decode cX9_shut 22 = .ok (.aload_n 0, 1) := by decide +kernel
theorem dX9_shut_23 : decode cX9_shut 23 = .ok (.getfield 143, 3) := by decide +kernel
theorem dX9_shut_26 : decode cX9_shut 26 = .ok (.iload_n 1, 1) := by decide +kernel
theorem dX9_shut_27 : decode cX9_shut 27 = .ok (.baload, 1) := by decide +kernel
theorem dX9_shut_28 : decode cX9_shut 28 = .ok (.ifCond .ne 6, 3) := by decide +kernel
theorem dX9_shut_31 : decode cX9_shut 31 = .ok (.goto 44, 3) := by decide +kernel
theorem dX9_shut_34 : decode cX9_shut 34 = .ok (.iload_n 1, 1) := by decide +kernel
theorem dX9_shut_35 : decode cX9_shut 35 = .ok (.istore_n 2, 1) := by decide +kernel
theorem dX9_shut_36 : decode cX9_shut 36 = .ok (.iload_n 2, 1) := by decide +kernel
theorem dX9_shut_37 : decode cX9_shut 37 = .ok (.sipush 16384, 3) := by decide +kernel
theorem dX9_shut_40 : decode cX9_shut 40 = .ok (.if_icmp .ge 35, 3) := by decide +kernel
theorem dX9_shut_43 : decode cX9_shut 43 = .ok (.aload_n 0, 1) := by decide +kernel
theorem dX9_shut_44 : decode cX9_shut 44 = .ok (.getfield 143, 3) := by decide +kernel
theorem dX9_shut_47 : decode cX9_shut 47 = .ok (.iload_n 2, 1) := by decide +kernel
theorem dX9_shut_48 : decode cX9_shut 48 = .ok (.baload, 1) := by decide +kernel
theorem dX9_shut_49 : decode cX9_shut 49 = .ok (.ifCond .eq 20, 3) := by decide +kernel
theorem dX9_shut_52 : decode cX9_shut 52 = .ok (.iload_n 1, 1) := by decide +kernel
theorem dX9_shut_53 : decode cX9_shut 53 = .ok (.iload_n 2, 1) := by decide +kernel
theorem dX9_shut_54 : decode cX9_shut 54 = .ok (.ior, 1) := by decide +kernel
theorem dX9_shut_55 : decode cX9_shut 55 = .ok (.aload_n 0, 1) := by decide +kernel
theorem dX9_shut_56 : decode cX9_shut 56 = .ok (.getfield 413, 3) := by decide +kernel
theorem dX9_shut_59 : decode cX9_shut 59 = .ok (.iand, 1) := by decide +kernel
theorem dX9_shut_60 : decode cX9_shut 60 = .ok (.aload_n 0, 1) := by decide +kernel
theorem dX9_shut_61 : decode cX9_shut 61 = .ok (.getfield 416, 3) := by decide +kernel
theorem dX9_shut_64 : decode cX9_shut 64 = .ok (.if_icmp .ne 5, 3) := by decide +kernel
theorem dX9_shut_67 : decode cX9_shut 67 = .ok (.iconst 2, 1) := by decide +kernel
theorem dX9_shut_68 : decode cX9_shut 68 = .ok (.ireturn, 1) := by decide +kernel
theorem dX9_shut_69 : decode cX9_shut 69 = .ok (.iinc 2 1, 3) := by decide +kernel
theorem dX9_shut_72 : decode cX9_shut 72 = .ok (.goto (-36), 3) := by decide +kernel
theorem dX9_shut_75 : decode cX9_shut 75 = .ok (.iinc 1 1, 3) := by decide +kernel
theorem dX9_shut_78 : decode cX9_shut 78 = .ok (.goto (-63), 3) := by decide +kernel
theorem dX9_shut_81 : decode cX9_shut 81 = .ok (.iconst 0, 1) := by decide +kernel
theorem dX9_shut_82 : decode cX9_shut 82 = .ok (.ireturn, 1) := by decide +kernel
theorem dX9_hand_0 : decode cX9_hand 0 = .ok (.aload_n 0, 1) := by decide +kernel
theorem dX9_hand_1 : decode cX9_hand 1 = .ok (.getfield 444, 3) := by decide +kernel
theorem dX9_hand_4 : decode cX9_hand 4 = .ok (.bipush 6, 2) := by decide +kernel
theorem dX9_hand_6 : decode cX9_hand 6 = .ok (.if_icmp .eq 19, 3) := by decide +kernel
theorem dX9_hand_9 : decode cX9_hand 9 = .ok (.iload_n 1, 1) := by decide +kernel
theorem dX9_hand_10 : decode cX9_hand 10 = .ok (.iconst 1, 1) := by decide +kernel
theorem dX9_hand_11 : decode cX9_hand 11 = .ok (.if_icmp .lt 14, 3) := by decide +kernel
theorem dX9_hand_14 : decode cX9_hand 14 = .ok (.iload_n 1, 1) := by decide +kernel
theorem dX9_hand_15 : decode cX9_hand 15 = .ok (.bipush 36, 2) := by decide +kernel
theorem dX9_hand_17 : decode cX9_hand 17 = .ok (.aload_n 0, 1) := by decide +kernel
theorem dX9_hand_18 : decode cX9_hand 18 = .ok (.getfield 447, 3) := by decide +kernel
theorem dX9_hand_21 : decode cX9_hand 21 = .ok (.isub, 1) := by decide +kernel
theorem dX9_hand_22 : decode cX9_hand 22 = .ok (.if_icmp .le 5, 3) := by decide +kernel
theorem dX9_hand_25 : decode cX9_hand 25 = .ok (.iconst (-1), 1) := by decide +kernel
theorem dX9_hand_26 : decode cX9_hand 26 = .ok (.ireturn, 1) := by decide +kernel
theorem dX9_hand_27 : decode cX9_hand 27 = .ok (.iconst 0, 1) := by decide +kernel
theorem dX9_hand_28 : decode cX9_hand 28 = .ok (.istore_n 2, 1) := by decide +kernel
theorem dX9_hand_29 : decode cX9_hand 29 = .ok (.iload_n 2, 1) := by decide +kernel
theorem dX9_hand_30 : decode cX9_hand 30 = .ok (.iload_n 1, 1) := by decide +kernel
theorem dX9_hand_31 : decode cX9_hand 31 = .ok (.if_icmp .ge 24, 3) := by decide +kernel
theorem dX9_hand_34 : decode cX9_hand 34 = .ok (.aload_n 0, 1) := by decide +kernel
theorem dX9_hand_35 : decode cX9_hand 35 = .ok (.getfield 155, 3) := by decide +kernel
theorem dX9_hand_38 : decode cX9_hand 38 = .ok (.aload_n 0, 1) := by decide +kernel
theorem dX9_hand_39 : decode cX9_hand 39 = .ok (.getfield 447, 3) := by decide +kernel
theorem dX9_hand_42 : decode cX9_hand 42 = .ok (.iload_n 2, 1) := by decide +kernel
theorem dX9_hand_43 : decode cX9_hand 43 = .ok (.iadd, 1) := by decide +kernel
theorem dX9_hand_44 : decode cX9_hand 44 = .ok (.aload_n 0, 1) := by decide +kernel
theorem dX9_hand_45 : decode cX9_hand 45 = .ok (.getfield 444, 3) := by decide +kernel
theorem dX9_hand_48 : decode cX9_hand 48 = .ok (.iastore, 1) := by decide +kernel
theorem dX9_hand_49 : decode cX9_hand 49 = .ok (.iinc 2 1, 3) := by decide +kernel
theorem dX9_hand_52 : decode cX9_hand 52 = .ok (.goto (-23), 3) := by decide +kernel
theorem dX9_hand_55 : decode cX9_hand 55 = .ok (.aload_n 0, 1) := by decide +kernel
theorem dX9_hand_56 : decode cX9_hand 56 = .ok (.getfield 152, 3) := by decide +kernel
theorem dX9_hand_59 : decode cX9_hand 59 = .ok (.aload_n 0, 1) := by decide +kernel
theorem dX9_hand_60 : decode cX9_hand 60 = .ok (.getfield 444, 3) := by decide +kernel
theorem dX9_hand_63 : decode cX9_hand 63 = .ok (.iload_n 1, 1) := by decide +kernel
theorem dX9_hand_64 : decode cX9_hand 64 = .ok (.iastore, 1) := by decide +kernel
theorem dX9_hand_65 : decode cX9_hand 65 = .ok (.aload_n 0, 1) := by decide +kernel
theorem dX9_hand_66 : decode cX9_hand 66 = .ok (.dup, 1) := by decide +kernel
theorem dX9_hand_67 : decode cX9_hand 67 = .ok (.getfield 447, 3) := by decide +kernel
theorem dX9_hand_70 : decode cX9_hand 70 = .ok (.iload_n 1, 1) := by decide +kernel
theorem dX9_hand_71 : decode cX9_hand 71 = .ok (.iadd, 1) := by decide +kernel
theorem dX9_hand_72 : decode cX9_hand 72 = .ok (.putfield 447, 3) := by decide +kernel
theorem dX9_hand_75 : decode cX9_hand 75 = .ok (.aload_n 0, 1) := by decide +kernel
theorem dX9_hand_76 : decode cX9_hand 76 = .ok (.dup, 1) := by decide +kernel
theorem dX9_hand_77 : decode cX9_hand 77 = .ok (.getfield 444, 3) := by decide +kernel
theorem dX9_hand_80 : decode cX9_hand 80 = .ok (.iconst 1, 1) := by decide +kernel
theorem dX9_hand_81 : decode cX9_hand 81 = .ok (.iadd, 1) := by decide +kernel
theorem dX9_hand_82 : decode cX9_hand 82 = .ok (.putfield 444, 3) := by decide +kernel
theorem dX9_hand_85 : decode cX9_hand 85 = .ok (.aload_n 0, 1) := by decide +kernel
theorem dX9_hand_86 : decode cX9_hand 86 = .ok (.getfield 444, 3) := by decide +kernel
theorem dX9_hand_89 : decode cX9_hand 89 = .ok (.iconst 1, 1) := by decide +kernel
theorem dX9_hand_90 : decode cX9_hand 90 = .ok (.isub, 1) := by decide +kernel
theorem dX9_hand_91 : decode cX9_hand 91 = .ok (.ireturn, 1) := by decide +kernel
theorem dX9_look_0 : decode cX9_look 0 = .ok (.aload_n 0, 1) := by decide +kernel
theorem dX9_look_1 : decode cX9_look 1 = .ok (.getfield 450, 3) := by decide +kernel
theorem dX9_look_4 : decode cX9_look 4 = .ok (.bipush 40, 2) := by decide +kernel
theorem dX9_look_6 : decode cX9_look 6 = .ok (.if_icmp .eq 24, 3) := by decide +kernel
theorem dX9_look_9 : decode cX9_look 9 = .ok (.iload_n 1, 1) := by decide +kernel
theorem dX9_look_10 : decode cX9_look 10 = .ok (.ifCond .lt 20, 3) := by decide +kernel
theorem dX9_look_13 : decode cX9_look 13 = .ok (.iload_n 1, 1) := by decide +kernel
theorem dX9_look_14 : decode cX9_look 14 = .ok (.aload_n 0, 1) := by decide +kernel
theorem dX9_look_15 : decode cX9_look 15 = .ok (.getfield 447, 3) := by decide +kernel
theorem dX9_look_18 : decode cX9_look 18 = .ok (.if_icmp .ge 12, 3) := by decide +kernel
theorem dX9_look_21 : decode cX9_look 21 = .ok (.iload_n 2, 1) := by decide +kernel
theorem dX9_look_22 : decode cX9_look 22 = .ok (.ifCond .lt 8, 3) := by decide +kernel
theorem dX9_look_25 : decode cX9_look 25 = .ok (.iload_n 2, 1) := by decide +kernel
theorem dX9_look_26 : decode cX9_look 26 = .ok (.iconst 2, 1) := by decide +kernel
theorem dX9_look_27 : decode cX9_look 27 = .ok (.if_icmp .le 5, 3) := by decide +kernel
theorem dX9_look_30 : decode cX9_look 30 = .ok (.iconst (-1), 1) := by decide +kernel
theorem dX9_look_31 : decode cX9_look 31 = .ok (.ireturn, 1) := by decide +kernel
theorem dX9_look_32 : decode cX9_look 32 = .ok (.aload_n 0, 1) := by decide +kernel
theorem dX9_look_33 : decode cX9_look 33 = .ok (.getfield 158, 3) := by decide +kernel
theorem dX9_look_36 : decode cX9_look 36 = .ok (.aload_n 0, 1) := by decide +kernel
theorem dX9_look_37 : decode cX9_look 37 = .ok (.getfield 450, 3) := by decide +kernel
theorem dX9_look_40 : decode cX9_look 40 = .ok (.iload_n 1, 1) := by decide +kernel
theorem dX9_look_41 : decode cX9_look 41 = .ok (.iastore, 1) := by decide +kernel
theorem dX9_look_42 : decode cX9_look 42 = .ok (.aload_n 0, 1) := by decide +kernel
theorem dX9_look_43 : decode cX9_look 43 = .ok (.getfield 161, 3) := by decide +kernel
theorem dX9_look_46 : decode cX9_look 46 = .ok (.aload_n 0, 1) := by decide +kernel
theorem dX9_look_47 : decode cX9_look 47 = .ok (.getfield 450, 3) := by decide +kernel
theorem dX9_look_50 : decode cX9_look 50 = .ok (.iload_n 2, 1) := by decide +kernel
theorem dX9_look_51 : decode cX9_look 51 = .ok (.iastore, 1) := by decide +kernel
theorem dX9_look_52 : decode cX9_look 52 = .ok (.aload_n 0, 1) := by decide +kernel
theorem dX9_look_53 : decode cX9_look 53 = .ok (.dup, 1) := by decide +kernel
theorem dX9_look_54 : decode cX9_look 54 = .ok (.getfield 450, 3) := by decide +kernel
theorem dX9_look_57 : decode cX9_look 57 = .ok (.iconst 1, 1) := by decide +kernel
theorem dX9_look_58 : decode cX9_look 58 = .ok (.iadd, 1) := by decide +kernel
theorem dX9_look_59 : decode cX9_look 59 = .ok (.putfield 450, 3) := by decide +kernel
theorem dX9_look_62 : decode cX9_look 62 = .ok (.aload_n 0, 1) := by decide +kernel
theorem dX9_look_63 : decode cX9_look 63 = .ok (.getfield 450, 3) := by decide +kernel
theorem dX9_look_66 : decode cX9_look 66 = .ok (.iconst 1, 1) := by decide +kernel
theorem dX9_look_67 : decode cX9_look 67 = .ok (.isub, 1) := by decide +kernel
theorem dX9_look_68 : decode cX9_look 68 = .ok (.ireturn, 1) := by decide +kernel
theorem dX9_priceOf_0 : decode cX9_priceOf 0 = .ok (.aload_n 0, 1) := by decide +kernel
theorem dX9_priceOf_1 : decode cX9_priceOf 1 = .ok (.iload_n 1, 1) := by decide +kernel
theorem dX9_priceOf_2 : decode cX9_priceOf 2 = .ok (.invokevirtual 376, 3) := by decide +kernel
theorem dX9_priceOf_5 : decode cX9_priceOf 5 = .ok (.istore_n 2, 1) := by decide +kernel
theorem dX9_priceOf_6 : decode cX9_priceOf 6 = .ok (.iload_n 2, 1) := by decide +kernel
theorem dX9_priceOf_7 : decode cX9_priceOf 7 = .ok (.iconst (-1), 1) := by decide +kernel
theorem dX9_priceOf_8 : decode cX9_priceOf 8 = .ok (.if_icmp .ne 8, 3) := by decide +kernel
theorem dX9_priceOf_11 : decode cX9_priceOf 11 = .ok (.bipush 10, 2) := by decide +kernel
theorem dX9_priceOf_13 : decode cX9_priceOf 13 = .ok (.goto 8, 3) := by decide +kernel
theorem dX9_priceOf_16 : decode cX9_priceOf 16 = .ok (.aload_n 0, 1) := by decide +kernel
theorem dX9_priceOf_17 : decode cX9_priceOf 17 = .ok (.iload_n 2, 1) := by decide +kernel
theorem dX9_priceOf_18 : decode cX9_priceOf 18 = .ok (.invokevirtual 379, 3) := by decide +kernel
theorem dX9_priceOf_21 : decode cX9_priceOf 21 = .ok (.ireturn, 1) := by decide +kernel
theorem dX9_change_0 : decode cX9_change 0 = .ok (.iload_n 2, 1) := by decide +kernel
theorem dX9_change_1 : decode cX9_change 1 = .ok (.iload_n 3, 1) := by decide +kernel
theorem dX9_change_2 : decode cX9_change 2 = .ok (.if_icmp .ne 5, 3) := by decide +kernel
theorem dX9_change_5 : decode cX9_change 5 = .ok (.iconst 0, 1) := by decide +kernel
theorem dX9_change_6 : decode cX9_change 6 = .ok (.ireturn, 1) := by decide +kernel
theorem dX9_change_7 : decode cX9_change 7 = .ok (.iload_n 3, 1) := by decide +kernel
theorem dX9_change_8 : decode cX9_change 8 = .ok (.iconst 1, 1) := by decide +kernel
theorem dX9_change_9 : decode cX9_change 9 = .ok (.if_icmp .ne 10, 3) := by decide +kernel
theorem dX9_change_12 : decode cX9_change 12 = .ok (.aload_n 0, 1) := by decide +kernel
theorem dX9_change_13 : decode cX9_change 13 = .ok (.getfield 173, 3) := by decide +kernel
theorem dX9_change_16 : decode cX9_change 16 = .ok (.iload_n 1, 1) := by decide +kernel
theorem dX9_change_17 : decode cX9_change 17 = .ok (.iaload, 1) := by decide +kernel
theorem dX9_change_18 : decode cX9_change 18 = .ok (.ireturn, 1) := by decide +kernel
theorem dX9_change_19 : decode cX9_change 19 = .ok (.iload_n 3, 1) := by decide +kernel
theorem dX9_change_20 : decode cX9_change 20 = .ok (.iconst 2, 1) := by decide +kernel
theorem dX9_change_21 : decode cX9_change 21 = .ok (.if_icmp .ne 17, 3) := by decide +kernel
theorem dX9_change_24 : decode cX9_change 24 = .ok (.iload_n 2, 1) := by decide +kernel
theorem dX9_change_25 : decode cX9_change 25 = .ok (.iconst 1, 1) := by decide +kernel
theorem dX9_change_26 : decode cX9_change 26 = .ok (.if_icmp .ne 12, 3) := by decide +kernel
theorem dX9_change_29 : decode cX9_change 29 = .ok (.aload_n 0, 1) := by decide +kernel
theorem dX9_change_30 : decode cX9_change 30 = .ok (.getfield 176, 3) := by decide +kernel
theorem dX9_change_33 : decode cX9_change 33 = .ok (.iload_n 1, 1) := by decide +kernel
theorem dX9_change_34 : decode cX9_change 34 = .ok (.iaload, 1) := by decide +kernel
theorem dX9_change_35 : decode cX9_change 35 = .ok (.goto 6, 3) := by decide +kernel
theorem dX9_change_38 : decode cX9_change 38 = .ok (.ldc_w 453, 3) := by decide +kernel
theorem dX9_change_41 : decode cX9_change 41 = .ok (.ireturn, 1) := by decide +kernel
theorem dX9_prices_0 : decode cX9_prices 0 = .ok (.iconst 0, 1) := by decide +kernel
theorem dX9_prices_1 : decode cX9_prices 1 = .ok (.istore_n 2, 1) := by decide +kernel
theorem dX9_prices_2 : decode cX9_prices 2 = .ok (.iload_n 2, 1) := by decide +kernel
theorem dX9_prices_3 : decode cX9_prices 3 = .ok (.aload_n 0, 1) := by decide +kernel
theorem dX9_prices_4 : decode cX9_prices 4 = .ok (.getfield 447, 3) := by decide +kernel
theorem dX9_prices_7 : decode cX9_prices 7 = .ok (.if_icmp .ge 85, 3) := by decide +kernel
theorem dX9_prices_10 : decode cX9_prices 10 = .ok (.aload_n 0, 1) := by decide +kernel
theorem dX9_prices_11 : decode cX9_prices 11 = .ok (.bipush 7, 2) := by decide +kernel
theorem dX9_prices_13 : decode cX9_prices 13 = .ok (.iconst 0, 1) := by decide +kernel
theorem dX9_prices_14 : decode cX9_prices 14 = .ok (.iload_n 2, 1) := by decide +kernel
theorem dX9_prices_15 : decode cX9_prices 15 = .ok (.aload_n 0, 1) := by decide +kernel
theorem dX9_prices_16 : decode cX9_prices 16 = .ok (.getfield 155, 3) := by decide +kernel
theorem dX9_prices_19 : decode cX9_prices 19 = .ok (.iload_n 2, 1) := by decide +kernel
theorem dX9_prices_20 : decode cX9_prices 20 = .ok (.iaload, 1) := by decide +kernel
theorem dX9_prices_21 : decode cX9_prices 21 = .ok (.iconst 0, 1) := by decide +kernel
theorem dX9_prices_22 : decode cX9_prices 22 = .ok (.invokevirtual 369, 3) := by decide +kernel
theorem dX9_prices_25 : decode cX9_prices 25 = .ok (.aload_n 0, 1) := by decide +kernel
theorem dX9_prices_26 : decode cX9_prices 26 = .ok (.getfield 173, 3) := by decide +kernel
theorem dX9_prices_29 : decode cX9_prices 29 = .ok (.iload_n 2, 1) := by decide +kernel
theorem dX9_prices_30 : decode cX9_prices 30 = .ok (.aload_n 0, 1) := by decide +kernel
theorem dX9_prices_31 : decode cX9_prices 31 = .ok (.iconst 4, 1) := by decide +kernel
theorem dX9_prices_32 : decode cX9_prices 32 = .ok (.invokevirtual 454, 3) := by decide +kernel
theorem dX9_prices_35 : decode cX9_prices 35 = .ok (.iastore, 1) := by decide +kernel
theorem dX9_prices_36 : decode cX9_prices 36 = .ok (.aload_n 0, 1) := by decide +kernel
theorem dX9_prices_37 : decode cX9_prices 37 = .ok (.bipush 8, 2) := by decide +kernel
theorem dX9_prices_39 : decode cX9_prices 39 = .ok (.iconst 0, 1) := by decide +kernel
theorem dX9_prices_40 : decode cX9_prices 40 = .ok (.iload_n 2, 1) := by decide +kernel
theorem dX9_prices_41 : decode cX9_prices 41 = .ok (.aload_n 0, 1) := by decide +kernel
theorem dX9_prices_42 : decode cX9_prices 42 = .ok (.getfield 155, 3) := by decide +kernel
theorem dX9_prices_45 : decode cX9_prices 45 = .ok (.iload_n 2, 1) := by decide +kernel
theorem dX9_prices_46 : decode cX9_prices 46 = .ok (.iaload, 1) := by decide +kernel
theorem dX9_prices_47 : decode cX9_prices 47 = .ok (.iconst 0, 1) := by decide +kernel
theorem dX9_prices_48 : decode cX9_prices 48 = .ok (.invokevirtual 369, 3) := by decide +kernel
theorem dX9_prices_51 : decode cX9_prices 51 = .ok (.aload_n 0, 1) := by decide +kernel
theorem dX9_prices_52 : decode cX9_prices 52 = .ok (.getfield 176, 3) := by decide +kernel
theorem dX9_prices_55 : decode cX9_prices 55 = .ok (.iload_n 2, 1) := by decide +kernel
theorem dX9_prices_56 : decode cX9_prices 56 = .ok (.aload_n 0, 1) := by decide +kernel
theorem dX9_prices_57 : decode cX9_prices 57 = .ok (.iconst 4, 1) := by decide +kernel
theorem dX9_prices_58 : decode cX9_prices 58 = .ok (.invokevirtual 454, 3) := by decide +kernel
theorem dX9_prices_61 : decode cX9_prices 61 = .ok (.iastore, 1) := by decide +kernel
theorem dX9_prices_62 : decode cX9_prices 62 = .ok (.iconst 0, 1) := by decide +kernel
theorem dX9_prices_63 : decode cX9_prices 63 = .ok (.istore_n 3, 1) := by decide +kernel
theorem dX9_prices_64 : decode cX9_prices 64 = .ok (.iload_n 3, 1) := by decide +kernel
theorem dX9_prices_65 : decode cX9_prices 65 = .ok (.iconst 3, 1) := by decide +kernel
theorem dX9_prices_66 : decode cX9_prices 66 = .ok (.if_icmp .ge 20, 3) := by decide +kernel
theorem dX9_prices_69 : decode cX9_prices 69 = .ok (.aload_n 0, 1) := by decide +kernel
theorem dX9_prices_70 : decode cX9_prices 70 = .ok (.getfield 164, 3) := by decide +kernel
theorem dX9_prices_73 : decode cX9_prices 73 = .ok (.iconst 3, 1) := by decide +kernel
theorem dX9_prices_74 : decode cX9_prices 74 = .ok (.iload_n 2, 1) := by decide +kernel
theorem dX9_prices_75 : decode cX9_prices 75 = .ok (.imul, 1) := by decide +kernel
theorem dX9_prices_76 : decode cX9_prices 76 = .ok (.iload_n 3, 1) := by decide +kernel
theorem dX9_prices_77 : decode cX9_prices 77 = .ok (.iadd, 1) := by decide +kernel
theorem dX9_prices_78 : decode cX9_prices 78 = .ok (.iconst 0, 1) := by decide +kernel
theorem dX9_prices_79 : decode cX9_prices 79 = .ok (.iastore, 1) := by decide +kernel
theorem dX9_prices_80 : decode cX9_prices 80 = .ok (.iinc 3 1, 3) := by decide +kernel
theorem dX9_prices_83 : decode cX9_prices 83 = .ok (.goto (-19), 3) := by decide +kernel
theorem dX9_prices_86 : decode cX9_prices 86 = .ok (.iinc 2 1, 3) := by decide +kernel
theorem dX9_prices_89 : decode cX9_prices 89 = .ok (.goto (-87), 3) := by decide +kernel
theorem dX9_prices_92 : decode cX9_prices 92 = .ok (.iconst 0, 1) := by decide +kernel
theorem dX9_prices_93 : decode cX9_prices 93 = .ok (.istore_n 2, 1) := by decide +kernel
theorem dX9_prices_94 : decode cX9_prices 94 = .ok (.iload_n 2, 1) := by decide +kernel
theorem dX9_prices_95 : decode cX9_prices 95 = .ok (.iload_n 1, 1) := by decide +kernel
theorem dX9_prices_96 : decode cX9_prices 96 = .ok (.if_icmp .ge 85, 3) := by decide +kernel
theorem dX9_prices_99 : decode cX9_prices 99 = .ok (.aload_n 0, 1) := by decide +kernel
theorem dX9_prices_100 : decode cX9_prices 100 = .ok (.getfield 158, 3) := by decide +kernel
theorem dX9_prices_103 : decode cX9_prices 103 = .ok (.iload_n 2, 1) := by decide +kernel
theorem dX9_prices_104 : decode cX9_prices 104 = .ok (.iaload, 1) := by decide +kernel
theorem dX9_prices_105 : decode cX9_prices 105 = .ok (.istore_n 3, 1) := by decide +kernel
theorem dX9_prices_106 : decode cX9_prices 106 = .ok (.aload_n 0, 1) := by decide +kernel
theorem dX9_prices_107 : decode cX9_prices 107 = .ok (.bipush 9, 2) := by decide +kernel
theorem dX9_prices_109 : decode cX9_prices 109 = .ok (.iconst 0, 1) := by decide +kernel
theorem dX9_prices_110 : decode cX9_prices 110 = .ok (.iload_n 3, 1) := by decide +kernel
theorem dX9_prices_111 : decode cX9_prices 111 = .ok (.aload_n 0, 1) := by decide +kernel
theorem dX9_prices_112 : decode cX9_prices 112 = .ok (.getfield 155, 3) := by decide +kernel
theorem dX9_prices_115 : decode cX9_prices 115 = .ok (.iload_n 3, 1) := by decide +kernel
theorem dX9_prices_116 : decode cX9_prices 116 = .ok (.iaload, 1) := by decide +kernel
theorem dX9_prices_117 : decode cX9_prices 117 = .ok (.aload_n 0, 1) := by decide +kernel
theorem dX9_prices_118 : decode cX9_prices 118 = .ok (.getfield 161, 3) := by decide +kernel
theorem dX9_prices_121 : decode cX9_prices 121 = .ok (.iload_n 2, 1) := by decide +kernel
theorem dX9_prices_122 : decode cX9_prices 122 = .ok (.iaload, 1) := by decide +kernel
theorem dX9_prices_123 : decode cX9_prices 123 = .ok (.invokevirtual 369, 3) := by decide +kernel
theorem dX9_prices_126 : decode cX9_prices 126 = .ok (.aload_n 0, 1) := by decide +kernel
theorem dX9_prices_127 : decode cX9_prices 127 = .ok (.iconst 5, 1) := by decide +kernel
theorem dX9_prices_128 : decode cX9_prices 128 = .ok (.invokevirtual 454, 3) := by decide +kernel
theorem dX9_prices_131 : decode cX9_prices 131 = .ok (.istore 4, 2) := by decide +kernel
theorem dX9_prices_133 : decode cX9_prices 133 = .ok (.iconst 0, 1) := by decide +kernel
theorem dX9_prices_134 : decode cX9_prices 134 = .ok (.istore 5, 2) := by decide +kernel
theorem dX9_prices_136 : decode cX9_prices 136 = .ok (.iload 5, 2) := by decide +kernel
theorem dX9_prices_138 : decode cX9_prices 138 = .ok (.iconst 3, 1) := by decide +kernel
theorem dX9_prices_139 : decode cX9_prices 139 = .ok (.if_icmp .ge 36, 3) := by decide +kernel
theorem dX9_prices_142 : decode cX9_prices 142 = .ok (.iload 5, 2) := by decide +kernel
theorem dX9_prices_144 : decode cX9_prices 144 = .ok (.aload_n 0, 1) := by decide +kernel
theorem dX9_prices_145 : decode cX9_prices 145 = .ok (.getfield 161, 3) := by decide +kernel
theorem dX9_prices_148 : decode cX9_prices 148 = .ok (.iload_n 2, 1) := by decide +kernel
theorem dX9_prices_149 : decode cX9_prices 149 = .ok (.iaload, 1) := by decide +kernel
theorem dX9_prices_150 : decode cX9_prices 150 = .ok (.if_icmp .eq 19, 3) := by decide +kernel
theorem dX9_prices_153 : decode cX9_prices 153 = .ok (.aload_n 0, 1) := by decide +kernel
theorem dX9_prices_154 : decode cX9_prices 154 = .ok (.getfield 164, 3) := by decide +kernel
theorem dX9_prices_157 : decode cX9_prices 157 = .ok (.iconst 3, 1) := by decide +kernel
theorem dX9_prices_158 : decode cX9_prices 158 = .ok (.iload_n 3, 1) := by decide +kernel
theorem dX9_prices_159 : decode cX9_prices 159 = .ok (.imul, 1) := by decide +kernel
theorem dX9_prices_160 : decode cX9_prices 160 = .ok (.iload 5, 2) := by decide +kernel
theorem dX9_prices_162 : decode cX9_prices 162 = .ok (.iadd, 1) := by decide +kernel
theorem dX9_prices_163 : decode cX9_prices 163 = .ok (.dup2, 1) := by decide +kernel
theorem dX9_prices_164 : decode cX9_prices 164 = .ok (.iaload, 1) := by decide +kernel
theorem dX9_prices_165 : decode cX9_prices 165 = .ok (.iload 4, 2) := by decide +kernel
theorem dX9_prices_167 : decode cX9_prices 167 = .ok (.iadd, 1) := by decide +kernel
theorem dX9_prices_168 : decode cX9_prices 168 = .ok (.iastore, 1) := by decide +kernel
theorem dX9_prices_169 : decode cX9_prices 169 = .ok (.iinc 5 1, 3) := by decide +kernel
theorem dX9_prices_172 : decode cX9_prices 172 = .ok (.goto (-36), 3) := by decide +kernel
theorem dX9_prices_175 : decode cX9_prices 175 = .ok (.iinc 2 1, 3) := by decide +kernel
theorem dX9_prices_178 : decode cX9_prices 178 = .ok (.goto (-84), 3) := by decide +kernel
theorem dX9_prices_181 : decode cX9_prices 181 = .ok (.aload_n 0, 1) := by decide +kernel
theorem dX9_prices_182 : decode cX9_prices 182 = .ok (.getfield 447, 3) := by decide +kernel
theorem dX9_prices_185 : decode cX9_prices 185 = .ok (.iconst 1, 1) := by decide +kernel
theorem dX9_prices_186 : decode cX9_prices 186 = .ok (.isub, 1) := by decide +kernel
theorem dX9_prices_187 : decode cX9_prices 187 = .ok (.istore_n 2, 1) := by decide +kernel
theorem dX9_prices_188 : decode cX9_prices 188 = .ok (.iload_n 2, 1) := by decide +kernel
theorem dX9_prices_189 : decode cX9_prices 189 = .ok (.ifCond .lt 148, 3) := by decide +kernel
theorem dX9_prices_192 : decode cX9_prices 192 = .ok (.iconst 0, 1) := by decide +kernel
theorem dX9_prices_193 : decode cX9_prices 193 = .ok (.istore_n 3, 1) := by decide +kernel
theorem dX9_prices_194 : decode cX9_prices 194 = .ok (.iload_n 3, 1) := by decide +kernel
theorem dX9_prices_195 : decode cX9_prices 195 = .ok (.iconst 3, 1) := by decide +kernel
theorem dX9_prices_196 : decode cX9_prices 196 = .ok (.if_icmp .ge 135, 3) := by decide +kernel
theorem dX9_prices_199 : decode cX9_prices 199 = .ok (.iload_n 2, 1) := by decide +kernel
theorem dX9_prices_200 : decode cX9_prices 200 = .ok (.aload_n 0, 1) := by decide +kernel
theorem dX9_prices_201 : decode cX9_prices 201 = .ok (.getfield 447, 3) := by decide +kernel
theorem dX9_prices_204 : decode cX9_prices 204 = .ok (.iconst 1, 1) := by decide +kernel
theorem dX9_prices_205 : decode cX9_prices 205 = .ok (.isub, 1) := by decide +kernel
theorem dX9_prices_206 : decode cX9_prices 206 = .ok (.if_icmp .ne 7, 3) := by decide +kernel
theorem dX9_prices_209 : decode cX9_prices 209 = .ok (.iconst 0, 1) := by decide +kernel
theorem dX9_prices_210 : decode cX9_prices 210 = .ok (.goto 6, 3) := by decide +kernel
theorem dX9_prices_213 : decode cX9_prices 213 = .ok (.ldc_w 453, 3) := by decide +kernel
theorem dX9_prices_216 : decode cX9_prices 216 = .ok (.istore 4, 2) := by decide +kernel
theorem dX9_prices_218 : decode cX9_prices 218 = .ok (.iconst 0, 1) := by decide +kernel
theorem dX9_prices_219 : decode cX9_prices 219 = .ok (.istore 5, 2) := by decide +kernel
theorem dX9_prices_221 : decode cX9_prices 221 = .ok (.iload 5, 2) := by decide +kernel
theorem dX9_prices_223 : decode cX9_prices 223 = .ok (.iconst 3, 1) := by decide +kernel
theorem dX9_prices_224 : decode cX9_prices 224 = .ok (.if_icmp .ge 78, 3) := by decide +kernel
theorem dX9_prices_227 : decode cX9_prices 227 = .ok (.iload_n 2, 1) := by decide +kernel
theorem dX9_prices_228 : decode cX9_prices 228 = .ok (.aload_n 0, 1) := by decide +kernel
theorem dX9_prices_229 : decode cX9_prices 229 = .ok (.getfield 447, 3) := by decide +kernel
theorem dX9_prices_232 : decode cX9_prices 232 = .ok (.iconst 1, 1) := by decide +kernel
theorem dX9_prices_233 : decode cX9_prices 233 = .ok (.isub, 1) := by decide +kernel
theorem dX9_prices_234 : decode cX9_prices 234 = .ok (.if_icmp .ge 68, 3) := by decide +kernel
theorem dX9_prices_237 : decode cX9_prices 237 = .ok (.aload_n 0, 1) := by decide +kernel
theorem dX9_prices_238 : decode cX9_prices 238 = .ok (.iload_n 2, 1) := by decide +kernel
theorem dX9_prices_239 : decode cX9_prices 239 = .ok (.iconst 1, 1) := by decide +kernel
theorem dX9_prices_240 : decode cX9_prices 240 = .ok (.iadd, 1) := by decide +kernel
theorem dX9_prices_241 : decode cX9_prices 241 = .ok (.iload_n 3, 1) := by decide +kernel
theorem dX9_prices_242 : decode cX9_prices 242 = .ok (.iload 5, 2) := by decide +kernel
theorem dX9_prices_244 : decode cX9_prices 244 = .ok (.invokevirtual 457, 3) := by decide +kernel
theorem dX9_prices_247 : decode cX9_prices 247 = .ok (.istore 6, 2) := by decide +kernel
theorem dX9_prices_249 : decode cX9_prices 249 = .ok (.iload 6, 2) := by decide +kernel
theorem dX9_prices_251 : decode cX9_prices 251 = .ok (.ldc_w 453, 3) := by decide +kernel
theorem dX9_prices_254 : decode cX9_prices 254 = .ok (.if_icmp .ge 42, 3) := by decide +kernel
theorem dX9_prices_257 : decode cX9_prices 257 = .ok (.iload 6, 2) := by decide +kernel
theorem dX9_prices_259 : decode cX9_prices 259 = .ok (.aload_n 0, 1) := by decide +kernel
theorem dX9_prices_260 : decode cX9_prices 260 = .ok (.getfield 167, 3) := by decide +kernel
theorem dX9_prices_263 : decode cX9_prices 263 = .ok (.iconst 3, 1) := by decide +kernel
theorem dX9_prices_264 : decode cX9_prices 264 = .ok (.iload_n 2, 1) := by decide +kernel
theorem dX9_prices_265 : decode cX9_prices 265 = .ok (.imul, 1) := by decide +kernel
theorem dX9_prices_266 : decode cX9_prices 266 = .ok (.iconst 3, 1) := by decide +kernel
theorem dX9_prices_267 : decode cX9_prices 267 = .ok (.iadd, 1) := by decide +kernel
theorem dX9_prices_268 : decode cX9_prices 268 = .ok (.iload 5, 2) := by decide +kernel
theorem dX9_prices_270 : decode cX9_prices 270 = .ok (.iadd, 1) := by decide +kernel
theorem dX9_prices_271 : decode cX9_prices 271 = .ok (.iaload, 1) := by decide +kernel
theorem dX9_prices_272 : decode cX9_prices 272 = .ok (.iadd, 1) := by decide +kernel
theorem dX9_prices_273 : decode cX9_prices 273 = .ok (.iload 4, 2) := by decide +kernel
theorem dX9_prices_275 : decode cX9_prices 275 = .ok (.if_icmp .ge 21, 3) := by decide +kernel
theorem dX9_prices_278 : decode cX9_prices 278 = .ok (.iload 6, 2) := by decide +kernel
theorem dX9_prices_280 : decode cX9_prices 280 = .ok (.aload_n 0, 1) := by decide +kernel
theorem dX9_prices_281 : decode cX9_prices 281 = .ok (.getfield 167, 3) := by decide +kernel
theorem dX9_prices_284 : decode cX9_prices 284 = .ok (.iconst 3, 1) := by decide +kernel
theorem dX9_prices_285 : decode cX9_prices 285 = .ok (.iload_n 2, 1) := by decide +kernel
theorem dX9_prices_286 : decode cX9_prices 286 = .ok (.imul, 1) := by decide +kernel
theorem dX9_prices_287 : decode cX9_prices 287 = .ok (.iconst 3, 1) := by decide +kernel
theorem dX9_prices_288 : decode cX9_prices 288 = .ok (.iadd, 1) := by decide +kernel
theorem dX9_prices_289 : decode cX9_prices 289 = .ok (.iload 5, 2) := by decide +kernel
theorem dX9_prices_291 : decode cX9_prices 291 = .ok (.iadd, 1) := by decide +kernel
theorem dX9_prices_292 : decode cX9_prices 292 = .ok (.iaload, 1) := by decide +kernel
theorem dX9_prices_293 : decode cX9_prices 293 = .ok (.iadd, 1) := by decide +kernel
theorem dX9_prices_294 : decode cX9_prices 294 = .ok (.istore 4, 2) := by decide +kernel
theorem dX9_prices_296 : decode cX9_prices 296 = .ok (.iinc 5 1, 3) := by decide +kernel
theorem dX9_prices_299 : decode cX9_prices 299 = .ok (.goto (-78), 3) := by decide +kernel
theorem dX9_prices_302 : decode cX9_prices 302 = .ok (.aload_n 0, 1) := by decide +kernel
theorem dX9_prices_303 : decode cX9_prices 303 = .ok (.getfield 167, 3) := by decide +kernel
theorem dX9_prices_306 : decode cX9_prices 306 = .ok (.iconst 3, 1) := by decide +kernel
theorem dX9_prices_307 : decode cX9_prices 307 = .ok (.iload_n 2, 1) := by decide +kernel
theorem dX9_prices_308 : decode cX9_prices 308 = .ok (.imul, 1) := by decide +kernel
theorem dX9_prices_309 : decode cX9_prices 309 = .ok (.iload_n 3, 1) := by decide +kernel
theorem dX9_prices_310 : decode cX9_prices 310 = .ok (.iadd, 1) := by decide +kernel
theorem dX9_prices_311 : decode cX9_prices 311 = .ok (.iload 4, 2) := by decide +kernel
theorem dX9_prices_313 : decode cX9_prices 313 = .ok (.aload_n 0, 1) := by decide +kernel
theorem dX9_prices_314 : decode cX9_prices 314 = .ok (.getfield 164, 3) := by decide +kernel
theorem dX9_prices_317 : decode cX9_prices 317 = .ok (.iconst 3, 1) := by decide +kernel
theorem dX9_prices_318 : decode cX9_prices 318 = .ok (.iload_n 2, 1) := by decide +kernel
theorem dX9_prices_319 : decode cX9_prices 319 = .ok (.imul, 1) := by decide +kernel
theorem dX9_prices_320 : decode cX9_prices 320 = .ok (.iload_n 3, 1) := by decide +kernel
theorem dX9_prices_321 : decode cX9_prices 321 = .ok (.iadd, 1) := by decide +kernel
theorem dX9_prices_322 : decode cX9_prices 322 = .ok (.iaload, 1) := by decide +kernel
theorem dX9_prices_323 : decode cX9_prices 323 = .ok (.iadd, 1) := by decide +kernel
theorem dX9_prices_324 : decode cX9_prices 324 = .ok (.iastore, 1) := by decide +kernel
theorem dX9_prices_325 : decode cX9_prices 325 = .ok (.iinc 3 1, 3) := by decide +kernel
theorem dX9_prices_328 : decode cX9_prices 328 = .ok (.goto (-134), 3) := by decide +kernel
theorem dX9_prices_331 : decode cX9_prices 331 = .ok (.iinc 2 (-1), 3) := by decide +kernel
theorem dX9_prices_334 : decode cX9_prices 334 = .ok (.goto (-146), 3) := by decide +kernel
theorem dX9_prices_337 : decode cX9_prices 337 = .ok (.return_, 1) := by decide +kernel
theorem dX9_least_0 : decode cX9_least 0 = .ok (.ldc_w 453, 3) := by decide +kernel
theorem dX9_least_3 : decode cX9_least 3 = .ok (.istore_n 3, 1) := by decide +kernel
theorem dX9_least_4 : decode cX9_least 4 = .ok (.iconst 0, 1) := by decide +kernel
theorem dX9_least_5 : decode cX9_least 5 = .ok (.istore 4, 2) := by decide +kernel
theorem dX9_least_7 : decode cX9_least 7 = .ok (.iload 4, 2) := by decide +kernel
theorem dX9_least_9 : decode cX9_least 9 = .ok (.iconst 3, 1) := by decide +kernel
theorem dX9_least_10 : decode cX9_least 10 = .ok (.if_icmp .ge 60, 3) := by decide +kernel
theorem dX9_least_13 : decode cX9_least 13 = .ok (.aload_n 0, 1) := by decide +kernel
theorem dX9_least_14 : decode cX9_least 14 = .ok (.iload_n 1, 1) := by decide +kernel
theorem dX9_least_15 : decode cX9_least 15 = .ok (.iload_n 2, 1) := by decide +kernel
theorem dX9_least_16 : decode cX9_least 16 = .ok (.iload 4, 2) := by decide +kernel
theorem dX9_least_18 : decode cX9_least 18 = .ok (.invokevirtual 457, 3) := by decide +kernel
theorem dX9_least_21 : decode cX9_least 21 = .ok (.istore 5, 2) := by decide +kernel
theorem dX9_least_23 : decode cX9_least 23 = .ok (.iload 5, 2) := by decide +kernel
theorem dX9_least_25 : decode cX9_least 25 = .ok (.ldc_w 453, 3) := by decide +kernel
theorem dX9_least_28 : decode cX9_least 28 = .ok (.if_icmp .ge 36, 3) := by decide +kernel
theorem dX9_least_31 : decode cX9_least 31 = .ok (.iload 5, 2) := by decide +kernel
theorem dX9_least_33 : decode cX9_least 33 = .ok (.aload_n 0, 1) := by decide +kernel
theorem dX9_least_34 : decode cX9_least 34 = .ok (.getfield 167, 3) := by decide +kernel
theorem dX9_least_37 : decode cX9_least 37 = .ok (.iconst 3, 1) := by decide +kernel
theorem dX9_least_38 : decode cX9_least 38 = .ok (.iload_n 1, 1) := by decide +kernel
theorem dX9_least_39 : decode cX9_least 39 = .ok (.imul, 1) := by decide +kernel
theorem dX9_least_40 : decode cX9_least 40 = .ok (.iload 4, 2) := by decide +kernel
theorem dX9_least_42 : decode cX9_least 42 = .ok (.iadd, 1) := by decide +kernel
theorem dX9_least_43 : decode cX9_least 43 = .ok (.iaload, 1) := by decide +kernel
theorem dX9_least_44 : decode cX9_least 44 = .ok (.iadd, 1) := by decide +kernel
theorem dX9_least_45 : decode cX9_least 45 = .ok (.iload_n 3, 1) := by decide +kernel
theorem dX9_least_46 : decode cX9_least 46 = .ok (.if_icmp .ge 18, 3) := by decide +kernel
theorem dX9_least_49 : decode cX9_least 49 = .ok (.iload 5, 2) := by decide +kernel
theorem dX9_least_51 : decode cX9_least 51 = .ok (.aload_n 0, 1) := by decide +kernel
theorem dX9_least_52 : decode cX9_least 52 = .ok (.getfield 167, 3) := by decide +kernel
theorem dX9_least_55 : decode cX9_least 55 = .ok (.iconst 3, 1) := by decide +kernel
theorem dX9_least_56 : decode cX9_least 56 = .ok (.iload_n 1, 1) := by decide +kernel
theorem dX9_least_57 : decode cX9_least 57 = .ok (.imul, 1) := by decide +kernel
theorem dX9_least_58 : decode cX9_least 58 = .ok (.iload 4, 2) := by decide +kernel
theorem dX9_least_60 : decode cX9_least 60 = .ok (.iadd, 1) := by decide +kernel
theorem dX9_least_61 : decode cX9_least 61 = .ok (.iaload, 1) := by decide +kernel
theorem dX9_least_62 : decode cX9_least 62 = .ok (.iadd, 1) := by decide +kernel
theorem dX9_least_63 : decode cX9_least 63 = .ok (.istore_n 3, 1) := by decide +kernel
theorem dX9_least_64 : decode cX9_least 64 = .ok (.iinc 4 1, 3) := by decide +kernel
theorem dX9_least_67 : decode cX9_least 67 = .ok (.goto (-60), 3) := by decide +kernel
theorem dX9_least_70 : decode cX9_least 70 = .ok (.iload_n 3, 1) := by decide +kernel
theorem dX9_least_71 : decode cX9_least 71 = .ok (.ireturn, 1) := by decide +kernel
theorem dX9_talesBut_0 : decode cX9_talesBut 0 = .ok (.aload_n 0, 1) := by decide +kernel
theorem dX9_talesBut_1 : decode cX9_talesBut 1 = .ok (.getfield 447, 3) := by decide +kernel
theorem dX9_talesBut_4 : decode cX9_talesBut 4 = .ok (.ifCond .ne 5, 3) := by decide +kernel
theorem dX9_talesBut_7 : decode cX9_talesBut 7 = .ok (.lconst 1, 1) := by decide +kernel
theorem dX9_talesBut_8 : decode cX9_talesBut 8 = .ok (.lreturn, 1) := by decide +kernel
theorem dX9_talesBut_9 : decode cX9_talesBut 9 = .ok (.aload_n 0, 1) := by decide +kernel
theorem dX9_talesBut_10 : decode cX9_talesBut 10 = .ok (.getfield 447, 3) := by decide +kernel
theorem dX9_talesBut_13 : decode cX9_talesBut 13 = .ok (.iconst 1, 1) := by decide +kernel
theorem dX9_talesBut_14 : decode cX9_talesBut 14 = .ok (.isub, 1) := by decide +kernel
theorem dX9_talesBut_15 : decode cX9_talesBut 15 = .ok (.istore_n 2, 1) := by decide +kernel
theorem dX9_talesBut_16 : decode cX9_talesBut 16 = .ok (.iload_n 2, 1) := by decide +kernel
theorem dX9_talesBut_17 : decode cX9_talesBut 17 = .ok (.ifCond .lt 55, 3) := by decide +kernel
theorem dX9_talesBut_20 : decode cX9_talesBut 20 = .ok (.iconst 0, 1) := by decide +kernel
theorem dX9_talesBut_21 : decode cX9_talesBut 21 = .ok (.istore_n 3, 1) := by decide +kernel
theorem dX9_talesBut_22 : decode cX9_talesBut 22 = .ok (.iload_n 3, 1) := by decide +kernel
theorem dX9_talesBut_23 : decode cX9_talesBut 23 = .ok (.iconst 3, 1) := by decide +kernel
theorem dX9_talesBut_24 : decode cX9_talesBut 24 = .ok (.if_icmp .ge 42, 3) := by decide +kernel
theorem dX9_talesBut_27 : decode cX9_talesBut 27 = .ok (.aload_n 0, 1) := by decide +kernel
theorem dX9_talesBut_28 : decode cX9_talesBut 28 = .ok (.getfield 170, 3) := by decide +kernel
theorem dX9_talesBut_31 : decode cX9_talesBut 31 = .ok (.iconst 3, 1) := by decide +kernel
theorem dX9_talesBut_32 : decode cX9_talesBut 32 = .ok (.iload_n 2, 1) := by decide +kernel
theorem dX9_talesBut_33 : decode cX9_talesBut 33 = .ok (.imul, 1) := by decide +kernel
theorem dX9_talesBut_34 : decode cX9_talesBut 34 = .ok (.iload_n 3, 1) := by decide +kernel
theorem dX9_talesBut_35 : decode cX9_talesBut 35 = .ok (.iadd, 1) := by decide +kernel
theorem dX9_talesBut_36 : decode cX9_talesBut 36 = .ok (.iload_n 2, 1) := by decide +kernel
theorem dX9_talesBut_37 : decode cX9_talesBut 37 = .ok (.aload_n 0, 1) := by decide +kernel
theorem dX9_talesBut_38 : decode cX9_talesBut 38 = .ok (.getfield 447, 3) := by decide +kernel
theorem dX9_talesBut_41 : decode cX9_talesBut 41 = .ok (.iconst 1, 1) := by decide +kernel
theorem dX9_talesBut_42 : decode cX9_talesBut 42 = .ok (.isub, 1) := by decide +kernel
theorem dX9_talesBut_43 : decode cX9_talesBut 43 = .ok (.if_icmp .ne 7, 3) := by decide +kernel
theorem dX9_talesBut_46 : decode cX9_talesBut 46 = .ok (.lconst 1, 1) := by decide +kernel
theorem dX9_talesBut_47 : decode cX9_talesBut 47 = .ok (.goto 12, 3) := by decide +kernel
theorem dX9_talesBut_50 : decode cX9_talesBut 50 = .ok (.aload_n 0, 1) := by decide +kernel
theorem dX9_talesBut_51 : decode cX9_talesBut 51 = .ok (.iload_n 2, 1) := by decide +kernel
theorem dX9_talesBut_52 : decode cX9_talesBut 52 = .ok (.iconst 1, 1) := by decide +kernel
theorem dX9_talesBut_53 : decode cX9_talesBut 53 = .ok (.iadd, 1) := by decide +kernel
theorem dX9_talesBut_54 : decode cX9_talesBut 54 = .ok (.iload_n 3, 1) := by decide +kernel
theorem dX9_talesBut_55 : decode cX9_talesBut 55 = .ok (.iload_n 1, 1) := by decide +kernel
theorem dX9_talesBut_56 : decode cX9_talesBut 56 = .ok (.invokevirtual 460, 3) := by decide +kernel
theorem dX9_talesBut_59 : decode cX9_talesBut 59 = .ok (.lastore, 1) := by decide +kernel
theorem dX9_talesBut_60 : decode cX9_talesBut 60 = .ok (.iinc 3 1, 3) := by decide +kernel
theorem dX9_talesBut_63 : decode cX9_talesBut 63 = .ok (.goto (-41), 3) := by decide +kernel
theorem dX9_talesBut_66 : decode cX9_talesBut 66 = .ok (.iinc 2 (-1), 3) := by decide +kernel
theorem dX9_talesBut_69 : decode cX9_talesBut 69 = .ok (.goto (-53), 3) := by decide +kernel
theorem dX9_talesBut_72 : decode cX9_talesBut 72 = .ok (.aload_n 0, 1) := by decide +kernel
theorem dX9_talesBut_73 : decode cX9_talesBut 73 = .ok (.iconst 0, 1) := by decide +kernel
theorem dX9_talesBut_74 : decode cX9_talesBut 74 = .ok (.iconst 0, 1) := by decide +kernel
theorem dX9_talesBut_75 : decode cX9_talesBut 75 = .ok (.iload_n 1, 1) := by decide +kernel
theorem dX9_talesBut_76 : decode cX9_talesBut 76 = .ok (.invokevirtual 460, 3) := by decide +kernel
theorem dX9_talesBut_79 : decode cX9_talesBut 79 = .ok (.lreturn, 1) := by decide +kernel
theorem dX9_onward_0 : decode cX9_onward 0 = .ok (.aload_n 0, 1) := by decide +kernel
theorem dX9_onward_1 : decode cX9_onward 1 = .ok (.iload_n 1, 1) := by decide +kernel
theorem dX9_onward_2 : decode cX9_onward 2 = .ok (.iload_n 2, 1) := by decide +kernel
theorem dX9_onward_3 : decode cX9_onward 3 = .ok (.invokevirtual 464, 3) := by decide +kernel
theorem dX9_onward_6 : decode cX9_onward 6 = .ok (.istore 4, 2) := by decide +kernel
theorem dX9_onward_8 : decode cX9_onward 8 = .ok (.lconst 0, 1) := by decide +kernel
theorem dX9_onward_9 : decode cX9_onward 9 = .ok (.lstore 5, 2) := by decide +kernel
theorem dX9_onward_11 : decode cX9_onward 11 = .ok (.iconst 0, 1) := by decide +kernel
theorem dX9_onward_12 : decode cX9_onward 12 = .ok (.istore 7, 2) := by decide +kernel
theorem dX9_onward_14 : decode cX9_onward 14 = .ok (.iload 7, 2) := by decide +kernel
theorem dX9_onward_16 : decode cX9_onward 16 = .ok (.iconst 3, 1) := by decide +kernel
theorem dX9_onward_17 : decode cX9_onward 17 = .ok (.if_icmp .ge 86, 3) := by decide +kernel
theorem dX9_onward_20 : decode cX9_onward 20 = .ok (.aload_n 0, 1) := by decide +kernel
theorem dX9_onward_21 : decode cX9_onward 21 = .ok (.iload_n 1, 1) := by decide +kernel
theorem dX9_onward_22 : decode cX9_onward 22 = .ok (.iload_n 2, 1) := by decide +kernel
theorem dX9_onward_23 : decode cX9_onward 23 = .ok (.iload 7, 2) := by decide +kernel
theorem dX9_onward_25 : decode cX9_onward 25 = .ok (.invokevirtual 457, 3) := by decide +kernel
theorem dX9_onward_28 : decode cX9_onward 28 = .ok (.istore 8, 2) := by decide +kernel
theorem dX9_onward_30 : decode cX9_onward 30 = .ok (.iload 8, 2) := by decide +kernel
theorem dX9_onward_32 : decode cX9_onward 32 = .ok (.ldc_w 453, 3) := by decide +kernel
theorem dX9_onward_35 : decode cX9_onward 35 = .ok (.if_icmp .ge 62, 3) := by decide +kernel
theorem dX9_onward_38 : decode cX9_onward 38 = .ok (.iload 8, 2) := by decide +kernel
theorem dX9_onward_40 : decode cX9_onward 40 = .ok (.aload_n 0, 1) := by decide +kernel
theorem dX9_onward_41 : decode cX9_onward 41 = .ok (.getfield 167, 3) := by decide +kernel
theorem dX9_onward_44 : decode cX9_onward 44 = .ok (.iconst 3, 1) := by decide +kernel
theorem dX9_onward_45 : decode cX9_onward 45 = .ok (.iload_n 1, 1) := by decide +kernel
theorem dX9_onward_46 : decode cX9_onward 46 = .ok (.imul, 1) := by decide +kernel
theorem dX9_onward_47 : decode cX9_onward 47 = .ok (.iload 7, 2) := by decide +kernel
theorem dX9_onward_49 : decode cX9_onward 49 = .ok (.iadd, 1) := by decide +kernel
theorem dX9_onward_50 : decode cX9_onward 50 = .ok (.iaload, 1) := by decide +kernel
theorem dX9_onward_51 : decode cX9_onward 51 = .ok (.iadd, 1) := by decide +kernel
theorem dX9_onward_52 : decode cX9_onward 52 = .ok (.iload 4, 2) := by decide +kernel
theorem dX9_onward_54 : decode cX9_onward 54 = .ok (.if_icmp .ne 43, 3) := by decide +kernel
theorem dX9_onward_57 : decode cX9_onward 57 = .ok (.iload 7, 2) := by decide +kernel
theorem dX9_onward_59 : decode cX9_onward 59 = .ok (.iconst 1, 1) := by decide +kernel
theorem dX9_onward_60 : decode cX9_onward 60 = .ok (.if_icmp .ne 21, 3) := by decide +kernel
theorem dX9_onward_63 : decode cX9_onward 63 = .ok (.iload_n 2, 1) := by decide +kernel
theorem dX9_onward_64 : decode cX9_onward 64 = .ok (.iconst 1, 1) := by decide +kernel
theorem dX9_onward_65 : decode cX9_onward 65 = .ok (.if_icmp .eq 16, 3) := by decide +kernel
theorem dX9_onward_68 : decode cX9_onward 68 = .ok (.aload_n 0, 1) := by decide +kernel
theorem dX9_onward_69 : decode cX9_onward 69 = .ok (.getfield 155, 3) := by decide +kernel
theorem dX9_onward_72 : decode cX9_onward 72 = .ok (.iload_n 1, 1) := by decide +kernel
theorem dX9_onward_73 : decode cX9_onward 73 = .ok (.iaload, 1) := by decide +kernel
theorem dX9_onward_74 : decode cX9_onward 74 = .ok (.iload_n 3, 1) := by decide +kernel
theorem dX9_onward_75 : decode cX9_onward 75 = .ok (.if_icmp .ne 6, 3) := by decide +kernel
theorem dX9_onward_78 : decode cX9_onward 78 = .ok (.goto 19, 3) := by decide +kernel
theorem dX9_onward_81 : decode cX9_onward 81 = .ok (.lload 5, 2) := by decide +kernel
theorem dX9_onward_83 : decode cX9_onward 83 = .ok (.aload_n 0, 1) := by decide +kernel
theorem dX9_onward_84 : decode cX9_onward 84 = .ok (.getfield 170, 3) := by decide +kernel
theorem dX9_onward_87 : decode cX9_onward 87 = .ok (.iconst 3, 1) := by decide +kernel
theorem dX9_onward_88 : decode cX9_onward 88 = .ok (.iload_n 1, 1) := by decide +kernel
theorem dX9_onward_89 : decode cX9_onward 89 = .ok (.imul, 1) := by decide +kernel
theorem dX9_onward_90 : decode cX9_onward 90 = .ok (.iload 7, 2) := by decide +kernel
theorem dX9_onward_92 : decode cX9_onward 92 = .ok (.iadd, 1) := by decide +kernel
theorem dX9_onward_93 : decode cX9_onward 93 = .ok (.laload, 1) := by decide +kernel
theorem dX9_onward_94 : decode cX9_onward 94 = .ok (.ladd, 1) := by decide +kernel
theorem dX9_onward_95 : decode cX9_onward 95 = .ok (.lstore 5, 2) := by decide +kernel
theorem dX9_onward_97 : decode cX9_onward 97 = .ok (.iinc 7 1, 3) := by decide +kernel
theorem dX9_onward_100 : decode cX9_onward 100 = .ok (.goto (-86), 3) := by decide +kernel
theorem dX9_onward_103 : decode cX9_onward 103 = .ok (.lload 5, 2) := by decide +kernel
theorem dX9_onward_105 : decode cX9_onward 105 = .ok (.lreturn, 1) := by decide +kernel
theorem dX9_tellsTale_0 : decode cX9_tellsTale 0 = .ok (.aload_n 0, 1) := by decide +kernel
theorem dX9_tellsTale_1 : decode cX9_tellsTale 1 = .ok (.iload_n 1, 1) := by decide +kernel
theorem dX9_tellsTale_2 : decode cX9_tellsTale 2 = .ok (.invokevirtual 467, 3) := by decide +kernel
theorem dX9_tellsTale_5 : decode cX9_tellsTale 5 = .ok (.iconst 0, 1) := by decide +kernel
theorem dX9_tellsTale_6 : decode cX9_tellsTale 6 = .ok (.istore_n 2, 1) := by decide +kernel
theorem dX9_tellsTale_7 : decode cX9_tellsTale 7 = .ok (.iconst 0, 1) := by decide +kernel
theorem dX9_tellsTale_8 : decode cX9_tellsTale 8 = .ok (.istore_n 3, 1) := by decide +kernel
theorem dX9_tellsTale_9 : decode cX9_tellsTale 9 = .ok (.iload_n 3, 1) := by decide +kernel
theorem dX9_tellsTale_10 : decode cX9_tellsTale 10 = .ok (.aload_n 0, 1) := by decide +kernel
theorem dX9_tellsTale_11 : decode cX9_tellsTale 11 = .ok (.getfield 447, 3) := by decide +kernel
theorem dX9_tellsTale_14 : decode cX9_tellsTale 14 = .ok (.if_icmp .ge 86, 3) := by decide +kernel
theorem dX9_tellsTale_17 : decode cX9_tellsTale 17 = .ok (.aload_n 0, 1) := by decide +kernel
theorem dX9_tellsTale_18 : decode cX9_tellsTale 18 = .ok (.iload_n 3, 1) := by decide +kernel
theorem dX9_tellsTale_19 : decode cX9_tellsTale 19 = .ok (.iload_n 2, 1) := by decide +kernel
theorem dX9_tellsTale_20 : decode cX9_tellsTale 20 = .ok (.invokevirtual 464, 3) := by decide +kernel
theorem dX9_tellsTale_23 : decode cX9_tellsTale 23 = .ok (.istore 4, 2) := by decide +kernel
theorem dX9_tellsTale_25 : decode cX9_tellsTale 25 = .ok (.iconst (-1), 1) := by decide +kernel
theorem dX9_tellsTale_26 : decode cX9_tellsTale 26 = .ok (.istore 5, 2) := by decide +kernel
theorem dX9_tellsTale_28 : decode cX9_tellsTale 28 = .ok (.iconst 2, 1) := by decide +kernel
theorem dX9_tellsTale_29 : decode cX9_tellsTale 29 = .ok (.istore 6, 2) := by decide +kernel
theorem dX9_tellsTale_31 : decode cX9_tellsTale 31 = .ok (.iload 6, 2) := by decide +kernel
theorem dX9_tellsTale_33 : decode cX9_tellsTale 33 = .ok (.ifCond .lt 50, 3) := by decide +kernel
theorem dX9_tellsTale_36 : decode cX9_tellsTale 36 = .ok (.aload_n 0, 1) := by decide +kernel
theorem dX9_tellsTale_37 : decode cX9_tellsTale 37 = .ok (.iload_n 3, 1) := by decide +kernel
theorem dX9_tellsTale_38 : decode cX9_tellsTale 38 = .ok (.iload_n 2, 1) := by decide +kernel
theorem dX9_tellsTale_39 : decode cX9_tellsTale 39 = .ok (.iload 6, 2) := by decide +kernel
theorem dX9_tellsTale_41 : decode cX9_tellsTale 41 = .ok (.invokevirtual 457, 3) := by decide +kernel
theorem dX9_tellsTale_44 : decode cX9_tellsTale 44 = .ok (.istore 7, 2) := by decide +kernel
theorem dX9_tellsTale_46 : decode cX9_tellsTale 46 = .ok (.iload 7, 2) := by decide +kernel
theorem dX9_tellsTale_48 : decode cX9_tellsTale 48 = .ok (.ldc_w 453, 3) := by decide +kernel
theorem dX9_tellsTale_51 : decode cX9_tellsTale 51 = .ok (.if_icmp .ge 26, 3) := by decide +kernel
theorem dX9_tellsTale_54 : decode cX9_tellsTale 54 = .ok (.iload 7, 2) := by decide +kernel
theorem dX9_tellsTale_56 : decode cX9_tellsTale 56 = .ok (.aload_n 0, 1) := by decide +kernel
theorem dX9_tellsTale_57 : decode cX9_tellsTale 57 = .ok (.getfield 167, 3) := by decide +kernel
theorem dX9_tellsTale_60 : decode cX9_tellsTale 60 = .ok (.iconst 3, 1) := by decide +kernel
theorem dX9_tellsTale_61 : decode cX9_tellsTale 61 = .ok (.iload_n 3, 1) := by decide +kernel
theorem dX9_tellsTale_62 : decode cX9_tellsTale 62 = .ok (.imul, 1) := by decide +kernel
theorem dX9_tellsTale_63 : decode cX9_tellsTale 63 = .ok (.iload 6, 2) := by decide +kernel
theorem dX9_tellsTale_65 : decode cX9_tellsTale 65 = .ok (.iadd, 1) := by decide +kernel
theorem dX9_tellsTale_66 : decode cX9_tellsTale 66 = .ok (.iaload, 1) := by decide +kernel
theorem dX9_tellsTale_67 : decode cX9_tellsTale 67 = .ok (.iadd, 1) := by decide +kernel
theorem dX9_tellsTale_68 : decode cX9_tellsTale 68 = .ok (.iload 4, 2) := by decide +kernel
theorem dX9_tellsTale_70 : decode cX9_tellsTale 70 = .ok (.if_icmp .ne 7, 3) := by decide +kernel
theorem dX9_tellsTale_73 : decode cX9_tellsTale 73 = .ok (.iload 6, 2) := by decide +kernel
theorem dX9_tellsTale_75 : decode cX9_tellsTale 75 = .ok (.istore 5, 2) := by decide +kernel
theorem dX9_tellsTale_77 : decode cX9_tellsTale 77 = .ok (.iinc 6 (-1), 3) := by decide +kernel
theorem dX9_tellsTale_80 : decode cX9_tellsTale 80 = .ok (.goto (-49), 3) := by decide +kernel
theorem dX9_tellsTale_83 : decode cX9_tellsTale 83 = .ok (.aload_n 0, 1) := by decide +kernel
theorem dX9_tellsTale_84 : decode cX9_tellsTale 84 = .ok (.getfield 179, 3) := by decide +kernel
theorem dX9_tellsTale_87 : decode cX9_tellsTale 87 = .ok (.iload_n 3, 1) := by decide +kernel
theorem dX9_tellsTale_88 : decode cX9_tellsTale 88 = .ok (.iload 5, 2) := by decide +kernel
theorem dX9_tellsTale_90 : decode cX9_tellsTale 90 = .ok (.iastore, 1) := by decide +kernel
theorem dX9_tellsTale_91 : decode cX9_tellsTale 91 = .ok (.iload 5, 2) := by decide +kernel
theorem dX9_tellsTale_93 : decode cX9_tellsTale 93 = .ok (.istore_n 2, 1) := by decide +kernel
theorem dX9_tellsTale_94 : decode cX9_tellsTale 94 = .ok (.iinc 3 1, 3) := by decide +kernel
theorem dX9_tellsTale_97 : decode cX9_tellsTale 97 = .ok (.goto (-88), 3) := by decide +kernel
theorem dX9_tellsTale_100 : decode cX9_tellsTale 100 = .ok (.return_, 1) := by decide +kernel
theorem dX9_isKnown_0 : decode cX9_isKnown 0 = .ok (.iload_n 1, 1) := by decide +kernel
theorem dX9_isKnown_1 : decode cX9_isKnown 1 = .ok (.ifCond .lt 15, 3) := by decide +kernel
theorem dX9_isKnown_4 : decode cX9_isKnown 4 = .ok (.iload_n 1, 1) := by decide +kernel
theorem dX9_isKnown_5 : decode cX9_isKnown 5 = .ok (.aload_n 0, 1) := by decide +kernel
theorem dX9_isKnown_6 : decode cX9_isKnown 6 = .ok (.getfield 450, 3) := by decide +kernel
theorem dX9_isKnown_9 : decode cX9_isKnown 9 = .ok (.if_icmp .gt 7, 3) := by decide +kernel
theorem dX9_isKnown_12 : decode cX9_isKnown 12 = .ok (.iconst 1, 1) := by decide +kernel
theorem dX9_isKnown_13 : decode cX9_isKnown 13 = .ok (.goto 4, 3) := by decide +kernel
theorem dX9_isKnown_16 : decode cX9_isKnown 16 = .ok (.iconst 0, 1) := by decide +kernel
theorem dX9_isKnown_17 : decode cX9_isKnown 17 = .ok (.ireturn, 1) := by decide +kernel
theorem dX9_tale_0 : decode cX9_tale 0 = .ok (.aload_n 0, 1) := by decide +kernel
theorem dX9_tale_1 : decode cX9_tale 1 = .ok (.iload_n 1, 1) := by decide +kernel
theorem dX9_tale_2 : decode cX9_tale 2 = .ok (.invokevirtual 470, 3) := by decide +kernel
theorem dX9_tale_5 : decode cX9_tale 5 = .ok (.ifCond .ne 5, 3) := by decide +kernel
theorem dX9_tale_8 : decode cX9_tale 8 = .ok (.iconst (-1), 1) := by decide +kernel
theorem dX9_tale_9 : decode cX9_tale 9 = .ok (.ireturn, 1) := by decide +kernel
theorem dX9_tale_10 : decode cX9_tale 10 = .ok (.aload_n 0, 1) := by decide +kernel
theorem dX9_tale_11 : decode cX9_tale 11 = .ok (.iload_n 1, 1) := by decide +kernel
theorem dX9_tale_12 : decode cX9_tale 12 = .ok (.invokevirtual 467, 3) := by decide +kernel
theorem dX9_tale_15 : decode cX9_tale 15 = .ok (.aload_n 0, 1) := by decide +kernel
theorem dX9_tale_16 : decode cX9_tale 16 = .ok (.getfield 447, 3) := by decide +kernel
theorem dX9_tale_19 : decode cX9_tale 19 = .ok (.ifCond .ne 7, 3) := by decide +kernel
theorem dX9_tale_22 : decode cX9_tale 22 = .ok (.iconst 0, 1) := by decide +kernel
theorem dX9_tale_23 : decode cX9_tale 23 = .ok (.goto 9, 3) := by decide +kernel
theorem dX9_tale_26 : decode cX9_tale 26 = .ok (.aload_n 0, 1) := by decide +kernel
theorem dX9_tale_27 : decode cX9_tale 27 = .ok (.iconst 0, 1) := by decide +kernel
theorem dX9_tale_28 : decode cX9_tale 28 = .ok (.iconst 0, 1) := by decide +kernel
theorem dX9_tale_29 : decode cX9_tale 29 = .ok (.invokevirtual 464, 3) := by decide +kernel
theorem dX9_tale_32 : decode cX9_tale 32 = .ok (.ireturn, 1) := by decide +kernel
theorem dX9_tales_0 : decode cX9_tales 0 = .ok (.aload_n 0, 1) := by decide +kernel
theorem dX9_tales_1 : decode cX9_tales 1 = .ok (.iload_n 1, 1) := by decide +kernel
theorem dX9_tales_2 : decode cX9_tales 2 = .ok (.invokevirtual 470, 3) := by decide +kernel
theorem dX9_tales_5 : decode cX9_tales 5 = .ok (.ifCond .ne 7, 3) := by decide +kernel
theorem dX9_tales_8 : decode cX9_tales 8 = .ok (.ldc2_w 473, 3) := by decide +kernel
theorem dX9_tales_11 : decode cX9_tales 11 = .ok (.lreturn, 1) := by decide +kernel
theorem dX9_tales_12 : decode cX9_tales 12 = .ok (.aload_n 0, 1) := by decide +kernel
theorem dX9_tales_13 : decode cX9_tales 13 = .ok (.iload_n 1, 1) := by decide +kernel
theorem dX9_tales_14 : decode cX9_tales 14 = .ok (.invokevirtual 467, 3) := by decide +kernel
theorem dX9_tales_17 : decode cX9_tales 17 = .ok (.aload_n 0, 1) := by decide +kernel
theorem dX9_tales_18 : decode cX9_tales 18 = .ok (.iconst (-1), 1) := by decide +kernel
theorem dX9_tales_19 : decode cX9_tales 19 = .ok (.invokevirtual 475, 3) := by decide +kernel
theorem dX9_tales_22 : decode cX9_tales 22 = .ok (.lreturn, 1) := by decide +kernel
theorem dX9_told_0 : decode cX9_told 0 = .ok (.iload_n 1, 1) := by decide +kernel
theorem dX9_told_1 : decode cX9_told 1 = .ok (.ifCond .lt 19, 3) := by decide +kernel
theorem dX9_told_4 : decode cX9_told 4 = .ok (.iload_n 1, 1) := by decide +kernel
theorem dX9_told_5 : decode cX9_told 5 = .ok (.aload_n 0, 1) := by decide +kernel
theorem dX9_told_6 : decode cX9_told 6 = .ok (.getfield 447, 3) := by decide +kernel
theorem dX9_told_9 : decode cX9_told 9 = .ok (.if_icmp .ge 11, 3) := by decide +kernel
theorem dX9_told_12 : decode cX9_told 12 = .ok (.aload_n 0, 1) := by decide +kernel
theorem dX9_told_13 : decode cX9_told 13 = .ok (.iload_n 2, 1) := by decide +kernel
theorem dX9_told_14 : decode cX9_told 14 = .ok (.invokevirtual 470, 3) := by decide +kernel
theorem dX9_told_17 : decode cX9_told 17 = .ok (.ifCond .ne 5, 3) := by decide +kernel
theorem dX9_told_20 : decode cX9_told 20 = .ok (.iconst (-1), 1) := by decide +kernel
theorem dX9_told_21 : decode cX9_told 21 = .ok (.ireturn, 1) := by decide +kernel
theorem dX9_told_22 : decode cX9_told 22 = .ok (.aload_n 0, 1) := by decide +kernel
theorem dX9_told_23 : decode cX9_told 23 = .ok (.iload_n 2, 1) := by decide +kernel
theorem dX9_told_24 : decode cX9_told 24 = .ok (.invokevirtual 479, 3) := by decide +kernel
theorem dX9_told_27 : decode cX9_told 27 = .ok (.aload_n 0, 1) := by decide +kernel
theorem dX9_told_28 : decode cX9_told 28 = .ok (.getfield 179, 3) := by decide +kernel
theorem dX9_told_31 : decode cX9_told 31 = .ok (.iload_n 1, 1) := by decide +kernel
theorem dX9_told_32 : decode cX9_told 32 = .ok (.iaload, 1) := by decide +kernel
theorem dX9_told_33 : decode cX9_told 33 = .ok (.ireturn, 1) := by decide +kernel
theorem dX9_opened_0 : decode cX9_opened 0 = .ok (.iload_n 1, 1) := by decide +kernel
theorem dX9_opened_1 : decode cX9_opened 1 = .ok (.ifCond .lt 19, 3) := by decide +kernel
theorem dX9_opened_4 : decode cX9_opened 4 = .ok (.iload_n 1, 1) := by decide +kernel
theorem dX9_opened_5 : decode cX9_opened 5 = .ok (.aload_n 0, 1) := by decide +kernel
theorem dX9_opened_6 : decode cX9_opened 6 = .ok (.getfield 444, 3) := by decide +kernel
theorem dX9_opened_9 : decode cX9_opened 9 = .ok (.if_icmp .ge 11, 3) := by decide +kernel
theorem dX9_opened_12 : decode cX9_opened 12 = .ok (.aload_n 0, 1) := by decide +kernel
theorem dX9_opened_13 : decode cX9_opened 13 = .ok (.iload_n 2, 1) := by decide +kernel
theorem dX9_opened_14 : decode cX9_opened 14 = .ok (.invokevirtual 470, 3) := by decide +kernel
theorem dX9_opened_17 : decode cX9_opened 17 = .ok (.ifCond .ne 5, 3) := by decide +kernel
theorem dX9_opened_20 : decode cX9_opened 20 = .ok (.iconst (-1), 1) := by decide +kernel
theorem dX9_opened_21 : decode cX9_opened 21 = .ok (.ireturn, 1) := by decide +kernel
theorem dX9_opened_22 : decode cX9_opened 22 = .ok (.aload_n 0, 1) := by decide +kernel
theorem dX9_opened_23 : decode cX9_opened 23 = .ok (.iload_n 2, 1) := by decide +kernel
theorem dX9_opened_24 : decode cX9_opened 24 = .ok (.invokevirtual 467, 3) := by decide +kernel
theorem dX9_opened_27 : decode cX9_opened 27 = .ok (.aload_n 0, 1) := by decide +kernel
theorem dX9_opened_28 : decode cX9_opened 28 = .ok (.iconst (-1), 1) := by decide +kernel
theorem dX9_opened_29 : decode cX9_opened 29 = .ok (.invokevirtual 475, 3) := by decide +kernel
theorem dX9_opened_32 : decode cX9_opened 32 = .ok (.lstore_n 3, 1) := by decide +kernel
theorem dX9_opened_33 : decode cX9_opened 33 = .ok (.aload_n 0, 1) := by decide +kernel
theorem dX9_opened_34 : decode cX9_opened 34 = .ok (.iload_n 1, 1) := by decide +kernel
theorem dX9_opened_35 : decode cX9_opened 35 = .ok (.invokevirtual 475, 3) := by decide +kernel
theorem dX9_opened_38 : decode cX9_opened 38 = .ok (.lstore 5, 2) := by decide +kernel
theorem dX9_opened_40 : decode cX9_opened 40 = .ok (.lload 5, 2) := by decide +kernel
theorem dX9_opened_42 : decode cX9_opened 42 = .ok (.lconst 0, 1) := by decide +kernel
theorem dX9_opened_43 : decode cX9_opened 43 = .ok (.lcmp, 1) := by decide +kernel
theorem dX9_opened_44 : decode cX9_opened 44 = .ok (.ifCond .ne 7, 3) := by decide +kernel
theorem dX9_opened_47 : decode cX9_opened 47 = .ok (.iconst 1, 1) := by decide +kernel
theorem dX9_opened_48 : decode cX9_opened 48 = .ok (.goto 15, 3) := by decide +kernel
theorem dX9_opened_51 : decode cX9_opened 51 = .ok (.lload 5, 2) := by decide +kernel
theorem dX9_opened_53 : decode cX9_opened 53 = .ok (.lload_n 3, 1) := by decide +kernel
theorem dX9_opened_54 : decode cX9_opened 54 = .ok (.lcmp, 1) := by decide +kernel
theorem dX9_opened_55 : decode cX9_opened 55 = .ok (.ifCond .ne 7, 3) := by decide +kernel
theorem dX9_opened_58 : decode cX9_opened 58 = .ok (.iconst 0, 1) := by decide +kernel
theorem dX9_opened_59 : decode cX9_opened 59 = .ok (.goto 4, 3) := by decide +kernel
theorem dX9_opened_62 : decode cX9_opened 62 = .ok (.iconst 2, 1) := by decide +kernel
theorem dX9_opened_63 : decode cX9_opened 63 = .ok (.ireturn, 1) := by decide +kernel
theorem dX9_turned_0 : decode cX9_turned 0 = .ok (.iload_n 1, 1) := by decide +kernel
theorem dX9_turned_1 : decode cX9_turned 1 = .ok (.ifCond .lt 11, 3) := by decide +kernel
theorem dX9_turned_4 : decode cX9_turned 4 = .ok (.iload_n 1, 1) := by decide +kernel
theorem dX9_turned_5 : decode cX9_turned 5 = .ok (.aload_n 0, 1) := by decide +kernel
theorem dX9_turned_6 : decode cX9_turned 6 = .ok (.getfield 450, 3) := by decide +kernel
theorem dX9_turned_9 : decode cX9_turned 9 = .ok (.if_icmp .lt 5, 3) := by decide +kernel
theorem dX9_turned_12 : decode cX9_turned 12 = .ok (.iconst (-1), 1) := by decide +kernel
theorem dX9_turned_13 : decode cX9_turned 13 = .ok (.ireturn, 1) := by decide +kernel
theorem dX9_turned_14 : decode cX9_turned 14 = .ok (.aload_n 0, 1) := by decide +kernel
theorem dX9_turned_15 : decode cX9_turned 15 = .ok (.iload_n 1, 1) := by decide +kernel
theorem dX9_turned_16 : decode cX9_turned 16 = .ok (.invokevirtual 479, 3) := by decide +kernel
theorem dX9_turned_19 : decode cX9_turned 19 = .ok (.iload_n 1, 1) := by decide +kernel
theorem dX9_turned_20 : decode cX9_turned 20 = .ok (.istore_n 2, 1) := by decide +kernel
theorem dX9_turned_21 : decode cX9_turned 21 = .ok (.iload_n 2, 1) := by decide +kernel
theorem dX9_turned_22 : decode cX9_turned 22 = .ok (.aload_n 0, 1) := by decide +kernel
theorem dX9_turned_23 : decode cX9_turned 23 = .ok (.getfield 450, 3) := by decide +kernel
theorem dX9_turned_26 : decode cX9_turned 26 = .ok (.if_icmp .ge 77, 3) := by decide +kernel
theorem dX9_turned_29 : decode cX9_turned 29 = .ok (.iconst 0, 1) := by decide +kernel
theorem dX9_turned_30 : decode cX9_turned 30 = .ok (.istore_n 3, 1) := by decide +kernel
theorem dX9_turned_31 : decode cX9_turned 31 = .ok (.iload_n 3, 1) := by decide +kernel
theorem dX9_turned_32 : decode cX9_turned 32 = .ok (.aload_n 0, 1) := by decide +kernel
theorem dX9_turned_33 : decode cX9_turned 33 = .ok (.getfield 447, 3) := by decide +kernel
theorem dX9_turned_36 : decode cX9_turned 36 = .ok (.if_icmp .ge 21, 3) := by decide +kernel
theorem dX9_turned_39 : decode cX9_turned 39 = .ok (.aload_n 0, 1) := by decide +kernel
theorem dX9_turned_40 : decode cX9_turned 40 = .ok (.getfield 182, 3) := by decide +kernel
theorem dX9_turned_43 : decode cX9_turned 43 = .ok (.iload_n 3, 1) := by decide +kernel
theorem dX9_turned_44 : decode cX9_turned 44 = .ok (.aload_n 0, 1) := by decide +kernel
theorem dX9_turned_45 : decode cX9_turned 45 = .ok (.getfield 179, 3) := by decide +kernel
theorem dX9_turned_48 : decode cX9_turned 48 = .ok (.iload_n 3, 1) := by decide +kernel
theorem dX9_turned_49 : decode cX9_turned 49 = .ok (.iaload, 1) := by decide +kernel
theorem dX9_turned_50 : decode cX9_turned 50 = .ok (.iastore, 1) := by decide +kernel
theorem dX9_turned_51 : decode cX9_turned 51 = .ok (.iinc 3 1, 3) := by decide +kernel
theorem dX9_turned_54 : decode cX9_turned 54 = .ok (.goto (-23), 3) := by decide +kernel
theorem dX9_turned_57 : decode cX9_turned 57 = .ok (.aload_n 0, 1) := by decide +kernel
theorem dX9_turned_58 : decode cX9_turned 58 = .ok (.iload_n 2, 1) := by decide +kernel
theorem dX9_turned_59 : decode cX9_turned 59 = .ok (.iconst 1, 1) := by decide +kernel
theorem dX9_turned_60 : decode cX9_turned 60 = .ok (.iadd, 1) := by decide +kernel
theorem dX9_turned_61 : decode cX9_turned 61 = .ok (.invokevirtual 479, 3) := by decide +kernel
theorem dX9_turned_64 : decode cX9_turned 64 = .ok (.iconst 0, 1) := by decide +kernel
theorem dX9_turned_65 : decode cX9_turned 65 = .ok (.istore_n 3, 1) := by decide +kernel
theorem dX9_turned_66 : decode cX9_turned 66 = .ok (.iload_n 3, 1) := by decide +kernel
theorem dX9_turned_67 : decode cX9_turned 67 = .ok (.aload_n 0, 1) := by decide +kernel
theorem dX9_turned_68 : decode cX9_turned 68 = .ok (.getfield 447, 3) := by decide +kernel
theorem dX9_turned_71 : decode cX9_turned 71 = .ok (.if_icmp .ge 26, 3) := by decide +kernel
theorem dX9_turned_74 : decode cX9_turned 74 = .ok (.aload_n 0, 1) := by decide +kernel
theorem dX9_turned_75 : decode cX9_turned 75 = .ok (.getfield 179, 3) := by decide +kernel
theorem dX9_turned_78 : decode cX9_turned 78 = .ok (.iload_n 3, 1) := by decide +kernel
theorem dX9_turned_79 : decode cX9_turned 79 = .ok (.iaload, 1) := by decide +kernel
theorem dX9_turned_80 : decode cX9_turned 80 = .ok (.aload_n 0, 1) := by decide +kernel
theorem dX9_turned_81 : decode cX9_turned 81 = .ok (.getfield 182, 3) := by decide +kernel
theorem dX9_turned_84 : decode cX9_turned 84 = .ok (.iload_n 3, 1) := by decide +kernel
theorem dX9_turned_85 : decode cX9_turned 85 = .ok (.iaload, 1) := by decide +kernel
theorem dX9_turned_86 : decode cX9_turned 86 = .ok (.if_icmp .eq 5, 3) := by decide +kernel
theorem dX9_turned_89 : decode cX9_turned 89 = .ok (.iload_n 2, 1) := by decide +kernel
theorem dX9_turned_90 : decode cX9_turned 90 = .ok (.ireturn, 1) := by decide +kernel
theorem dX9_turned_91 : decode cX9_turned 91 = .ok (.iinc 3 1, 3) := by decide +kernel
theorem dX9_turned_94 : decode cX9_turned 94 = .ok (.goto (-28), 3) := by decide +kernel
theorem dX9_turned_97 : decode cX9_turned 97 = .ok (.iinc 2 1, 3) := by decide +kernel
theorem dX9_turned_100 : decode cX9_turned 100 = .ok (.goto (-79), 3) := by decide +kernel
theorem dX9_turned_103 : decode cX9_turned 103 = .ok (.iconst (-1), 1) := by decide +kernel
theorem dX9_turned_104 : decode cX9_turned 104 = .ok (.ireturn, 1) := by decide +kernel
theorem dX9_count_0 : decode cX9_count 0 = .ok (.iload_n 1, 1) := by decide +kernel
theorem dX9_count_1 : decode cX9_count 1 = .ok (.tableswitch 129 0 8 #[51, 56, 66, 71, 81, 86, 114, 119, 124], 51) := by decide +kernel
theorem dX9_count_52 : decode cX9_count 52 = .ok (.aload_n 0, 1) := by decide +kernel
theorem dX9_count_53 : decode cX9_count 53 = .ok (.getfield 189, 3) := by decide +kernel
theorem dX9_count_56 : decode cX9_count 56 = .ok (.ireturn, 1) := by decide +kernel
theorem dX9_count_57 : decode cX9_count 57 = .ok (.aload_n 0, 1) := by decide +kernel
theorem dX9_count_58 : decode cX9_count 58 = .ok (.getfield 92, 3) := by decide +kernel
theorem dX9_count_61 : decode cX9_count 61 = .ok (.aload_n 0, 1) := by decide +kernel
theorem dX9_count_62 : decode cX9_count 62 = .ok (.getfield 333, 3) := by decide +kernel
theorem dX9_count_65 : decode cX9_count 65 = .ok (.iaload, 1) := by decide +kernel
theorem dX9_count_66 : decode cX9_count 66 = .ok (.ireturn, 1) := by decide +kernel
theorem dX9_count_67 : decode cX9_count 67 = .ok (.aload_n 0, 1) := by decide +kernel
theorem dX9_count_68 : decode cX9_count 68 = .ok (.getfield 333, 3) := by decide +kernel
theorem dX9_count_71 : decode cX9_count 71 = .ok (.ireturn, 1) := by decide +kernel
theorem dX9_count_72 : decode cX9_count 72 = .ok (.aload_n 0, 1) := by decide +kernel
theorem dX9_count_73 : decode cX9_count 73 = .ok (.getfield 40, 3) := by decide +kernel
theorem dX9_count_76 : decode cX9_count 76 = .ok (.aload_n 0, 1) := by decide +kernel
theorem dX9_count_77 : decode cX9_count 77 = .ok (.getfield 266, 3) := by decide +kernel
theorem dX9_count_80 : decode cX9_count 80 = .ok (.iaload, 1) := by decide +kernel
theorem dX9_count_81 : decode cX9_count 81 = .ok (.ireturn, 1) := by decide +kernel
theorem dX9_count_82 : decode cX9_count 82 = .ok (.aload_n 0, 1) := by decide +kernel
theorem dX9_count_83 : decode cX9_count 83 = .ok (.getfield 199, 3) := by decide +kernel
theorem dX9_count_86 : decode cX9_count 86 = .ok (.ireturn, 1) := by decide +kernel
theorem dX9_count_87 : decode cX9_count 87 = .ok (.iconst 0, 1) := by decide +kernel
theorem dX9_count_88 : decode cX9_count 88 = .ok (.istore_n 2, 1) := by decide +kernel
theorem dX9_count_89 : decode cX9_count 89 = .ok (.iconst 0, 1) := by decide +kernel
theorem dX9_count_90 : decode cX9_count 90 = .ok (.istore_n 3, 1) := by decide +kernel
theorem dX9_count_91 : decode cX9_count 91 = .ok (.iload_n 3, 1) := by decide +kernel
theorem dX9_count_92 : decode cX9_count 92 = .ok (.aload_n 0, 1) := by decide +kernel
theorem dX9_count_93 : decode cX9_count 93 = .ok (.getfield 333, 3) := by decide +kernel
theorem dX9_count_96 : decode cX9_count 96 = .ok (.if_icmp .ge 17, 3) := by decide +kernel
theorem dX9_count_99 : decode cX9_count 99 = .ok (.iload_n 2, 1) := by decide +kernel
theorem dX9_count_100 : decode cX9_count 100 = .ok (.aload_n 0, 1) := by decide +kernel
theorem dX9_count_101 : decode cX9_count 101 = .ok (.iload_n 3, 1) := by decide +kernel
theorem dX9_count_102 : decode cX9_count 102 = .ok (.invokevirtual 382, 3) := by decide +kernel
theorem dX9_count_105 : decode cX9_count 105 = .ok (.iadd, 1) := by decide +kernel
theorem dX9_count_106 : decode cX9_count 106 = .ok (.istore_n 2, 1) := by decide +kernel
theorem dX9_count_107 : decode cX9_count 107 = .ok (.iinc 3 1, 3) := by decide +kernel
theorem dX9_count_110 : decode cX9_count 110 = .ok (.goto (-19), 3) := by decide +kernel
theorem dX9_count_113 : decode cX9_count 113 = .ok (.iload_n 2, 1) := by decide +kernel
theorem dX9_count_114 : decode cX9_count 114 = .ok (.ireturn, 1) := by decide +kernel
theorem dX9_count_115 : decode cX9_count 115 = .ok (.aload_n 0, 1) := by decide +kernel
theorem dX9_count_116 : decode cX9_count 116 = .ok (.getfield 444, 3) := by decide +kernel
theorem dX9_count_119 : decode cX9_count 119 = .ok (.ireturn, 1) := by decide +kernel
theorem dX9_count_120 : decode cX9_count 120 = .ok (.aload_n 0, 1) := by decide +kernel
theorem dX9_count_121 : decode cX9_count 121 = .ok (.getfield 447, 3) := by decide +kernel
theorem dX9_count_124 : decode cX9_count 124 = .ok (.ireturn, 1) := by decide +kernel
theorem dX9_count_125 : decode cX9_count 125 = .ok (.aload_n 0, 1) := by decide +kernel
theorem dX9_count_126 : decode cX9_count 126 = .ok (.getfield 450, 3) := by decide +kernel
theorem dX9_count_129 : decode cX9_count 129 = .ok (.ireturn, 1) := by decide +kernel
theorem dX9_count_130 : decode cX9_count 130 = .ok (.iconst (-1), 1) := by decide +kernel
theorem dX9_count_131 : decode cX9_count 131 = .ok (.ireturn, 1) := by decide +kernel
theorem dJ9_max_7cf53_0 : decode cJ9_max_7cf53 0 = .ok (.iload_n 0, 1) := by decide +kernel
theorem dJ9_max_7cf53_1 : decode cJ9_max_7cf53 1 = .ok (.iload_n 1, 1) := by decide +kernel
theorem dJ9_max_7cf53_2 : decode cJ9_max_7cf53 2 = .ok (.if_icmp .lt 7, 3) := by decide +kernel
theorem dJ9_max_7cf53_5 : decode cJ9_max_7cf53 5 = .ok (.iload_n 0, 1) := by decide +kernel
theorem dJ9_max_7cf53_6 : decode cJ9_max_7cf53 6 = .ok (.goto 4, 3) := by decide +kernel
theorem dJ9_max_7cf53_9 : decode cJ9_max_7cf53 9 = .ok (.iload_n 1, 1) := by decide +kernel
theorem dJ9_max_7cf53_10 : decode cJ9_max_7cf53 10 = .ok (.ireturn, 1) := by decide +kernel
theorem dJ9_min_7cf53_0 : decode cJ9_min_7cf53 0 = .ok (.iload_n 0, 1) := by decide +kernel
theorem dJ9_min_7cf53_1 : decode cJ9_min_7cf53 1 = .ok (.iload_n 1, 1) := by decide +kernel
theorem dJ9_min_7cf53_2 : decode cJ9_min_7cf53 2 = .ok (.if_icmp .gt 7, 3) := by decide +kernel
theorem dJ9_min_7cf53_5 : decode cJ9_min_7cf53 5 = .ok (.iload_n 0, 1) := by decide +kernel
theorem dJ9_min_7cf53_6 : decode cJ9_min_7cf53 6 = .ok (.goto 4, 3) := by decide +kernel
theorem dJ9_min_7cf53_9 : decode cJ9_min_7cf53 9 = .ok (.iload_n 1, 1) := by decide +kernel
theorem dJ9_min_7cf53_10 : decode cJ9_min_7cf53 10 = .ok (.ireturn, 1) := by decide +kernel
theorem dJ7_fill_53178_0 : decode cJ7_fill_53178 0 = .ok (.iconst 0, 1) := by decide +kernel
theorem dJ7_fill_53178_1 : decode cJ7_fill_53178 1 = .ok (.istore_n 2, 1) := by decide +kernel
theorem dJ7_fill_53178_2 : decode cJ7_fill_53178 2 = .ok (.aload_n 0, 1) := by decide +kernel
theorem dJ7_fill_53178_3 : decode cJ7_fill_53178 3 = .ok (.arraylength, 1) := by decide +kernel
theorem dJ7_fill_53178_4 : decode cJ7_fill_53178 4 = .ok (.istore_n 3, 1) := by decide +kernel
theorem dJ7_fill_53178_5 : decode cJ7_fill_53178 5 = .ok (.iload_n 2, 1) := by decide +kernel
theorem dJ7_fill_53178_6 : decode cJ7_fill_53178 6 = .ok (.iload_n 3, 1) := by decide +kernel
theorem dJ7_fill_53178_7 : decode cJ7_fill_53178 7 = .ok (.if_icmp .ge 13, 3) := by decide +kernel
theorem dJ7_fill_53178_10 : decode cJ7_fill_53178 10 = .ok (.aload_n 0, 1) := by decide +kernel
theorem dJ7_fill_53178_11 : decode cJ7_fill_53178 11 = .ok (.iload_n 2, 1) := by decide +kernel
theorem dJ7_fill_53178_12 : decode cJ7_fill_53178 12 = .ok (.iload_n 1, 1) := by decide +kernel
theorem dJ7_fill_53178_13 : decode cJ7_fill_53178 13 = .ok (.iastore, 1) := by decide +kernel
theorem dJ7_fill_53178_14 : decode cJ7_fill_53178 14 = .ok (.iinc 2 1, 3) := by decide +kernel
theorem dJ7_fill_53178_17 : decode cJ7_fill_53178 17 = .ok (.goto (-12), 3) := by decide +kernel
theorem dJ7_fill_53178_20 : decode cJ7_fill_53178 20 = .ok (.return_, 1) := by decide +kernel
theorem dJ0_charAt_5068e_0 : decode cJ0_charAt_5068e 0 = .ok (.aload_n 0, 1) := by decide +kernel
theorem dJ0_charAt_5068e_1 : decode cJ0_charAt_5068e 1 = .ok (.invokevirtual 492, 3) := by decide +kernel
theorem dJ0_charAt_5068e_4 : decode cJ0_charAt_5068e 4 = .ok (.ifCond .eq 12, 3) := by decide +kernel
theorem dJ0_charAt_5068e_7 : decode cJ0_charAt_5068e 7 = .ok (.aload_n 0, 1) := by decide +kernel
theorem dJ0_charAt_5068e_8 : decode cJ0_charAt_5068e 8 = .ok (.getfield 9, 3) := by decide +kernel
theorem dJ0_charAt_5068e_11 : decode cJ0_charAt_5068e 11 = .ok (.iload_n 1, 1) := by decide +kernel
theorem dJ0_charAt_5068e_12 : decode cJ0_charAt_5068e 12 = .ok (.invokestatic 495, 3) := by decide +kernel
theorem dJ0_charAt_5068e_15 : decode cJ0_charAt_5068e 15 = .ok (.ireturn, 1) := by decide +kernel
theorem dJ0_charAt_5068e_16 : decode cJ0_charAt_5068e 16 = .ok (.aload_n 0, 1) := by decide +kernel
theorem dJ0_charAt_5068e_17 : decode cJ0_charAt_5068e 17 = .ok (.getfield 9, 3) := by decide +kernel
theorem dJ0_charAt_5068e_20 : decode cJ0_charAt_5068e 20 = .ok (.iload_n 1, 1) := by decide +kernel
theorem dJ0_charAt_5068e_21 : decode cJ0_charAt_5068e 21 = .ok (.invokestatic 498, 3) := by decide +kernel
theorem dJ0_charAt_5068e_24 : decode cJ0_charAt_5068e 24 = .ok (.ireturn, 1) := by decide +kernel
theorem dJ0_isLatin1_aae02_0 : decode cJ0_isLatin1_aae02 0 = .ok (.getstatic 38, 3) := by decide +kernel
theorem dJ0_isLatin1_aae02_3 : decode cJ0_isLatin1_aae02 3 = .ok (.ifCond .eq 14, 3) := by decide +kernel
theorem dJ0_isLatin1_aae02_6 : decode cJ0_isLatin1_aae02 6 = .ok (.aload_n 0, 1) := by decide +kernel
theorem dJ0_isLatin1_aae02_7 : decode cJ0_isLatin1_aae02 7 = .ok (.getfield 15, 3) := by decide +kernel
theorem dJ0_isLatin1_aae02_10 : decode cJ0_isLatin1_aae02 10 = .ok (.ifCond .ne 7, 3) := by decide +kernel
theorem dJ0_isLatin1_aae02_13 : decode cJ0_isLatin1_aae02 13 = .ok (.iconst 1, 1) := by decide +kernel
theorem dJ0_isLatin1_aae02_14 : decode cJ0_isLatin1_aae02 14 = .ok (.goto 4, 3) := by decide +kernel
theorem dJ0_isLatin1_aae02_17 : decode cJ0_isLatin1_aae02 17 = .ok (.iconst 0, 1) := by decide +kernel
theorem dJ0_isLatin1_aae02_18 : decode cJ0_isLatin1_aae02 18 = .ok (.ireturn, 1) := by decide +kernel
theorem dJ0_checkIndex_df160_0 : decode cJ0_checkIndex_df160 0 = .ok (.iload_n 0, 1) := by decide +kernel
theorem dJ0_checkIndex_df160_1 : decode cJ0_checkIndex_df160 1 = .ok (.iload_n 1, 1) := by decide +kernel
theorem dJ0_checkIndex_df160_2 : decode cJ0_checkIndex_df160 2 = .ok (.getstatic 1053, 3) := by decide +kernel
theorem dJ0_checkIndex_df160_5 : decode cJ0_checkIndex_df160 5 = .ok (.invokestatic 1059, 3) := by decide +kernel
theorem dJ0_checkIndex_df160_8 : decode cJ0_checkIndex_df160 8 = .ok (.pop, 1) := by decide +kernel
theorem dJ0_checkIndex_df160_9 : decode cJ0_checkIndex_df160 9 = .ok (.return_, 1) := by decide +kernel
theorem dJ1_charAt_3b067_0 : decode cJ1_charAt_3b067 0 = .ok (.iload_n 1, 1) := by decide +kernel
theorem dJ1_charAt_3b067_1 : decode cJ1_charAt_3b067 1 = .ok (.aload_n 0, 1) := by decide +kernel
theorem dJ1_charAt_3b067_2 : decode cJ1_charAt_3b067 2 = .ok (.arraylength, 1) := by decide +kernel
theorem dJ1_charAt_3b067_3 : decode cJ1_charAt_3b067 3 = .ok (.invokestatic 9, 3) := by decide +kernel
theorem dJ1_charAt_3b067_6 : decode cJ1_charAt_3b067 6 = .ok (.aload_n 0, 1) := by decide +kernel
theorem dJ1_charAt_3b067_7 : decode cJ1_charAt_3b067 7 = .ok (.iload_n 1, 1) := by decide +kernel
theorem dJ1_charAt_3b067_8 : decode cJ1_charAt_3b067 8 = .ok (.baload, 1) := by decide +kernel
theorem dJ1_charAt_3b067_9 : decode cJ1_charAt_3b067 9 = .ok (.sipush 255, 3) := by decide +kernel
theorem dJ1_charAt_3b067_12 : decode cJ1_charAt_3b067 12 = .ok (.iand, 1) := by decide +kernel
theorem dJ1_charAt_3b067_13 : decode cJ1_charAt_3b067 13 = .ok (.i2c, 1) := by decide +kernel
theorem dJ1_charAt_3b067_14 : decode cJ1_charAt_3b067 14 = .ok (.ireturn, 1) := by decide +kernel
theorem dJ2_getChar_3b067_0 : decode cJ2_getChar_3b067 0 = .ok (.getstatic 44, 3) := by decide +kernel
theorem dJ2_getChar_3b067_3 : decode cJ2_getChar_3b067 3 = .ok (.ifCond .ne 25, 3) := by decide +kernel
theorem dJ2_getChar_3b067_6 : decode cJ2_getChar_3b067 6 = .ok (.iload_n 1, 1) := by decide +kernel
theorem dJ2_getChar_3b067_7 : decode cJ2_getChar_3b067 7 = .ok (.ifCond .lt 11, 3) := by decide +kernel
theorem dJ2_getChar_3b067_10 : decode cJ2_getChar_3b067 10 = .ok (.iload_n 1, 1) := by decide +kernel
theorem dJ2_getChar_3b067_11 : decode cJ2_getChar_3b067 11 = .ok (.aload_n 0, 1) := by decide +kernel
theorem dJ2_getChar_3b067_12 : decode cJ2_getChar_3b067 12 = .ok (.invokestatic 48, 3) := by decide +kernel
theorem dJ2_getChar_3b067_15 : decode cJ2_getChar_3b067 15 = .ok (.if_icmp .lt 13, 3) := by decide +kernel
theorem dJ2_getChar_3b067_18 : decode cJ2_getChar_3b067 18 = .ok (.new 52, 3) := by decide +kernel
theorem dJ2_getChar_3b067_21 : decode cJ2_getChar_3b067 21 = .ok (.dup, 1) := by decide +kernel
theorem dJ2_getChar_3b067_22 : decode cJ2_getChar_3b067 22 = .ok (.ldc 54, 2) := by decide +kernel
theorem dJ2_getChar_3b067_24 : decode cJ2_getChar_3b067 24 = .ok (.invokespecial 56, 3) := by decide +kernel
theorem dJ2_getChar_3b067_27 : decode cJ2_getChar_3b067 27 = .ok (.athrow, 1) := by decide +kernel
theorem dJ2_getChar_3b067_28 : decode cJ2_getChar_3b067 28 = .ok (.iload_n 1, 1) := by decide +kernel
theorem dJ2_getChar_3b067_29 : decode cJ2_getChar_3b067 29 = .ok (.iconst 1, 1) := by decide +kernel
theorem dJ2_getChar_3b067_30 : decode cJ2_getChar_3b067 30 = .ok (.ishl, 1) := by decide +kernel
theorem dJ2_getChar_3b067_31 : decode cJ2_getChar_3b067 31 = .ok (.istore_n 1, 1) := by decide +kernel
theorem dJ2_getChar_3b067_32 : decode cJ2_getChar_3b067 32 = .ok (.aload_n 0, 1) := by decide +kernel
theorem dJ2_getChar_3b067_33 : decode cJ2_getChar_3b067 33 = .ok (.iload_n 1, 1) := by decide +kernel
theorem dJ2_getChar_3b067_34 : decode cJ2_getChar_3b067 34 = .ok (.iinc 1 1, 3) := by decide +kernel
theorem dJ2_getChar_3b067_37 : decode cJ2_getChar_3b067 37 = .ok (.baload, 1) := by decide +kernel
theorem dJ2_getChar_3b067_38 : decode cJ2_getChar_3b067 38 = .ok (.sipush 255, 3) := by decide +kernel
theorem dJ2_getChar_3b067_41 : decode cJ2_getChar_3b067 41 = .ok (.iand, 1) := by decide +kernel
theorem dJ2_getChar_3b067_42 : decode cJ2_getChar_3b067 42 = .ok (.getstatic 59, 3) := by decide +kernel
theorem dJ2_getChar_3b067_45 : decode cJ2_getChar_3b067 45 = .ok (.ishl, 1) := by decide +kernel
theorem dJ2_getChar_3b067_46 : decode cJ2_getChar_3b067 46 = .ok (.aload_n 0, 1) := by decide +kernel
theorem dJ2_getChar_3b067_47 : decode cJ2_getChar_3b067 47 = .ok (.iload_n 1, 1) := by decide +kernel
theorem dJ2_getChar_3b067_48 : decode cJ2_getChar_3b067 48 = .ok (.baload, 1) := by decide +kernel
theorem dJ2_getChar_3b067_49 : decode cJ2_getChar_3b067 49 = .ok (.sipush 255, 3) := by decide +kernel
theorem dJ2_getChar_3b067_52 : decode cJ2_getChar_3b067 52 = .ok (.iand, 1) := by decide +kernel
theorem dJ2_getChar_3b067_53 : decode cJ2_getChar_3b067 53 = .ok (.getstatic 63, 3) := by decide +kernel
theorem dJ2_getChar_3b067_56 : decode cJ2_getChar_3b067 56 = .ok (.ishl, 1) := by decide +kernel
theorem dJ2_getChar_3b067_57 : decode cJ2_getChar_3b067 57 = .ok (.ior, 1) := by decide +kernel
theorem dJ2_getChar_3b067_58 : decode cJ2_getChar_3b067 58 = .ok (.i2c, 1) := by decide +kernel
theorem dJ2_getChar_3b067_59 : decode cJ2_getChar_3b067 59 = .ok (.ireturn, 1) := by decide +kernel
theorem dJ2_length_9d52b_0 : decode cJ2_length_9d52b 0 = .ok (.aload_n 0, 1) := by decide +kernel
theorem dJ2_length_9d52b_1 : decode cJ2_length_9d52b 1 = .ok (.arraylength, 1) := by decide +kernel
theorem dJ2_length_9d52b_2 : decode cJ2_length_9d52b 2 = .ok (.iconst 1, 1) := by decide +kernel
theorem dJ2_length_9d52b_3 : decode cJ2_length_9d52b 3 = .ok (.ishr, 1) := by decide +kernel
theorem dJ2_length_9d52b_4 : decode cJ2_length_9d52b 4 = .ok (.ireturn, 1) := by decide +kernel
theorem dJ2_charAt_3b067_0 : decode cJ2_charAt_3b067 0 = .ok (.iload_n 1, 1) := by decide +kernel
theorem dJ2_charAt_3b067_1 : decode cJ2_charAt_3b067 1 = .ok (.aload_n 0, 1) := by decide +kernel
theorem dJ2_charAt_3b067_2 : decode cJ2_charAt_3b067 2 = .ok (.invokestatic 67, 3) := by decide +kernel
theorem dJ2_charAt_3b067_5 : decode cJ2_charAt_3b067 5 = .ok (.aload_n 0, 1) := by decide +kernel
theorem dJ2_charAt_3b067_6 : decode cJ2_charAt_3b067 6 = .ok (.iload_n 1, 1) := by decide +kernel
theorem dJ2_charAt_3b067_7 : decode cJ2_charAt_3b067 7 = .ok (.invokestatic 71, 3) := by decide +kernel
theorem dJ2_charAt_3b067_10 : decode cJ2_charAt_3b067 10 = .ok (.ireturn, 1) := by decide +kernel
theorem dJ2_checkIndex_2214a_0 : decode cJ2_checkIndex_2214a 0 = .ok (.iload_n 0, 1) := by decide +kernel
theorem dJ2_checkIndex_2214a_1 : decode cJ2_checkIndex_2214a 1 = .ok (.aload_n 1, 1) := by decide +kernel
theorem dJ2_checkIndex_2214a_2 : decode cJ2_checkIndex_2214a 2 = .ok (.invokestatic 48, 3) := by decide +kernel
theorem dJ2_checkIndex_2214a_5 : decode cJ2_checkIndex_2214a 5 = .ok (.invokestatic 414, 3) := by decide +kernel
theorem dJ2_checkIndex_2214a_8 : decode cJ2_checkIndex_2214a 8 = .ok (.return_, 1) := by decide +kernel
theorem dJ3_checkIndex_8e157_0 : decode cJ3_checkIndex_8e157 0 = .ok (.iload_n 0, 1) := by decide +kernel
theorem dJ3_checkIndex_8e157_1 : decode cJ3_checkIndex_8e157 1 = .ok (.ifCond .lt 8, 3) := by decide +kernel
theorem dJ3_checkIndex_8e157_4 : decode cJ3_checkIndex_8e157 4 = .ok (.iload_n 0, 1) := by decide +kernel
theorem dJ3_checkIndex_8e157_5 : decode cJ3_checkIndex_8e157 5 = .ok (.iload_n 1, 1) := by decide +kernel
theorem dJ3_checkIndex_8e157_6 : decode cJ3_checkIndex_8e157 6 = .ok (.if_icmp .lt 10, 3) := by decide +kernel
theorem dJ3_checkIndex_8e157_9 : decode cJ3_checkIndex_8e157 9 = .ok (.aload_n 2, 1) := by decide +kernel
theorem dJ3_checkIndex_8e157_10 : decode cJ3_checkIndex_8e157 10 = .ok (.iload_n 0, 1) := by decide +kernel
theorem dJ3_checkIndex_8e157_11 : decode cJ3_checkIndex_8e157 11 = .ok (.iload_n 1, 1) := by decide +kernel
theorem dJ3_checkIndex_8e157_12 : decode cJ3_checkIndex_8e157 12 = .ok (.invokestatic 95, 3) := by decide +kernel
theorem dJ3_checkIndex_8e157_15 : decode cJ3_checkIndex_8e157 15 = .ok (.athrow, 1) := by decide +kernel
theorem dJ3_checkIndex_8e157_16 : decode cJ3_checkIndex_8e157 16 = .ok (.iload_n 0, 1) := by decide +kernel
theorem dJ3_checkIndex_8e157_17 : decode cJ3_checkIndex_8e157 17 = .ok (.ireturn, 1) := by decide +kernel
theorem dL_law_0 : decode cL_law 0 = .ok (.new 7, 3) := by decide +kernel
theorem dL_law_3 : decode cL_law 3 = .ok (.dup, 1) := by decide +kernel
theorem dL_law_4 : decode cL_law 4 = .ok (.invokespecial 9, 3) := by decide +kernel
theorem dL_law_7 : decode cL_law 7 = .ok (.astore_n 1, 1) := by decide +kernel
theorem dL_law_8 : decode cL_law 8 = .ok (.new 10, 3) := by decide +kernel
theorem dL_law_11 : decode cL_law 11 = .ok (.dup, 1) := by decide +kernel
theorem dL_law_12 : decode cL_law 12 = .ok (.invokespecial 12, 3) := by decide +kernel
theorem dL_law_15 : decode cL_law 15 = .ok (.astore_n 2, 1) := by decide +kernel
theorem dL_law_16 : decode cL_law 16 = .ok (.iconst 0, 1) := by decide +kernel
theorem dL_law_17 : decode cL_law 17 = .ok (.istore_n 3, 1) := by decide +kernel
theorem dL_law_18 : decode cL_law 18 = .ok (.iload_n 3, 1) := by decide +kernel
theorem dL_law_19 : decode cL_law 19 = .ok (.aload_n 0, 1) := by decide +kernel
theorem dL_law_20 : decode cL_law 20 = .ok (.arraylength, 1) := by decide +kernel
theorem dL_law_21 : decode cL_law 21 = .ok (.bipush 6, 2) := by decide +kernel
theorem dL_law_23 : decode cL_law 23 = .ok (.isub, 1) := by decide +kernel
theorem dL_law_24 : decode cL_law 24 = .ok (.if_icmp .gt 1068, 3) := by decide +kernel
theorem dL_law_27 : decode cL_law 27 = .ok (.aload_n 0, 1) := by decide +kernel
theorem dL_law_28 : decode cL_law 28 = .ok (.iload_n 3, 1) := by decide +kernel
theorem dL_law_29 : decode cL_law 29 = .ok (.iaload, 1) := by decide +kernel
theorem dL_law_30 : decode cL_law 30 = .ok (.bipush 63, 2) := by decide +kernel
theorem dL_law_32 : decode cL_law 32 = .ok (.iand, 1) := by decide +kernel
theorem dL_law_33 : decode cL_law 33 = .ok (.tableswitch 1053 0 32 #[147, 210, 233, 246, 259, 282, 357, 416, 449, 482, 505, 518, 531, 564, 587, 610, 643, 666, 689, 712, 735, 778, 789, 802, 825, 838, 861, 894, 917, 941, 974, 1007, 1030], 147) := by decide +kernel
theorem dL_law_180 : decode cL_law 180 = .ok (.aload_n 1, 1) := by decide +kernel
theorem dL_law_181 : decode cL_law 181 = .ok (.aload_n 0, 1) := by decide +kernel
theorem dL_law_182 : decode cL_law 182 = .ok (.iload_n 3, 1) := by decide +kernel
theorem dL_law_183 : decode cL_law 183 = .ok (.iconst 1, 1) := by decide +kernel
theorem dL_law_184 : decode cL_law 184 = .ok (.iadd, 1) := by decide +kernel
theorem dL_law_185 : decode cL_law 185 = .ok (.iaload, 1) := by decide +kernel
theorem dL_law_186 : decode cL_law 186 = .ok (.aload_n 0, 1) := by decide +kernel
theorem dL_law_187 : decode cL_law 187 = .ok (.iload_n 3, 1) := by decide +kernel
theorem dL_law_188 : decode cL_law 188 = .ok (.iconst 2, 1) := by decide +kernel
theorem dL_law_189 : decode cL_law 189 = .ok (.iadd, 1) := by decide +kernel
theorem dL_law_190 : decode cL_law 190 = .ok (.iaload, 1) := by decide +kernel
theorem dL_law_191 : decode cL_law 191 = .ok (.aload_n 0, 1) := by decide +kernel
theorem dL_law_192 : decode cL_law 192 = .ok (.iload_n 3, 1) := by decide +kernel
theorem dL_law_193 : decode cL_law 193 = .ok (.iconst 3, 1) := by decide +kernel
theorem dL_law_194 : decode cL_law 194 = .ok (.iadd, 1) := by decide +kernel
theorem dL_law_195 : decode cL_law 195 = .ok (.iaload, 1) := by decide +kernel
theorem dL_law_196 : decode cL_law 196 = .ok (.aload_n 0, 1) := by decide +kernel
theorem dL_law_197 : decode cL_law 197 = .ok (.iload_n 3, 1) := by decide +kernel
theorem dL_law_198 : decode cL_law 198 = .ok (.iconst 4, 1) := by decide +kernel
theorem dL_law_199 : decode cL_law 199 = .ok (.iadd, 1) := by decide +kernel
theorem dL_law_200 : decode cL_law 200 = .ok (.iaload, 1) := by decide +kernel
theorem dL_law_201 : decode cL_law 201 = .ok (.aload_n 0, 1) := by decide +kernel
theorem dL_law_202 : decode cL_law 202 = .ok (.iload_n 3, 1) := by decide +kernel
theorem dL_law_203 : decode cL_law 203 = .ok (.iconst 5, 1) := by decide +kernel
theorem dL_law_204 : decode cL_law 204 = .ok (.iadd, 1) := by decide +kernel
theorem dL_law_205 : decode cL_law 205 = .ok (.iaload, 1) := by decide +kernel
theorem dL_law_206 : decode cL_law 206 = .ok (.invokevirtual 13, 3) := by decide +kernel
theorem dL_law_209 : decode cL_law 209 = .ok (.aload_n 2, 1) := by decide +kernel
theorem dL_law_210 : decode cL_law 210 = .ok (.aload_n 0, 1) := by decide +kernel
theorem dL_law_211 : decode cL_law 211 = .ok (.iload_n 3, 1) := by decide +kernel
theorem dL_law_212 : decode cL_law 212 = .ok (.iconst 1, 1) := by decide +kernel
theorem dL_law_213 : decode cL_law 213 = .ok (.iadd, 1) := by decide +kernel
theorem dL_law_214 : decode cL_law 214 = .ok (.iaload, 1) := by decide +kernel
theorem dL_law_215 : decode cL_law 215 = .ok (.aload_n 0, 1) := by decide +kernel
theorem dL_law_216 : decode cL_law 216 = .ok (.iload_n 3, 1) := by decide +kernel
theorem dL_law_217 : decode cL_law 217 = .ok (.iconst 2, 1) := by decide +kernel
theorem dL_law_218 : decode cL_law 218 = .ok (.iadd, 1) := by decide +kernel
theorem dL_law_219 : decode cL_law 219 = .ok (.iaload, 1) := by decide +kernel
theorem dL_law_220 : decode cL_law 220 = .ok (.aload_n 0, 1) := by decide +kernel
theorem dL_law_221 : decode cL_law 221 = .ok (.iload_n 3, 1) := by decide +kernel
theorem dL_law_222 : decode cL_law 222 = .ok (.iconst 3, 1) := by decide +kernel
theorem dL_law_223 : decode cL_law 223 = .ok (.iadd, 1) := by decide +kernel
theorem dL_law_224 : decode cL_law 224 = .ok (.iaload, 1) := by decide +kernel
theorem dL_law_225 : decode cL_law 225 = .ok (.aload_n 0, 1) := by decide +kernel
theorem dL_law_226 : decode cL_law 226 = .ok (.iload_n 3, 1) := by decide +kernel
theorem dL_law_227 : decode cL_law 227 = .ok (.iconst 4, 1) := by decide +kernel
theorem dL_law_228 : decode cL_law 228 = .ok (.iadd, 1) := by decide +kernel
theorem dL_law_229 : decode cL_law 229 = .ok (.iaload, 1) := by decide +kernel
theorem dL_law_230 : decode cL_law 230 = .ok (.aload_n 0, 1) := by decide +kernel
theorem dL_law_231 : decode cL_law 231 = .ok (.iload_n 3, 1) := by decide +kernel
theorem dL_law_232 : decode cL_law 232 = .ok (.iconst 5, 1) := by decide +kernel
theorem dL_law_233 : decode cL_law 233 = .ok (.iadd, 1) := by decide +kernel
theorem dL_law_234 : decode cL_law 234 = .ok (.iaload, 1) := by decide +kernel
theorem dL_law_235 : decode cL_law 235 = .ok (.invokevirtual 17, 3) := by decide +kernel
theorem dL_law_238 : decode cL_law 238 = .ok (.if_icmp .eq 848, 3) := by decide +kernel
theorem dL_law_241 : decode cL_law 241 = .ok (.iconst 0, 1) := by decide +kernel
theorem dL_law_242 : decode cL_law 242 = .ok (.ireturn, 1) := by decide +kernel
theorem dL_law_243 : decode cL_law 243 = .ok (.aload_n 1, 1) := by decide +kernel
theorem dL_law_244 : decode cL_law 244 = .ok (.aload_n 0, 1) := by decide +kernel
theorem dL_law_245 : decode cL_law 245 = .ok (.iload_n 3, 1) := by decide +kernel
theorem dL_law_246 : decode cL_law 246 = .ok (.iconst 1, 1) := by decide +kernel
theorem dL_law_247 : decode cL_law 247 = .ok (.iadd, 1) := by decide +kernel
theorem dL_law_248 : decode cL_law 248 = .ok (.iaload, 1) := by decide +kernel
theorem dL_law_249 : decode cL_law 249 = .ok (.invokevirtual 18, 3) := by decide +kernel
theorem dL_law_252 : decode cL_law 252 = .ok (.aload_n 2, 1) := by decide +kernel
theorem dL_law_253 : decode cL_law 253 = .ok (.aload_n 0, 1) := by decide +kernel
theorem dL_law_254 : decode cL_law 254 = .ok (.iload_n 3, 1) := by decide +kernel
theorem dL_law_255 : decode cL_law 255 = .ok (.iconst 1, 1) := by decide +kernel
theorem dL_law_256 : decode cL_law 256 = .ok (.iadd, 1) := by decide +kernel
theorem dL_law_257 : decode cL_law 257 = .ok (.iaload, 1) := by decide +kernel
theorem dL_law_258 : decode cL_law 258 = .ok (.invokevirtual 22, 3) := by decide +kernel
theorem dL_law_261 : decode cL_law 261 = .ok (.if_icmp .eq 825, 3) := by decide +kernel
theorem dL_law_264 : decode cL_law 264 = .ok (.iconst 0, 1) := by decide +kernel
theorem dL_law_265 : decode cL_law 265 = .ok (.ireturn, 1) := by decide +kernel
theorem dL_law_266 : decode cL_law 266 = .ok (.aload_n 1, 1) := by decide +kernel
theorem dL_law_267 : decode cL_law 267 = .ok (.invokevirtual 23, 3) := by decide +kernel
theorem dL_law_270 : decode cL_law 270 = .ok (.aload_n 2, 1) := by decide +kernel
theorem dL_law_271 : decode cL_law 271 = .ok (.invokevirtual 27, 3) := by decide +kernel
theorem dL_law_274 : decode cL_law 274 = .ok (.if_icmp .eq 812, 3) := by decide +kernel
theorem dL_law_277 : decode cL_law 277 = .ok (.iconst 0, 1) := by decide +kernel
theorem dL_law_278 : decode cL_law 278 = .ok (.ireturn, 1) := by decide +kernel
theorem dL_law_279 : decode cL_law 279 = .ok (.aload_n 1, 1) := by decide +kernel
theorem dL_law_280 : decode cL_law 280 = .ok (.invokevirtual 28, 3) := by decide +kernel
theorem dL_law_283 : decode cL_law 283 = .ok (.aload_n 2, 1) := by decide +kernel
theorem dL_law_284 : decode cL_law 284 = .ok (.invokevirtual 31, 3) := by decide +kernel
theorem dL_law_287 : decode cL_law 287 = .ok (.if_icmp .eq 799, 3) := by decide +kernel
theorem dL_law_290 : decode cL_law 290 = .ok (.iconst 0, 1) := by decide +kernel
theorem dL_law_291 : decode cL_law 291 = .ok (.ireturn, 1) := by decide +kernel
theorem dL_law_292 : decode cL_law 292 = .ok (.aload_n 1, 1) := by decide +kernel
theorem dL_law_293 : decode cL_law 293 = .ok (.aload_n 0, 1) := by decide +kernel
theorem dL_law_294 : decode cL_law 294 = .ok (.iload_n 3, 1) := by decide +kernel
theorem dL_law_295 : decode cL_law 295 = .ok (.iconst 1, 1) := by decide +kernel
theorem dL_law_296 : decode cL_law 296 = .ok (.iadd, 1) := by decide +kernel
theorem dL_law_297 : decode cL_law 297 = .ok (.iaload, 1) := by decide +kernel
theorem dL_law_298 : decode cL_law 298 = .ok (.invokevirtual 32, 3) := by decide +kernel
theorem dL_law_301 : decode cL_law 301 = .ok (.aload_n 2, 1) := by decide +kernel
theorem dL_law_302 : decode cL_law 302 = .ok (.aload_n 0, 1) := by decide +kernel
theorem dL_law_303 : decode cL_law 303 = .ok (.iload_n 3, 1) := by decide +kernel
theorem dL_law_304 : decode cL_law 304 = .ok (.iconst 1, 1) := by decide +kernel
theorem dL_law_305 : decode cL_law 305 = .ok (.iadd, 1) := by decide +kernel
theorem dL_law_306 : decode cL_law 306 = .ok (.iaload, 1) := by decide +kernel
theorem dL_law_307 : decode cL_law 307 = .ok (.invokevirtual 36, 3) := by decide +kernel
theorem dL_law_310 : decode cL_law 310 = .ok (.if_icmp .eq 776, 3) := by decide +kernel
theorem dL_law_313 : decode cL_law 313 = .ok (.iconst 0, 1) := by decide +kernel
theorem dL_law_314 : decode cL_law 314 = .ok (.ireturn, 1) := by decide +kernel
theorem dL_law_315 : decode cL_law 315 = .ok (.aload_n 1, 1) := by decide +kernel
theorem dL_law_316 : decode cL_law 316 = .ok (.aload_n 0, 1) := by decide +kernel
theorem dL_law_317 : decode cL_law 317 = .ok (.iload_n 3, 1) := by decide +kernel
theorem dL_law_318 : decode cL_law 318 = .ok (.iconst 1, 1) := by decide +kernel
theorem dL_law_319 : decode cL_law 319 = .ok (.iadd, 1) := by decide +kernel
theorem dL_law_320 : decode cL_law 320 = .ok (.iaload, 1) := by decide +kernel
theorem dL_law_321 : decode cL_law 321 = .ok (.aload_n 0, 1) := by decide +kernel
theorem dL_law_322 : decode cL_law 322 = .ok (.iload_n 3, 1) := by decide +kernel
theorem dL_law_323 : decode cL_law 323 = .ok (.iconst 2, 1) := by decide +kernel
theorem dL_law_324 : decode cL_law 324 = .ok (.iadd, 1) := by decide +kernel
theorem dL_law_325 : decode cL_law 325 = .ok (.iaload, 1) := by decide +kernel
theorem dL_law_326 : decode cL_law 326 = .ok (.ifCond .eq 7, 3) := by decide +kernel
theorem dL_law_329 : decode cL_law 329 = .ok (.iconst 1, 1) := by decide +kernel
theorem dL_law_330 : decode cL_law 330 = .ok (.goto 4, 3) := by decide +kernel
theorem dL_law_333 : decode cL_law 333 = .ok (.iconst 0, 1) := by decide +kernel
theorem dL_law_334 : decode cL_law 334 = .ok (.aload_n 0, 1) := by decide +kernel
theorem dL_law_335 : decode cL_law 335 = .ok (.iload_n 3, 1) := by decide +kernel
theorem dL_law_336 : decode cL_law 336 = .ok (.iconst 3, 1) := by decide +kernel
theorem dL_law_337 : decode cL_law 337 = .ok (.iadd, 1) := by decide +kernel
theorem dL_law_338 : decode cL_law 338 = .ok (.iaload, 1) := by decide +kernel
theorem dL_law_339 : decode cL_law 339 = .ok (.ifCond .eq 7, 3) := by decide +kernel
theorem dL_law_342 : decode cL_law 342 = .ok (.iconst 1, 1) := by decide +kernel
theorem dL_law_343 : decode cL_law 343 = .ok (.goto 4, 3) := by decide +kernel
theorem dL_law_346 : decode cL_law 346 = .ok (.iconst 0, 1) := by decide +kernel
theorem dL_law_347 : decode cL_law 347 = .ok (.invokevirtual 37, 3) := by decide +kernel
theorem dL_law_350 : decode cL_law 350 = .ok (.aload_n 2, 1) := by decide +kernel
theorem dL_law_351 : decode cL_law 351 = .ok (.aload_n 0, 1) := by decide +kernel
theorem dL_law_352 : decode cL_law 352 = .ok (.iload_n 3, 1) := by decide +kernel
theorem dL_law_353 : decode cL_law 353 = .ok (.iconst 1, 1) := by decide +kernel
theorem dL_law_354 : decode cL_law 354 = .ok (.iadd, 1) := by decide +kernel
theorem dL_law_355 : decode cL_law 355 = .ok (.iaload, 1) := by decide +kernel
theorem dL_law_356 : decode cL_law 356 = .ok (.aload_n 0, 1) := by decide +kernel
theorem dL_law_357 : decode cL_law 357 = .ok (.iload_n 3, 1) := by decide +kernel
theorem dL_law_358 : decode cL_law 358 = .ok (.iconst 2, 1) := by decide +kernel
theorem dL_law_359 : decode cL_law 359 = .ok (.iadd, 1) := by decide +kernel
theorem dL_law_360 : decode cL_law 360 = .ok (.iaload, 1) := by decide +kernel
theorem dL_law_361 : decode cL_law 361 = .ok (.ifCond .eq 7, 3) := by decide +kernel
theorem dL_law_364 : decode cL_law 364 = .ok (.iconst 1, 1) := by decide +kernel
theorem dL_law_365 : decode cL_law 365 = .ok (.goto 4, 3) := by decide +kernel
theorem dL_law_368 : decode cL_law 368 = .ok (.iconst 0, 1) := by decide +kernel
theorem dL_law_369 : decode cL_law 369 = .ok (.aload_n 0, 1) := by decide +kernel
theorem dL_law_370 : decode cL_law 370 = .ok (.iload_n 3, 1) := by decide +kernel
theorem dL_law_371 : decode cL_law 371 = .ok (.iconst 3, 1) := by decide +kernel
theorem dL_law_372 : decode cL_law 372 = .ok (.iadd, 1) := by decide +kernel
theorem dL_law_373 : decode cL_law 373 = .ok (.iaload, 1) := by decide +kernel
theorem dL_law_374 : decode cL_law 374 = .ok (.ifCond .eq 7, 3) := by decide +kernel
theorem dL_law_377 : decode cL_law 377 = .ok (.iconst 1, 1) := by decide +kernel
theorem dL_law_378 : decode cL_law 378 = .ok (.goto 4, 3) := by decide +kernel
theorem dL_law_381 : decode cL_law 381 = .ok (.iconst 0, 1) := by decide +kernel
theorem dL_law_382 : decode cL_law 382 = .ok (.invokevirtual 41, 3) := by decide +kernel
theorem dL_law_385 : decode cL_law 385 = .ok (.if_icmp .eq 701, 3) := by decide +kernel
theorem dL_law_388 : decode cL_law 388 = .ok (.iconst 0, 1) := by decide +kernel
theorem dL_law_389 : decode cL_law 389 = .ok (.ireturn, 1) := by decide +kernel
theorem dL_law_390 : decode cL_law 390 = .ok (.aload_n 1, 1) := by decide +kernel
theorem dL_law_391 : decode cL_law 391 = .ok (.aload_n 0, 1) := by decide +kernel
theorem dL_law_392 : decode cL_law 392 = .ok (.iload_n 3, 1) := by decide +kernel
theorem dL_law_393 : decode cL_law 393 = .ok (.iconst 1, 1) := by decide +kernel
theorem dL_law_394 : decode cL_law 394 = .ok (.iadd, 1) := by decide +kernel
theorem dL_law_395 : decode cL_law 395 = .ok (.iaload, 1) := by decide +kernel
theorem dL_law_396 : decode cL_law 396 = .ok (.aload_n 0, 1) := by decide +kernel
theorem dL_law_397 : decode cL_law 397 = .ok (.iload_n 3, 1) := by decide +kernel
theorem dL_law_398 : decode cL_law 398 = .ok (.iconst 2, 1) := by decide +kernel
theorem dL_law_399 : decode cL_law 399 = .ok (.iadd, 1) := by decide +kernel
theorem dL_law_400 : decode cL_law 400 = .ok (.iaload, 1) := by decide +kernel
theorem dL_law_401 : decode cL_law 401 = .ok (.ifCond .eq 7, 3) := by decide +kernel
theorem dL_law_404 : decode cL_law 404 = .ok (.iconst 1, 1) := by decide +kernel
theorem dL_law_405 : decode cL_law 405 = .ok (.goto 4, 3) := by decide +kernel
theorem dL_law_408 : decode cL_law 408 = .ok (.iconst 0, 1) := by decide +kernel
theorem dL_law_409 : decode cL_law 409 = .ok (.aload_n 0, 1) := by decide +kernel
theorem dL_law_410 : decode cL_law 410 = .ok (.iload_n 3, 1) := by decide +kernel
theorem dL_law_411 : decode cL_law 411 = .ok (.iconst 3, 1) := by decide +kernel
theorem dL_law_412 : decode cL_law 412 = .ok (.iadd, 1) := by decide +kernel
theorem dL_law_413 : decode cL_law 413 = .ok (.iaload, 1) := by decide +kernel
theorem dL_law_414 : decode cL_law 414 = .ok (.invokevirtual 42, 3) := by decide +kernel
theorem dL_law_417 : decode cL_law 417 = .ok (.aload_n 2, 1) := by decide +kernel
theorem dL_law_418 : decode cL_law 418 = .ok (.aload_n 0, 1) := by decide +kernel
theorem dL_law_419 : decode cL_law 419 = .ok (.iload_n 3, 1) := by decide +kernel
theorem dL_law_420 : decode cL_law 420 = .ok (.iconst 1, 1) := by decide +kernel
theorem dL_law_421 : decode cL_law 421 = .ok (.iadd, 1) := by decide +kernel
theorem dL_law_422 : decode cL_law 422 = .ok (.iaload, 1) := by decide +kernel
theorem dL_law_423 : decode cL_law 423 = .ok (.aload_n 0, 1) := by decide +kernel
theorem dL_law_424 : decode cL_law 424 = .ok (.iload_n 3, 1) := by decide +kernel
theorem dL_law_425 : decode cL_law 425 = .ok (.iconst 2, 1) := by decide +kernel
theorem dL_law_426 : decode cL_law 426 = .ok (.iadd, 1) := by decide +kernel
theorem dL_law_427 : decode cL_law 427 = .ok (.iaload, 1) := by decide +kernel
theorem dL_law_428 : decode cL_law 428 = .ok (.ifCond .eq 7, 3) := by decide +kernel
theorem dL_law_431 : decode cL_law 431 = .ok (.iconst 1, 1) := by decide +kernel
theorem dL_law_432 : decode cL_law 432 = .ok (.goto 4, 3) := by decide +kernel
theorem dL_law_435 : decode cL_law 435 = .ok (.iconst 0, 1) := by decide +kernel
theorem dL_law_436 : decode cL_law 436 = .ok (.aload_n 0, 1) := by decide +kernel
theorem dL_law_437 : decode cL_law 437 = .ok (.iload_n 3, 1) := by decide +kernel
theorem dL_law_438 : decode cL_law 438 = .ok (.iconst 3, 1) := by decide +kernel
theorem dL_law_439 : decode cL_law 439 = .ok (.iadd, 1) := by decide +kernel
theorem dL_law_440 : decode cL_law 440 = .ok (.iaload, 1) := by decide +kernel
theorem dL_law_441 : decode cL_law 441 = .ok (.invokevirtual 46, 3) := by decide +kernel
theorem dL_law_444 : decode cL_law 444 = .ok (.if_icmp .eq 642, 3) := by decide +kernel
theorem dL_law_447 : decode cL_law 447 = .ok (.iconst 0, 1) := by decide +kernel
theorem dL_law_448 : decode cL_law 448 = .ok (.ireturn, 1) := by decide +kernel
theorem dL_law_449 : decode cL_law 449 = .ok (.aload_n 1, 1) := by decide +kernel
theorem dL_law_450 : decode cL_law 450 = .ok (.aload_n 0, 1) := by decide +kernel
theorem dL_law_451 : decode cL_law 451 = .ok (.iload_n 3, 1) := by decide +kernel
theorem dL_law_452 : decode cL_law 452 = .ok (.iconst 1, 1) := by decide +kernel
theorem dL_law_453 : decode cL_law 453 = .ok (.iadd, 1) := by decide +kernel
theorem dL_law_454 : decode cL_law 454 = .ok (.iaload, 1) := by decide +kernel
theorem dL_law_455 : decode cL_law 455 = .ok (.aload_n 0, 1) := by decide +kernel
theorem dL_law_456 : decode cL_law 456 = .ok (.iload_n 3, 1) := by decide +kernel
theorem dL_law_457 : decode cL_law 457 = .ok (.iconst 2, 1) := by decide +kernel
theorem dL_law_458 : decode cL_law 458 = .ok (.iadd, 1) := by decide +kernel
theorem dL_law_459 : decode cL_law 459 = .ok (.iaload, 1) := by decide +kernel
theorem dL_law_460 : decode cL_law 460 = .ok (.invokevirtual 47, 3) := by decide +kernel
theorem dL_law_463 : decode cL_law 463 = .ok (.aload_n 2, 1) := by decide +kernel
theorem dL_law_464 : decode cL_law 464 = .ok (.aload_n 0, 1) := by decide +kernel
theorem dL_law_465 : decode cL_law 465 = .ok (.iload_n 3, 1) := by decide +kernel
theorem dL_law_466 : decode cL_law 466 = .ok (.iconst 1, 1) := by decide +kernel
theorem dL_law_467 : decode cL_law 467 = .ok (.iadd, 1) := by decide +kernel
theorem dL_law_468 : decode cL_law 468 = .ok (.iaload, 1) := by decide +kernel
theorem dL_law_469 : decode cL_law 469 = .ok (.aload_n 0, 1) := by decide +kernel
theorem dL_law_470 : decode cL_law 470 = .ok (.iload_n 3, 1) := by decide +kernel
theorem dL_law_471 : decode cL_law 471 = .ok (.iconst 2, 1) := by decide +kernel
theorem dL_law_472 : decode cL_law 472 = .ok (.iadd, 1) := by decide +kernel
theorem dL_law_473 : decode cL_law 473 = .ok (.iaload, 1) := by decide +kernel
theorem dL_law_474 : decode cL_law 474 = .ok (.invokevirtual 51, 3) := by decide +kernel
theorem dL_law_477 : decode cL_law 477 = .ok (.if_icmp .eq 609, 3) := by decide +kernel
theorem dL_law_480 : decode cL_law 480 = .ok (.iconst 0, 1) := by decide +kernel
theorem dL_law_481 : decode cL_law 481 = .ok (.ireturn, 1) := by decide +kernel
theorem dL_law_482 : decode cL_law 482 = .ok (.aload_n 1, 1) := by decide +kernel
theorem dL_law_483 : decode cL_law 483 = .ok (.aload_n 0, 1) := by decide +kernel
theorem dL_law_484 : decode cL_law 484 = .ok (.iload_n 3, 1) := by decide +kernel
theorem dL_law_485 : decode cL_law 485 = .ok (.iconst 1, 1) := by decide +kernel
theorem dL_law_486 : decode cL_law 486 = .ok (.iadd, 1) := by decide +kernel
theorem dL_law_487 : decode cL_law 487 = .ok (.iaload, 1) := by decide +kernel
theorem dL_law_488 : decode cL_law 488 = .ok (.aload_n 0, 1) := by decide +kernel
theorem dL_law_489 : decode cL_law 489 = .ok (.iload_n 3, 1) := by decide +kernel
theorem dL_law_490 : decode cL_law 490 = .ok (.iconst 2, 1) := by decide +kernel
theorem dL_law_491 : decode cL_law 491 = .ok (.iadd, 1) := by decide +kernel
theorem dL_law_492 : decode cL_law 492 = .ok (.iaload, 1) := by decide +kernel
theorem dL_law_493 : decode cL_law 493 = .ok (.invokevirtual 52, 3) := by decide +kernel
theorem dL_law_496 : decode cL_law 496 = .ok (.aload_n 2, 1) := by decide +kernel
theorem dL_law_497 : decode cL_law 497 = .ok (.aload_n 0, 1) := by decide +kernel
theorem dL_law_498 : decode cL_law 498 = .ok (.iload_n 3, 1) := by decide +kernel
theorem dL_law_499 : decode cL_law 499 = .ok (.iconst 1, 1) := by decide +kernel
theorem dL_law_500 : decode cL_law 500 = .ok (.iadd, 1) := by decide +kernel
theorem dL_law_501 : decode cL_law 501 = .ok (.iaload, 1) := by decide +kernel
theorem dL_law_502 : decode cL_law 502 = .ok (.aload_n 0, 1) := by decide +kernel
theorem dL_law_503 : decode cL_law 503 = .ok (.iload_n 3, 1) := by decide +kernel
theorem dL_law_504 : decode cL_law 504 = .ok (.iconst 2, 1) := by decide +kernel
theorem dL_law_505 : decode cL_law 505 = .ok (.iadd, 1) := by decide +kernel
