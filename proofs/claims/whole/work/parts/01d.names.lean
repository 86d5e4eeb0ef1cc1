theorem dX10_init_0 : decode cX10_init 0 = .ok (.aload_n 0, 1) := by decide +kernel
theorem dX10_init_1 : decode cX10_init 1 = .ok (.invokespecial 1, 3) := by decide +kernel
theorem dX10_init_4 : decode cX10_init 4 = .ok (.aload_n 0, 1) := by decide +kernel
theorem dX10_init_5 : decode cX10_init 5 = .ok (.sipush 368, 3) := by decide +kernel
theorem dX10_init_8 : decode cX10_init 8 = .ok (.newarray .int, 2) := by decide +kernel
theorem dX10_init_10 : decode cX10_init 10 = .ok (.putfield 7, 3) := by decide +kernel
theorem dX10_init_13 : decode cX10_init 13 = .ok (.aload_n 0, 1) := by decide +kernel
theorem dX10_init_14 : decode cX10_init 14 = .ok (.sipush 736, 3) := by decide +kernel
theorem dX10_init_17 : decode cX10_init 17 = .ok (.newarray .int, 2) := by decide +kernel
theorem dX10_init_19 : decode cX10_init 19 = .ok (.putfield 13, 3) := by decide +kernel
theorem dX10_init_22 : decode cX10_init 22 = .ok (.aload_n 0, 1) := by decide +kernel
theorem dX10_init_23 : decode cX10_init 23 = .ok (.iconst 2, 1) := by decide +kernel
theorem dX10_init_24 : decode cX10_init 24 = .ok (.newarray .boolean, 2) := by decide +kernel
theorem dX10_init_26 : decode cX10_init 26 = .ok (.putfield 16, 3) := by decide +kernel
theorem dX10_init_29 : decode cX10_init 29 = .ok (.aload_n 0, 1) := by decide +kernel
theorem dX10_init_30 : decode cX10_init 30 = .ok (.sipush 5520, 3) := by decide +kernel
theorem dX10_init_33 : decode cX10_init 33 = .ok (.newarray .int, 2) := by decide +kernel
theorem dX10_init_35 : decode cX10_init 35 = .ok (.putfield 20, 3) := by decide +kernel
theorem dX10_init_38 : decode cX10_init 38 = .ok (.aload_n 0, 1) := by decide +kernel
theorem dX10_init_39 : decode cX10_init 39 = .ok (.bipush 10, 2) := by decide +kernel
theorem dX10_init_41 : decode cX10_init 41 = .ok (.newarray .boolean, 2) := by decide +kernel
theorem dX10_init_43 : decode cX10_init 43 = .ok (.putfield 23, 3) := by decide +kernel
theorem dX10_init_46 : decode cX10_init 46 = .ok (.aload_n 0, 1) := by decide +kernel
theorem dX10_init_47 : decode cX10_init 47 = .ok (.sipush 368, 3) := by decide +kernel
theorem dX10_init_50 : decode cX10_init 50 = .ok (.newarray .int, 2) := by decide +kernel
theorem dX10_init_52 : decode cX10_init 52 = .ok (.putfield 26, 3) := by decide +kernel
theorem dX10_init_55 : decode cX10_init 55 = .ok (.aload_n 0, 1) := by decide +kernel
theorem dX10_init_56 : decode cX10_init 56 = .ok (.sipush 368, 3) := by decide +kernel
theorem dX10_init_59 : decode cX10_init 59 = .ok (.newarray .int, 2) := by decide +kernel
theorem dX10_init_61 : decode cX10_init 61 = .ok (.putfield 29, 3) := by decide +kernel
theorem dX10_init_64 : decode cX10_init 64 = .ok (.aload_n 0, 1) := by decide +kernel
theorem dX10_init_65 : decode cX10_init 65 = .ok (.bipush 120, 2) := by decide +kernel
theorem dX10_init_67 : decode cX10_init 67 = .ok (.newarray .char, 2) := by decide +kernel
theorem dX10_init_69 : decode cX10_init 69 = .ok (.putfield 32, 3) := by decide +kernel
theorem dX10_init_72 : decode cX10_init 72 = .ok (.aload_n 0, 1) := by decide +kernel
theorem dX10_init_73 : decode cX10_init 73 = .ok (.iconst 4, 1) := by decide +kernel
theorem dX10_init_74 : decode cX10_init 74 = .ok (.newarray .int, 2) := by decide +kernel
theorem dX10_init_76 : decode cX10_init 76 = .ok (.putfield 36, 3) := by decide +kernel
theorem dX10_init_79 : decode cX10_init 79 = .ok (.aload_n 0, 1) := by decide +kernel
theorem dX10_init_80 : decode cX10_init 80 = .ok (.iconst 3, 1) := by decide +kernel
theorem dX10_init_81 : decode cX10_init 81 = .ok (.newarray .int, 2) := by decide +kernel
theorem dX10_init_83 : decode cX10_init 83 = .ok (.putfield 39, 3) := by decide +kernel
theorem dX10_init_86 : decode cX10_init 86 = .ok (.aload_n 0, 1) := by decide +kernel
theorem dX10_init_87 : decode cX10_init 87 = .ok (.getfield 7, 3) := by decide +kernel
theorem dX10_init_90 : decode cX10_init 90 = .ok (.iconst 2, 1) := by decide +kernel
theorem dX10_init_91 : decode cX10_init 91 = .ok (.iconst 3, 1) := by decide +kernel
theorem dX10_init_92 : decode cX10_init 92 = .ok (.iastore, 1) := by decide +kernel
theorem dX10_init_93 : decode cX10_init 93 = .ok (.aload_n 0, 1) := by decide +kernel
theorem dX10_init_94 : decode cX10_init 94 = .ok (.getfield 7, 3) := by decide +kernel
theorem dX10_init_97 : decode cX10_init 97 = .ok (.iconst 3, 1) := by decide +kernel
theorem dX10_init_98 : decode cX10_init 98 = .ok (.iconst 5, 1) := by decide +kernel
theorem dX10_init_99 : decode cX10_init 99 = .ok (.iastore, 1) := by decide +kernel
theorem dX10_init_100 : decode cX10_init 100 = .ok (.iconst 0, 1) := by decide +kernel
theorem dX10_init_101 : decode cX10_init 101 = .ok (.istore_n 1, 1) := by decide +kernel
theorem dX10_init_102 : decode cX10_init 102 = .ok (.iload_n 1, 1) := by decide +kernel
theorem dX10_init_103 : decode cX10_init 103 = .ok (.bipush 40, 2) := by decide +kernel
theorem dX10_init_105 : decode cX10_init 105 = .ok (.if_icmp .ge 20, 3) := by decide +kernel
theorem dX10_init_108 : decode cX10_init 108 = .ok (.aload_n 0, 1) := by decide +kernel
theorem dX10_init_109 : decode cX10_init 109 = .ok (.getfield 7, 3) := by decide +kernel
theorem dX10_init_112 : decode cX10_init 112 = .ok (.sipush 172, 3) := by decide +kernel
theorem dX10_init_115 : decode cX10_init 115 = .ok (.iload_n 1, 1) := by decide +kernel
theorem dX10_init_116 : decode cX10_init 116 = .ok (.iadd, 1) := by decide +kernel
theorem dX10_init_117 : decode cX10_init 117 = .ok (.iconst (-1), 1) := by decide +kernel
theorem dX10_init_118 : decode cX10_init 118 = .ok (.iastore, 1) := by decide +kernel
theorem dX10_init_119 : decode cX10_init 119 = .ok (.iinc 1 1, 3) := by decide +kernel
theorem dX10_init_122 : decode cX10_init 122 = .ok (.goto (-20), 3) := by decide +kernel
theorem dX10_init_125 : decode cX10_init 125 = .ok (.return_, 1) := by decide +kernel
theorem dX10_push_0 : decode cX10_push 0 = .ok (.aload_n 0, 1) := by decide +kernel
theorem dX10_push_1 : decode cX10_push 1 = .ok (.getfield 42, 3) := by decide +kernel
theorem dX10_push_4 : decode cX10_push 4 = .ok (.iconst 5, 1) := by decide +kernel
theorem dX10_push_5 : decode cX10_push 5 = .ok (.if_icmp .ne 72, 3) := by decide +kernel
theorem dX10_push_8 : decode cX10_push 8 = .ok (.iconst 0, 1) := by decide +kernel
theorem dX10_push_9 : decode cX10_push 9 = .ok (.istore_n 2, 1) := by decide +kernel
theorem dX10_push_10 : decode cX10_push 10 = .ok (.iload_n 2, 1) := by decide +kernel
theorem dX10_push_11 : decode cX10_push 11 = .ok (.sipush 4416, 3) := by decide +kernel
theorem dX10_push_14 : decode cX10_push 14 = .ok (.if_icmp .ge 25, 3) := by decide +kernel
theorem dX10_push_17 : decode cX10_push 17 = .ok (.aload_n 0, 1) := by decide +kernel
theorem dX10_push_18 : decode cX10_push 18 = .ok (.getfield 20, 3) := by decide +kernel
theorem dX10_push_21 : decode cX10_push 21 = .ok (.iload_n 2, 1) := by decide +kernel
theorem dX10_push_22 : decode cX10_push 22 = .ok (.aload_n 0, 1) := by decide +kernel
theorem dX10_push_23 : decode cX10_push 23 = .ok (.getfield 20, 3) := by decide +kernel
theorem dX10_push_26 : decode cX10_push 26 = .ok (.iload_n 2, 1) := by decide +kernel
theorem dX10_push_27 : decode cX10_push 27 = .ok (.sipush 1104, 3) := by decide +kernel
theorem dX10_push_30 : decode cX10_push 30 = .ok (.iadd, 1) := by decide +kernel
theorem dX10_push_31 : decode cX10_push 31 = .ok (.iaload, 1) := by decide +kernel
theorem dX10_push_32 : decode cX10_push 32 = .ok (.iastore, 1) := by decide +kernel
theorem dX10_push_33 : decode cX10_push 33 = .ok (.iinc 2 1, 3) := by decide +kernel
theorem dX10_push_36 : decode cX10_push 36 = .ok (.goto (-26), 3) := by decide +kernel
theorem dX10_push_39 : decode cX10_push 39 = .ok (.iconst 0, 1) := by decide +kernel
theorem dX10_push_40 : decode cX10_push 40 = .ok (.istore_n 2, 1) := by decide +kernel
theorem dX10_push_41 : decode cX10_push 41 = .ok (.iload_n 2, 1) := by decide +kernel
theorem dX10_push_42 : decode cX10_push 42 = .ok (.bipush 8, 2) := by decide +kernel
theorem dX10_push_44 : decode cX10_push 44 = .ok (.if_icmp .ge 23, 3) := by decide +kernel
theorem dX10_push_47 : decode cX10_push 47 = .ok (.aload_n 0, 1) := by decide +kernel
theorem dX10_push_48 : decode cX10_push 48 = .ok (.getfield 23, 3) := by decide +kernel
theorem dX10_push_51 : decode cX10_push 51 = .ok (.iload_n 2, 1) := by decide +kernel
theorem dX10_push_52 : decode cX10_push 52 = .ok (.aload_n 0, 1) := by decide +kernel
theorem dX10_push_53 : decode cX10_push 53 = .ok (.getfield 23, 3) := by decide +kernel
theorem dX10_push_56 : decode cX10_push 56 = .ok (.iload_n 2, 1) := by decide +kernel
theorem dX10_push_57 : decode cX10_push 57 = .ok (.iconst 2, 1) := by decide +kernel
theorem dX10_push_58 : decode cX10_push 58 = .ok (.iadd, 1) := by decide +kernel
theorem dX10_push_59 : decode cX10_push 59 = .ok (.baload, 1) := by decide +kernel
theorem dX10_push_60 : decode cX10_push 60 = .ok (.bastore, 1) := by decide +kernel
theorem dX10_push_61 : decode cX10_push 61 = .ok (.iinc 2 1, 3) := by decide +kernel
theorem dX10_push_64 : decode cX10_push 64 = .ok (.goto (-23), 3) := by decide +kernel
theorem dX10_push_67 : decode cX10_push 67 = .ok (.aload_n 0, 1) := by decide +kernel
theorem dX10_push_68 : decode cX10_push 68 = .ok (.dup, 1) := by decide +kernel
theorem dX10_push_69 : decode cX10_push 69 = .ok (.getfield 42, 3) := by decide +kernel
theorem dX10_push_72 : decode cX10_push 72 = .ok (.iconst 1, 1) := by decide +kernel
theorem dX10_push_73 : decode cX10_push 73 = .ok (.isub, 1) := by decide +kernel
theorem dX10_push_74 : decode cX10_push 74 = .ok (.putfield 42, 3) := by decide +kernel
theorem dX10_push_77 : decode cX10_push 77 = .ok (.iconst 0, 1) := by decide +kernel
theorem dX10_push_78 : decode cX10_push 78 = .ok (.istore_n 2, 1) := by decide +kernel
theorem dX10_push_79 : decode cX10_push 79 = .ok (.iload_n 2, 1) := by decide +kernel
theorem dX10_push_80 : decode cX10_push 80 = .ok (.sipush 368, 3) := by decide +kernel
theorem dX10_push_83 : decode cX10_push 83 = .ok (.if_icmp .ge 43, 3) := by decide +kernel
theorem dX10_push_86 : decode cX10_push 86 = .ok (.aload_n 0, 1) := by decide +kernel
theorem dX10_push_87 : decode cX10_push 87 = .ok (.getfield 20, 3) := by decide +kernel
theorem dX10_push_90 : decode cX10_push 90 = .ok (.sipush 1104, 3) := by decide +kernel
theorem dX10_push_93 : decode cX10_push 93 = .ok (.aload_n 0, 1) := by decide +kernel
theorem dX10_push_94 : decode cX10_push 94 = .ok (.getfield 42, 3) := by decide +kernel
theorem dX10_push_97 : decode cX10_push 97 = .ok (.imul, 1) := by decide +kernel
theorem dX10_push_98 : decode cX10_push 98 = .ok (.iload_n 2, 1) := by decide +kernel
theorem dX10_push_99 : decode cX10_push 99 = .ok (.iadd, 1) := by decide +kernel
theorem dX10_push_100 : decode cX10_push 100 = .ok (.iload_n 1, 1) := by decide +kernel
theorem dX10_push_101 : decode cX10_push 101 = .ok (.ifCond .eq 12, 3) := by decide +kernel
theorem dX10_push_104 : decode cX10_push 104 = .ok (.aload_n 0, 1) := by decide +kernel
theorem dX10_push_105 : decode cX10_push 105 = .ok (.getfield 26, 3) := by decide +kernel
theorem dX10_push_108 : decode cX10_push 108 = .ok (.iload_n 2, 1) := by decide +kernel
theorem dX10_push_109 : decode cX10_push 109 = .ok (.iaload, 1) := by decide +kernel
theorem dX10_push_110 : decode cX10_push 110 = .ok (.goto 9, 3) := by decide +kernel
theorem dX10_push_113 : decode cX10_push 113 = .ok (.aload_n 0, 1) := by decide +kernel
theorem dX10_push_114 : decode cX10_push 114 = .ok (.getfield 7, 3) := by decide +kernel
theorem dX10_push_117 : decode cX10_push 117 = .ok (.iload_n 2, 1) := by decide +kernel
theorem dX10_push_118 : decode cX10_push 118 = .ok (.iaload, 1) := by decide +kernel
theorem dX10_push_119 : decode cX10_push 119 = .ok (.iastore, 1) := by decide +kernel
theorem dX10_push_120 : decode cX10_push 120 = .ok (.iinc 2 1, 3) := by decide +kernel
theorem dX10_push_123 : decode cX10_push 123 = .ok (.goto (-44), 3) := by decide +kernel
theorem dX10_push_126 : decode cX10_push 126 = .ok (.iconst 0, 1) := by decide +kernel
theorem dX10_push_127 : decode cX10_push 127 = .ok (.istore_n 2, 1) := by decide +kernel
theorem dX10_push_128 : decode cX10_push 128 = .ok (.iload_n 2, 1) := by decide +kernel
theorem dX10_push_129 : decode cX10_push 129 = .ok (.sipush 736, 3) := by decide +kernel
theorem dX10_push_132 : decode cX10_push 132 = .ok (.if_icmp .ge 34, 3) := by decide +kernel
theorem dX10_push_135 : decode cX10_push 135 = .ok (.aload_n 0, 1) := by decide +kernel
theorem dX10_push_136 : decode cX10_push 136 = .ok (.getfield 20, 3) := by decide +kernel
theorem dX10_push_139 : decode cX10_push 139 = .ok (.sipush 1104, 3) := by decide +kernel
theorem dX10_push_142 : decode cX10_push 142 = .ok (.aload_n 0, 1) := by decide +kernel
theorem dX10_push_143 : decode cX10_push 143 = .ok (.getfield 42, 3) := by decide +kernel
theorem dX10_push_146 : decode cX10_push 146 = .ok (.imul, 1) := by decide +kernel
theorem dX10_push_147 : decode cX10_push 147 = .ok (.sipush 368, 3) := by decide +kernel
theorem dX10_push_150 : decode cX10_push 150 = .ok (.iadd, 1) := by decide +kernel
theorem dX10_push_151 : decode cX10_push 151 = .ok (.iload_n 2, 1) := by decide +kernel
theorem dX10_push_152 : decode cX10_push 152 = .ok (.iadd, 1) := by decide +kernel
theorem dX10_push_153 : decode cX10_push 153 = .ok (.aload_n 0, 1) := by decide +kernel
theorem dX10_push_154 : decode cX10_push 154 = .ok (.getfield 13, 3) := by decide +kernel
theorem dX10_push_157 : decode cX10_push 157 = .ok (.iload_n 2, 1) := by decide +kernel
theorem dX10_push_158 : decode cX10_push 158 = .ok (.iaload, 1) := by decide +kernel
theorem dX10_push_159 : decode cX10_push 159 = .ok (.iastore, 1) := by decide +kernel
theorem dX10_push_160 : decode cX10_push 160 = .ok (.iinc 2 1, 3) := by decide +kernel
theorem dX10_push_163 : decode cX10_push 163 = .ok (.goto (-35), 3) := by decide +kernel
theorem dX10_push_166 : decode cX10_push 166 = .ok (.aload_n 0, 1) := by decide +kernel
theorem dX10_push_167 : decode cX10_push 167 = .ok (.getfield 23, 3) := by decide +kernel
theorem dX10_push_170 : decode cX10_push 170 = .ok (.iconst 2, 1) := by decide +kernel
theorem dX10_push_171 : decode cX10_push 171 = .ok (.aload_n 0, 1) := by decide +kernel
theorem dX10_push_172 : decode cX10_push 172 = .ok (.getfield 42, 3) := by decide +kernel
theorem dX10_push_175 : decode cX10_push 175 = .ok (.imul, 1) := by decide +kernel
theorem dX10_push_176 : decode cX10_push 176 = .ok (.aload_n 0, 1) := by decide +kernel
theorem dX10_push_177 : decode cX10_push 177 = .ok (.getfield 16, 3) := by decide +kernel
theorem dX10_push_180 : decode cX10_push 180 = .ok (.iconst 0, 1) := by decide +kernel
theorem dX10_push_181 : decode cX10_push 181 = .ok (.baload, 1) := by decide +kernel
theorem dX10_push_182 : decode cX10_push 182 = .ok (.bastore, 1) := by decide +kernel
theorem dX10_push_183 : decode cX10_push 183 = .ok (.aload_n 0, 1) := by decide +kernel
theorem dX10_push_184 : decode cX10_push 184 = .ok (.getfield 23, 3) := by decide +kernel
theorem dX10_push_187 : decode cX10_push 187 = .ok (.iconst 2, 1) := by decide +kernel
theorem dX10_push_188 : decode cX10_push 188 = .ok (.aload_n 0, 1) := by decide +kernel
theorem dX10_push_189 : decode cX10_push 189 = .ok (.getfield 42, 3) := by decide +kernel
theorem dX10_push_192 : decode cX10_push 192 = .ok (.imul, 1) := by decide +kernel
theorem dX10_push_193 : decode cX10_push 193 = .ok (.iconst 1, 1) := by decide +kernel
theorem dX10_push_194 : decode cX10_push 194 = .ok (.iadd, 1) := by decide +kernel
theorem dX10_push_195 : decode cX10_push 195 = .ok (.aload_n 0, 1) := by decide +kernel
theorem dX10_push_196 : decode cX10_push 196 = .ok (.getfield 16, 3) := by decide +kernel
theorem dX10_push_199 : decode cX10_push 199 = .ok (.iconst 1, 1) := by decide +kernel
theorem dX10_push_200 : decode cX10_push 200 = .ok (.baload, 1) := by decide +kernel
theorem dX10_push_201 : decode cX10_push 201 = .ok (.bastore, 1) := by decide +kernel
theorem dX10_push_202 : decode cX10_push 202 = .ok (.aload_n 0, 1) := by decide +kernel
theorem dX10_push_203 : decode cX10_push 203 = .ok (.dup, 1) := by decide +kernel
theorem dX10_push_204 : decode cX10_push 204 = .ok (.getfield 42, 3) := by decide +kernel
theorem dX10_push_207 : decode cX10_push 207 = .ok (.iconst 1, 1) := by decide +kernel
theorem dX10_push_208 : decode cX10_push 208 = .ok (.iadd, 1) := by decide +kernel
theorem dX10_push_209 : decode cX10_push 209 = .ok (.putfield 42, 3) := by decide +kernel
theorem dX10_push_212 : decode cX10_push 212 = .ok (.return_, 1) := by decide +kernel
set_option maxRecDepth 20000 in
theorem ggX10_record_X10_push : GoodIn wsX10_record wsX10_push := goodIn_r _ [6, 7, 8, 9, 10, 11, 12, 13, 14, 15, 16, 17, 18, 19, 20, 21, 22, 23, 24, 25, 26, 27, 28, 29] (by decide +kernel) (by decide +kernel)
set_option maxRecDepth 20000 in
theorem gX10_record_X10_push : GoodIn wsX10_record (wsV RX10 50 RX10 yX10_push wsX10_push) := goodIn_app (goodIn_of _ (by decide +kernel)) ggX10_record_X10_push
theorem dX10_record_0 : decode cX10_record 0 = .ok (.aload_n 0, 1) := by decide +kernel
theorem dX10_record_1 : decode cX10_record 1 = .ok (.getfield 46, 3) := by decide +kernel
theorem dX10_record_4 : decode cX10_record 4 = .ok (.ifCond .ne 8, 3) := by decide +kernel
theorem dX10_record_7 : decode cX10_record 7 = .ok (.aload_n 0, 1) := by decide +kernel
theorem dX10_record_8 : decode cX10_record 8 = .ok (.iconst 0, 1) := by decide +kernel
theorem dX10_record_9 : decode cX10_record 9 = .ok (.invokevirtual 50, 3) := by decide +kernel
theorem dX10_record_12 : decode cX10_record 12 = .ok (.return_, 1) := by decide +kernel
theorem dX10_undo_0 : decode cX10_undo 0 = .ok (.aload_n 0, 1) := by decide +kernel
theorem dX10_undo_1 : decode cX10_undo 1 = .ok (.getfield 42, 3) := by decide +kernel
theorem dX10_undo_4 : decode cX10_undo 4 = .ok (.ifCond .ne 6, 3) := by decide +kernel
theorem dX10_undo_7 : decode cX10_undo 7 = .ok (.bipush (-2), 2) := by decide +kernel
theorem dX10_undo_9 : decode cX10_undo 9 = .ok (.ireturn, 1) := by decide +kernel
theorem dX10_undo_10 : decode cX10_undo 10 = .ok (.aload_n 0, 1) := by decide +kernel
theorem dX10_undo_11 : decode cX10_undo 11 = .ok (.dup, 1) := by decide +kernel
theorem dX10_undo_12 : decode cX10_undo 12 = .ok (.getfield 42, 3) := by decide +kernel
theorem dX10_undo_15 : decode cX10_undo 15 = .ok (.iconst 1, 1) := by decide +kernel
theorem dX10_undo_16 : decode cX10_undo 16 = .ok (.isub, 1) := by decide +kernel
theorem dX10_undo_17 : decode cX10_undo 17 = .ok (.putfield 42, 3) := by decide +kernel
theorem dX10_undo_20 : decode cX10_undo 20 = .ok (.iconst 0, 1) := by decide +kernel
theorem dX10_undo_21 : decode cX10_undo 21 = .ok (.istore_n 1, 1) := by decide +kernel
theorem dX10_undo_22 : decode cX10_undo 22 = .ok (.iload_n 1, 1) := by decide +kernel
theorem dX10_undo_23 : decode cX10_undo 23 = .ok (.sipush 368, 3) := by decide +kernel
theorem dX10_undo_26 : decode cX10_undo 26 = .ok (.if_icmp .ge 30, 3) := by decide +kernel
theorem dX10_undo_29 : decode cX10_undo 29 = .ok (.aload_n 0, 1) := by decide +kernel
theorem dX10_undo_30 : decode cX10_undo 30 = .ok (.getfield 7, 3) := by decide +kernel
theorem dX10_undo_33 : decode cX10_undo 33 = .ok (.iload_n 1, 1) := by decide +kernel
theorem dX10_undo_34 : decode cX10_undo 34 = .ok (.aload_n 0, 1) := by decide +kernel
theorem dX10_undo_35 : decode cX10_undo 35 = .ok (.getfield 20, 3) := by decide +kernel
theorem dX10_undo_38 : decode cX10_undo 38 = .ok (.sipush 1104, 3) := by decide +kernel
theorem dX10_undo_41 : decode cX10_undo 41 = .ok (.aload_n 0, 1) := by decide +kernel
theorem dX10_undo_42 : decode cX10_undo 42 = .ok (.getfield 42, 3) := by decide +kernel
theorem dX10_undo_45 : decode cX10_undo 45 = .ok (.imul, 1) := by decide +kernel
theorem dX10_undo_46 : decode cX10_undo 46 = .ok (.iload_n 1, 1) := by decide +kernel
theorem dX10_undo_47 : decode cX10_undo 47 = .ok (.iadd, 1) := by decide +kernel
theorem dX10_undo_48 : decode cX10_undo 48 = .ok (.iaload, 1) := by decide +kernel
theorem dX10_undo_49 : decode cX10_undo 49 = .ok (.iastore, 1) := by decide +kernel
theorem dX10_undo_50 : decode cX10_undo 50 = .ok (.iinc 1 1, 3) := by decide +kernel
theorem dX10_undo_53 : decode cX10_undo 53 = .ok (.goto (-31), 3) := by decide +kernel
theorem dX10_undo_56 : decode cX10_undo 56 = .ok (.iconst 0, 1) := by decide +kernel
theorem dX10_undo_57 : decode cX10_undo 57 = .ok (.istore_n 1, 1) := by decide +kernel
theorem dX10_undo_58 : decode cX10_undo 58 = .ok (.iload_n 1, 1) := by decide +kernel
theorem dX10_undo_59 : decode cX10_undo 59 = .ok (.sipush 736, 3) := by decide +kernel
theorem dX10_undo_62 : decode cX10_undo 62 = .ok (.if_icmp .ge 34, 3) := by decide +kernel
theorem dX10_undo_65 : decode cX10_undo 65 = .ok (.aload_n 0, 1) := by decide +kernel
theorem dX10_undo_66 : decode cX10_undo 66 = .ok (.getfield 13, 3) := by decide +kernel
theorem dX10_undo_69 : decode cX10_undo 69 = .ok (.iload_n 1, 1) := by decide +kernel
theorem dX10_undo_70 : decode cX10_undo 70 = .ok (.aload_n 0, 1) := by decide +kernel
theorem dX10_undo_71 : decode cX10_undo 71 = .ok (.getfield 20, 3) := by decide +kernel
theorem dX10_undo_74 : decode cX10_undo 74 = .ok (.sipush 1104, 3) := by decide +kernel
theorem dX10_undo_77 : decode cX10_undo 77 = .ok (.aload_n 0, 1) := by decide +kernel
theorem dX10_undo_78 : decode cX10_undo 78 = .ok (.getfield 42, 3) := by decide +kernel
theorem dX10_undo_81 : decode cX10_undo 81 = .ok (.imul, 1) := by decide +kernel
theorem dX10_undo_82 : decode cX10_undo 82 = .ok (.sipush 368, 3) := by decide +kernel
theorem dX10_undo_85 : decode cX10_undo 85 = .ok (.iadd, 1) := by decide +kernel
theorem dX10_undo_86 : decode cX10_undo 86 = .ok (.iload_n 1, 1) := by decide +kernel
theorem dX10_undo_87 : decode cX10_undo 87 = .ok (.iadd, 1) := by decide +kernel
theorem dX10_undo_88 : decode cX10_undo 88 = .ok (.iaload, 1) := by decide +kernel
theorem dX10_undo_89 : decode cX10_undo 89 = .ok (.iastore, 1) := by decide +kernel
theorem dX10_undo_90 : decode cX10_undo 90 = .ok (.iinc 1 1, 3) := by decide +kernel
theorem dX10_undo_93 : decode cX10_undo 93 = .ok (.goto (-35), 3) := by decide +kernel
theorem dX10_undo_96 : decode cX10_undo 96 = .ok (.aload_n 0, 1) := by decide +kernel
theorem dX10_undo_97 : decode cX10_undo 97 = .ok (.getfield 16, 3) := by decide +kernel
theorem dX10_undo_100 : decode cX10_undo 100 = .ok (.iconst 0, 1) := by decide +kernel
theorem dX10_undo_101 : decode cX10_undo 101 = .ok (.aload_n 0, 1) := by decide +kernel
theorem dX10_undo_102 : decode cX10_undo 102 = .ok (.getfield 23, 3) := by decide +kernel
theorem dX10_undo_105 : decode cX10_undo 105 = .ok (.iconst 2, 1) := by decide +kernel
theorem dX10_undo_106 : decode cX10_undo 106 = .ok (.aload_n 0, 1) := by decide +kernel
theorem dX10_undo_107 : decode cX10_undo 107 = .ok (.getfield 42, 3) := by decide +kernel
theorem dX10_undo_110 : decode cX10_undo 110 = .ok (.imul, 1) := by decide +kernel
theorem dX10_undo_111 : decode cX10_undo 111 = .ok (.baload, 1) := by decide +kernel
theorem dX10_undo_112 : decode cX10_undo 112 = .ok (.bastore, 1) := by decide +kernel
theorem dX10_undo_113 : decode cX10_undo 113 = .ok (.aload_n 0, 1) := by decide +kernel
theorem dX10_undo_114 : decode cX10_undo 114 = .ok (.getfield 16, 3) := by decide +kernel
theorem dX10_undo_117 : decode cX10_undo 117 = .ok (.iconst 1, 1) := by decide +kernel
theorem dX10_undo_118 : decode cX10_undo 118 = .ok (.aload_n 0, 1) := by decide +kernel
theorem dX10_undo_119 : decode cX10_undo 119 = .ok (.getfield 23, 3) := by decide +kernel
theorem dX10_undo_122 : decode cX10_undo 122 = .ok (.iconst 2, 1) := by decide +kernel
theorem dX10_undo_123 : decode cX10_undo 123 = .ok (.aload_n 0, 1) := by decide +kernel
theorem dX10_undo_124 : decode cX10_undo 124 = .ok (.getfield 42, 3) := by decide +kernel
theorem dX10_undo_127 : decode cX10_undo 127 = .ok (.imul, 1) := by decide +kernel
theorem dX10_undo_128 : decode cX10_undo 128 = .ok (.iconst 1, 1) := by decide +kernel
theorem dX10_undo_129 : decode cX10_undo 129 = .ok (.iadd, 1) := by decide +kernel
theorem dX10_undo_130 : decode cX10_undo 130 = .ok (.baload, 1) := by decide +kernel
theorem dX10_undo_131 : decode cX10_undo 131 = .ok (.bastore, 1) := by decide +kernel
theorem dX10_undo_132 : decode cX10_undo 132 = .ok (.aload_n 0, 1) := by decide +kernel
theorem dX10_undo_133 : decode cX10_undo 133 = .ok (.getfield 42, 3) := by decide +kernel
theorem dX10_undo_136 : decode cX10_undo 136 = .ok (.ireturn, 1) := by decide +kernel
set_option maxRecDepth 20000 in
theorem ggX10_take_X10_record : GoodIn wsX10_take wsX10_record := goodIn_r _ [8, 9, 10, 11, 12, 7, 13, 14, 15, 16, 17, 3, 2, 1, 18, 19, 20, 21, 22, 23, 24, 25, 26, 27, 28, 29, 30, 31, 32, 33] (by decide +kernel) (by decide +kernel)
set_option maxRecDepth 20000 in
theorem gX10_take_X10_record : GoodIn wsX10_take (wsV RX10 54 RX10 yX10_record wsX10_record) := goodIn_app (goodIn_of _ (by decide +kernel)) ggX10_take_X10_record
theorem dX10_take_0 : decode cX10_take 0 = .ok (.iload_n 1, 1) := by decide +kernel
theorem dX10_take_1 : decode cX10_take 1 = .ok (.ifCond .lt 8, 3) := by decide +kernel
theorem dX10_take_4 : decode cX10_take 4 = .ok (.iload_n 1, 1) := by decide +kernel
theorem dX10_take_5 : decode cX10_take 5 = .ok (.iconst 1, 1) := by decide +kernel
theorem dX10_take_6 : decode cX10_take 6 = .ok (.if_icmp .le 5, 3) := by decide +kernel
theorem dX10_take_9 : decode cX10_take 9 = .ok (.iconst (-1), 1) := by decide +kernel
theorem dX10_take_10 : decode cX10_take 10 = .ok (.ireturn, 1) := by decide +kernel
theorem dX10_take_11 : decode cX10_take 11 = .ok (.aload_n 0, 1) := by decide +kernel
theorem dX10_take_12 : decode cX10_take 12 = .ok (.invokevirtual 54, 3) := by decide +kernel
theorem dX10_take_15 : decode cX10_take 15 = .ok (.aload_n 0, 1) := by decide +kernel
theorem dX10_take_16 : decode cX10_take 16 = .ok (.getfield 16, 3) := by decide +kernel
theorem dX10_take_19 : decode cX10_take 19 = .ok (.iload_n 1, 1) := by decide +kernel
theorem dX10_take_20 : decode cX10_take 20 = .ok (.iconst 1, 1) := by decide +kernel
theorem dX10_take_21 : decode cX10_take 21 = .ok (.bastore, 1) := by decide +kernel
theorem dX10_take_22 : decode cX10_take 22 = .ok (.iconst 0, 1) := by decide +kernel
theorem dX10_take_23 : decode cX10_take 23 = .ok (.istore_n 2, 1) := by decide +kernel
theorem dX10_take_24 : decode cX10_take 24 = .ok (.iload_n 2, 1) := by decide +kernel
theorem dX10_take_25 : decode cX10_take 25 = .ok (.sipush 368, 3) := by decide +kernel
theorem dX10_take_28 : decode cX10_take 28 = .ok (.if_icmp .ge 27, 3) := by decide +kernel
theorem dX10_take_31 : decode cX10_take 31 = .ok (.aload_n 0, 1) := by decide +kernel
theorem dX10_take_32 : decode cX10_take 32 = .ok (.getfield 13, 3) := by decide +kernel
theorem dX10_take_35 : decode cX10_take 35 = .ok (.sipush 368, 3) := by decide +kernel
theorem dX10_take_38 : decode cX10_take 38 = .ok (.iload_n 1, 1) := by decide +kernel
theorem dX10_take_39 : decode cX10_take 39 = .ok (.imul, 1) := by decide +kernel
theorem dX10_take_40 : decode cX10_take 40 = .ok (.iload_n 2, 1) := by decide +kernel
theorem dX10_take_41 : decode cX10_take 41 = .ok (.iadd, 1) := by decide +kernel
theorem dX10_take_42 : decode cX10_take 42 = .ok (.aload_n 0, 1) := by decide +kernel
theorem dX10_take_43 : decode cX10_take 43 = .ok (.getfield 7, 3) := by decide +kernel
theorem dX10_take_46 : decode cX10_take 46 = .ok (.iload_n 2, 1) := by decide +kernel
theorem dX10_take_47 : decode cX10_take 47 = .ok (.iaload, 1) := by decide +kernel
theorem dX10_take_48 : decode cX10_take 48 = .ok (.iastore, 1) := by decide +kernel
theorem dX10_take_49 : decode cX10_take 49 = .ok (.iinc 2 1, 3) := by decide +kernel
theorem dX10_take_52 : decode cX10_take 52 = .ok (.goto (-28), 3) := by decide +kernel
theorem dX10_take_55 : decode cX10_take 55 = .ok (.aload_n 0, 1) := by decide +kernel
theorem dX10_take_56 : decode cX10_take 56 = .ok (.getfield 7, 3) := by decide +kernel
theorem dX10_take_59 : decode cX10_take 59 = .ok (.iconst 0, 1) := by decide +kernel
theorem dX10_take_60 : decode cX10_take 60 = .ok (.iaload, 1) := by decide +kernel
theorem dX10_take_61 : decode cX10_take 61 = .ok (.ireturn, 1) := by decide +kernel
set_option maxRecDepth 20000 in
theorem ggX10_restore_X10_record : GoodIn wsX10_restore wsX10_record := goodIn_r _ [8, 9, 10, 11, 12, 7, 13, 14, 15, 16, 17, 2, 3, 1, 18, 19, 20, 21, 22, 23, 24, 25, 26, 27, 28, 29, 30, 31, 32, 33] (by decide +kernel) (by decide +kernel)
set_option maxRecDepth 20000 in
theorem gX10_restore_X10_record : GoodIn wsX10_restore (wsV RX10 54 RX10 yX10_record wsX10_record) := goodIn_app (goodIn_of _ (by decide +kernel)) ggX10_restore_X10_record
theorem dX10_restore_0 : decode cX10_restore 0 = .ok (.iload_n 1, 1) := by decide +kernel
theorem dX10_restore_1 : decode cX10_restore 1 = .ok (.ifCond .lt 8, 3) := by decide +kernel
theorem dX10_restore_4 : decode cX10_restore 4 = .ok (.iload_n 1, 1) := by decide +kernel
theorem dX10_restore_5 : decode cX10_restore 5 = .ok (.iconst 1, 1) := by decide +kernel
theorem dX10_restore_6 : decode cX10_restore 6 = .ok (.if_icmp .le 5, 3) := by decide +kernel
theorem dX10_restore_9 : decode cX10_restore 9 = .ok (.iconst (-1), 1) := by decide +kernel
theorem dX10_restore_10 : decode cX10_restore 10 = .ok (.ireturn, 1) := by decide +kernel
theorem dX10_restore_11 : decode cX10_restore 11 = .ok (.aload_n 0, 1) := by decide +kernel
theorem dX10_restore_12 : decode cX10_restore 12 = .ok (.getfield 16, 3) := by decide +kernel
theorem dX10_restore_15 : decode cX10_restore 15 = .ok (.iload_n 1, 1) := by decide +kernel
theorem dX10_restore_16 : decode cX10_restore 16 = .ok (.baload, 1) := by decide +kernel
theorem dX10_restore_17 : decode cX10_restore 17 = .ok (.ifCond .ne 6, 3) := by decide +kernel
theorem dX10_restore_20 : decode cX10_restore 20 = .ok (.bipush (-2), 2) := by decide +kernel
theorem dX10_restore_22 : decode cX10_restore 22 = .ok (.ireturn, 1) := by decide +kernel
theorem dX10_restore_23 : decode cX10_restore 23 = .ok (.aload_n 0, 1) := by decide +kernel
theorem dX10_restore_24 : decode cX10_restore 24 = .ok (.invokevirtual 54, 3) := by decide +kernel
theorem dX10_restore_27 : decode cX10_restore 27 = .ok (.iconst 0, 1) := by decide +kernel
theorem dX10_restore_28 : decode cX10_restore 28 = .ok (.istore_n 2, 1) := by decide +kernel
theorem dX10_restore_29 : decode cX10_restore 29 = .ok (.iload_n 2, 1) := by decide +kernel
theorem dX10_restore_30 : decode cX10_restore 30 = .ok (.sipush 368, 3) := by decide +kernel
theorem dX10_restore_33 : decode cX10_restore 33 = .ok (.if_icmp .ge 27, 3) := by decide +kernel
theorem dX10_restore_36 : decode cX10_restore 36 = .ok (.aload_n 0, 1) := by decide +kernel
theorem dX10_restore_37 : decode cX10_restore 37 = .ok (.getfield 7, 3) := by decide +kernel
theorem dX10_restore_40 : decode cX10_restore 40 = .ok (.iload_n 2, 1) := by decide +kernel
theorem dX10_restore_41 : decode cX10_restore 41 = .ok (.aload_n 0, 1) := by decide +kernel
theorem dX10_restore_42 : decode cX10_restore 42 = .ok (.getfield 13, 3) := by decide +kernel
theorem dX10_restore_45 : decode cX10_restore 45 = .ok (.sipush 368, 3) := by decide +kernel
theorem dX10_restore_48 : decode cX10_restore 48 = .ok (.iload_n 1, 1) := by decide +kernel
theorem dX10_restore_49 : decode cX10_restore 49 = .ok (.imul, 1) := by decide +kernel
theorem dX10_restore_50 : decode cX10_restore 50 = .ok (.iload_n 2, 1) := by decide +kernel
theorem dX10_restore_51 : decode cX10_restore 51 = .ok (.iadd, 1) := by decide +kernel
theorem dX10_restore_52 : decode cX10_restore 52 = .ok (.iaload, 1) := by decide +kernel
theorem dX10_restore_53 : decode cX10_restore 53 = .ok (.iastore, 1) := by decide +kernel
theorem dX10_restore_54 : decode cX10_restore 54 = .ok (.iinc 2 1, 3) := by decide +kernel
theorem dX10_restore_57 : decode cX10_restore 57 = .ok (.goto (-28), 3) := by decide +kernel
theorem dX10_restore_60 : decode cX10_restore 60 = .ok (.aload_n 0, 1) := by decide +kernel
theorem dX10_restore_61 : decode cX10_restore 61 = .ok (.getfield 7, 3) := by decide +kernel
theorem dX10_restore_64 : decode cX10_restore 64 = .ok (.iconst 0, 1) := by decide +kernel
theorem dX10_restore_65 : decode cX10_restore 65 = .ok (.iaload, 1) := by decide +kernel
theorem dX10_restore_66 : decode cX10_restore 66 = .ok (.ireturn, 1) := by decide +kernel
theorem dX10_isPromise_0 : decode cX10_isPromise 0 = .ok (.iload_n 1, 1) := by decide +kernel
theorem dX10_isPromise_1 : decode cX10_isPromise 1 = .ok (.ifCond .lt 17, 3) := by decide +kernel
theorem dX10_isPromise_4 : decode cX10_isPromise 4 = .ok (.iload_n 1, 1) := by decide +kernel
theorem dX10_isPromise_5 : decode cX10_isPromise 5 = .ok (.aload_n 0, 1) := by decide +kernel
theorem dX10_isPromise_6 : decode cX10_isPromise 6 = .ok (.getfield 7, 3) := by decide +kernel
theorem dX10_isPromise_9 : decode cX10_isPromise 9 = .ok (.iconst 1, 1) := by decide +kernel
theorem dX10_isPromise_10 : decode cX10_isPromise 10 = .ok (.iaload, 1) := by decide +kernel
theorem dX10_isPromise_11 : decode cX10_isPromise 11 = .ok (.if_icmp .ge 7, 3) := by decide +kernel
theorem dX10_isPromise_14 : decode cX10_isPromise 14 = .ok (.iconst 1, 1) := by decide +kernel
theorem dX10_isPromise_15 : decode cX10_isPromise 15 = .ok (.goto 4, 3) := by decide +kernel
theorem dX10_isPromise_18 : decode cX10_isPromise 18 = .ok (.iconst 0, 1) := by decide +kernel
theorem dX10_isPromise_19 : decode cX10_isPromise 19 = .ok (.ireturn, 1) := by decide +kernel
theorem dX10_stand_0 : decode cX10_stand 0 = .ok (.aload_n 0, 1) := by decide +kernel
theorem dX10_stand_1 : decode cX10_stand 1 = .ok (.getfield 7, 3) := by decide +kernel
theorem dX10_stand_4 : decode cX10_stand 4 = .ok (.sipush 172, 3) := by decide +kernel
theorem dX10_stand_7 : decode cX10_stand 7 = .ok (.iload_n 1, 1) := by decide +kernel
theorem dX10_stand_8 : decode cX10_stand 8 = .ok (.iadd, 1) := by decide +kernel
theorem dX10_stand_9 : decode cX10_stand 9 = .ok (.iload_n 2, 1) := by decide +kernel
theorem dX10_stand_10 : decode cX10_stand 10 = .ok (.iastore, 1) := by decide +kernel
theorem dX10_stand_11 : decode cX10_stand 11 = .ok (.aload_n 0, 1) := by decide +kernel
theorem dX10_stand_12 : decode cX10_stand 12 = .ok (.getfield 7, 3) := by decide +kernel
theorem dX10_stand_15 : decode cX10_stand 15 = .ok (.sipush 212, 3) := by decide +kernel
theorem dX10_stand_18 : decode cX10_stand 18 = .ok (.iload_n 1, 1) := by decide +kernel
theorem dX10_stand_19 : decode cX10_stand 19 = .ok (.iadd, 1) := by decide +kernel
theorem dX10_stand_20 : decode cX10_stand 20 = .ok (.aload_n 0, 1) := by decide +kernel
theorem dX10_stand_21 : decode cX10_stand 21 = .ok (.getfield 7, 3) := by decide +kernel
theorem dX10_stand_24 : decode cX10_stand 24 = .ok (.bipush 11, 2) := by decide +kernel
theorem dX10_stand_26 : decode cX10_stand 26 = .ok (.iaload, 1) := by decide +kernel
theorem dX10_stand_27 : decode cX10_stand 27 = .ok (.iastore, 1) := by decide +kernel
theorem dX10_stand_28 : decode cX10_stand 28 = .ok (.aload_n 0, 1) := by decide +kernel
theorem dX10_stand_29 : decode cX10_stand 29 = .ok (.getfield 7, 3) := by decide +kernel
theorem dX10_stand_32 : decode cX10_stand 32 = .ok (.bipush 11, 2) := by decide +kernel
theorem dX10_stand_34 : decode cX10_stand 34 = .ok (.dup2, 1) := by decide +kernel
theorem dX10_stand_35 : decode cX10_stand 35 = .ok (.iaload, 1) := by decide +kernel
theorem dX10_stand_36 : decode cX10_stand 36 = .ok (.iconst 1, 1) := by decide +kernel
theorem dX10_stand_37 : decode cX10_stand 37 = .ok (.iadd, 1) := by decide +kernel
theorem dX10_stand_38 : decode cX10_stand 38 = .ok (.iastore, 1) := by decide +kernel
theorem dX10_stand_39 : decode cX10_stand 39 = .ok (.return_, 1) := by decide +kernel
set_option maxRecDepth 20000 in
theorem ggX10_standByDistance_X10_stand : GoodIn wsX10_standByDistance wsX10_stand := goodIn_r _ [6, 1, 7, 8, 9, 10, 11, 12, 13, 14, 15, 16, 17, 18, 19, 20, 21, 22] (by decide +kernel) (by decide +kernel)
set_option maxRecDepth 20000 in
theorem gX10_standByDistance_X10_stand : GoodIn wsX10_standByDistance (wsV RX10 57 RX10 yX10_stand wsX10_stand) := goodIn_app (goodIn_of _ (by decide +kernel)) ggX10_standByDistance_X10_stand
theorem dX10_standByDistance_0 : decode cX10_standByDistance 0 = .ok (.aload_n 0, 1) := by decide +kernel
theorem dX10_standByDistance_1 : decode cX10_standByDistance 1 = .ok (.getfield 7, 3) := by decide +kernel
theorem dX10_standByDistance_4 : decode cX10_standByDistance 4 = .ok (.bipush 12, 2) := by decide +kernel
theorem dX10_standByDistance_6 : decode cX10_standByDistance 6 = .ok (.iload_n 1, 1) := by decide +kernel
theorem dX10_standByDistance_7 : decode cX10_standByDistance 7 = .ok (.iadd, 1) := by decide +kernel
theorem dX10_standByDistance_8 : decode cX10_standByDistance 8 = .ok (.iaload, 1) := by decide +kernel
theorem dX10_standByDistance_9 : decode cX10_standByDistance 9 = .ok (.istore_n 2, 1) := by decide +kernel
theorem dX10_standByDistance_10 : decode cX10_standByDistance 10 = .ok (.iload_n 2, 1) := by decide +kernel
theorem dX10_standByDistance_11 : decode cX10_standByDistance 11 = .ok (.aload_n 0, 1) := by decide +kernel
theorem dX10_standByDistance_12 : decode cX10_standByDistance 12 = .ok (.getfield 7, 3) := by decide +kernel
theorem dX10_standByDistance_15 : decode cX10_standByDistance 15 = .ok (.iconst 0, 1) := by decide +kernel
theorem dX10_standByDistance_16 : decode cX10_standByDistance 16 = .ok (.iaload, 1) := by decide +kernel
theorem dX10_standByDistance_17 : decode cX10_standByDistance 17 = .ok (.isub, 1) := by decide +kernel
theorem dX10_standByDistance_18 : decode cX10_standByDistance 18 = .ok (.istore_n 3, 1) := by decide +kernel
theorem dX10_standByDistance_19 : decode cX10_standByDistance 19 = .ok (.iload_n 3, 1) := by decide +kernel
theorem dX10_standByDistance_20 : decode cX10_standByDistance 20 = .ok (.bipush 8, 2) := by decide +kernel
theorem dX10_standByDistance_22 : decode cX10_standByDistance 22 = .ok (.if_icmp .ge 15, 3) := by decide +kernel
theorem dX10_standByDistance_25 : decode cX10_standByDistance 25 = .ok (.aload_n 0, 1) := by decide +kernel
theorem dX10_standByDistance_26 : decode cX10_standByDistance 26 = .ok (.iload_n 1, 1) := by decide +kernel
theorem dX10_standByDistance_27 : decode cX10_standByDistance 27 = .ok (.iload_n 2, 1) := by decide +kernel
theorem dX10_standByDistance_28 : decode cX10_standByDistance 28 = .ok (.bipush 8, 2) := by decide +kernel
theorem dX10_standByDistance_30 : decode cX10_standByDistance 30 = .ok (.irem, 1) := by decide +kernel
theorem dX10_standByDistance_31 : decode cX10_standByDistance 31 = .ok (.invokevirtual 57, 3) := by decide +kernel
theorem dX10_standByDistance_34 : decode cX10_standByDistance 34 = .ok (.goto 42, 3) := by decide +kernel
theorem dX10_standByDistance_37 : decode cX10_standByDistance 37 = .ok (.iload_n 3, 1) := by decide +kernel
theorem dX10_standByDistance_38 : decode cX10_standByDistance 38 = .ok (.bipush 64, 2) := by decide +kernel
theorem dX10_standByDistance_40 : decode cX10_standByDistance 40 = .ok (.if_icmp .ge 21, 3) := by decide +kernel
theorem dX10_standByDistance_43 : decode cX10_standByDistance 43 = .ok (.aload_n 0, 1) := by decide +kernel
theorem dX10_standByDistance_44 : decode cX10_standByDistance 44 = .ok (.iload_n 1, 1) := by decide +kernel
theorem dX10_standByDistance_45 : decode cX10_standByDistance 45 = .ok (.bipush 8, 2) := by decide +kernel
theorem dX10_standByDistance_47 : decode cX10_standByDistance 47 = .ok (.iload_n 2, 1) := by decide +kernel
theorem dX10_standByDistance_48 : decode cX10_standByDistance 48 = .ok (.bipush 8, 2) := by decide +kernel
theorem dX10_standByDistance_50 : decode cX10_standByDistance 50 = .ok (.idiv, 1) := by decide +kernel
theorem dX10_standByDistance_51 : decode cX10_standByDistance 51 = .ok (.bipush 8, 2) := by decide +kernel
theorem dX10_standByDistance_53 : decode cX10_standByDistance 53 = .ok (.irem, 1) := by decide +kernel
theorem dX10_standByDistance_54 : decode cX10_standByDistance 54 = .ok (.iadd, 1) := by decide +kernel
theorem dX10_standByDistance_55 : decode cX10_standByDistance 55 = .ok (.invokevirtual 57, 3) := by decide +kernel
theorem dX10_standByDistance_58 : decode cX10_standByDistance 58 = .ok (.goto 18, 3) := by decide +kernel
theorem dX10_standByDistance_61 : decode cX10_standByDistance 61 = .ok (.aload_n 0, 1) := by decide +kernel
theorem dX10_standByDistance_62 : decode cX10_standByDistance 62 = .ok (.iload_n 1, 1) := by decide +kernel
theorem dX10_standByDistance_63 : decode cX10_standByDistance 63 = .ok (.bipush 16, 2) := by decide +kernel
theorem dX10_standByDistance_65 : decode cX10_standByDistance 65 = .ok (.iload_n 2, 1) := by decide +kernel
theorem dX10_standByDistance_66 : decode cX10_standByDistance 66 = .ok (.bipush 64, 2) := by decide +kernel
theorem dX10_standByDistance_68 : decode cX10_standByDistance 68 = .ok (.idiv, 1) := by decide +kernel
theorem dX10_standByDistance_69 : decode cX10_standByDistance 69 = .ok (.bipush 8, 2) := by decide +kernel
theorem dX10_standByDistance_71 : decode cX10_standByDistance 71 = .ok (.irem, 1) := by decide +kernel
theorem dX10_standByDistance_72 : decode cX10_standByDistance 72 = .ok (.iadd, 1) := by decide +kernel
theorem dX10_standByDistance_73 : decode cX10_standByDistance 73 = .ok (.invokevirtual 57, 3) := by decide +kernel
theorem dX10_standByDistance_76 : decode cX10_standByDistance 76 = .ok (.return_, 1) := by decide +kernel
theorem dX10_front_0 : decode cX10_front 0 = .ok (.iconst (-1), 1) := by decide +kernel
theorem dX10_front_1 : decode cX10_front 1 = .ok (.istore_n 2, 1) := by decide +kernel
theorem dX10_front_2 : decode cX10_front 2 = .ok (.iconst 0, 1) := by decide +kernel
theorem dX10_front_3 : decode cX10_front 3 = .ok (.istore_n 3, 1) := by decide +kernel
theorem dX10_front_4 : decode cX10_front 4 = .ok (.iload_n 3, 1) := by decide +kernel
theorem dX10_front_5 : decode cX10_front 5 = .ok (.aload_n 0, 1) := by decide +kernel
theorem dX10_front_6 : decode cX10_front 6 = .ok (.getfield 7, 3) := by decide +kernel
theorem dX10_front_9 : decode cX10_front 9 = .ok (.iconst 1, 1) := by decide +kernel
theorem dX10_front_10 : decode cX10_front 10 = .ok (.iaload, 1) := by decide +kernel
theorem dX10_front_11 : decode cX10_front 11 = .ok (.if_icmp .ge 68, 3) := by decide +kernel
theorem dX10_front_14 : decode cX10_front 14 = .ok (.aload_n 0, 1) := by decide +kernel
theorem dX10_front_15 : decode cX10_front 15 = .ok (.getfield 7, 3) := by decide +kernel
theorem dX10_front_18 : decode cX10_front 18 = .ok (.sipush 172, 3) := by decide +kernel
theorem dX10_front_21 : decode cX10_front 21 = .ok (.iload_n 3, 1) := by decide +kernel
theorem dX10_front_22 : decode cX10_front 22 = .ok (.iadd, 1) := by decide +kernel
theorem dX10_front_23 : decode cX10_front 23 = .ok (.iaload, 1) := by decide +kernel
theorem dX10_front_24 : decode cX10_front 24 = .ok (.iload_n 1, 1) := by decide +kernel
theorem dX10_front_25 : decode cX10_front 25 = .ok (.if_icmp .ne 34, 3) := by decide +kernel
theorem dX10_front_28 : decode cX10_front 28 = .ok (.iload_n 2, 1) := by decide +kernel
theorem dX10_front_29 : decode cX10_front 29 = .ok (.ifCond .lt 26, 3) := by decide +kernel
theorem dX10_front_32 : decode cX10_front 32 = .ok (.aload_n 0, 1) := by decide +kernel
theorem dX10_front_33 : decode cX10_front 33 = .ok (.getfield 7, 3) := by decide +kernel
theorem dX10_front_36 : decode cX10_front 36 = .ok (.sipush 212, 3) := by decide +kernel
theorem dX10_front_39 : decode cX10_front 39 = .ok (.iload_n 3, 1) := by decide +kernel
theorem dX10_front_40 : decode cX10_front 40 = .ok (.iadd, 1) := by decide +kernel
theorem dX10_front_41 : decode cX10_front 41 = .ok (.iaload, 1) := by decide +kernel
theorem dX10_front_42 : decode cX10_front 42 = .ok (.aload_n 0, 1) := by decide +kernel
theorem dX10_front_43 : decode cX10_front 43 = .ok (.getfield 7, 3) := by decide +kernel
theorem dX10_front_46 : decode cX10_front 46 = .ok (.sipush 212, 3) := by decide +kernel
theorem dX10_front_49 : decode cX10_front 49 = .ok (.iload_n 2, 1) := by decide +kernel
theorem dX10_front_50 : decode cX10_front 50 = .ok (.iadd, 1) := by decide +kernel
theorem dX10_front_51 : decode cX10_front 51 = .ok (.iaload, 1) := by decide +kernel
theorem dX10_front_52 : decode cX10_front 52 = .ok (.if_icmp .ge 7, 3) := by decide +kernel
theorem dX10_front_55 : decode cX10_front 55 = .ok (.iconst 1, 1) := by decide +kernel
theorem dX10_front_56 : decode cX10_front 56 = .ok (.goto 4, 3) := by decide +kernel
theorem dX10_front_59 : decode cX10_front 59 = .ok (.iconst 0, 1) := by decide +kernel
theorem dX10_front_60 : decode cX10_front 60 = .ok (.istore 4, 2) := by decide +kernel
theorem dX10_front_62 : decode cX10_front 62 = .ok (.iload 4, 2) := by decide +kernel
theorem dX10_front_64 : decode cX10_front 64 = .ok (.ifCond .eq 7, 3) := by decide +kernel
theorem dX10_front_67 : decode cX10_front 67 = .ok (.iload_n 3, 1) := by decide +kernel
theorem dX10_front_68 : decode cX10_front 68 = .ok (.goto 4, 3) := by decide +kernel
theorem dX10_front_71 : decode cX10_front 71 = .ok (.iload_n 2, 1) := by decide +kernel
theorem dX10_front_72 : decode cX10_front 72 = .ok (.istore_n 2, 1) := by decide +kernel
theorem dX10_front_73 : decode cX10_front 73 = .ok (.iinc 3 1, 3) := by decide +kernel
theorem dX10_front_76 : decode cX10_front 76 = .ok (.goto (-72), 3) := by decide +kernel
theorem dX10_front_79 : decode cX10_front 79 = .ok (.iload_n 2, 1) := by decide +kernel
theorem dX10_front_80 : decode cX10_front 80 = .ok (.ireturn, 1) := by decide +kernel
theorem dX10_manyAt_0 : decode cX10_manyAt 0 = .ok (.iconst 0, 1) := by decide +kernel
theorem dX10_manyAt_1 : decode cX10_manyAt 1 = .ok (.istore_n 2, 1) := by decide +kernel
theorem dX10_manyAt_2 : decode cX10_manyAt 2 = .ok (.iconst 0, 1) := by decide +kernel
theorem dX10_manyAt_3 : decode cX10_manyAt 3 = .ok (.istore_n 3, 1) := by decide +kernel
theorem dX10_manyAt_4 : decode cX10_manyAt 4 = .ok (.iload_n 3, 1) := by decide +kernel
theorem dX10_manyAt_5 : decode cX10_manyAt 5 = .ok (.aload_n 0, 1) := by decide +kernel
theorem dX10_manyAt_6 : decode cX10_manyAt 6 = .ok (.getfield 7, 3) := by decide +kernel
theorem dX10_manyAt_9 : decode cX10_manyAt 9 = .ok (.iconst 1, 1) := by decide +kernel
theorem dX10_manyAt_10 : decode cX10_manyAt 10 = .ok (.iaload, 1) := by decide +kernel
theorem dX10_manyAt_11 : decode cX10_manyAt 11 = .ok (.if_icmp .ge 31, 3) := by decide +kernel
theorem dX10_manyAt_14 : decode cX10_manyAt 14 = .ok (.iload_n 2, 1) := by decide +kernel
theorem dX10_manyAt_15 : decode cX10_manyAt 15 = .ok (.aload_n 0, 1) := by decide +kernel
theorem dX10_manyAt_16 : decode cX10_manyAt 16 = .ok (.getfield 7, 3) := by decide +kernel
theorem dX10_manyAt_19 : decode cX10_manyAt 19 = .ok (.sipush 172, 3) := by decide +kernel
theorem dX10_manyAt_22 : decode cX10_manyAt 22 = .ok (.iload_n 3, 1) := by decide +kernel
theorem dX10_manyAt_23 : decode cX10_manyAt 23 = .ok (.iadd, 1) := by decide +kernel
theorem dX10_manyAt_24 : decode cX10_manyAt 24 = .ok (.iaload, 1) := by decide +kernel
theorem dX10_manyAt_25 : decode cX10_manyAt 25 = .ok (.iload_n 1, 1) := by decide +kernel
theorem dX10_manyAt_26 : decode cX10_manyAt 26 = .ok (.if_icmp .ne 7, 3) := by decide +kernel
theorem dX10_manyAt_29 : decode cX10_manyAt 29 = .ok (.iconst 1, 1) := by decide +kernel
theorem dX10_manyAt_30 : decode cX10_manyAt 30 = .ok (.goto 4, 3) := by decide +kernel
theorem dX10_manyAt_33 : decode cX10_manyAt 33 = .ok (.iconst 0, 1) := by decide +kernel
theorem dX10_manyAt_34 : decode cX10_manyAt 34 = .ok (.iadd, 1) := by decide +kernel
theorem dX10_manyAt_35 : decode cX10_manyAt 35 = .ok (.istore_n 2, 1) := by decide +kernel
theorem dX10_manyAt_36 : decode cX10_manyAt 36 = .ok (.iinc 3 1, 3) := by decide +kernel
theorem dX10_manyAt_39 : decode cX10_manyAt 39 = .ok (.goto (-35), 3) := by decide +kernel
theorem dX10_manyAt_42 : decode cX10_manyAt 42 = .ok (.iload_n 2, 1) := by decide +kernel
theorem dX10_manyAt_43 : decode cX10_manyAt 43 = .ok (.ireturn, 1) := by decide +kernel
theorem dX10_placeOf_0 : decode cX10_placeOf 0 = .ok (.iconst 0, 1) := by decide +kernel
theorem dX10_placeOf_1 : decode cX10_placeOf 1 = .ok (.istore_n 2, 1) := by decide +kernel
theorem dX10_placeOf_2 : decode cX10_placeOf 2 = .ok (.iconst 0, 1) := by decide +kernel
theorem dX10_placeOf_3 : decode cX10_placeOf 3 = .ok (.istore_n 3, 1) := by decide +kernel
theorem dX10_placeOf_4 : decode cX10_placeOf 4 = .ok (.iload_n 3, 1) := by decide +kernel
theorem dX10_placeOf_5 : decode cX10_placeOf 5 = .ok (.aload_n 0, 1) := by decide +kernel
theorem dX10_placeOf_6 : decode cX10_placeOf 6 = .ok (.getfield 7, 3) := by decide +kernel
theorem dX10_placeOf_9 : decode cX10_placeOf 9 = .ok (.iconst 1, 1) := by decide +kernel
theorem dX10_placeOf_10 : decode cX10_placeOf 10 = .ok (.iaload, 1) := by decide +kernel
theorem dX10_placeOf_11 : decode cX10_placeOf 11 = .ok (.if_icmp .ge 63, 3) := by decide +kernel
theorem dX10_placeOf_14 : decode cX10_placeOf 14 = .ok (.iload_n 2, 1) := by decide +kernel
theorem dX10_placeOf_15 : decode cX10_placeOf 15 = .ok (.aload_n 0, 1) := by decide +kernel
theorem dX10_placeOf_16 : decode cX10_placeOf 16 = .ok (.getfield 7, 3) := by decide +kernel
theorem dX10_placeOf_19 : decode cX10_placeOf 19 = .ok (.sipush 172, 3) := by decide +kernel
theorem dX10_placeOf_22 : decode cX10_placeOf 22 = .ok (.iload_n 3, 1) := by decide +kernel
theorem dX10_placeOf_23 : decode cX10_placeOf 23 = .ok (.iadd, 1) := by decide +kernel
theorem dX10_placeOf_24 : decode cX10_placeOf 24 = .ok (.iaload, 1) := by decide +kernel
theorem dX10_placeOf_25 : decode cX10_placeOf 25 = .ok (.aload_n 0, 1) := by decide +kernel
theorem dX10_placeOf_26 : decode cX10_placeOf 26 = .ok (.getfield 7, 3) := by decide +kernel
theorem dX10_placeOf_29 : decode cX10_placeOf 29 = .ok (.sipush 172, 3) := by decide +kernel
theorem dX10_placeOf_32 : decode cX10_placeOf 32 = .ok (.iload_n 1, 1) := by decide +kernel
theorem dX10_placeOf_33 : decode cX10_placeOf 33 = .ok (.iadd, 1) := by decide +kernel
theorem dX10_placeOf_34 : decode cX10_placeOf 34 = .ok (.iaload, 1) := by decide +kernel
theorem dX10_placeOf_35 : decode cX10_placeOf 35 = .ok (.if_icmp .ne 30, 3) := by decide +kernel
theorem dX10_placeOf_38 : decode cX10_placeOf 38 = .ok (.aload_n 0, 1) := by decide +kernel
theorem dX10_placeOf_39 : decode cX10_placeOf 39 = .ok (.getfield 7, 3) := by decide +kernel
theorem dX10_placeOf_42 : decode cX10_placeOf 42 = .ok (.sipush 212, 3) := by decide +kernel
theorem dX10_placeOf_45 : decode cX10_placeOf 45 = .ok (.iload_n 3, 1) := by decide +kernel
theorem dX10_placeOf_46 : decode cX10_placeOf 46 = .ok (.iadd, 1) := by decide +kernel
theorem dX10_placeOf_47 : decode cX10_placeOf 47 = .ok (.iaload, 1) := by decide +kernel
theorem dX10_placeOf_48 : decode cX10_placeOf 48 = .ok (.aload_n 0, 1) := by decide +kernel
theorem dX10_placeOf_49 : decode cX10_placeOf 49 = .ok (.getfield 7, 3) := by decide +kernel
theorem dX10_placeOf_52 : decode cX10_placeOf 52 = .ok (.sipush 212, 3) := by decide +kernel
theorem dX10_placeOf_55 : decode cX10_placeOf 55 = .ok (.iload_n 1, 1) := by decide +kernel
theorem dX10_placeOf_56 : decode cX10_placeOf 56 = .ok (.iadd, 1) := by decide +kernel
theorem dX10_placeOf_57 : decode cX10_placeOf 57 = .ok (.iaload, 1) := by decide +kernel
theorem dX10_placeOf_58 : decode cX10_placeOf 58 = .ok (.if_icmp .ge 7, 3) := by decide +kernel
theorem dX10_placeOf_61 : decode cX10_placeOf 61 = .ok (.iconst 1, 1) := by decide +kernel
theorem dX10_placeOf_62 : decode cX10_placeOf 62 = .ok (.goto 4, 3) := by decide +kernel
theorem dX10_placeOf_65 : decode cX10_placeOf 65 = .ok (.iconst 0, 1) := by decide +kernel
theorem dX10_placeOf_66 : decode cX10_placeOf 66 = .ok (.iadd, 1) := by decide +kernel
theorem dX10_placeOf_67 : decode cX10_placeOf 67 = .ok (.istore_n 2, 1) := by decide +kernel
theorem dX10_placeOf_68 : decode cX10_placeOf 68 = .ok (.iinc 3 1, 3) := by decide +kernel
theorem dX10_placeOf_71 : decode cX10_placeOf 71 = .ok (.goto (-67), 3) := by decide +kernel
theorem dX10_placeOf_74 : decode cX10_placeOf 74 = .ok (.iload_n 2, 1) := by decide +kernel
theorem dX10_placeOf_75 : decode cX10_placeOf 75 = .ok (.ireturn, 1) := by decide +kernel
theorem dX10_sweepOne_0 : decode cX10_sweepOne 0 = .ok (.aload_n 0, 1) := by decide +kernel
theorem dX10_sweepOne_1 : decode cX10_sweepOne 1 = .ok (.getfield 7, 3) := by decide +kernel
theorem dX10_sweepOne_4 : decode cX10_sweepOne 4 = .ok (.sipush 172, 3) := by decide +kernel
theorem dX10_sweepOne_7 : decode cX10_sweepOne 7 = .ok (.iload_n 1, 1) := by decide +kernel
theorem dX10_sweepOne_8 : decode cX10_sweepOne 8 = .ok (.iadd, 1) := by decide +kernel
theorem dX10_sweepOne_9 : decode cX10_sweepOne 9 = .ok (.iconst (-1), 1) := by decide +kernel
theorem dX10_sweepOne_10 : decode cX10_sweepOne 10 = .ok (.iastore, 1) := by decide +kernel
theorem dX10_sweepOne_11 : decode cX10_sweepOne 11 = .ok (.aload_n 0, 1) := by decide +kernel
theorem dX10_sweepOne_12 : decode cX10_sweepOne 12 = .ok (.getfield 7, 3) := by decide +kernel
theorem dX10_sweepOne_15 : decode cX10_sweepOne 15 = .ok (.sipush 132, 3) := by decide +kernel
theorem dX10_sweepOne_18 : decode cX10_sweepOne 18 = .ok (.iload_n 1, 1) := by decide +kernel
theorem dX10_sweepOne_19 : decode cX10_sweepOne 19 = .ok (.iadd, 1) := by decide +kernel
theorem dX10_sweepOne_20 : decode cX10_sweepOne 20 = .ok (.iconst 4, 1) := by decide +kernel
theorem dX10_sweepOne_21 : decode cX10_sweepOne 21 = .ok (.iastore, 1) := by decide +kernel
theorem dX10_sweepOne_22 : decode cX10_sweepOne 22 = .ok (.aload_n 0, 1) := by decide +kernel
theorem dX10_sweepOne_23 : decode cX10_sweepOne 23 = .ok (.getfield 7, 3) := by decide +kernel
theorem dX10_sweepOne_26 : decode cX10_sweepOne 26 = .ok (.bipush 8, 2) := by decide +kernel
theorem dX10_sweepOne_28 : decode cX10_sweepOne 28 = .ok (.dup2, 1) := by decide +kernel
theorem dX10_sweepOne_29 : decode cX10_sweepOne 29 = .ok (.iaload, 1) := by decide +kernel
theorem dX10_sweepOne_30 : decode cX10_sweepOne 30 = .ok (.iconst 1, 1) := by decide +kernel
theorem dX10_sweepOne_31 : decode cX10_sweepOne 31 = .ok (.iadd, 1) := by decide +kernel
theorem dX10_sweepOne_32 : decode cX10_sweepOne 32 = .ok (.iastore, 1) := by decide +kernel
theorem dX10_sweepOne_33 : decode cX10_sweepOne 33 = .ok (.return_, 1) := by decide +kernel
theorem dX10_inState_0 : decode cX10_inState 0 = .ok (.iconst 0, 1) := by decide +kernel
theorem dX10_inState_1 : decode cX10_inState 1 = .ok (.istore_n 2, 1) := by decide +kernel
theorem dX10_inState_2 : decode cX10_inState 2 = .ok (.iconst 0, 1) := by decide +kernel
theorem dX10_inState_3 : decode cX10_inState 3 = .ok (.istore_n 3, 1) := by decide +kernel
theorem dX10_inState_4 : decode cX10_inState 4 = .ok (.iload_n 3, 1) := by decide +kernel
theorem dX10_inState_5 : decode cX10_inState 5 = .ok (.aload_n 0, 1) := by decide +kernel
theorem dX10_inState_6 : decode cX10_inState 6 = .ok (.getfield 7, 3) := by decide +kernel
theorem dX10_inState_9 : decode cX10_inState 9 = .ok (.iconst 1, 1) := by decide +kernel
theorem dX10_inState_10 : decode cX10_inState 10 = .ok (.iaload, 1) := by decide +kernel
theorem dX10_inState_11 : decode cX10_inState 11 = .ok (.if_icmp .ge 31, 3) := by decide +kernel
theorem dX10_inState_14 : decode cX10_inState 14 = .ok (.iload_n 2, 1) := by decide +kernel
theorem dX10_inState_15 : decode cX10_inState 15 = .ok (.aload_n 0, 1) := by decide +kernel
theorem dX10_inState_16 : decode cX10_inState 16 = .ok (.getfield 7, 3) := by decide +kernel
theorem dX10_inState_19 : decode cX10_inState 19 = .ok (.sipush 132, 3) := by decide +kernel
theorem dX10_inState_22 : decode cX10_inState 22 = .ok (.iload_n 3, 1) := by decide +kernel
theorem dX10_inState_23 : decode cX10_inState 23 = .ok (.iadd, 1) := by decide +kernel
theorem dX10_inState_24 : decode cX10_inState 24 = .ok (.iaload, 1) := by decide +kernel
theorem dX10_inState_25 : decode cX10_inState 25 = .ok (.iload_n 1, 1) := by decide +kernel
theorem dX10_inState_26 : decode cX10_inState 26 = .ok (.if_icmp .ne 7, 3) := by decide +kernel
theorem dX10_inState_29 : decode cX10_inState 29 = .ok (.iconst 1, 1) := by decide +kernel
theorem dX10_inState_30 : decode cX10_inState 30 = .ok (.goto 4, 3) := by decide +kernel
theorem dX10_inState_33 : decode cX10_inState 33 = .ok (.iconst 0, 1) := by decide +kernel
theorem dX10_inState_34 : decode cX10_inState 34 = .ok (.iadd, 1) := by decide +kernel
theorem dX10_inState_35 : decode cX10_inState 35 = .ok (.istore_n 2, 1) := by decide +kernel
theorem dX10_inState_36 : decode cX10_inState 36 = .ok (.iinc 3 1, 3) := by decide +kernel
theorem dX10_inState_39 : decode cX10_inState 39 = .ok (.goto (-35), 3) := by decide +kernel
theorem dX10_inState_42 : decode cX10_inState 42 = .ok (.iload_n 2, 1) := by decide +kernel
theorem dX10_inState_43 : decode cX10_inState 43 = .ok (.ireturn, 1) := by decide +kernel
set_option maxRecDepth 20000 in
theorem ggX10_sweepAll_X10_sweepOne : GoodIn wsX10_sweepAll wsX10_sweepOne := goodIn_r _ [6, 1, 7, 8, 9, 10, 11, 12, 13, 14, 15, 16, 17, 18, 19, 20, 21, 22] (by decide +kernel) (by decide +kernel)
set_option maxRecDepth 20000 in
theorem gX10_sweepAll_X10_sweepOne : GoodIn wsX10_sweepAll (wsV RX10 61 RX10 yX10_sweepOne wsX10_sweepOne) := goodIn_app (goodIn_of _ (by decide +kernel)) ggX10_sweepAll_X10_sweepOne
theorem dX10_sweepAll_0 : decode cX10_sweepAll 0 = .ok (.iconst 0, 1) := by decide +kernel
theorem dX10_sweepAll_1 : decode cX10_sweepAll 1 = .ok (.istore_n 1, 1) := by decide +kernel
theorem dX10_sweepAll_2 : decode cX10_sweepAll 2 = .ok (.iconst 0, 1) := by decide +kernel
theorem dX10_sweepAll_3 : decode cX10_sweepAll 3 = .ok (.istore_n 2, 1) := by decide +kernel
theorem dX10_sweepAll_4 : decode cX10_sweepAll 4 = .ok (.iload_n 2, 1) := by decide +kernel
theorem dX10_sweepAll_5 : decode cX10_sweepAll 5 = .ok (.aload_n 0, 1) := by decide +kernel
theorem dX10_sweepAll_6 : decode cX10_sweepAll 6 = .ok (.getfield 7, 3) := by decide +kernel
theorem dX10_sweepAll_9 : decode cX10_sweepAll 9 = .ok (.iconst 1, 1) := by decide +kernel
theorem dX10_sweepAll_10 : decode cX10_sweepAll 10 = .ok (.iaload, 1) := by decide +kernel
theorem dX10_sweepAll_11 : decode cX10_sweepAll 11 = .ok (.if_icmp .ge 31, 3) := by decide +kernel
theorem dX10_sweepAll_14 : decode cX10_sweepAll 14 = .ok (.aload_n 0, 1) := by decide +kernel
theorem dX10_sweepAll_15 : decode cX10_sweepAll 15 = .ok (.getfield 7, 3) := by decide +kernel
theorem dX10_sweepAll_18 : decode cX10_sweepAll 18 = .ok (.sipush 132, 3) := by decide +kernel
theorem dX10_sweepAll_21 : decode cX10_sweepAll 21 = .ok (.iload_n 2, 1) := by decide +kernel
theorem dX10_sweepAll_22 : decode cX10_sweepAll 22 = .ok (.iadd, 1) := by decide +kernel
theorem dX10_sweepAll_23 : decode cX10_sweepAll 23 = .ok (.iaload, 1) := by decide +kernel
theorem dX10_sweepAll_24 : decode cX10_sweepAll 24 = .ok (.iconst 3, 1) := by decide +kernel
theorem dX10_sweepAll_25 : decode cX10_sweepAll 25 = .ok (.if_icmp .ne 11, 3) := by decide +kernel
theorem dX10_sweepAll_28 : decode cX10_sweepAll 28 = .ok (.aload_n 0, 1) := by decide +kernel
theorem dX10_sweepAll_29 : decode cX10_sweepAll 29 = .ok (.iload_n 2, 1) := by decide +kernel
theorem dX10_sweepAll_30 : decode cX10_sweepAll 30 = .ok (.invokevirtual 61, 3) := by decide +kernel
theorem dX10_sweepAll_33 : decode cX10_sweepAll 33 = .ok (.iinc 1 1, 3) := by decide +kernel
theorem dX10_sweepAll_36 : decode cX10_sweepAll 36 = .ok (.iinc 2 1, 3) := by decide +kernel
theorem dX10_sweepAll_39 : decode cX10_sweepAll 39 = .ok (.goto (-35), 3) := by decide +kernel
theorem dX10_sweepAll_42 : decode cX10_sweepAll 42 = .ok (.iload_n 1, 1) := by decide +kernel
theorem dX10_sweepAll_43 : decode cX10_sweepAll 43 = .ok (.ireturn, 1) := by decide +kernel
set_option maxRecDepth 20000 in
theorem ggX10_fall_X10_manyAt : GoodIn wsX10_fall wsX10_manyAt := goodIn_r _ [6, 1, 23, 24, 25, 26, 27, 28, 29, 30, 31, 32, 33, 34, 35, 36, 37, 38] (by decide +kernel) (by decide +kernel)
set_option maxRecDepth 20000 in
theorem gX10_fall_X10_manyAt : GoodIn wsX10_fall (wsV RX10 65 RX10 yX10_manyAt wsX10_manyAt) := goodIn_app (goodIn_of _ (by decide +kernel)) ggX10_fall_X10_manyAt
set_option maxRecDepth 20000 in
theorem ggX10_fall_X10_front : GoodIn wsX10_fall wsX10_front := goodIn_r _ [10, 1, 23, 24, 25, 26, 27, 28, 29, 30, 31, 32, 33, 34, 35, 36, 37, 38] (by decide +kernel) (by decide +kernel)
set_option maxRecDepth 20000 in
theorem gX10_fall_X10_front : GoodIn wsX10_fall (wsV RX10 69 RX10 yX10_front wsX10_front) := goodIn_app (goodIn_of _ (by decide +kernel)) ggX10_fall_X10_front
set_option maxRecDepth 20000 in
theorem ggX10_fall_X10_sweepOne : GoodIn wsX10_fall wsX10_sweepOne := goodIn_r _ [14, 1, 23, 24, 25, 26, 27, 28, 29, 30, 31, 32, 33, 34, 35, 36, 37, 38] (by decide +kernel) (by decide +kernel)
set_option maxRecDepth 20000 in
theorem gX10_fall_X10_sweepOne : GoodIn wsX10_fall (wsV RX10 61 RX10 yX10_sweepOne wsX10_sweepOne) := goodIn_app (goodIn_of _ (by decide +kernel)) ggX10_fall_X10_sweepOne
set_option maxRecDepth 20000 in
theorem ggX10_fall_X10_standByDistance : GoodIn wsX10_fall wsX10_standByDistance := goodIn_r _ [18, 1, 19, 20, 21, 5, 22, 23, 24, 25, 26, 27, 28, 29, 30, 31, 32, 33, 34, 35, 36, 37, 38] (by decide +kernel) (by decide +kernel)
set_option maxRecDepth 20000 in
theorem gX10_fall_X10_standByDistance : GoodIn wsX10_fall (wsV RX10 72 RX10 yX10_standByDistance wsX10_standByDistance) := goodIn_app (goodIn_of _ (by decide +kernel)) ggX10_fall_X10_standByDistance
theorem dX10_fall_0 : decode cX10_fall 0 = .ok (.aload_n 0, 1) := by decide +kernel
theorem dX10_fall_1 : decode cX10_fall 1 = .ok (.iload_n 1, 1) := by decide +kernel
theorem dX10_fall_2 : decode cX10_fall 2 = .ok (.invokevirtual 65, 3) := by decide +kernel
theorem dX10_fall_5 : decode cX10_fall 5 = .ok (.istore_n 2, 1) := by decide +kernel
theorem dX10_fall_6 : decode cX10_fall 6 = .ok (.iconst 0, 1) := by decide +kernel
theorem dX10_fall_7 : decode cX10_fall 7 = .ok (.istore_n 3, 1) := by decide +kernel
theorem dX10_fall_8 : decode cX10_fall 8 = .ok (.iload_n 3, 1) := by decide +kernel
theorem dX10_fall_9 : decode cX10_fall 9 = .ok (.iload_n 2, 1) := by decide +kernel
theorem dX10_fall_10 : decode cX10_fall 10 = .ok (.if_icmp .ge 57, 3) := by decide +kernel
theorem dX10_fall_13 : decode cX10_fall 13 = .ok (.aload_n 0, 1) := by decide +kernel
theorem dX10_fall_14 : decode cX10_fall 14 = .ok (.iload_n 1, 1) := by decide +kernel
theorem dX10_fall_15 : decode cX10_fall 15 = .ok (.invokevirtual 69, 3) := by decide +kernel
theorem dX10_fall_18 : decode cX10_fall 18 = .ok (.istore 4, 2) := by decide +kernel
theorem dX10_fall_20 : decode cX10_fall 20 = .ok (.aload_n 0, 1) := by decide +kernel
theorem dX10_fall_21 : decode cX10_fall 21 = .ok (.getfield 7, 3) := by decide +kernel
theorem dX10_fall_24 : decode cX10_fall 24 = .ok (.sipush 132, 3) := by decide +kernel
theorem dX10_fall_27 : decode cX10_fall 27 = .ok (.iload 4, 2) := by decide +kernel
theorem dX10_fall_29 : decode cX10_fall 29 = .ok (.iadd, 1) := by decide +kernel
theorem dX10_fall_30 : decode cX10_fall 30 = .ok (.iaload, 1) := by decide +kernel
theorem dX10_fall_31 : decode cX10_fall 31 = .ok (.iconst 3, 1) := by decide +kernel
theorem dX10_fall_32 : decode cX10_fall 32 = .ok (.if_icmp .ne 12, 3) := by decide +kernel
theorem dX10_fall_35 : decode cX10_fall 35 = .ok (.aload_n 0, 1) := by decide +kernel
theorem dX10_fall_36 : decode cX10_fall 36 = .ok (.iload 4, 2) := by decide +kernel
theorem dX10_fall_38 : decode cX10_fall 38 = .ok (.invokevirtual 61, 3) := by decide +kernel
theorem dX10_fall_41 : decode cX10_fall 41 = .ok (.goto 20, 3) := by decide +kernel
theorem dX10_fall_44 : decode cX10_fall 44 = .ok (.aload_n 0, 1) := by decide +kernel
theorem dX10_fall_45 : decode cX10_fall 45 = .ok (.iload 4, 2) := by decide +kernel
theorem dX10_fall_47 : decode cX10_fall 47 = .ok (.invokevirtual 72, 3) := by decide +kernel
theorem dX10_fall_50 : decode cX10_fall 50 = .ok (.aload_n 0, 1) := by decide +kernel
theorem dX10_fall_51 : decode cX10_fall 51 = .ok (.getfield 7, 3) := by decide +kernel
theorem dX10_fall_54 : decode cX10_fall 54 = .ok (.bipush 7, 2) := by decide +kernel
theorem dX10_fall_56 : decode cX10_fall 56 = .ok (.dup2, 1) := by decide +kernel
theorem dX10_fall_57 : decode cX10_fall 57 = .ok (.iaload, 1) := by decide +kernel
theorem dX10_fall_58 : decode cX10_fall 58 = .ok (.iconst 1, 1) := by decide +kernel
theorem dX10_fall_59 : decode cX10_fall 59 = .ok (.iadd, 1) := by decide +kernel
theorem dX10_fall_60 : decode cX10_fall 60 = .ok (.iastore, 1) := by decide +kernel
theorem dX10_fall_61 : decode cX10_fall 61 = .ok (.iinc 3 1, 3) := by decide +kernel
theorem dX10_fall_64 : decode cX10_fall 64 = .ok (.goto (-56), 3) := by decide +kernel
theorem dX10_fall_67 : decode cX10_fall 67 = .ok (.return_, 1) := by decide +kernel
set_option maxRecDepth 20000 in
theorem ggX10_getReady_X10_manyAt : GoodIn wsX10_getReady wsX10_manyAt := goodIn_r _ [6, 1, 19, 20, 21, 22, 23, 24, 25, 26, 27, 28, 29, 30, 31, 32, 33, 34] (by decide +kernel) (by decide +kernel)
set_option maxRecDepth 20000 in
theorem gX10_getReady_X10_manyAt : GoodIn wsX10_getReady (wsV RX10 65 RX10 yX10_manyAt wsX10_manyAt) := goodIn_app (goodIn_of _ (by decide +kernel)) ggX10_getReady_X10_manyAt
set_option maxRecDepth 20000 in
theorem ggX10_getReady_X10_front : GoodIn wsX10_getReady wsX10_front := goodIn_r _ [10, 1, 19, 20, 21, 22, 23, 24, 25, 26, 27, 28, 29, 30, 31, 32, 33, 34] (by decide +kernel) (by decide +kernel)
set_option maxRecDepth 20000 in
theorem gX10_getReady_X10_front : GoodIn wsX10_getReady (wsV RX10 69 RX10 yX10_front wsX10_front) := goodIn_app (goodIn_of _ (by decide +kernel)) ggX10_getReady_X10_front
set_option maxRecDepth 20000 in
theorem ggX10_getReady_X10_sweepOne : GoodIn wsX10_getReady wsX10_sweepOne := goodIn_r _ [14, 1, 19, 20, 21, 22, 23, 24, 25, 26, 27, 28, 29, 30, 31, 32, 33, 34] (by decide +kernel) (by decide +kernel)
set_option maxRecDepth 20000 in
theorem gX10_getReady_X10_sweepOne : GoodIn wsX10_getReady (wsV RX10 61 RX10 yX10_sweepOne wsX10_sweepOne) := goodIn_app (goodIn_of _ (by decide +kernel)) ggX10_getReady_X10_sweepOne
set_option maxRecDepth 20000 in
theorem ggX10_getReady_X10_stand : GoodIn wsX10_getReady wsX10_stand := goodIn_r _ [18, 1, 19, 20, 21, 22, 23, 24, 25, 26, 27, 28, 29, 30, 31, 32, 33, 34] (by decide +kernel) (by decide +kernel)
set_option maxRecDepth 20000 in
theorem gX10_getReady_X10_stand : GoodIn wsX10_getReady (wsV RX10 57 RX10 yX10_stand wsX10_stand) := goodIn_app (goodIn_of _ (by decide +kernel)) ggX10_getReady_X10_stand
theorem dX10_getReady_0 : decode cX10_getReady 0 = .ok (.aload_n 0, 1) := by decide +kernel
theorem dX10_getReady_1 : decode cX10_getReady 1 = .ok (.iload_n 1, 1) := by decide +kernel
theorem dX10_getReady_2 : decode cX10_getReady 2 = .ok (.invokevirtual 65, 3) := by decide +kernel
theorem dX10_getReady_5 : decode cX10_getReady 5 = .ok (.istore_n 2, 1) := by decide +kernel
theorem dX10_getReady_6 : decode cX10_getReady 6 = .ok (.iconst 0, 1) := by decide +kernel
theorem dX10_getReady_7 : decode cX10_getReady 7 = .ok (.istore_n 3, 1) := by decide +kernel
theorem dX10_getReady_8 : decode cX10_getReady 8 = .ok (.iload_n 3, 1) := by decide +kernel
theorem dX10_getReady_9 : decode cX10_getReady 9 = .ok (.iload_n 2, 1) := by decide +kernel
theorem dX10_getReady_10 : decode cX10_getReady 10 = .ok (.if_icmp .ge 60, 3) := by decide +kernel
theorem dX10_getReady_13 : decode cX10_getReady 13 = .ok (.aload_n 0, 1) := by decide +kernel
theorem dX10_getReady_14 : decode cX10_getReady 14 = .ok (.iload_n 1, 1) := by decide +kernel
theorem dX10_getReady_15 : decode cX10_getReady 15 = .ok (.invokevirtual 69, 3) := by decide +kernel
theorem dX10_getReady_18 : decode cX10_getReady 18 = .ok (.istore 4, 2) := by decide +kernel
theorem dX10_getReady_20 : decode cX10_getReady 20 = .ok (.aload_n 0, 1) := by decide +kernel
theorem dX10_getReady_21 : decode cX10_getReady 21 = .ok (.getfield 7, 3) := by decide +kernel
theorem dX10_getReady_24 : decode cX10_getReady 24 = .ok (.sipush 132, 3) := by decide +kernel
theorem dX10_getReady_27 : decode cX10_getReady 27 = .ok (.iload 4, 2) := by decide +kernel
theorem dX10_getReady_29 : decode cX10_getReady 29 = .ok (.iadd, 1) := by decide +kernel
theorem dX10_getReady_30 : decode cX10_getReady 30 = .ok (.iaload, 1) := by decide +kernel
theorem dX10_getReady_31 : decode cX10_getReady 31 = .ok (.iconst 3, 1) := by decide +kernel
theorem dX10_getReady_32 : decode cX10_getReady 32 = .ok (.if_icmp .ne 12, 3) := by decide +kernel
theorem dX10_getReady_35 : decode cX10_getReady 35 = .ok (.aload_n 0, 1) := by decide +kernel
theorem dX10_getReady_36 : decode cX10_getReady 36 = .ok (.iload 4, 2) := by decide +kernel
theorem dX10_getReady_38 : decode cX10_getReady 38 = .ok (.invokevirtual 61, 3) := by decide +kernel
theorem dX10_getReady_41 : decode cX10_getReady 41 = .ok (.goto 23, 3) := by decide +kernel
theorem dX10_getReady_44 : decode cX10_getReady 44 = .ok (.aload_n 0, 1) := by decide +kernel
theorem dX10_getReady_45 : decode cX10_getReady 45 = .ok (.iload 4, 2) := by decide +kernel
theorem dX10_getReady_47 : decode cX10_getReady 47 = .ok (.bipush 24, 2) := by decide +kernel
theorem dX10_getReady_49 : decode cX10_getReady 49 = .ok (.invokevirtual 57, 3) := by decide +kernel
theorem dX10_getReady_52 : decode cX10_getReady 52 = .ok (.aload_n 0, 1) := by decide +kernel
theorem dX10_getReady_53 : decode cX10_getReady 53 = .ok (.getfield 7, 3) := by decide +kernel
theorem dX10_getReady_56 : decode cX10_getReady 56 = .ok (.sipush 132, 3) := by decide +kernel
theorem dX10_getReady_59 : decode cX10_getReady 59 = .ok (.iload 4, 2) := by decide +kernel
theorem dX10_getReady_61 : decode cX10_getReady 61 = .ok (.iadd, 1) := by decide +kernel
theorem dX10_getReady_62 : decode cX10_getReady 62 = .ok (.iconst 1, 1) := by decide +kernel
theorem dX10_getReady_63 : decode cX10_getReady 63 = .ok (.iastore, 1) := by decide +kernel
theorem dX10_getReady_64 : decode cX10_getReady 64 = .ok (.iinc 3 1, 3) := by decide +kernel
theorem dX10_getReady_67 : decode cX10_getReady 67 = .ok (.goto (-59), 3) := by decide +kernel
theorem dX10_getReady_70 : decode cX10_getReady 70 = .ok (.return_, 1) := by decide +kernel
theorem dX10_noteCall_0 : decode cX10_noteCall 0 = .ok (.bipush 11, 2) := by decide +kernel
theorem dX10_noteCall_2 : decode cX10_noteCall 2 = .ok (.istore_n 2, 1) := by decide +kernel
theorem dX10_noteCall_3 : decode cX10_noteCall 3 = .ok (.iload_n 2, 1) := by decide +kernel
theorem dX10_noteCall_4 : decode cX10_noteCall 4 = .ok (.ifCond .le 75, 3) := by decide +kernel
theorem dX10_noteCall_7 : decode cX10_noteCall 7 = .ok (.aload_n 0, 1) := by decide +kernel
theorem dX10_noteCall_8 : decode cX10_noteCall 8 = .ok (.getfield 7, 3) := by decide +kernel
theorem dX10_noteCall_11 : decode cX10_noteCall 11 = .ok (.sipush 332, 3) := by decide +kernel
theorem dX10_noteCall_14 : decode cX10_noteCall 14 = .ok (.iload_n 2, 1) := by decide +kernel
theorem dX10_noteCall_15 : decode cX10_noteCall 15 = .ok (.iadd, 1) := by decide +kernel
theorem dX10_noteCall_16 : decode cX10_noteCall 16 = .ok (.aload_n 0, 1) := by decide +kernel
theorem dX10_noteCall_17 : decode cX10_noteCall 17 = .ok (.getfield 7, 3) := by decide +kernel
theorem dX10_noteCall_20 : decode cX10_noteCall 20 = .ok (.sipush 332, 3) := by decide +kernel
theorem dX10_noteCall_23 : decode cX10_noteCall 23 = .ok (.iload_n 2, 1) := by decide +kernel
theorem dX10_noteCall_24 : decode cX10_noteCall 24 = .ok (.iadd, 1) := by decide +kernel
theorem dX10_noteCall_25 : decode cX10_noteCall 25 = .ok (.iconst 1, 1) := by decide +kernel
theorem dX10_noteCall_26 : decode cX10_noteCall 26 = .ok (.isub, 1) := by decide +kernel
theorem dX10_noteCall_27 : decode cX10_noteCall 27 = .ok (.iaload, 1) := by decide +kernel
theorem dX10_noteCall_28 : decode cX10_noteCall 28 = .ok (.iastore, 1) := by decide +kernel
theorem dX10_noteCall_29 : decode cX10_noteCall 29 = .ok (.aload_n 0, 1) := by decide +kernel
theorem dX10_noteCall_30 : decode cX10_noteCall 30 = .ok (.getfield 7, 3) := by decide +kernel
theorem dX10_noteCall_33 : decode cX10_noteCall 33 = .ok (.sipush 344, 3) := by decide +kernel
theorem dX10_noteCall_36 : decode cX10_noteCall 36 = .ok (.iload_n 2, 1) := by decide +kernel
theorem dX10_noteCall_37 : decode cX10_noteCall 37 = .ok (.iadd, 1) := by decide +kernel
theorem dX10_noteCall_38 : decode cX10_noteCall 38 = .ok (.aload_n 0, 1) := by decide +kernel
theorem dX10_noteCall_39 : decode cX10_noteCall 39 = .ok (.getfield 7, 3) := by decide +kernel
theorem dX10_noteCall_42 : decode cX10_noteCall 42 = .ok (.sipush 344, 3) := by decide +kernel
theorem dX10_noteCall_45 : decode cX10_noteCall 45 = .ok (.iload_n 2, 1) := by decide +kernel
theorem dX10_noteCall_46 : decode cX10_noteCall 46 = .ok (.iadd, 1) := by decide +kernel
theorem dX10_noteCall_47 : decode cX10_noteCall 47 = .ok (.iconst 1, 1) := by decide +kernel
theorem dX10_noteCall_48 : decode cX10_noteCall 48 = .ok (.isub, 1) := by decide +kernel
theorem dX10_noteCall_49 : decode cX10_noteCall 49 = .ok (.iaload, 1) := by decide +kernel
theorem dX10_noteCall_50 : decode cX10_noteCall 50 = .ok (.iastore, 1) := by decide +kernel
theorem dX10_noteCall_51 : decode cX10_noteCall 51 = .ok (.aload_n 0, 1) := by decide +kernel
theorem dX10_noteCall_52 : decode cX10_noteCall 52 = .ok (.getfield 7, 3) := by decide +kernel
theorem dX10_noteCall_55 : decode cX10_noteCall 55 = .ok (.sipush 356, 3) := by decide +kernel
theorem dX10_noteCall_58 : decode cX10_noteCall 58 = .ok (.iload_n 2, 1) := by decide +kernel
theorem dX10_noteCall_59 : decode cX10_noteCall 59 = .ok (.iadd, 1) := by decide +kernel
theorem dX10_noteCall_60 : decode cX10_noteCall 60 = .ok (.aload_n 0, 1) := by decide +kernel
theorem dX10_noteCall_61 : decode cX10_noteCall 61 = .ok (.getfield 7, 3) := by decide +kernel
theorem dX10_noteCall_64 : decode cX10_noteCall 64 = .ok (.sipush 356, 3) := by decide +kernel
theorem dX10_noteCall_67 : decode cX10_noteCall 67 = .ok (.iload_n 2, 1) := by decide +kernel
theorem dX10_noteCall_68 : decode cX10_noteCall 68 = .ok (.iadd, 1) := by decide +kernel
theorem dX10_noteCall_69 : decode cX10_noteCall 69 = .ok (.iconst 1, 1) := by decide +kernel
theorem dX10_noteCall_70 : decode cX10_noteCall 70 = .ok (.isub, 1) := by decide +kernel
theorem dX10_noteCall_71 : decode cX10_noteCall 71 = .ok (.iaload, 1) := by decide +kernel
theorem dX10_noteCall_72 : decode cX10_noteCall 72 = .ok (.iastore, 1) := by decide +kernel
theorem dX10_noteCall_73 : decode cX10_noteCall 73 = .ok (.iinc 2 (-1), 3) := by decide +kernel
theorem dX10_noteCall_76 : decode cX10_noteCall 76 = .ok (.goto (-73), 3) := by decide +kernel
theorem dX10_noteCall_79 : decode cX10_noteCall 79 = .ok (.aload_n 0, 1) := by decide +kernel
theorem dX10_noteCall_80 : decode cX10_noteCall 80 = .ok (.getfield 7, 3) := by decide +kernel
theorem dX10_noteCall_83 : decode cX10_noteCall 83 = .ok (.sipush 332, 3) := by decide +kernel
theorem dX10_noteCall_86 : decode cX10_noteCall 86 = .ok (.iload_n 1, 1) := by decide +kernel
theorem dX10_noteCall_87 : decode cX10_noteCall 87 = .ok (.iastore, 1) := by decide +kernel
theorem dX10_noteCall_88 : decode cX10_noteCall 88 = .ok (.aload_n 0, 1) := by decide +kernel
theorem dX10_noteCall_89 : decode cX10_noteCall 89 = .ok (.getfield 7, 3) := by decide +kernel
theorem dX10_noteCall_92 : decode cX10_noteCall 92 = .ok (.sipush 344, 3) := by decide +kernel
theorem dX10_noteCall_95 : decode cX10_noteCall 95 = .ok (.aload_n 0, 1) := by decide +kernel
theorem dX10_noteCall_96 : decode cX10_noteCall 96 = .ok (.getfield 7, 3) := by decide +kernel
theorem dX10_noteCall_99 : decode cX10_noteCall 99 = .ok (.bipush 12, 2) := by decide +kernel
theorem dX10_noteCall_101 : decode cX10_noteCall 101 = .ok (.iload_n 1, 1) := by decide +kernel
theorem dX10_noteCall_102 : decode cX10_noteCall 102 = .ok (.iadd, 1) := by decide +kernel
theorem dX10_noteCall_103 : decode cX10_noteCall 103 = .ok (.iaload, 1) := by decide +kernel
theorem dX10_noteCall_104 : decode cX10_noteCall 104 = .ok (.iastore, 1) := by decide +kernel
theorem dX10_noteCall_105 : decode cX10_noteCall 105 = .ok (.aload_n 0, 1) := by decide +kernel
theorem dX10_noteCall_106 : decode cX10_noteCall 106 = .ok (.getfield 7, 3) := by decide +kernel
theorem dX10_noteCall_109 : decode cX10_noteCall 109 = .ok (.sipush 356, 3) := by decide +kernel
theorem dX10_noteCall_112 : decode cX10_noteCall 112 = .ok (.aload_n 0, 1) := by decide +kernel
theorem dX10_noteCall_113 : decode cX10_noteCall 113 = .ok (.getfield 7, 3) := by decide +kernel
theorem dX10_noteCall_116 : decode cX10_noteCall 116 = .ok (.iconst 0, 1) := by decide +kernel
theorem dX10_noteCall_117 : decode cX10_noteCall 117 = .ok (.iaload, 1) := by decide +kernel
theorem dX10_noteCall_118 : decode cX10_noteCall 118 = .ok (.iastore, 1) := by decide +kernel
theorem dX10_noteCall_119 : decode cX10_noteCall 119 = .ok (.aload_n 0, 1) := by decide +kernel
theorem dX10_noteCall_120 : decode cX10_noteCall 120 = .ok (.getfield 7, 3) := by decide +kernel
theorem dX10_noteCall_123 : decode cX10_noteCall 123 = .ok (.iconst 5, 1) := by decide +kernel
theorem dX10_noteCall_124 : decode cX10_noteCall 124 = .ok (.dup2, 1) := by decide +kernel
theorem dX10_noteCall_125 : decode cX10_noteCall 125 = .ok (.iaload, 1) := by decide +kernel
theorem dX10_noteCall_126 : decode cX10_noteCall 126 = .ok (.iconst 1, 1) := by decide +kernel
theorem dX10_noteCall_127 : decode cX10_noteCall 127 = .ok (.iadd, 1) := by decide +kernel
theorem dX10_noteCall_128 : decode cX10_noteCall 128 = .ok (.iastore, 1) := by decide +kernel
theorem dX10_noteCall_129 : decode cX10_noteCall 129 = .ok (.aload_n 0, 1) := by decide +kernel
theorem dX10_noteCall_130 : decode cX10_noteCall 130 = .ok (.getfield 7, 3) := by decide +kernel
theorem dX10_noteCall_133 : decode cX10_noteCall 133 = .ok (.sipush 252, 3) := by decide +kernel
theorem dX10_noteCall_136 : decode cX10_noteCall 136 = .ok (.iload_n 1, 1) := by decide +kernel
theorem dX10_noteCall_137 : decode cX10_noteCall 137 = .ok (.iadd, 1) := by decide +kernel
theorem dX10_noteCall_138 : decode cX10_noteCall 138 = .ok (.dup2, 1) := by decide +kernel
theorem dX10_noteCall_139 : decode cX10_noteCall 139 = .ok (.iaload, 1) := by decide +kernel
theorem dX10_noteCall_140 : decode cX10_noteCall 140 = .ok (.iconst 1, 1) := by decide +kernel
theorem dX10_noteCall_141 : decode cX10_noteCall 141 = .ok (.iadd, 1) := by decide +kernel
theorem dX10_noteCall_142 : decode cX10_noteCall 142 = .ok (.iastore, 1) := by decide +kernel
theorem dX10_noteCall_143 : decode cX10_noteCall 143 = .ok (.aload_n 0, 1) := by decide +kernel
theorem dX10_noteCall_144 : decode cX10_noteCall 144 = .ok (.getfield 7, 3) := by decide +kernel
theorem dX10_noteCall_147 : decode cX10_noteCall 147 = .ok (.bipush 12, 2) := by decide +kernel
theorem dX10_noteCall_149 : decode cX10_noteCall 149 = .ok (.iload_n 1, 1) := by decide +kernel
theorem dX10_noteCall_150 : decode cX10_noteCall 150 = .ok (.iadd, 1) := by decide +kernel
theorem dX10_noteCall_151 : decode cX10_noteCall 151 = .ok (.iaload, 1) := by decide +kernel
theorem dX10_noteCall_152 : decode cX10_noteCall 152 = .ok (.aload_n 0, 1) := by decide +kernel
theorem dX10_noteCall_153 : decode cX10_noteCall 153 = .ok (.getfield 7, 3) := by decide +kernel
theorem dX10_noteCall_156 : decode cX10_noteCall 156 = .ok (.iconst 0, 1) := by decide +kernel
theorem dX10_noteCall_157 : decode cX10_noteCall 157 = .ok (.iaload, 1) := by decide +kernel
theorem dX10_noteCall_158 : decode cX10_noteCall 158 = .ok (.if_icmp .ge 43, 3) := by decide +kernel
theorem dX10_noteCall_161 : decode cX10_noteCall 161 = .ok (.aload_n 0, 1) := by decide +kernel
theorem dX10_noteCall_162 : decode cX10_noteCall 162 = .ok (.getfield 7, 3) := by decide +kernel
theorem dX10_noteCall_165 : decode cX10_noteCall 165 = .ok (.bipush 6, 2) := by decide +kernel
theorem dX10_noteCall_167 : decode cX10_noteCall 167 = .ok (.dup2, 1) := by decide +kernel
theorem dX10_noteCall_168 : decode cX10_noteCall 168 = .ok (.iaload, 1) := by decide +kernel
theorem dX10_noteCall_169 : decode cX10_noteCall 169 = .ok (.iconst 1, 1) := by decide +kernel
theorem dX10_noteCall_170 : decode cX10_noteCall 170 = .ok (.iadd, 1) := by decide +kernel
theorem dX10_noteCall_171 : decode cX10_noteCall 171 = .ok (.iastore, 1) := by decide +kernel
theorem dX10_noteCall_172 : decode cX10_noteCall 172 = .ok (.aload_n 0, 1) := by decide +kernel
theorem dX10_noteCall_173 : decode cX10_noteCall 173 = .ok (.getfield 7, 3) := by decide +kernel
theorem dX10_noteCall_176 : decode cX10_noteCall 176 = .ok (.sipush 292, 3) := by decide +kernel
theorem dX10_noteCall_179 : decode cX10_noteCall 179 = .ok (.iload_n 1, 1) := by decide +kernel
theorem dX10_noteCall_180 : decode cX10_noteCall 180 = .ok (.iadd, 1) := by decide +kernel
theorem dX10_noteCall_181 : decode cX10_noteCall 181 = .ok (.dup2, 1) := by decide +kernel
theorem dX10_noteCall_182 : decode cX10_noteCall 182 = .ok (.iaload, 1) := by decide +kernel
theorem dX10_noteCall_183 : decode cX10_noteCall 183 = .ok (.aload_n 0, 1) := by decide +kernel
theorem dX10_noteCall_184 : decode cX10_noteCall 184 = .ok (.getfield 7, 3) := by decide +kernel
theorem dX10_noteCall_187 : decode cX10_noteCall 187 = .ok (.iconst 0, 1) := by decide +kernel
theorem dX10_noteCall_188 : decode cX10_noteCall 188 = .ok (.iaload, 1) := by decide +kernel
theorem dX10_noteCall_189 : decode cX10_noteCall 189 = .ok (.aload_n 0, 1) := by decide +kernel
theorem dX10_noteCall_190 : decode cX10_noteCall 190 = .ok (.getfield 7, 3) := by decide +kernel
theorem dX10_noteCall_193 : decode cX10_noteCall 193 = .ok (.bipush 12, 2) := by decide +kernel
theorem dX10_noteCall_195 : decode cX10_noteCall 195 = .ok (.iload_n 1, 1) := by decide +kernel
theorem dX10_noteCall_196 : decode cX10_noteCall 196 = .ok (.iadd, 1) := by decide +kernel
theorem dX10_noteCall_197 : decode cX10_noteCall 197 = .ok (.iaload, 1) := by decide +kernel
theorem dX10_noteCall_198 : decode cX10_noteCall 198 = .ok (.isub, 1) := by decide +kernel
theorem dX10_noteCall_199 : decode cX10_noteCall 199 = .ok (.iadd, 1) := by decide +kernel
theorem dX10_noteCall_200 : decode cX10_noteCall 200 = .ok (.iastore, 1) := by decide +kernel
theorem dX10_noteCall_201 : decode cX10_noteCall 201 = .ok (.return_, 1) := by decide +kernel
set_option maxRecDepth 20000 in
theorem ggX10_callOne_X10_noteCall : GoodIn wsX10_callOne wsX10_noteCall := goodIn_r _ [6, 1, 15, 16, 17, 18, 19, 20, 21, 22, 23, 24, 25, 26, 27, 28, 29, 30] (by decide +kernel) (by decide +kernel)
set_option maxRecDepth 20000 in
theorem gX10_callOne_X10_noteCall : GoodIn wsX10_callOne (wsV RX10 75 RX10 yX10_noteCall wsX10_noteCall) := goodIn_app (goodIn_of _ (by decide +kernel)) ggX10_callOne_X10_noteCall
set_option maxRecDepth 20000 in
theorem ggX10_callOne_X10_standByDistance : GoodIn wsX10_callOne wsX10_standByDistance := goodIn_r _ [10, 1, 11, 12, 13, 5, 14, 15, 16, 17, 18, 19, 20, 21, 22, 23, 24, 25, 26, 27, 28, 29, 30] (by decide +kernel) (by decide +kernel)
set_option maxRecDepth 20000 in
theorem gX10_callOne_X10_standByDistance : GoodIn wsX10_callOne (wsV RX10 72 RX10 yX10_standByDistance wsX10_standByDistance) := goodIn_app (goodIn_of _ (by decide +kernel)) ggX10_callOne_X10_standByDistance
theorem dX10_callOne_0 : decode cX10_callOne 0 = .ok (.aload_n 0, 1) := by decide +kernel
theorem dX10_callOne_1 : decode cX10_callOne 1 = .ok (.iload_n 1, 1) := by decide +kernel
theorem dX10_callOne_2 : decode cX10_callOne 2 = .ok (.invokevirtual 75, 3) := by decide +kernel
theorem dX10_callOne_5 : decode cX10_callOne 5 = .ok (.aload_n 0, 1) := by decide +kernel
theorem dX10_callOne_6 : decode cX10_callOne 6 = .ok (.getfield 7, 3) := by decide +kernel
theorem dX10_callOne_9 : decode cX10_callOne 9 = .ok (.bipush 92, 2) := by decide +kernel
theorem dX10_callOne_11 : decode cX10_callOne 11 = .ok (.iload_n 1, 1) := by decide +kernel
theorem dX10_callOne_12 : decode cX10_callOne 12 = .ok (.iadd, 1) := by decide +kernel
theorem dX10_callOne_13 : decode cX10_callOne 13 = .ok (.iaload, 1) := by decide +kernel
theorem dX10_callOne_14 : decode cX10_callOne 14 = .ok (.ifCond .ne 26, 3) := by decide +kernel
theorem dX10_callOne_17 : decode cX10_callOne 17 = .ok (.aload_n 0, 1) := by decide +kernel
theorem dX10_callOne_18 : decode cX10_callOne 18 = .ok (.getfield 7, 3) := by decide +kernel
theorem dX10_callOne_21 : decode cX10_callOne 21 = .ok (.sipush 132, 3) := by decide +kernel
theorem dX10_callOne_24 : decode cX10_callOne 24 = .ok (.iload_n 1, 1) := by decide +kernel
theorem dX10_callOne_25 : decode cX10_callOne 25 = .ok (.iadd, 1) := by decide +kernel
theorem dX10_callOne_26 : decode cX10_callOne 26 = .ok (.iconst 2, 1) := by decide +kernel
theorem dX10_callOne_27 : decode cX10_callOne 27 = .ok (.iastore, 1) := by decide +kernel
theorem dX10_callOne_28 : decode cX10_callOne 28 = .ok (.aload_n 0, 1) := by decide +kernel
theorem dX10_callOne_29 : decode cX10_callOne 29 = .ok (.getfield 7, 3) := by decide +kernel
theorem dX10_callOne_32 : decode cX10_callOne 32 = .ok (.sipush 172, 3) := by decide +kernel
theorem dX10_callOne_35 : decode cX10_callOne 35 = .ok (.iload_n 1, 1) := by decide +kernel
theorem dX10_callOne_36 : decode cX10_callOne 36 = .ok (.iadd, 1) := by decide +kernel
theorem dX10_callOne_37 : decode cX10_callOne 37 = .ok (.iconst (-1), 1) := by decide +kernel
theorem dX10_callOne_38 : decode cX10_callOne 38 = .ok (.iastore, 1) := by decide +kernel
theorem dX10_callOne_39 : decode cX10_callOne 39 = .ok (.return_, 1) := by decide +kernel
theorem dX10_callOne_40 : decode cX10_callOne 40 = .ok (.aload_n 0, 1) := by decide +kernel
theorem dX10_callOne_41 : decode cX10_callOne 41 = .ok (.getfield 7, 3) := by decide +kernel
theorem dX10_callOne_44 : decode cX10_callOne 44 = .ok (.bipush 92, 2) := by decide +kernel
theorem dX10_callOne_46 : decode cX10_callOne 46 = .ok (.iload_n 1, 1) := by decide +kernel
theorem dX10_callOne_47 : decode cX10_callOne 47 = .ok (.iadd, 1) := by decide +kernel
theorem dX10_callOne_48 : decode cX10_callOne 48 = .ok (.dup2, 1) := by decide +kernel
theorem dX10_callOne_49 : decode cX10_callOne 49 = .ok (.iaload, 1) := by decide +kernel
theorem dX10_callOne_50 : decode cX10_callOne 50 = .ok (.iconst 1, 1) := by decide +kernel
theorem dX10_callOne_51 : decode cX10_callOne 51 = .ok (.isub, 1) := by decide +kernel
theorem dX10_callOne_52 : decode cX10_callOne 52 = .ok (.iastore, 1) := by decide +kernel
theorem dX10_callOne_53 : decode cX10_callOne 53 = .ok (.aload_n 0, 1) := by decide +kernel
theorem dX10_callOne_54 : decode cX10_callOne 54 = .ok (.getfield 7, 3) := by decide +kernel
theorem dX10_callOne_57 : decode cX10_callOne 57 = .ok (.iconst 4, 1) := by decide +kernel
theorem dX10_callOne_58 : decode cX10_callOne 58 = .ok (.iaload, 1) := by decide +kernel
theorem dX10_callOne_59 : decode cX10_callOne 59 = .ok (.iconst 1, 1) := by decide +kernel
theorem dX10_callOne_60 : decode cX10_callOne 60 = .ok (.if_icmp .ne 31, 3) := by decide +kernel
theorem dX10_callOne_63 : decode cX10_callOne 63 = .ok (.aload_n 0, 1) := by decide +kernel
theorem dX10_callOne_64 : decode cX10_callOne 64 = .ok (.getfield 7, 3) := by decide +kernel
theorem dX10_callOne_67 : decode cX10_callOne 67 = .ok (.bipush 12, 2) := by decide +kernel
theorem dX10_callOne_69 : decode cX10_callOne 69 = .ok (.iload_n 1, 1) := by decide +kernel
theorem dX10_callOne_70 : decode cX10_callOne 70 = .ok (.iadd, 1) := by decide +kernel
theorem dX10_callOne_71 : decode cX10_callOne 71 = .ok (.aload_n 0, 1) := by decide +kernel
theorem dX10_callOne_72 : decode cX10_callOne 72 = .ok (.getfield 7, 3) := by decide +kernel
theorem dX10_callOne_75 : decode cX10_callOne 75 = .ok (.iconst 0, 1) := by decide +kernel
theorem dX10_callOne_76 : decode cX10_callOne 76 = .ok (.iaload, 1) := by decide +kernel
theorem dX10_callOne_77 : decode cX10_callOne 77 = .ok (.aload_n 0, 1) := by decide +kernel
theorem dX10_callOne_78 : decode cX10_callOne 78 = .ok (.getfield 7, 3) := by decide +kernel
theorem dX10_callOne_81 : decode cX10_callOne 81 = .ok (.bipush 52, 2) := by decide +kernel
theorem dX10_callOne_83 : decode cX10_callOne 83 = .ok (.iload_n 1, 1) := by decide +kernel
theorem dX10_callOne_84 : decode cX10_callOne 84 = .ok (.iadd, 1) := by decide +kernel
theorem dX10_callOne_85 : decode cX10_callOne 85 = .ok (.iaload, 1) := by decide +kernel
theorem dX10_callOne_86 : decode cX10_callOne 86 = .ok (.iadd, 1) := by decide +kernel
theorem dX10_callOne_87 : decode cX10_callOne 87 = .ok (.iastore, 1) := by decide +kernel
theorem dX10_callOne_88 : decode cX10_callOne 88 = .ok (.goto 68, 3) := by decide +kernel
theorem dX10_callOne_91 : decode cX10_callOne 91 = .ok (.aload_n 0, 1) := by decide +kernel
theorem dX10_callOne_92 : decode cX10_callOne 92 = .ok (.getfield 7, 3) := by decide +kernel
theorem dX10_callOne_95 : decode cX10_callOne 95 = .ok (.iconst 0, 1) := by decide +kernel
theorem dX10_callOne_96 : decode cX10_callOne 96 = .ok (.iaload, 1) := by decide +kernel
theorem dX10_callOne_97 : decode cX10_callOne 97 = .ok (.aload_n 0, 1) := by decide +kernel
theorem dX10_callOne_98 : decode cX10_callOne 98 = .ok (.getfield 7, 3) := by decide +kernel
theorem dX10_callOne_101 : decode cX10_callOne 101 = .ok (.bipush 12, 2) := by decide +kernel
theorem dX10_callOne_103 : decode cX10_callOne 103 = .ok (.iload_n 1, 1) := by decide +kernel
theorem dX10_callOne_104 : decode cX10_callOne 104 = .ok (.iadd, 1) := by decide +kernel
theorem dX10_callOne_105 : decode cX10_callOne 105 = .ok (.iaload, 1) := by decide +kernel
theorem dX10_callOne_106 : decode cX10_callOne 106 = .ok (.isub, 1) := by decide +kernel
theorem dX10_callOne_107 : decode cX10_callOne 107 = .ok (.aload_n 0, 1) := by decide +kernel
theorem dX10_callOne_108 : decode cX10_callOne 108 = .ok (.getfield 7, 3) := by decide +kernel
theorem dX10_callOne_111 : decode cX10_callOne 111 = .ok (.bipush 52, 2) := by decide +kernel
theorem dX10_callOne_113 : decode cX10_callOne 113 = .ok (.iload_n 1, 1) := by decide +kernel
theorem dX10_callOne_114 : decode cX10_callOne 114 = .ok (.iadd, 1) := by decide +kernel
theorem dX10_callOne_115 : decode cX10_callOne 115 = .ok (.iaload, 1) := by decide +kernel
theorem dX10_callOne_116 : decode cX10_callOne 116 = .ok (.idiv, 1) := by decide +kernel
theorem dX10_callOne_117 : decode cX10_callOne 117 = .ok (.iconst 1, 1) := by decide +kernel
theorem dX10_callOne_118 : decode cX10_callOne 118 = .ok (.iadd, 1) := by decide +kernel
theorem dX10_callOne_119 : decode cX10_callOne 119 = .ok (.istore_n 2, 1) := by decide +kernel
theorem dX10_callOne_120 : decode cX10_callOne 120 = .ok (.aload_n 0, 1) := by decide +kernel
theorem dX10_callOne_121 : decode cX10_callOne 121 = .ok (.getfield 7, 3) := by decide +kernel
theorem dX10_callOne_124 : decode cX10_callOne 124 = .ok (.bipush 12, 2) := by decide +kernel
theorem dX10_callOne_126 : decode cX10_callOne 126 = .ok (.iload_n 1, 1) := by decide +kernel
theorem dX10_callOne_127 : decode cX10_callOne 127 = .ok (.iadd, 1) := by decide +kernel
theorem dX10_callOne_128 : decode cX10_callOne 128 = .ok (.dup2, 1) := by decide +kernel
theorem dX10_callOne_129 : decode cX10_callOne 129 = .ok (.iaload, 1) := by decide +kernel
theorem dX10_callOne_130 : decode cX10_callOne 130 = .ok (.iload_n 2, 1) := by decide +kernel
theorem dX10_callOne_131 : decode cX10_callOne 131 = .ok (.aload_n 0, 1) := by decide +kernel
theorem dX10_callOne_132 : decode cX10_callOne 132 = .ok (.getfield 7, 3) := by decide +kernel
theorem dX10_callOne_135 : decode cX10_callOne 135 = .ok (.bipush 52, 2) := by decide +kernel
theorem dX10_callOne_137 : decode cX10_callOne 137 = .ok (.iload_n 1, 1) := by decide +kernel
theorem dX10_callOne_138 : decode cX10_callOne 138 = .ok (.iadd, 1) := by decide +kernel
theorem dX10_callOne_139 : decode cX10_callOne 139 = .ok (.iaload, 1) := by decide +kernel
theorem dX10_callOne_140 : decode cX10_callOne 140 = .ok (.imul, 1) := by decide +kernel
theorem dX10_callOne_141 : decode cX10_callOne 141 = .ok (.iadd, 1) := by decide +kernel
theorem dX10_callOne_142 : decode cX10_callOne 142 = .ok (.iastore, 1) := by decide +kernel
theorem dX10_callOne_143 : decode cX10_callOne 143 = .ok (.aload_n 0, 1) := by decide +kernel
theorem dX10_callOne_144 : decode cX10_callOne 144 = .ok (.getfield 7, 3) := by decide +kernel
theorem dX10_callOne_147 : decode cX10_callOne 147 = .ok (.bipush 9, 2) := by decide +kernel
theorem dX10_callOne_149 : decode cX10_callOne 149 = .ok (.dup2, 1) := by decide +kernel
theorem dX10_callOne_150 : decode cX10_callOne 150 = .ok (.iaload, 1) := by decide +kernel
theorem dX10_callOne_151 : decode cX10_callOne 151 = .ok (.iload_n 2, 1) := by decide +kernel
theorem dX10_callOne_152 : decode cX10_callOne 152 = .ok (.iconst 1, 1) := by decide +kernel
theorem dX10_callOne_153 : decode cX10_callOne 153 = .ok (.isub, 1) := by decide +kernel
theorem dX10_callOne_154 : decode cX10_callOne 154 = .ok (.iadd, 1) := by decide +kernel
theorem dX10_callOne_155 : decode cX10_callOne 155 = .ok (.iastore, 1) := by decide +kernel
theorem dX10_callOne_156 : decode cX10_callOne 156 = .ok (.aload_n 0, 1) := by decide +kernel
theorem dX10_callOne_157 : decode cX10_callOne 157 = .ok (.getfield 7, 3) := by decide +kernel
theorem dX10_callOne_160 : decode cX10_callOne 160 = .ok (.sipush 132, 3) := by decide +kernel
theorem dX10_callOne_163 : decode cX10_callOne 163 = .ok (.iload_n 1, 1) := by decide +kernel
theorem dX10_callOne_164 : decode cX10_callOne 164 = .ok (.iadd, 1) := by decide +kernel
theorem dX10_callOne_165 : decode cX10_callOne 165 = .ok (.iconst 0, 1) := by decide +kernel
theorem dX10_callOne_166 : decode cX10_callOne 166 = .ok (.iastore, 1) := by decide +kernel
theorem dX10_callOne_167 : decode cX10_callOne 167 = .ok (.aload_n 0, 1) := by decide +kernel
theorem dX10_callOne_168 : decode cX10_callOne 168 = .ok (.iload_n 1, 1) := by decide +kernel
theorem dX10_callOne_169 : decode cX10_callOne 169 = .ok (.invokevirtual 72, 3) := by decide +kernel
theorem dX10_callOne_172 : decode cX10_callOne 172 = .ok (.return_, 1) := by decide +kernel
set_option maxRecDepth 20000 in
theorem ggX10_callSome_X10_front : GoodIn wsX10_callSome wsX10_front := goodIn_r _ [6, 1, 27, 28, 29, 30, 31, 32, 33, 34, 35, 36, 37, 38, 39, 40, 41, 42] (by decide +kernel) (by decide +kernel)
set_option maxRecDepth 20000 in
theorem gX10_callSome_X10_front : GoodIn wsX10_callSome (wsV RX10 69 RX10 yX10_front wsX10_front) := goodIn_app (goodIn_of _ (by decide +kernel)) ggX10_callSome_X10_front
set_option maxRecDepth 20000 in
theorem ggX10_callSome_X10_sweepOne : GoodIn wsX10_callSome wsX10_sweepOne := goodIn_r _ [10, 1, 27, 28, 29, 30, 31, 32, 33, 34, 35, 36, 37, 38, 39, 40, 41, 42] (by decide +kernel) (by decide +kernel)
set_option maxRecDepth 20000 in
theorem gX10_callSome_X10_sweepOne : GoodIn wsX10_callSome (wsV RX10 61 RX10 yX10_sweepOne wsX10_sweepOne) := goodIn_app (goodIn_of _ (by decide +kernel)) ggX10_callSome_X10_sweepOne
set_option maxRecDepth 20000 in
theorem ggX10_callSome_X10_callOne : GoodIn wsX10_callSome wsX10_callOne := goodIn_r _ [14, 1, 15, 16, 17, 5, 18, 19, 20, 21, 22, 23, 24, 25, 26, 27, 28, 29, 30, 31, 32, 33, 34, 35, 36, 37, 38, 39, 40, 41, 42] (by decide +kernel) (by decide +kernel)
set_option maxRecDepth 20000 in
theorem gX10_callSome_X10_callOne : GoodIn wsX10_callSome (wsV RX10 78 RX10 yX10_callOne wsX10_callOne) := goodIn_app (goodIn_of _ (by decide +kernel)) ggX10_callSome_X10_callOne
theorem dX10_callSome_0 : decode cX10_callSome 0 = .ok (.iconst 0, 1) := by decide +kernel
theorem dX10_callSome_1 : decode cX10_callSome 1 = .ok (.istore_n 1, 1) := by decide +kernel
theorem dX10_callSome_2 : decode cX10_callSome 2 = .ok (.aload_n 0, 1) := by decide +kernel
theorem dX10_callSome_3 : decode cX10_callSome 3 = .ok (.bipush 24, 2) := by decide +kernel
theorem dX10_callSome_5 : decode cX10_callSome 5 = .ok (.invokevirtual 69, 3) := by decide +kernel
theorem dX10_callSome_8 : decode cX10_callSome 8 = .ok (.istore_n 2, 1) := by decide +kernel
theorem dX10_callSome_9 : decode cX10_callSome 9 = .ok (.iload_n 2, 1) := by decide +kernel
theorem dX10_callSome_10 : decode cX10_callSome 10 = .ok (.ifCond .lt 53, 3) := by decide +kernel
theorem dX10_callSome_13 : decode cX10_callSome 13 = .ok (.iload_n 1, 1) := by decide +kernel
theorem dX10_callSome_14 : decode cX10_callSome 14 = .ok (.aload_n 0, 1) := by decide +kernel
theorem dX10_callSome_15 : decode cX10_callSome 15 = .ok (.getfield 7, 3) := by decide +kernel
theorem dX10_callSome_18 : decode cX10_callSome 18 = .ok (.iconst 2, 1) := by decide +kernel
theorem dX10_callSome_19 : decode cX10_callSome 19 = .ok (.iaload, 1) := by decide +kernel
theorem dX10_callSome_20 : decode cX10_callSome 20 = .ok (.if_icmp .ge 43, 3) := by decide +kernel
theorem dX10_callSome_23 : decode cX10_callSome 23 = .ok (.aload_n 0, 1) := by decide +kernel
theorem dX10_callSome_24 : decode cX10_callSome 24 = .ok (.getfield 7, 3) := by decide +kernel
theorem dX10_callSome_27 : decode cX10_callSome 27 = .ok (.sipush 132, 3) := by decide +kernel
theorem dX10_callSome_30 : decode cX10_callSome 30 = .ok (.iload_n 2, 1) := by decide +kernel
theorem dX10_callSome_31 : decode cX10_callSome 31 = .ok (.iadd, 1) := by decide +kernel
theorem dX10_callSome_32 : decode cX10_callSome 32 = .ok (.iaload, 1) := by decide +kernel
theorem dX10_callSome_33 : decode cX10_callSome 33 = .ok (.iconst 3, 1) := by decide +kernel
theorem dX10_callSome_34 : decode cX10_callSome 34 = .ok (.if_icmp .ne 11, 3) := by decide +kernel
theorem dX10_callSome_37 : decode cX10_callSome 37 = .ok (.aload_n 0, 1) := by decide +kernel
theorem dX10_callSome_38 : decode cX10_callSome 38 = .ok (.iload_n 2, 1) := by decide +kernel
theorem dX10_callSome_39 : decode cX10_callSome 39 = .ok (.invokevirtual 61, 3) := by decide +kernel
theorem dX10_callSome_42 : decode cX10_callSome 42 = .ok (.goto 11, 3) := by decide +kernel
theorem dX10_callSome_45 : decode cX10_callSome 45 = .ok (.aload_n 0, 1) := by decide +kernel
theorem dX10_callSome_46 : decode cX10_callSome 46 = .ok (.iload_n 2, 1) := by decide +kernel
theorem dX10_callSome_47 : decode cX10_callSome 47 = .ok (.invokevirtual 78, 3) := by decide +kernel
theorem dX10_callSome_50 : decode cX10_callSome 50 = .ok (.iinc 1 1, 3) := by decide +kernel
theorem dX10_callSome_53 : decode cX10_callSome 53 = .ok (.aload_n 0, 1) := by decide +kernel
theorem dX10_callSome_54 : decode cX10_callSome 54 = .ok (.bipush 24, 2) := by decide +kernel
theorem dX10_callSome_56 : decode cX10_callSome 56 = .ok (.invokevirtual 69, 3) := by decide +kernel
theorem dX10_callSome_59 : decode cX10_callSome 59 = .ok (.istore_n 2, 1) := by decide +kernel
theorem dX10_callSome_60 : decode cX10_callSome 60 = .ok (.goto (-51), 3) := by decide +kernel
theorem dX10_callSome_63 : decode cX10_callSome 63 = .ok (.return_, 1) := by decide +kernel
set_option maxRecDepth 20000 in
theorem ggX10_tick_X10_fall : GoodIn wsX10_tick wsX10_fall := goodIn_r _ [6, 1, 7, 8, 9, 5, 10, 11, 12, 13, 14, 15, 16, 17, 18, 19, 20, 21, 22, 23, 24, 25, 26, 51, 52, 53, 54, 55, 56, 57, 58, 59, 60, 61, 62, 63, 64, 65, 66] (by decide +kernel) (by decide +kernel)
set_option maxRecDepth 20000 in
theorem gX10_tick_X10_fall : GoodIn wsX10_tick (wsV RX10 81 RX10 yX10_fall wsX10_fall) := goodIn_app (goodIn_of _ (by decide +kernel)) ggX10_tick_X10_fall
set_option maxRecDepth 20000 in
theorem ggX10_tick_X10_getReady : GoodIn wsX10_tick wsX10_getReady := goodIn_r _ [30, 1, 7, 8, 9, 5, 10, 11, 12, 13, 14, 15, 16, 17, 18, 23, 24, 25, 26, 51, 52, 53, 54, 55, 56, 57, 58, 59, 60, 61, 62, 63, 64, 65, 66] (by decide +kernel) (by decide +kernel)
set_option maxRecDepth 20000 in
theorem gX10_tick_X10_getReady : GoodIn wsX10_tick (wsV RX10 84 RX10 yX10_getReady wsX10_getReady) := goodIn_app (goodIn_of _ (by decide +kernel)) ggX10_tick_X10_getReady
set_option maxRecDepth 20000 in
theorem ggX10_tick_X10_callSome : GoodIn wsX10_tick wsX10_callSome := goodIn_r _ [34, 1, 11, 12, 13, 5, 14, 15, 16, 17, 18, 35, 36, 37, 38, 39, 40, 41, 42, 19, 20, 21, 22, 23, 24, 25, 26, 51, 52, 53, 54, 55, 56, 57, 58, 59, 60, 61, 62, 63, 64, 65, 66] (by decide +kernel) (by decide +kernel)
set_option maxRecDepth 20000 in
theorem gX10_tick_X10_callSome : GoodIn wsX10_tick (wsV RX10 87 RX10 yX10_callSome wsX10_callSome) := goodIn_app (goodIn_of _ (by decide +kernel)) ggX10_tick_X10_callSome
set_option maxRecDepth 20000 in
theorem ggX10_tick_X10_inState : GoodIn wsX10_tick wsX10_inState := goodIn_r _ [46, 1, 51, 52, 53, 54, 55, 56, 57, 58, 59, 60, 61, 62, 63, 64, 65, 66] (by decide +kernel) (by decide +kernel)
set_option maxRecDepth 20000 in
theorem gX10_tick_X10_inState : GoodIn wsX10_tick (wsV RX10 90 RX10 yX10_inState wsX10_inState) := goodIn_app (goodIn_of _ (by decide +kernel)) ggX10_tick_X10_inState
set_option maxRecDepth 20000 in
theorem ggX10_tick_X10_sweepAll : GoodIn wsX10_tick wsX10_sweepAll := goodIn_r _ [50, 1, 15, 16, 17, 5, 18, 51, 52, 53, 54, 55, 56, 57, 58, 59, 60, 61, 62, 63, 64, 65, 66] (by decide +kernel) (by decide +kernel)
set_option maxRecDepth 20000 in
theorem gX10_tick_X10_sweepAll : GoodIn wsX10_tick (wsV RX10 93 RX10 yX10_sweepAll wsX10_sweepAll) := goodIn_app (goodIn_of _ (by decide +kernel)) ggX10_tick_X10_sweepAll
set_option maxRecDepth 20000 in
theorem ggX10_tick_X10_manyAt : GoodIn wsX10_tick wsX10_manyAt := goodIn_r _ [10, 1, 51, 52, 53, 54, 55, 56, 57, 58, 59, 60, 61, 62, 63, 64, 65, 66] (by decide +kernel) (by decide +kernel)
set_option maxRecDepth 20000 in
theorem gX10_tick_X10_manyAt : GoodIn wsX10_tick (wsV RX10 65 RX10 yX10_manyAt wsX10_manyAt) := goodIn_app (goodIn_of _ (by decide +kernel)) ggX10_tick_X10_manyAt
theorem dX10_tick_0 : decode cX10_tick 0 = .ok (.aload_n 0, 1) := by decide +kernel
theorem dX10_tick_1 : decode cX10_tick 1 = .ok (.getfield 7, 3) := by decide +kernel
theorem dX10_tick_4 : decode cX10_tick 4 = .ok (.iconst 0, 1) := by decide +kernel
theorem dX10_tick_5 : decode cX10_tick 5 = .ok (.dup2, 1) := by decide +kernel
theorem dX10_tick_6 : decode cX10_tick 6 = .ok (.iaload, 1) := by decide +kernel
theorem dX10_tick_7 : decode cX10_tick 7 = .ok (.iconst 1, 1) := by decide +kernel
theorem dX10_tick_8 : decode cX10_tick 8 = .ok (.iadd, 1) := by decide +kernel
theorem dX10_tick_9 : decode cX10_tick 9 = .ok (.iastore, 1) := by decide +kernel
theorem dX10_tick_10 : decode cX10_tick 10 = .ok (.aload_n 0, 1) := by decide +kernel
theorem dX10_tick_11 : decode cX10_tick 11 = .ok (.getfield 7, 3) := by decide +kernel
theorem dX10_tick_14 : decode cX10_tick 14 = .ok (.iconst 0, 1) := by decide +kernel
theorem dX10_tick_15 : decode cX10_tick 15 = .ok (.iaload, 1) := by decide +kernel
theorem dX10_tick_16 : decode cX10_tick 16 = .ok (.bipush 64, 2) := by decide +kernel
theorem dX10_tick_18 : decode cX10_tick 18 = .ok (.irem, 1) := by decide +kernel
theorem dX10_tick_19 : decode cX10_tick 19 = .ok (.ifCond .ne 22, 3) := by decide +kernel
theorem dX10_tick_22 : decode cX10_tick 22 = .ok (.aload_n 0, 1) := by decide +kernel
theorem dX10_tick_23 : decode cX10_tick 23 = .ok (.bipush 16, 2) := by decide +kernel
theorem dX10_tick_25 : decode cX10_tick 25 = .ok (.aload_n 0, 1) := by decide +kernel
theorem dX10_tick_26 : decode cX10_tick 26 = .ok (.getfield 7, 3) := by decide +kernel
theorem dX10_tick_29 : decode cX10_tick 29 = .ok (.iconst 0, 1) := by decide +kernel
theorem dX10_tick_30 : decode cX10_tick 30 = .ok (.iaload, 1) := by decide +kernel
theorem dX10_tick_31 : decode cX10_tick 31 = .ok (.bipush 64, 2) := by decide +kernel
theorem dX10_tick_33 : decode cX10_tick 33 = .ok (.idiv, 1) := by decide +kernel
theorem dX10_tick_34 : decode cX10_tick 34 = .ok (.bipush 8, 2) := by decide +kernel
theorem dX10_tick_36 : decode cX10_tick 36 = .ok (.irem, 1) := by decide +kernel
theorem dX10_tick_37 : decode cX10_tick 37 = .ok (.iadd, 1) := by decide +kernel
theorem dX10_tick_38 : decode cX10_tick 38 = .ok (.invokevirtual 81, 3) := by decide +kernel
theorem dX10_tick_41 : decode cX10_tick 41 = .ok (.aload_n 0, 1) := by decide +kernel
theorem dX10_tick_42 : decode cX10_tick 42 = .ok (.getfield 7, 3) := by decide +kernel
theorem dX10_tick_45 : decode cX10_tick 45 = .ok (.iconst 0, 1) := by decide +kernel
theorem dX10_tick_46 : decode cX10_tick 46 = .ok (.iaload, 1) := by decide +kernel
theorem dX10_tick_47 : decode cX10_tick 47 = .ok (.bipush 8, 2) := by decide +kernel
theorem dX10_tick_49 : decode cX10_tick 49 = .ok (.irem, 1) := by decide +kernel
theorem dX10_tick_50 : decode cX10_tick 50 = .ok (.ifCond .ne 22, 3) := by decide +kernel
theorem dX10_tick_53 : decode cX10_tick 53 = .ok (.aload_n 0, 1) := by decide +kernel
theorem dX10_tick_54 : decode cX10_tick 54 = .ok (.bipush 8, 2) := by decide +kernel
theorem dX10_tick_56 : decode cX10_tick 56 = .ok (.aload_n 0, 1) := by decide +kernel
theorem dX10_tick_57 : decode cX10_tick 57 = .ok (.getfield 7, 3) := by decide +kernel
theorem dX10_tick_60 : decode cX10_tick 60 = .ok (.iconst 0, 1) := by decide +kernel
theorem dX10_tick_61 : decode cX10_tick 61 = .ok (.iaload, 1) := by decide +kernel
theorem dX10_tick_62 : decode cX10_tick 62 = .ok (.bipush 8, 2) := by decide +kernel
theorem dX10_tick_64 : decode cX10_tick 64 = .ok (.idiv, 1) := by decide +kernel
theorem dX10_tick_65 : decode cX10_tick 65 = .ok (.bipush 8, 2) := by decide +kernel
theorem dX10_tick_67 : decode cX10_tick 67 = .ok (.irem, 1) := by decide +kernel
theorem dX10_tick_68 : decode cX10_tick 68 = .ok (.iadd, 1) := by decide +kernel
theorem dX10_tick_69 : decode cX10_tick 69 = .ok (.invokevirtual 81, 3) := by decide +kernel
theorem dX10_tick_72 : decode cX10_tick 72 = .ok (.aload_n 0, 1) := by decide +kernel
theorem dX10_tick_73 : decode cX10_tick 73 = .ok (.aload_n 0, 1) := by decide +kernel
theorem dX10_tick_74 : decode cX10_tick 74 = .ok (.getfield 7, 3) := by decide +kernel
theorem dX10_tick_77 : decode cX10_tick 77 = .ok (.iconst 0, 1) := by decide +kernel
theorem dX10_tick_78 : decode cX10_tick 78 = .ok (.iaload, 1) := by decide +kernel
theorem dX10_tick_79 : decode cX10_tick 79 = .ok (.bipush 8, 2) := by decide +kernel
theorem dX10_tick_81 : decode cX10_tick 81 = .ok (.irem, 1) := by decide +kernel
theorem dX10_tick_82 : decode cX10_tick 82 = .ok (.invokevirtual 84, 3) := by decide +kernel
theorem dX10_tick_85 : decode cX10_tick 85 = .ok (.aload_n 0, 1) := by decide +kernel
theorem dX10_tick_86 : decode cX10_tick 86 = .ok (.invokevirtual 87, 3) := by decide +kernel
theorem dX10_tick_89 : decode cX10_tick 89 = .ok (.aload_n 0, 1) := by decide +kernel
theorem dX10_tick_90 : decode cX10_tick 90 = .ok (.iconst 3, 1) := by decide +kernel
theorem dX10_tick_91 : decode cX10_tick 91 = .ok (.invokevirtual 90, 3) := by decide +kernel
theorem dX10_tick_94 : decode cX10_tick 94 = .ok (.aload_n 0, 1) := by decide +kernel
theorem dX10_tick_95 : decode cX10_tick 95 = .ok (.getfield 7, 3) := by decide +kernel
theorem dX10_tick_98 : decode cX10_tick 98 = .ok (.iconst 3, 1) := by decide +kernel
theorem dX10_tick_99 : decode cX10_tick 99 = .ok (.iaload, 1) := by decide +kernel
theorem dX10_tick_100 : decode cX10_tick 100 = .ok (.if_icmp .le 8, 3) := by decide +kernel
theorem dX10_tick_103 : decode cX10_tick 103 = .ok (.aload_n 0, 1) := by decide +kernel
theorem dX10_tick_104 : decode cX10_tick 104 = .ok (.invokevirtual 93, 3) := by decide +kernel
theorem dX10_tick_107 : decode cX10_tick 107 = .ok (.pop, 1) := by decide +kernel
theorem dX10_tick_108 : decode cX10_tick 108 = .ok (.aload_n 0, 1) := by decide +kernel
theorem dX10_tick_109 : decode cX10_tick 109 = .ok (.bipush 24, 2) := by decide +kernel
theorem dX10_tick_111 : decode cX10_tick 111 = .ok (.invokevirtual 65, 3) := by decide +kernel
theorem dX10_tick_114 : decode cX10_tick 114 = .ok (.istore_n 1, 1) := by decide +kernel
theorem dX10_tick_115 : decode cX10_tick 115 = .ok (.aload_n 0, 1) := by decide +kernel
theorem dX10_tick_116 : decode cX10_tick 116 = .ok (.getfield 7, 3) := by decide +kernel
theorem dX10_tick_119 : decode cX10_tick 119 = .ok (.bipush 10, 2) := by decide +kernel
theorem dX10_tick_121 : decode cX10_tick 121 = .ok (.iload_n 1, 1) := by decide +kernel
theorem dX10_tick_122 : decode cX10_tick 122 = .ok (.aload_n 0, 1) := by decide +kernel
theorem dX10_tick_123 : decode cX10_tick 123 = .ok (.getfield 7, 3) := by decide +kernel
theorem dX10_tick_126 : decode cX10_tick 126 = .ok (.bipush 10, 2) := by decide +kernel
theorem dX10_tick_128 : decode cX10_tick 128 = .ok (.iaload, 1) := by decide +kernel
theorem dX10_tick_129 : decode cX10_tick 129 = .ok (.if_icmp .le 7, 3) := by decide +kernel
theorem dX10_tick_132 : decode cX10_tick 132 = .ok (.iload_n 1, 1) := by decide +kernel
theorem dX10_tick_133 : decode cX10_tick 133 = .ok (.goto 10, 3) := by decide +kernel
theorem dX10_tick_136 : decode cX10_tick 136 = .ok (.aload_n 0, 1) := by decide +kernel
theorem dX10_tick_137 : decode cX10_tick 137 = .ok (.getfield 7, 3) := by decide +kernel
theorem dX10_tick_140 : decode cX10_tick 140 = .ok (.bipush 10, 2) := by decide +kernel
theorem dX10_tick_142 : decode cX10_tick 142 = .ok (.iaload, 1) := by decide +kernel
theorem dX10_tick_143 : decode cX10_tick 143 = .ok (.iastore, 1) := by decide +kernel
theorem dX10_tick_144 : decode cX10_tick 144 = .ok (.return_, 1) := by decide +kernel
set_option maxRecDepth 20000 in
theorem ggX10_give_X10_record : GoodIn wsX10_give wsX10_record := goodIn_r _ [6, 7, 8, 9, 10, 5, 11, 12, 13, 14, 15, 1, 16, 17, 26, 27, 28, 29, 30, 31, 32, 33, 34, 35, 36, 37, 38, 39, 40, 41] (by decide +kernel) (by decide +kernel)
set_option maxRecDepth 20000 in
theorem gX10_give_X10_record : GoodIn wsX10_give (wsV RX10 54 RX10 yX10_record wsX10_record) := goodIn_app (goodIn_of _ (by decide +kernel)) ggX10_give_X10_record
set_option maxRecDepth 20000 in
theorem ggX10_give_X10_standByDistance : GoodIn wsX10_give wsX10_standByDistance := goodIn_r _ [21, 1, 22, 23, 24, 5, 25, 26, 27, 28, 29, 30, 31, 32, 33, 34, 35, 36, 37, 38, 39, 40, 41] (by decide +kernel) (by decide +kernel)
set_option maxRecDepth 20000 in
theorem gX10_give_X10_standByDistance : GoodIn wsX10_give (wsV RX10 72 RX10 yX10_standByDistance wsX10_standByDistance) := goodIn_app (goodIn_of _ (by decide +kernel)) ggX10_give_X10_standByDistance
theorem dX10_give_0 : decode cX10_give 0 = .ok (.iload_n 1, 1) := by decide +kernel
theorem dX10_give_1 : decode cX10_give 1 = .ok (.iconst 1, 1) := by decide +kernel
theorem dX10_give_2 : decode cX10_give 2 = .ok (.if_icmp .lt 35, 3) := by decide +kernel
theorem dX10_give_5 : decode cX10_give 5 = .ok (.iload_n 1, 1) := by decide +kernel
theorem dX10_give_6 : decode cX10_give 6 = .ok (.sipush 511, 3) := by decide +kernel
theorem dX10_give_9 : decode cX10_give 9 = .ok (.if_icmp .gt 28, 3) := by decide +kernel
theorem dX10_give_12 : decode cX10_give 12 = .ok (.iload_n 2, 1) := by decide +kernel
theorem dX10_give_13 : decode cX10_give 13 = .ok (.ifCond .lt 24, 3) := by decide +kernel
theorem dX10_give_16 : decode cX10_give 16 = .ok (.iload_n 2, 1) := by decide +kernel
theorem dX10_give_17 : decode cX10_give 17 = .ok (.sipush 511, 3) := by decide +kernel
theorem dX10_give_20 : decode cX10_give 20 = .ok (.if_icmp .gt 17, 3) := by decide +kernel
theorem dX10_give_23 : decode cX10_give 23 = .ok (.iload_n 3, 1) := by decide +kernel
theorem dX10_give_24 : decode cX10_give 24 = .ok (.ifCond .lt 13, 3) := by decide +kernel
theorem dX10_give_27 : decode cX10_give 27 = .ok (.iload_n 3, 1) := by decide +kernel
theorem dX10_give_28 : decode cX10_give 28 = .ok (.bipush 99, 2) := by decide +kernel
theorem dX10_give_30 : decode cX10_give 30 = .ok (.if_icmp .gt 7, 3) := by decide +kernel
theorem dX10_give_33 : decode cX10_give 33 = .ok (.iconst 1, 1) := by decide +kernel
theorem dX10_give_34 : decode cX10_give 34 = .ok (.goto 4, 3) := by decide +kernel
theorem dX10_give_37 : decode cX10_give 37 = .ok (.iconst 0, 1) := by decide +kernel
theorem dX10_give_38 : decode cX10_give 38 = .ok (.istore 4, 2) := by decide +kernel
theorem dX10_give_40 : decode cX10_give 40 = .ok (.iload 4, 2) := by decide +kernel
theorem dX10_give_42 : decode cX10_give 42 = .ok (.ifCond .eq 11, 3) := by decide +kernel
theorem dX10_give_45 : decode cX10_give 45 = .ok (.iload_n 2, 1) := by decide +kernel
theorem dX10_give_46 : decode cX10_give 46 = .ok (.ifCond .ne 9, 3) := by decide +kernel
theorem dX10_give_49 : decode cX10_give 49 = .ok (.iload_n 3, 1) := by decide +kernel
theorem dX10_give_50 : decode cX10_give 50 = .ok (.ifCond .le 5, 3) := by decide +kernel
theorem dX10_give_53 : decode cX10_give 53 = .ok (.iconst (-1), 1) := by decide +kernel
theorem dX10_give_54 : decode cX10_give 54 = .ok (.ireturn, 1) := by decide +kernel
theorem dX10_give_55 : decode cX10_give 55 = .ok (.aload_n 0, 1) := by decide +kernel
theorem dX10_give_56 : decode cX10_give 56 = .ok (.getfield 7, 3) := by decide +kernel
theorem dX10_give_59 : decode cX10_give 59 = .ok (.iconst 1, 1) := by decide +kernel
theorem dX10_give_60 : decode cX10_give 60 = .ok (.iaload, 1) := by decide +kernel
theorem dX10_give_61 : decode cX10_give 61 = .ok (.bipush 40, 2) := by decide +kernel
theorem dX10_give_63 : decode cX10_give 63 = .ok (.if_icmp .ne 6, 3) := by decide +kernel
theorem dX10_give_66 : decode cX10_give 66 = .ok (.bipush (-3), 2) := by decide +kernel
theorem dX10_give_68 : decode cX10_give 68 = .ok (.ireturn, 1) := by decide +kernel
theorem dX10_give_69 : decode cX10_give 69 = .ok (.aload_n 0, 1) := by decide +kernel
theorem dX10_give_70 : decode cX10_give 70 = .ok (.invokevirtual 54, 3) := by decide +kernel
theorem dX10_give_73 : decode cX10_give 73 = .ok (.aload_n 0, 1) := by decide +kernel
theorem dX10_give_74 : decode cX10_give 74 = .ok (.getfield 7, 3) := by decide +kernel
theorem dX10_give_77 : decode cX10_give 77 = .ok (.iconst 1, 1) := by decide +kernel
theorem dX10_give_78 : decode cX10_give 78 = .ok (.iaload, 1) := by decide +kernel
theorem dX10_give_79 : decode cX10_give 79 = .ok (.istore 5, 2) := by decide +kernel
theorem dX10_give_81 : decode cX10_give 81 = .ok (.aload_n 0, 1) := by decide +kernel
theorem dX10_give_82 : decode cX10_give 82 = .ok (.getfield 7, 3) := by decide +kernel
theorem dX10_give_85 : decode cX10_give 85 = .ok (.iconst 1, 1) := by decide +kernel
theorem dX10_give_86 : decode cX10_give 86 = .ok (.dup2, 1) := by decide +kernel
theorem dX10_give_87 : decode cX10_give 87 = .ok (.iaload, 1) := by decide +kernel
theorem dX10_give_88 : decode cX10_give 88 = .ok (.iconst 1, 1) := by decide +kernel
theorem dX10_give_89 : decode cX10_give 89 = .ok (.iadd, 1) := by decide +kernel
theorem dX10_give_90 : decode cX10_give 90 = .ok (.iastore, 1) := by decide +kernel
theorem dX10_give_91 : decode cX10_give 91 = .ok (.aload_n 0, 1) := by decide +kernel
theorem dX10_give_92 : decode cX10_give 92 = .ok (.getfield 7, 3) := by decide +kernel
theorem dX10_give_95 : decode cX10_give 95 = .ok (.bipush 12, 2) := by decide +kernel
theorem dX10_give_97 : decode cX10_give 97 = .ok (.iload 5, 2) := by decide +kernel
theorem dX10_give_99 : decode cX10_give 99 = .ok (.iadd, 1) := by decide +kernel
theorem dX10_give_100 : decode cX10_give 100 = .ok (.aload_n 0, 1) := by decide +kernel
theorem dX10_give_101 : decode cX10_give 101 = .ok (.getfield 7, 3) := by decide +kernel
theorem dX10_give_104 : decode cX10_give 104 = .ok (.iconst 0, 1) := by decide +kernel
theorem dX10_give_105 : decode cX10_give 105 = .ok (.iaload, 1) := by decide +kernel
theorem dX10_give_106 : decode cX10_give 106 = .ok (.iload_n 1, 1) := by decide +kernel
theorem dX10_give_107 : decode cX10_give 107 = .ok (.iadd, 1) := by decide +kernel
theorem dX10_give_108 : decode cX10_give 108 = .ok (.iastore, 1) := by decide +kernel
theorem dX10_give_109 : decode cX10_give 109 = .ok (.aload_n 0, 1) := by decide +kernel
theorem dX10_give_110 : decode cX10_give 110 = .ok (.getfield 7, 3) := by decide +kernel
theorem dX10_give_113 : decode cX10_give 113 = .ok (.bipush 52, 2) := by decide +kernel
theorem dX10_give_115 : decode cX10_give 115 = .ok (.iload 5, 2) := by decide +kernel
theorem dX10_give_117 : decode cX10_give 117 = .ok (.iadd, 1) := by decide +kernel
theorem dX10_give_118 : decode cX10_give 118 = .ok (.iload_n 2, 1) := by decide +kernel
theorem dX10_give_119 : decode cX10_give 119 = .ok (.iastore, 1) := by decide +kernel
theorem dX10_give_120 : decode cX10_give 120 = .ok (.aload_n 0, 1) := by decide +kernel
theorem dX10_give_121 : decode cX10_give 121 = .ok (.getfield 7, 3) := by decide +kernel
theorem dX10_give_124 : decode cX10_give 124 = .ok (.bipush 92, 2) := by decide +kernel
theorem dX10_give_126 : decode cX10_give 126 = .ok (.iload 5, 2) := by decide +kernel
theorem dX10_give_128 : decode cX10_give 128 = .ok (.iadd, 1) := by decide +kernel
theorem dX10_give_129 : decode cX10_give 129 = .ok (.iload_n 3, 1) := by decide +kernel
theorem dX10_give_130 : decode cX10_give 130 = .ok (.iastore, 1) := by decide +kernel
theorem dX10_give_131 : decode cX10_give 131 = .ok (.aload_n 0, 1) := by decide +kernel
theorem dX10_give_132 : decode cX10_give 132 = .ok (.getfield 7, 3) := by decide +kernel
theorem dX10_give_135 : decode cX10_give 135 = .ok (.sipush 132, 3) := by decide +kernel
theorem dX10_give_138 : decode cX10_give 138 = .ok (.iload 5, 2) := by decide +kernel
theorem dX10_give_140 : decode cX10_give 140 = .ok (.iadd, 1) := by decide +kernel
theorem dX10_give_141 : decode cX10_give 141 = .ok (.iconst 0, 1) := by decide +kernel
theorem dX10_give_142 : decode cX10_give 142 = .ok (.iastore, 1) := by decide +kernel
theorem dX10_give_143 : decode cX10_give 143 = .ok (.aload_n 0, 1) := by decide +kernel
theorem dX10_give_144 : decode cX10_give 144 = .ok (.iload 5, 2) := by decide +kernel
theorem dX10_give_146 : decode cX10_give 146 = .ok (.invokevirtual 72, 3) := by decide +kernel
theorem dX10_give_149 : decode cX10_give 149 = .ok (.iload 5, 2) := by decide +kernel
theorem dX10_give_151 : decode cX10_give 151 = .ok (.ireturn, 1) := by decide +kernel
set_option maxRecDepth 20000 in
theorem ggX10_breakOff_X10_isPromise : GoodIn wsX10_breakOff wsX10_isPromise := goodIn_r _ [6, 1, 26, 27, 28, 29, 30, 31, 32, 33, 34, 35, 36, 37, 38, 39, 40, 41] (by decide +kernel) (by decide +kernel)
set_option maxRecDepth 20000 in
theorem gX10_breakOff_X10_isPromise : GoodIn wsX10_breakOff (wsV RX10 97 RX10 yX10_isPromise wsX10_isPromise) := goodIn_app (goodIn_of _ (by decide +kernel)) ggX10_breakOff_X10_isPromise
set_option maxRecDepth 20000 in
theorem ggX10_breakOff_X10_record : GoodIn wsX10_breakOff wsX10_record := goodIn_r _ [10, 11, 12, 13, 14, 5, 15, 16, 17, 18, 19, 1, 20, 21, 26, 27, 28, 29, 30, 31, 32, 33, 34, 35, 36, 37, 38, 39, 40, 41] (by decide +kernel) (by decide +kernel)
set_option maxRecDepth 20000 in
theorem gX10_breakOff_X10_record : GoodIn wsX10_breakOff (wsV RX10 54 RX10 yX10_record wsX10_record) := goodIn_app (goodIn_of _ (by decide +kernel)) ggX10_breakOff_X10_record
set_option maxRecDepth 20000 in
theorem ggX10_breakOff_X10_inState : GoodIn wsX10_breakOff wsX10_inState := goodIn_r _ [25, 1, 26, 27, 28, 29, 30, 31, 32, 33, 34, 35, 36, 37, 38, 39, 40, 41] (by decide +kernel) (by decide +kernel)
set_option maxRecDepth 20000 in
theorem gX10_breakOff_X10_inState : GoodIn wsX10_breakOff (wsV RX10 90 RX10 yX10_inState wsX10_inState) := goodIn_app (goodIn_of _ (by decide +kernel)) ggX10_breakOff_X10_inState
theorem dX10_breakOff_0 : decode cX10_breakOff 0 = .ok (.aload_n 0, 1) := by decide +kernel
theorem dX10_breakOff_1 : decode cX10_breakOff 1 = .ok (.iload_n 1, 1) := by decide +kernel
theorem dX10_breakOff_2 : decode cX10_breakOff 2 = .ok (.invokevirtual 97, 3) := by decide +kernel
theorem dX10_breakOff_5 : decode cX10_breakOff 5 = .ok (.ifCond .ne 5, 3) := by decide +kernel
theorem dX10_breakOff_8 : decode cX10_breakOff 8 = .ok (.iconst (-1), 1) := by decide +kernel
theorem dX10_breakOff_9 : decode cX10_breakOff 9 = .ok (.ireturn, 1) := by decide +kernel
theorem dX10_breakOff_10 : decode cX10_breakOff 10 = .ok (.aload_n 0, 1) := by decide +kernel
theorem dX10_breakOff_11 : decode cX10_breakOff 11 = .ok (.getfield 7, 3) := by decide +kernel
theorem dX10_breakOff_14 : decode cX10_breakOff 14 = .ok (.sipush 132, 3) := by decide +kernel
theorem dX10_breakOff_17 : decode cX10_breakOff 17 = .ok (.iload_n 1, 1) := by decide +kernel
theorem dX10_breakOff_18 : decode cX10_breakOff 18 = .ok (.iadd, 1) := by decide +kernel
theorem dX10_breakOff_19 : decode cX10_breakOff 19 = .ok (.iaload, 1) := by decide +kernel
theorem dX10_breakOff_20 : decode cX10_breakOff 20 = .ok (.iconst 1, 1) := by decide +kernel
theorem dX10_breakOff_21 : decode cX10_breakOff 21 = .ok (.if_icmp .le 6, 3) := by decide +kernel
theorem dX10_breakOff_24 : decode cX10_breakOff 24 = .ok (.bipush (-2), 2) := by decide +kernel
theorem dX10_breakOff_26 : decode cX10_breakOff 26 = .ok (.ireturn, 1) := by decide +kernel
theorem dX10_breakOff_27 : decode cX10_breakOff 27 = .ok (.aload_n 0, 1) := by decide +kernel
theorem dX10_breakOff_28 : decode cX10_breakOff 28 = .ok (.invokevirtual 54, 3) := by decide +kernel
theorem dX10_breakOff_31 : decode cX10_breakOff 31 = .ok (.aload_n 0, 1) := by decide +kernel
theorem dX10_breakOff_32 : decode cX10_breakOff 32 = .ok (.getfield 7, 3) := by decide +kernel
theorem dX10_breakOff_35 : decode cX10_breakOff 35 = .ok (.sipush 132, 3) := by decide +kernel
theorem dX10_breakOff_38 : decode cX10_breakOff 38 = .ok (.iload_n 1, 1) := by decide +kernel
theorem dX10_breakOff_39 : decode cX10_breakOff 39 = .ok (.iadd, 1) := by decide +kernel
theorem dX10_breakOff_40 : decode cX10_breakOff 40 = .ok (.iconst 3, 1) := by decide +kernel
theorem dX10_breakOff_41 : decode cX10_breakOff 41 = .ok (.iastore, 1) := by decide +kernel
theorem dX10_breakOff_42 : decode cX10_breakOff 42 = .ok (.aload_n 0, 1) := by decide +kernel
theorem dX10_breakOff_43 : decode cX10_breakOff 43 = .ok (.iconst 3, 1) := by decide +kernel
theorem dX10_breakOff_44 : decode cX10_breakOff 44 = .ok (.invokevirtual 90, 3) := by decide +kernel
theorem dX10_breakOff_47 : decode cX10_breakOff 47 = .ok (.ireturn, 1) := by decide +kernel
set_option maxRecDepth 20000 in
theorem ggX10_move_X10_isPromise : GoodIn wsX10_move wsX10_isPromise := goodIn_r _ [6, 1, 30, 31, 32, 33, 34, 35, 36, 37, 38, 39, 40, 41, 42, 43, 44, 45] (by decide +kernel) (by decide +kernel)
set_option maxRecDepth 20000 in
theorem gX10_move_X10_isPromise : GoodIn wsX10_move (wsV RX10 97 RX10 yX10_isPromise wsX10_isPromise) := goodIn_app (goodIn_of _ (by decide +kernel)) ggX10_move_X10_isPromise
set_option maxRecDepth 20000 in
theorem ggX10_move_X10_record : GoodIn wsX10_move wsX10_record := goodIn_r _ [10, 11, 12, 13, 14, 5, 15, 16, 17, 18, 19, 1, 20, 21, 30, 31, 32, 33, 34, 35, 36, 37, 38, 39, 40, 41, 42, 43, 44, 45] (by decide +kernel) (by decide +kernel)
set_option maxRecDepth 20000 in
theorem gX10_move_X10_record : GoodIn wsX10_move (wsV RX10 54 RX10 yX10_record wsX10_record) := goodIn_app (goodIn_of _ (by decide +kernel)) ggX10_move_X10_record
set_option maxRecDepth 20000 in
theorem ggX10_move_X10_standByDistance : GoodIn wsX10_move wsX10_standByDistance := goodIn_r _ [25, 1, 26, 27, 28, 5, 29, 30, 31, 32, 33, 34, 35, 36, 37, 38, 39, 40, 41, 42, 43, 44, 45] (by decide +kernel) (by decide +kernel)
set_option maxRecDepth 20000 in
theorem gX10_move_X10_standByDistance : GoodIn wsX10_move (wsV RX10 72 RX10 yX10_standByDistance wsX10_standByDistance) := goodIn_app (goodIn_of _ (by decide +kernel)) ggX10_move_X10_standByDistance
theorem dX10_move_0 : decode cX10_move 0 = .ok (.aload_n 0, 1) := by decide +kernel
theorem dX10_move_1 : decode cX10_move 1 = .ok (.iload_n 1, 1) := by decide +kernel
theorem dX10_move_2 : decode cX10_move 2 = .ok (.invokevirtual 97, 3) := by decide +kernel
theorem dX10_move_5 : decode cX10_move 5 = .ok (.ifCond .eq 15, 3) := by decide +kernel
theorem dX10_move_8 : decode cX10_move 8 = .ok (.iload_n 2, 1) := by decide +kernel
theorem dX10_move_9 : decode cX10_move 9 = .ok (.iconst 1, 1) := by decide +kernel
theorem dX10_move_10 : decode cX10_move 10 = .ok (.if_icmp .lt 10, 3) := by decide +kernel
theorem dX10_move_13 : decode cX10_move 13 = .ok (.iload_n 2, 1) := by decide +kernel
theorem dX10_move_14 : decode cX10_move 14 = .ok (.sipush 511, 3) := by decide +kernel
theorem dX10_move_17 : decode cX10_move 17 = .ok (.if_icmp .le 5, 3) := by decide +kernel
theorem dX10_move_20 : decode cX10_move 20 = .ok (.iconst (-1), 1) := by decide +kernel
theorem dX10_move_21 : decode cX10_move 21 = .ok (.ireturn, 1) := by decide +kernel
theorem dX10_move_22 : decode cX10_move 22 = .ok (.aload_n 0, 1) := by decide +kernel
theorem dX10_move_23 : decode cX10_move 23 = .ok (.getfield 7, 3) := by decide +kernel
theorem dX10_move_26 : decode cX10_move 26 = .ok (.sipush 132, 3) := by decide +kernel
theorem dX10_move_29 : decode cX10_move 29 = .ok (.iload_n 1, 1) := by decide +kernel
theorem dX10_move_30 : decode cX10_move 30 = .ok (.iadd, 1) := by decide +kernel
theorem dX10_move_31 : decode cX10_move 31 = .ok (.iaload, 1) := by decide +kernel
theorem dX10_move_32 : decode cX10_move 32 = .ok (.ifCond .eq 6, 3) := by decide +kernel
theorem dX10_move_35 : decode cX10_move 35 = .ok (.bipush (-2), 2) := by decide +kernel
theorem dX10_move_37 : decode cX10_move 37 = .ok (.ireturn, 1) := by decide +kernel
theorem dX10_move_38 : decode cX10_move 38 = .ok (.aload_n 0, 1) := by decide +kernel
theorem dX10_move_39 : decode cX10_move 39 = .ok (.invokevirtual 54, 3) := by decide +kernel
theorem dX10_move_42 : decode cX10_move 42 = .ok (.aload_n 0, 1) := by decide +kernel
theorem dX10_move_43 : decode cX10_move 43 = .ok (.getfield 7, 3) := by decide +kernel
theorem dX10_move_46 : decode cX10_move 46 = .ok (.bipush 12, 2) := by decide +kernel
theorem dX10_move_48 : decode cX10_move 48 = .ok (.iload_n 1, 1) := by decide +kernel
theorem dX10_move_49 : decode cX10_move 49 = .ok (.iadd, 1) := by decide +kernel
theorem dX10_move_50 : decode cX10_move 50 = .ok (.iaload, 1) := by decide +kernel
theorem dX10_move_51 : decode cX10_move 51 = .ok (.istore_n 3, 1) := by decide +kernel
theorem dX10_move_52 : decode cX10_move 52 = .ok (.aload_n 0, 1) := by decide +kernel
theorem dX10_move_53 : decode cX10_move 53 = .ok (.getfield 7, 3) := by decide +kernel
theorem dX10_move_56 : decode cX10_move 56 = .ok (.bipush 12, 2) := by decide +kernel
theorem dX10_move_58 : decode cX10_move 58 = .ok (.iload_n 1, 1) := by decide +kernel
theorem dX10_move_59 : decode cX10_move 59 = .ok (.iadd, 1) := by decide +kernel
theorem dX10_move_60 : decode cX10_move 60 = .ok (.aload_n 0, 1) := by decide +kernel
theorem dX10_move_61 : decode cX10_move 61 = .ok (.getfield 7, 3) := by decide +kernel
theorem dX10_move_64 : decode cX10_move 64 = .ok (.iconst 0, 1) := by decide +kernel
theorem dX10_move_65 : decode cX10_move 65 = .ok (.iaload, 1) := by decide +kernel
theorem dX10_move_66 : decode cX10_move 66 = .ok (.iload_n 2, 1) := by decide +kernel
theorem dX10_move_67 : decode cX10_move 67 = .ok (.iadd, 1) := by decide +kernel
theorem dX10_move_68 : decode cX10_move 68 = .ok (.iastore, 1) := by decide +kernel
theorem dX10_move_69 : decode cX10_move 69 = .ok (.aload_n 0, 1) := by decide +kernel
theorem dX10_move_70 : decode cX10_move 70 = .ok (.iload_n 1, 1) := by decide +kernel
theorem dX10_move_71 : decode cX10_move 71 = .ok (.invokevirtual 72, 3) := by decide +kernel
theorem dX10_move_74 : decode cX10_move 74 = .ok (.iload_n 3, 1) := by decide +kernel
theorem dX10_move_75 : decode cX10_move 75 = .ok (.ireturn, 1) := by decide +kernel
set_option maxRecDepth 20000 in
theorem ggX10_pass_X10_record : GoodIn wsX10_pass wsX10_record := goodIn_r _ [6, 7, 8, 9, 10, 5, 11, 12, 13, 14, 15, 1, 16, 17, 70, 71, 72, 73, 74, 75, 76, 77, 78, 79, 80, 81, 82, 83, 84, 85] (by decide +kernel) (by decide +kernel)
set_option maxRecDepth 20000 in
theorem gX10_pass_X10_record : GoodIn wsX10_pass (wsV RX10 54 RX10 yX10_record wsX10_record) := goodIn_app (goodIn_of _ (by decide +kernel)) ggX10_pass_X10_record
set_option maxRecDepth 20000 in
theorem ggX10_pass_X10_tick : GoodIn wsX10_pass wsX10_tick := goodIn_r _ [21, 1, 22, 23, 24, 5, 25, 26, 27, 28, 29, 30, 31, 32, 33, 34, 35, 36, 37, 38, 39, 40, 41, 42, 43, 44, 45, 46, 47, 48, 49, 50, 51, 52, 53, 54, 55, 56, 57, 58, 59, 60, 61, 62, 63, 64, 65, 66, 67, 68, 69, 70, 71, 72, 73, 74, 75, 76, 77, 78, 79, 80, 81, 82, 83, 84, 85] (by decide +kernel) (by decide +kernel)
set_option maxRecDepth 20000 in
theorem gX10_pass_X10_tick : GoodIn wsX10_pass (wsV RX10 101 RX10 yX10_tick wsX10_tick) := goodIn_app (goodIn_of _ (by decide +kernel)) ggX10_pass_X10_tick
theorem dX10_pass_0 : decode cX10_pass 0 = .ok (.iload_n 1, 1) := by decide +kernel
theorem dX10_pass_1 : decode cX10_pass 1 = .ok (.iconst 1, 1) := by decide +kernel
theorem dX10_pass_2 : decode cX10_pass 2 = .ok (.if_icmp .lt 10, 3) := by decide +kernel
theorem dX10_pass_5 : decode cX10_pass 5 = .ok (.iload_n 1, 1) := by decide +kernel
theorem dX10_pass_6 : decode cX10_pass 6 = .ok (.sipush 600, 3) := by decide +kernel
theorem dX10_pass_9 : decode cX10_pass 9 = .ok (.if_icmp .le 5, 3) := by decide +kernel
theorem dX10_pass_12 : decode cX10_pass 12 = .ok (.iconst (-1), 1) := by decide +kernel
theorem dX10_pass_13 : decode cX10_pass 13 = .ok (.ireturn, 1) := by decide +kernel
theorem dX10_pass_14 : decode cX10_pass 14 = .ok (.aload_n 0, 1) := by decide +kernel
theorem dX10_pass_15 : decode cX10_pass 15 = .ok (.getfield 7, 3) := by decide +kernel
theorem dX10_pass_18 : decode cX10_pass 18 = .ok (.iconst 0, 1) := by decide +kernel
theorem dX10_pass_19 : decode cX10_pass 19 = .ok (.iaload, 1) := by decide +kernel
theorem dX10_pass_20 : decode cX10_pass 20 = .ok (.iload_n 1, 1) := by decide +kernel
theorem dX10_pass_21 : decode cX10_pass 21 = .ok (.iadd, 1) := by decide +kernel
theorem dX10_pass_22 : decode cX10_pass 22 = .ok (.sipush 20000, 3) := by decide +kernel
theorem dX10_pass_25 : decode cX10_pass 25 = .ok (.if_icmp .le 6, 3) := by decide +kernel
theorem dX10_pass_28 : decode cX10_pass 28 = .ok (.bipush (-3), 2) := by decide +kernel
theorem dX10_pass_30 : decode cX10_pass 30 = .ok (.ireturn, 1) := by decide +kernel
theorem dX10_pass_31 : decode cX10_pass 31 = .ok (.aload_n 0, 1) := by decide +kernel
theorem dX10_pass_32 : decode cX10_pass 32 = .ok (.invokevirtual 54, 3) := by decide +kernel
theorem dX10_pass_35 : decode cX10_pass 35 = .ok (.aload_n 0, 1) := by decide +kernel
theorem dX10_pass_36 : decode cX10_pass 36 = .ok (.getfield 7, 3) := by decide +kernel
theorem dX10_pass_39 : decode cX10_pass 39 = .ok (.iconst 5, 1) := by decide +kernel
theorem dX10_pass_40 : decode cX10_pass 40 = .ok (.iaload, 1) := by decide +kernel
theorem dX10_pass_41 : decode cX10_pass 41 = .ok (.istore_n 2, 1) := by decide +kernel
theorem dX10_pass_42 : decode cX10_pass 42 = .ok (.iconst 0, 1) := by decide +kernel
theorem dX10_pass_43 : decode cX10_pass 43 = .ok (.istore_n 3, 1) := by decide +kernel
theorem dX10_pass_44 : decode cX10_pass 44 = .ok (.iload_n 3, 1) := by decide +kernel
theorem dX10_pass_45 : decode cX10_pass 45 = .ok (.iload_n 1, 1) := by decide +kernel
theorem dX10_pass_46 : decode cX10_pass 46 = .ok (.if_icmp .ge 13, 3) := by decide +kernel
theorem dX10_pass_49 : decode cX10_pass 49 = .ok (.aload_n 0, 1) := by decide +kernel
theorem dX10_pass_50 : decode cX10_pass 50 = .ok (.invokevirtual 101, 3) := by decide +kernel
theorem dX10_pass_53 : decode cX10_pass 53 = .ok (.iinc 3 1, 3) := by decide +kernel
theorem dX10_pass_56 : decode cX10_pass 56 = .ok (.goto (-12), 3) := by decide +kernel
theorem dX10_pass_59 : decode cX10_pass 59 = .ok (.aload_n 0, 1) := by decide +kernel
theorem dX10_pass_60 : decode cX10_pass 60 = .ok (.getfield 7, 3) := by decide +kernel
theorem dX10_pass_63 : decode cX10_pass 63 = .ok (.iconst 5, 1) := by decide +kernel
theorem dX10_pass_64 : decode cX10_pass 64 = .ok (.iaload, 1) := by decide +kernel
theorem dX10_pass_65 : decode cX10_pass 65 = .ok (.iload_n 2, 1) := by decide +kernel
theorem dX10_pass_66 : decode cX10_pass 66 = .ok (.isub, 1) := by decide +kernel
theorem dX10_pass_67 : decode cX10_pass 67 = .ok (.ireturn, 1) := by decide +kernel
set_option maxRecDepth 20000 in
theorem ggX10_sweep_X10_record : GoodIn wsX10_sweep wsX10_record := goodIn_r _ [5, 6, 7, 8, 9, 4, 10, 11, 12, 13, 14, 15, 16, 17, 26, 27, 28, 29, 30, 31, 32, 33, 34, 35, 36, 37, 38, 39, 40, 41] (by decide +kernel) (by decide +kernel)
set_option maxRecDepth 20000 in
theorem gX10_sweep_X10_record : GoodIn wsX10_sweep (wsV RX10 54 RX10 yX10_record wsX10_record) := goodIn_app (goodIn_of _ (by decide +kernel)) ggX10_sweep_X10_record
set_option maxRecDepth 20000 in
theorem ggX10_sweep_X10_sweepAll : GoodIn wsX10_sweep wsX10_sweepAll := goodIn_r _ [21, 15, 22, 23, 24, 4, 25, 26, 27, 28, 29, 30, 31, 32, 33, 34, 35, 36, 37, 38, 39, 40, 41] (by decide +kernel) (by decide +kernel)
set_option maxRecDepth 20000 in
theorem gX10_sweep_X10_sweepAll : GoodIn wsX10_sweep (wsV RX10 93 RX10 yX10_sweepAll wsX10_sweepAll) := goodIn_app (goodIn_of _ (by decide +kernel)) ggX10_sweep_X10_sweepAll
theorem dX10_sweep_0 : decode cX10_sweep 0 = .ok (.aload_n 0, 1) := by decide +kernel
theorem dX10_sweep_1 : decode cX10_sweep 1 = .ok (.invokevirtual 54, 3) := by decide +kernel
theorem dX10_sweep_4 : decode cX10_sweep 4 = .ok (.aload_n 0, 1) := by decide +kernel
theorem dX10_sweep_5 : decode cX10_sweep 5 = .ok (.invokevirtual 93, 3) := by decide +kernel
theorem dX10_sweep_8 : decode cX10_sweep 8 = .ok (.ireturn, 1) := by decide +kernel
set_option maxRecDepth 20000 in
theorem ggX10_set_X10_record : GoodIn wsX10_set wsX10_record := goodIn_r _ [6, 7, 8, 9, 10, 5, 11, 12, 13, 14, 15, 1, 16, 17, 18, 19, 20, 21, 22, 23, 24, 25, 26, 27, 28, 29, 30, 31, 32, 33] (by decide +kernel) (by decide +kernel)
set_option maxRecDepth 20000 in
theorem gX10_set_X10_record : GoodIn wsX10_set (wsV RX10 54 RX10 yX10_record wsX10_record) := goodIn_app (goodIn_of _ (by decide +kernel)) ggX10_set_X10_record
theorem dX10_set_0 : decode cX10_set 0 = .ok (.iload_n 1, 1) := by decide +kernel
theorem dX10_set_1 : decode cX10_set 1 = .ok (.ifCond .lt 8, 3) := by decide +kernel
theorem dX10_set_4 : decode cX10_set 4 = .ok (.iload_n 1, 1) := by decide +kernel
theorem dX10_set_5 : decode cX10_set 5 = .ok (.iconst 2, 1) := by decide +kernel
theorem dX10_set_6 : decode cX10_set 6 = .ok (.if_icmp .le 5, 3) := by decide +kernel
theorem dX10_set_9 : decode cX10_set 9 = .ok (.iconst (-1), 1) := by decide +kernel
theorem dX10_set_10 : decode cX10_set 10 = .ok (.ireturn, 1) := by decide +kernel
theorem dX10_set_11 : decode cX10_set 11 = .ok (.iload_n 1, 1) := by decide +kernel
theorem dX10_set_12 : decode cX10_set 12 = .ok (.ifCond .ne 7, 3) := by decide +kernel
theorem dX10_set_15 : decode cX10_set 15 = .ok (.iconst 1, 1) := by decide +kernel
theorem dX10_set_16 : decode cX10_set 16 = .ok (.goto 4, 3) := by decide +kernel
theorem dX10_set_19 : decode cX10_set 19 = .ok (.iconst 0, 1) := by decide +kernel
theorem dX10_set_20 : decode cX10_set 20 = .ok (.istore_n 3, 1) := by decide +kernel
theorem dX10_set_21 : decode cX10_set 21 = .ok (.iload_n 1, 1) := by decide +kernel
theorem dX10_set_22 : decode cX10_set 22 = .ok (.ifCond .ne 8, 3) := by decide +kernel
theorem dX10_set_25 : decode cX10_set 25 = .ok (.bipush 20, 2) := by decide +kernel
theorem dX10_set_27 : decode cX10_set 27 = .ok (.goto 14, 3) := by decide +kernel
theorem dX10_set_30 : decode cX10_set 30 = .ok (.iload_n 1, 1) := by decide +kernel
theorem dX10_set_31 : decode cX10_set 31 = .ok (.iconst 1, 1) := by decide +kernel
theorem dX10_set_32 : decode cX10_set 32 = .ok (.if_icmp .ne 8, 3) := by decide +kernel
theorem dX10_set_35 : decode cX10_set 35 = .ok (.bipush 40, 2) := by decide +kernel
theorem dX10_set_37 : decode cX10_set 37 = .ok (.goto 4, 3) := by decide +kernel
theorem dX10_set_40 : decode cX10_set 40 = .ok (.iconst 1, 1) := by decide +kernel
theorem dX10_set_41 : decode cX10_set 41 = .ok (.istore 4, 2) := by decide +kernel
theorem dX10_set_43 : decode cX10_set 43 = .ok (.iload_n 2, 1) := by decide +kernel
theorem dX10_set_44 : decode cX10_set 44 = .ok (.iload_n 3, 1) := by decide +kernel
theorem dX10_set_45 : decode cX10_set 45 = .ok (.if_icmp .lt 9, 3) := by decide +kernel
theorem dX10_set_48 : decode cX10_set 48 = .ok (.iload_n 2, 1) := by decide +kernel
theorem dX10_set_49 : decode cX10_set 49 = .ok (.iload 4, 2) := by decide +kernel
theorem dX10_set_51 : decode cX10_set 51 = .ok (.if_icmp .le 5, 3) := by decide +kernel
theorem dX10_set_54 : decode cX10_set 54 = .ok (.iconst (-1), 1) := by decide +kernel
theorem dX10_set_55 : decode cX10_set 55 = .ok (.ireturn, 1) := by decide +kernel
theorem dX10_set_56 : decode cX10_set 56 = .ok (.aload_n 0, 1) := by decide +kernel
theorem dX10_set_57 : decode cX10_set 57 = .ok (.invokevirtual 54, 3) := by decide +kernel
theorem dX10_set_60 : decode cX10_set 60 = .ok (.aload_n 0, 1) := by decide +kernel
theorem dX10_set_61 : decode cX10_set 61 = .ok (.getfield 7, 3) := by decide +kernel
theorem dX10_set_64 : decode cX10_set 64 = .ok (.iconst 2, 1) := by decide +kernel
theorem dX10_set_65 : decode cX10_set 65 = .ok (.iload_n 1, 1) := by decide +kernel
theorem dX10_set_66 : decode cX10_set 66 = .ok (.iadd, 1) := by decide +kernel
theorem dX10_set_67 : decode cX10_set 67 = .ok (.iaload, 1) := by decide +kernel
theorem dX10_set_68 : decode cX10_set 68 = .ok (.istore 5, 2) := by decide +kernel
theorem dX10_set_70 : decode cX10_set 70 = .ok (.aload_n 0, 1) := by decide +kernel
theorem dX10_set_71 : decode cX10_set 71 = .ok (.getfield 7, 3) := by decide +kernel
theorem dX10_set_74 : decode cX10_set 74 = .ok (.iconst 2, 1) := by decide +kernel
theorem dX10_set_75 : decode cX10_set 75 = .ok (.iload_n 1, 1) := by decide +kernel
theorem dX10_set_76 : decode cX10_set 76 = .ok (.iadd, 1) := by decide +kernel
theorem dX10_set_77 : decode cX10_set 77 = .ok (.iload_n 2, 1) := by decide +kernel
theorem dX10_set_78 : decode cX10_set 78 = .ok (.iastore, 1) := by decide +kernel
theorem dX10_set_79 : decode cX10_set 79 = .ok (.iload 5, 2) := by decide +kernel
theorem dX10_set_81 : decode cX10_set 81 = .ok (.ireturn, 1) := by decide +kernel
theorem dX10_append_0 : decode cX10_append 0 = .ok (.iload_n 1, 1) := by decide +kernel
theorem dX10_append_1 : decode cX10_append 1 = .ok (.iconst 1, 1) := by decide +kernel
theorem dX10_append_2 : decode cX10_append 2 = .ok (.if_icmp .lt 10, 3) := by decide +kernel
theorem dX10_append_5 : decode cX10_append 5 = .ok (.iload_n 1, 1) := by decide +kernel
theorem dX10_append_6 : decode cX10_append 6 = .ok (.sipush 255, 3) := by decide +kernel
theorem dX10_append_9 : decode cX10_append 9 = .ok (.if_icmp .le 5, 3) := by decide +kernel
theorem dX10_append_12 : decode cX10_append 12 = .ok (.iconst (-1), 1) := by decide +kernel
theorem dX10_append_13 : decode cX10_append 13 = .ok (.ireturn, 1) := by decide +kernel
theorem dX10_append_14 : decode cX10_append 14 = .ok (.aload_n 0, 1) := by decide +kernel
theorem dX10_append_15 : decode cX10_append 15 = .ok (.getfield 104, 3) := by decide +kernel
theorem dX10_append_18 : decode cX10_append 18 = .ok (.bipush 120, 2) := by decide +kernel
theorem dX10_append_20 : decode cX10_append 20 = .ok (.if_icmp .ne 6, 3) := by decide +kernel
theorem dX10_append_23 : decode cX10_append 23 = .ok (.bipush (-3), 2) := by decide +kernel
theorem dX10_append_25 : decode cX10_append 25 = .ok (.ireturn, 1) := by decide +kernel
theorem dX10_append_26 : decode cX10_append 26 = .ok (.aload_n 0, 1) := by decide +kernel
theorem dX10_append_27 : decode cX10_append 27 = .ok (.getfield 32, 3) := by decide +kernel
theorem dX10_append_30 : decode cX10_append 30 = .ok (.aload_n 0, 1) := by decide +kernel
theorem dX10_append_31 : decode cX10_append 31 = .ok (.getfield 104, 3) := by decide +kernel
theorem dX10_append_34 : decode cX10_append 34 = .ok (.iload_n 1, 1) := by decide +kernel
theorem dX10_append_35 : decode cX10_append 35 = .ok (.i2c, 1) := by decide +kernel
theorem dX10_append_36 : decode cX10_append 36 = .ok (.castore, 1) := by decide +kernel
theorem dX10_append_37 : decode cX10_append 37 = .ok (.aload_n 0, 1) := by decide +kernel
theorem dX10_append_38 : decode cX10_append 38 = .ok (.dup, 1) := by decide +kernel
theorem dX10_append_39 : decode cX10_append 39 = .ok (.getfield 104, 3) := by decide +kernel
theorem dX10_append_42 : decode cX10_append 42 = .ok (.iconst 1, 1) := by decide +kernel
theorem dX10_append_43 : decode cX10_append 43 = .ok (.iadd, 1) := by decide +kernel
theorem dX10_append_44 : decode cX10_append 44 = .ok (.putfield 104, 3) := by decide +kernel
theorem dX10_append_47 : decode cX10_append 47 = .ok (.aload_n 0, 1) := by decide +kernel
theorem dX10_append_48 : decode cX10_append 48 = .ok (.getfield 104, 3) := by decide +kernel
theorem dX10_append_51 : decode cX10_append 51 = .ok (.ireturn, 1) := by decide +kernel
theorem dX10_clearText_0 : decode cX10_clearText 0 = .ok (.aload_n 0, 1) := by decide +kernel
theorem dX10_clearText_1 : decode cX10_clearText 1 = .ok (.getfield 104, 3) := by decide +kernel
theorem dX10_clearText_4 : decode cX10_clearText 4 = .ok (.istore_n 1, 1) := by decide +kernel
theorem dX10_clearText_5 : decode cX10_clearText 5 = .ok (.aload_n 0, 1) := by decide +kernel
theorem dX10_clearText_6 : decode cX10_clearText 6 = .ok (.iconst 0, 1) := by decide +kernel
theorem dX10_clearText_7 : decode cX10_clearText 7 = .ok (.putfield 104, 3) := by decide +kernel
theorem dX10_clearText_10 : decode cX10_clearText 10 = .ok (.iload_n 1, 1) := by decide +kernel
theorem dX10_clearText_11 : decode cX10_clearText 11 = .ok (.ireturn, 1) := by decide +kernel
theorem dX10_isSmall_0 : decode cX10_isSmall 0 = .ok (.iload_n 1, 1) := by decide +kernel
theorem dX10_isSmall_1 : decode cX10_isSmall 1 = .ok (.aload_n 0, 1) := by decide +kernel
theorem dX10_isSmall_2 : decode cX10_isSmall 2 = .ok (.getfield 104, 3) := by decide +kernel
theorem dX10_isSmall_5 : decode cX10_isSmall 5 = .ok (.if_icmp .ge 29, 3) := by decide +kernel
theorem dX10_isSmall_8 : decode cX10_isSmall 8 = .ok (.aload_n 0, 1) := by decide +kernel
theorem dX10_isSmall_9 : decode cX10_isSmall 9 = .ok (.getfield 32, 3) := by decide +kernel
theorem dX10_isSmall_12 : decode cX10_isSmall 12 = .ok (.iload_n 1, 1) := by decide +kernel
theorem dX10_isSmall_13 : decode cX10_isSmall 13 = .ok (.caload, 1) := by decide +kernel
theorem dX10_isSmall_14 : decode cX10_isSmall 14 = .ok (.bipush 97, 2) := by decide +kernel
theorem dX10_isSmall_16 : decode cX10_isSmall 16 = .ok (.if_icmp .lt 18, 3) := by decide +kernel
theorem dX10_isSmall_19 : decode cX10_isSmall 19 = .ok (.aload_n 0, 1) := by decide +kernel
theorem dX10_isSmall_20 : decode cX10_isSmall 20 = .ok (.getfield 32, 3) := by decide +kernel
theorem dX10_isSmall_23 : decode cX10_isSmall 23 = .ok (.iload_n 1, 1) := by decide +kernel
theorem dX10_isSmall_24 : decode cX10_isSmall 24 = .ok (.caload, 1) := by decide +kernel
theorem dX10_isSmall_25 : decode cX10_isSmall 25 = .ok (.bipush 122, 2) := by decide +kernel
theorem dX10_isSmall_27 : decode cX10_isSmall 27 = .ok (.if_icmp .gt 7, 3) := by decide +kernel
theorem dX10_isSmall_30 : decode cX10_isSmall 30 = .ok (.iconst 1, 1) := by decide +kernel
theorem dX10_isSmall_31 : decode cX10_isSmall 31 = .ok (.goto 4, 3) := by decide +kernel
theorem dX10_isSmall_34 : decode cX10_isSmall 34 = .ok (.iconst 0, 1) := by decide +kernel
theorem dX10_isSmall_35 : decode cX10_isSmall 35 = .ok (.ireturn, 1) := by decide +kernel
theorem dX10_isDigit_0 : decode cX10_isDigit 0 = .ok (.iload_n 1, 1) := by decide +kernel
theorem dX10_isDigit_1 : decode cX10_isDigit 1 = .ok (.aload_n 0, 1) := by decide +kernel
theorem dX10_isDigit_2 : decode cX10_isDigit 2 = .ok (.getfield 104, 3) := by decide +kernel
theorem dX10_isDigit_5 : decode cX10_isDigit 5 = .ok (.if_icmp .ge 29, 3) := by decide +kernel
theorem dX10_isDigit_8 : decode cX10_isDigit 8 = .ok (.aload_n 0, 1) := by decide +kernel
theorem dX10_isDigit_9 : decode cX10_isDigit 9 = .ok (.getfield 32, 3) := by decide +kernel
theorem dX10_isDigit_12 : decode cX10_isDigit 12 = .ok (.iload_n 1, 1) := by decide +kernel
theorem dX10_isDigit_13 : decode cX10_isDigit 13 = .ok (.caload, 1) := by decide +kernel
theorem dX10_isDigit_14 : decode cX10_isDigit 14 = .ok (.bipush 48, 2) := by decide +kernel
theorem dX10_isDigit_16 : decode cX10_isDigit 16 = .ok (.if_icmp .lt 18, 3) := by decide +kernel
theorem dX10_isDigit_19 : decode cX10_isDigit 19 = .ok (.aload_n 0, 1) := by decide +kernel
theorem dX10_isDigit_20 : decode cX10_isDigit 20 = .ok (.getfield 32, 3) := by decide +kernel
theorem dX10_isDigit_23 : decode cX10_isDigit 23 = .ok (.iload_n 1, 1) := by decide +kernel
theorem dX10_isDigit_24 : decode cX10_isDigit 24 = .ok (.caload, 1) := by decide +kernel
theorem dX10_isDigit_25 : decode cX10_isDigit 25 = .ok (.bipush 57, 2) := by decide +kernel
theorem dX10_isDigit_27 : decode cX10_isDigit 27 = .ok (.if_icmp .gt 7, 3) := by decide +kernel
theorem dX10_isDigit_30 : decode cX10_isDigit 30 = .ok (.iconst 1, 1) := by decide +kernel
theorem dX10_isDigit_31 : decode cX10_isDigit 31 = .ok (.goto 4, 3) := by decide +kernel
theorem dX10_isDigit_34 : decode cX10_isDigit 34 = .ok (.iconst 0, 1) := by decide +kernel
theorem dX10_isDigit_35 : decode cX10_isDigit 35 = .ok (.ireturn, 1) := by decide +kernel
set_option maxRecDepth 20000 in
theorem ggX10_readToken_X10_isSmall : GoodIn wsX10_readToken wsX10_isSmall := goodIn_r _ [9, 3, 4, 14, 15, 16, 17, 18, 19, 20, 21, 22, 23, 24, 25, 26, 27, 28, 29] (by decide +kernel) (by decide +kernel)
set_option maxRecDepth 20000 in
theorem gX10_readToken_X10_isSmall : GoodIn wsX10_readToken (wsV RX10 113 RX10 yX10_isSmall wsX10_isSmall) := goodIn_app (goodIn_of _ (by decide +kernel)) ggX10_readToken_X10_isSmall
set_option maxRecDepth 20000 in
theorem ggX10_readToken_X10_isDigit : GoodIn wsX10_readToken wsX10_isDigit := goodIn_r _ [13, 3, 4, 14, 15, 16, 17, 18, 19, 20, 21, 22, 23, 24, 25, 26, 27, 28, 29] (by decide +kernel) (by decide +kernel)
set_option maxRecDepth 20000 in
theorem gX10_readToken_X10_isDigit : GoodIn wsX10_readToken (wsV RX10 116 RX10 yX10_isDigit wsX10_isDigit) := goodIn_app (goodIn_of _ (by decide +kernel)) ggX10_readToken_X10_isDigit
theorem dX10_readToken_0 : decode cX10_readToken 0 = .ok (.aload_n 0, 1) := by decide +kernel
theorem dX10_readToken_1 : decode cX10_readToken 1 = .ok (.aload_n 0, 1) := by decide +kernel
theorem dX10_readToken_2 : decode cX10_readToken 2 = .ok (.getfield 107, 3) := by decide +kernel
theorem dX10_readToken_5 : decode cX10_readToken 5 = .ok (.putfield 110, 3) := by decide +kernel
theorem dX10_readToken_8 : decode cX10_readToken 8 = .ok (.aload_n 0, 1) := by decide +kernel
theorem dX10_readToken_9 : decode cX10_readToken 9 = .ok (.getfield 110, 3) := by decide +kernel
theorem dX10_readToken_12 : decode cX10_readToken 12 = .ok (.aload_n 0, 1) := by decide +kernel
theorem dX10_readToken_13 : decode cX10_readToken 13 = .ok (.getfield 104, 3) := by decide +kernel
theorem dX10_readToken_16 : decode cX10_readToken 16 = .ok (.if_icmp .ge 30, 3) := by decide +kernel
theorem dX10_readToken_19 : decode cX10_readToken 19 = .ok (.aload_n 0, 1) := by decide +kernel
theorem dX10_readToken_20 : decode cX10_readToken 20 = .ok (.getfield 32, 3) := by decide +kernel
theorem dX10_readToken_23 : decode cX10_readToken 23 = .ok (.aload_n 0, 1) := by decide +kernel
theorem dX10_readToken_24 : decode cX10_readToken 24 = .ok (.getfield 110, 3) := by decide +kernel
theorem dX10_readToken_27 : decode cX10_readToken 27 = .ok (.caload, 1) := by decide +kernel
theorem dX10_readToken_28 : decode cX10_readToken 28 = .ok (.bipush 32, 2) := by decide +kernel
theorem dX10_readToken_30 : decode cX10_readToken 30 = .ok (.if_icmp .ne 16, 3) := by decide +kernel
theorem dX10_readToken_33 : decode cX10_readToken 33 = .ok (.aload_n 0, 1) := by decide +kernel
theorem dX10_readToken_34 : decode cX10_readToken 34 = .ok (.dup, 1) := by decide +kernel
theorem dX10_readToken_35 : decode cX10_readToken 35 = .ok (.getfield 110, 3) := by decide +kernel
theorem dX10_readToken_38 : decode cX10_readToken 38 = .ok (.iconst 1, 1) := by decide +kernel
theorem dX10_readToken_39 : decode cX10_readToken 39 = .ok (.iadd, 1) := by decide +kernel
theorem dX10_readToken_40 : decode cX10_readToken 40 = .ok (.putfield 110, 3) := by decide +kernel
theorem dX10_readToken_43 : decode cX10_readToken 43 = .ok (.goto (-35), 3) := by decide +kernel
theorem dX10_readToken_46 : decode cX10_readToken 46 = .ok (.aload_n 0, 1) := by decide +kernel
theorem dX10_readToken_47 : decode cX10_readToken 47 = .ok (.aload_n 0, 1) := by decide +kernel
theorem dX10_readToken_48 : decode cX10_readToken 48 = .ok (.getfield 110, 3) := by decide +kernel
theorem dX10_readToken_51 : decode cX10_readToken 51 = .ok (.putfield 107, 3) := by decide +kernel
theorem dX10_readToken_54 : decode cX10_readToken 54 = .ok (.aload_n 0, 1) := by decide +kernel
theorem dX10_readToken_55 : decode cX10_readToken 55 = .ok (.aload_n 0, 1) := by decide +kernel
theorem dX10_readToken_56 : decode cX10_readToken 56 = .ok (.getfield 110, 3) := by decide +kernel
theorem dX10_readToken_59 : decode cX10_readToken 59 = .ok (.invokevirtual 113, 3) := by decide +kernel
theorem dX10_readToken_62 : decode cX10_readToken 62 = .ok (.ifCond .eq 27, 3) := by decide +kernel
theorem dX10_readToken_65 : decode cX10_readToken 65 = .ok (.aload_n 0, 1) := by decide +kernel
theorem dX10_readToken_66 : decode cX10_readToken 66 = .ok (.aload_n 0, 1) := by decide +kernel
theorem dX10_readToken_67 : decode cX10_readToken 67 = .ok (.getfield 107, 3) := by decide +kernel
theorem dX10_readToken_70 : decode cX10_readToken 70 = .ok (.invokevirtual 113, 3) := by decide +kernel
theorem dX10_readToken_73 : decode cX10_readToken 73 = .ok (.ifCond .eq 76, 3) := by decide +kernel
theorem dX10_readToken_76 : decode cX10_readToken 76 = .ok (.aload_n 0, 1) := by decide +kernel
theorem dX10_readToken_77 : decode cX10_readToken 77 = .ok (.dup, 1) := by decide +kernel
theorem dX10_readToken_78 : decode cX10_readToken 78 = .ok (.getfield 107, 3) := by decide +kernel
theorem dX10_readToken_81 : decode cX10_readToken 81 = .ok (.iconst 1, 1) := by decide +kernel
theorem dX10_readToken_82 : decode cX10_readToken 82 = .ok (.iadd, 1) := by decide +kernel
theorem dX10_readToken_83 : decode cX10_readToken 83 = .ok (.putfield 107, 3) := by decide +kernel
theorem dX10_readToken_86 : decode cX10_readToken 86 = .ok (.goto (-21), 3) := by decide +kernel
theorem dX10_readToken_89 : decode cX10_readToken 89 = .ok (.aload_n 0, 1) := by decide +kernel
theorem dX10_readToken_90 : decode cX10_readToken 90 = .ok (.aload_n 0, 1) := by decide +kernel
theorem dX10_readToken_91 : decode cX10_readToken 91 = .ok (.getfield 110, 3) := by decide +kernel
theorem dX10_readToken_94 : decode cX10_readToken 94 = .ok (.invokevirtual 116, 3) := by decide +kernel
theorem dX10_readToken_97 : decode cX10_readToken 97 = .ok (.ifCond .eq 27, 3) := by decide +kernel
theorem dX10_readToken_100 : decode cX10_readToken 100 = .ok (.aload_n 0, 1) := by decide +kernel
theorem dX10_readToken_101 : decode cX10_readToken 101 = .ok (.aload_n 0, 1) := by decide +kernel
theorem dX10_readToken_102 : decode cX10_readToken 102 = .ok (.getfield 107, 3) := by decide +kernel
theorem dX10_readToken_105 : decode cX10_readToken 105 = .ok (.invokevirtual 116, 3) := by decide +kernel
theorem dX10_readToken_108 : decode cX10_readToken 108 = .ok (.ifCond .eq 41, 3) := by decide +kernel
theorem dX10_readToken_111 : decode cX10_readToken 111 = .ok (.aload_n 0, 1) := by decide +kernel
theorem dX10_readToken_112 : decode cX10_readToken 112 = .ok (.dup, 1) := by decide +kernel
theorem dX10_readToken_113 : decode cX10_readToken 113 = .ok (.getfield 107, 3) := by decide +kernel
theorem dX10_readToken_116 : decode cX10_readToken 116 = .ok (.iconst 1, 1) := by decide +kernel
theorem dX10_readToken_117 : decode cX10_readToken 117 = .ok (.iadd, 1) := by decide +kernel
theorem dX10_readToken_118 : decode cX10_readToken 118 = .ok (.putfield 107, 3) := by decide +kernel
theorem dX10_readToken_121 : decode cX10_readToken 121 = .ok (.goto (-21), 3) := by decide +kernel
theorem dX10_readToken_124 : decode cX10_readToken 124 = .ok (.aload_n 0, 1) := by decide +kernel
theorem dX10_readToken_125 : decode cX10_readToken 125 = .ok (.dup, 1) := by decide +kernel
theorem dX10_readToken_126 : decode cX10_readToken 126 = .ok (.getfield 107, 3) := by decide +kernel
theorem dX10_readToken_129 : decode cX10_readToken 129 = .ok (.aload_n 0, 1) := by decide +kernel
theorem dX10_readToken_130 : decode cX10_readToken 130 = .ok (.getfield 110, 3) := by decide +kernel
theorem dX10_readToken_133 : decode cX10_readToken 133 = .ok (.aload_n 0, 1) := by decide +kernel
theorem dX10_readToken_134 : decode cX10_readToken 134 = .ok (.getfield 104, 3) := by decide +kernel
theorem dX10_readToken_137 : decode cX10_readToken 137 = .ok (.if_icmp .ge 7, 3) := by decide +kernel
theorem dX10_readToken_140 : decode cX10_readToken 140 = .ok (.iconst 1, 1) := by decide +kernel
theorem dX10_readToken_141 : decode cX10_readToken 141 = .ok (.goto 4, 3) := by decide +kernel
theorem dX10_readToken_144 : decode cX10_readToken 144 = .ok (.iconst 0, 1) := by decide +kernel
theorem dX10_readToken_145 : decode cX10_readToken 145 = .ok (.iadd, 1) := by decide +kernel
theorem dX10_readToken_146 : decode cX10_readToken 146 = .ok (.putfield 107, 3) := by decide +kernel
theorem dX10_readToken_149 : decode cX10_readToken 149 = .ok (.return_, 1) := by decide +kernel
theorem dX10_spells_0 : decode cX10_spells 0 = .ok (.aload_n 0, 1) := by decide +kernel
theorem dX10_spells_1 : decode cX10_spells 1 = .ok (.getfield 32, 3) := by decide +kernel
theorem dX10_spells_4 : decode cX10_spells 4 = .ok (.aload_n 0, 1) := by decide +kernel
theorem dX10_spells_5 : decode cX10_spells 5 = .ok (.getfield 110, 3) := by decide +kernel
theorem dX10_spells_8 : decode cX10_spells 8 = .ok (.iload_n 1, 1) := by decide +kernel
theorem dX10_spells_9 : decode cX10_spells 9 = .ok (.iadd, 1) := by decide +kernel
theorem dX10_spells_10 : decode cX10_spells 10 = .ok (.caload, 1) := by decide +kernel
theorem dX10_spells_11 : decode cX10_spells 11 = .ok (.iload_n 2, 1) := by decide +kernel
theorem dX10_spells_12 : decode cX10_spells 12 = .ok (.if_icmp .ne 24, 3) := by decide +kernel
theorem dX10_spells_15 : decode cX10_spells 15 = .ok (.aload_n 0, 1) := by decide +kernel
theorem dX10_spells_16 : decode cX10_spells 16 = .ok (.getfield 32, 3) := by decide +kernel
theorem dX10_spells_19 : decode cX10_spells 19 = .ok (.aload_n 0, 1) := by decide +kernel
theorem dX10_spells_20 : decode cX10_spells 20 = .ok (.getfield 110, 3) := by decide +kernel
theorem dX10_spells_23 : decode cX10_spells 23 = .ok (.iload_n 1, 1) := by decide +kernel
theorem dX10_spells_24 : decode cX10_spells 24 = .ok (.iadd, 1) := by decide +kernel
theorem dX10_spells_25 : decode cX10_spells 25 = .ok (.iconst 1, 1) := by decide +kernel
theorem dX10_spells_26 : decode cX10_spells 26 = .ok (.iadd, 1) := by decide +kernel
theorem dX10_spells_27 : decode cX10_spells 27 = .ok (.caload, 1) := by decide +kernel
theorem dX10_spells_28 : decode cX10_spells 28 = .ok (.iload_n 3, 1) := by decide +kernel
theorem dX10_spells_29 : decode cX10_spells 29 = .ok (.if_icmp .ne 7, 3) := by decide +kernel
theorem dX10_spells_32 : decode cX10_spells 32 = .ok (.iconst 1, 1) := by decide +kernel
theorem dX10_spells_33 : decode cX10_spells 33 = .ok (.goto 4, 3) := by decide +kernel
theorem dX10_spells_36 : decode cX10_spells 36 = .ok (.iconst 0, 1) := by decide +kernel
theorem dX10_spells_37 : decode cX10_spells 37 = .ok (.ireturn, 1) := by decide +kernel
set_option maxRecDepth 20000 in
theorem ggX10_command_X10_isSmall : GoodIn wsX10_command wsX10_isSmall := goodIn_r _ [8, 9, 3, 14, 15, 16, 17, 18, 19, 20, 21, 22, 23, 24, 25, 26, 27, 28, 29] (by decide +kernel) (by decide +kernel)
set_option maxRecDepth 20000 in
theorem gX10_command_X10_isSmall : GoodIn wsX10_command (wsV RX10 113 RX10 yX10_isSmall wsX10_isSmall) := goodIn_app (goodIn_of _ (by decide +kernel)) ggX10_command_X10_isSmall
set_option maxRecDepth 20000 in
theorem ggX10_command_X10_spells : GoodIn wsX10_command wsX10_spells := goodIn_r _ [13, 3, 2, 14, 15, 16, 17, 18, 19, 20, 21, 22, 23, 24, 25, 26, 27, 28, 29] (by decide +kernel) (by decide +kernel)
set_option maxRecDepth 20000 in
theorem gX10_command_X10_spells : GoodIn wsX10_command (wsV RX10 119 RX10 yX10_spells wsX10_spells) := goodIn_app (goodIn_of _ (by decide +kernel)) ggX10_command_X10_spells
theorem dX10_command_0 : decode cX10_command 0 = .ok (.aload_n 0, 1) := by decide +kernel
theorem dX10_command_1 : decode cX10_command 1 = .ok (.getfield 107, 3) := by decide +kernel
theorem dX10_command_4 : decode cX10_command 4 = .ok (.aload_n 0, 1) := by decide +kernel
theorem dX10_command_5 : decode cX10_command 5 = .ok (.getfield 110, 3) := by decide +kernel
theorem dX10_command_8 : decode cX10_command 8 = .ok (.isub, 1) := by decide +kernel
theorem dX10_command_9 : decode cX10_command 9 = .ok (.istore_n 1, 1) := by decide +kernel
theorem dX10_command_10 : decode cX10_command 10 = .ok (.aload_n 0, 1) := by decide +kernel
theorem dX10_command_11 : decode cX10_command 11 = .ok (.aload_n 0, 1) := by decide +kernel
theorem dX10_command_12 : decode cX10_command 12 = .ok (.getfield 110, 3) := by decide +kernel
theorem dX10_command_15 : decode cX10_command 15 = .ok (.invokevirtual 113, 3) := by decide +kernel
theorem dX10_command_18 : decode cX10_command 18 = .ok (.ifCond .ne 5, 3) := by decide +kernel
theorem dX10_command_21 : decode cX10_command 21 = .ok (.iconst (-1), 1) := by decide +kernel
theorem dX10_command_22 : decode cX10_command 22 = .ok (.ireturn, 1) := by decide +kernel
theorem dX10_command_23 : decode cX10_command 23 = .ok (.iload_n 1, 1) := by decide +kernel
theorem dX10_command_24 : decode cX10_command 24 = .ok (.iconst 4, 1) := by decide +kernel
theorem dX10_command_25 : decode cX10_command 25 = .ok (.if_icmp .ne 121, 3) := by decide +kernel
theorem dX10_command_28 : decode cX10_command 28 = .ok (.aload_n 0, 1) := by decide +kernel
theorem dX10_command_29 : decode cX10_command 29 = .ok (.iconst 0, 1) := by decide +kernel
theorem dX10_command_30 : decode cX10_command 30 = .ok (.bipush 103, 2) := by decide +kernel
theorem dX10_command_32 : decode cX10_command 32 = .ok (.bipush 105, 2) := by decide +kernel
theorem dX10_command_34 : decode cX10_command 34 = .ok (.invokevirtual 119, 3) := by decide +kernel
theorem dX10_command_37 : decode cX10_command 37 = .ok (.ifCond .eq 19, 3) := by decide +kernel
theorem dX10_command_40 : decode cX10_command 40 = .ok (.aload_n 0, 1) := by decide +kernel
theorem dX10_command_41 : decode cX10_command 41 = .ok (.iconst 2, 1) := by decide +kernel
theorem dX10_command_42 : decode cX10_command 42 = .ok (.bipush 118, 2) := by decide +kernel
theorem dX10_command_44 : decode cX10_command 44 = .ok (.bipush 101, 2) := by decide +kernel
theorem dX10_command_46 : decode cX10_command 46 = .ok (.invokevirtual 119, 3) := by decide +kernel
theorem dX10_command_49 : decode cX10_command 49 = .ok (.ifCond .eq 7, 3) := by decide +kernel
theorem dX10_command_52 : decode cX10_command 52 = .ok (.iconst 1, 1) := by decide +kernel
theorem dX10_command_53 : decode cX10_command 53 = .ok (.goto 4, 3) := by decide +kernel
theorem dX10_command_56 : decode cX10_command 56 = .ok (.iconst 0, 1) := by decide +kernel
theorem dX10_command_57 : decode cX10_command 57 = .ok (.istore_n 2, 1) := by decide +kernel
theorem dX10_command_58 : decode cX10_command 58 = .ok (.aload_n 0, 1) := by decide +kernel
theorem dX10_command_59 : decode cX10_command 59 = .ok (.iconst 0, 1) := by decide +kernel
theorem dX10_command_60 : decode cX10_command 60 = .ok (.bipush 109, 2) := by decide +kernel
theorem dX10_command_62 : decode cX10_command 62 = .ok (.bipush 111, 2) := by decide +kernel
theorem dX10_command_64 : decode cX10_command 64 = .ok (.invokevirtual 119, 3) := by decide +kernel
theorem dX10_command_67 : decode cX10_command 67 = .ok (.ifCond .eq 19, 3) := by decide +kernel
theorem dX10_command_70 : decode cX10_command 70 = .ok (.aload_n 0, 1) := by decide +kernel
theorem dX10_command_71 : decode cX10_command 71 = .ok (.iconst 2, 1) := by decide +kernel
theorem dX10_command_72 : decode cX10_command 72 = .ok (.bipush 118, 2) := by decide +kernel
theorem dX10_command_74 : decode cX10_command 74 = .ok (.bipush 101, 2) := by decide +kernel
theorem dX10_command_76 : decode cX10_command 76 = .ok (.invokevirtual 119, 3) := by decide +kernel
theorem dX10_command_79 : decode cX10_command 79 = .ok (.ifCond .eq 7, 3) := by decide +kernel
theorem dX10_command_82 : decode cX10_command 82 = .ok (.iconst 1, 1) := by decide +kernel
theorem dX10_command_83 : decode cX10_command 83 = .ok (.goto 4, 3) := by decide +kernel
theorem dX10_command_86 : decode cX10_command 86 = .ok (.iconst 0, 1) := by decide +kernel
theorem dX10_command_87 : decode cX10_command 87 = .ok (.istore_n 3, 1) := by decide +kernel
theorem dX10_command_88 : decode cX10_command 88 = .ok (.aload_n 0, 1) := by decide +kernel
theorem dX10_command_89 : decode cX10_command 89 = .ok (.iconst 0, 1) := by decide +kernel
theorem dX10_command_90 : decode cX10_command 90 = .ok (.bipush 112, 2) := by decide +kernel
theorem dX10_command_92 : decode cX10_command 92 = .ok (.bipush 97, 2) := by decide +kernel
theorem dX10_command_94 : decode cX10_command 94 = .ok (.invokevirtual 119, 3) := by decide +kernel
theorem dX10_command_97 : decode cX10_command 97 = .ok (.ifCond .eq 19, 3) := by decide +kernel
theorem dX10_command_100 : decode cX10_command 100 = .ok (.aload_n 0, 1) := by decide +kernel
theorem dX10_command_101 : decode cX10_command 101 = .ok (.iconst 2, 1) := by decide +kernel
theorem dX10_command_102 : decode cX10_command 102 = .ok (.bipush 115, 2) := by decide +kernel
theorem dX10_command_104 : decode cX10_command 104 = .ok (.bipush 115, 2) := by decide +kernel
theorem dX10_command_106 : decode cX10_command 106 = .ok (.invokevirtual 119, 3) := by decide +kernel
theorem dX10_command_109 : decode cX10_command 109 = .ok (.ifCond .eq 7, 3) := by decide +kernel
theorem dX10_command_112 : decode cX10_command 112 = .ok (.iconst 1, 1) := by decide +kernel
theorem dX10_command_113 : decode cX10_command 113 = .ok (.goto 4, 3) := by decide +kernel
theorem dX10_command_116 : decode cX10_command 116 = .ok (.iconst 0, 1) := by decide +kernel
theorem dX10_command_117 : decode cX10_command 117 = .ok (.istore 4, 2) := by decide +kernel
theorem dX10_command_119 : decode cX10_command 119 = .ok (.iload_n 2, 1) := by decide +kernel
theorem dX10_command_120 : decode cX10_command 120 = .ok (.ifCond .eq 7, 3) := by decide +kernel
theorem dX10_command_123 : decode cX10_command 123 = .ok (.iconst 0, 1) := by decide +kernel
theorem dX10_command_124 : decode cX10_command 124 = .ok (.goto 21, 3) := by decide +kernel
theorem dX10_command_127 : decode cX10_command 127 = .ok (.iload_n 3, 1) := by decide +kernel
theorem dX10_command_128 : decode cX10_command 128 = .ok (.ifCond .eq 7, 3) := by decide +kernel
theorem dX10_command_131 : decode cX10_command 131 = .ok (.iconst 2, 1) := by decide +kernel
theorem dX10_command_132 : decode cX10_command 132 = .ok (.goto 13, 3) := by decide +kernel
theorem dX10_command_135 : decode cX10_command 135 = .ok (.iload 4, 2) := by decide +kernel
theorem dX10_command_137 : decode cX10_command 137 = .ok (.ifCond .eq 7, 3) := by decide +kernel
theorem dX10_command_140 : decode cX10_command 140 = .ok (.iconst 3, 1) := by decide +kernel
theorem dX10_command_141 : decode cX10_command 141 = .ok (.goto 4, 3) := by decide +kernel
theorem dX10_command_144 : decode cX10_command 144 = .ok (.iconst (-1), 1) := by decide +kernel
theorem dX10_command_145 : decode cX10_command 145 = .ok (.ireturn, 1) := by decide +kernel
theorem dX10_command_146 : decode cX10_command 146 = .ok (.iload_n 1, 1) := by decide +kernel
theorem dX10_command_147 : decode cX10_command 147 = .ok (.iconst 5, 1) := by decide +kernel
theorem dX10_command_148 : decode cX10_command 148 = .ok (.if_icmp .ne 113, 3) := by decide +kernel
theorem dX10_command_151 : decode cX10_command 151 = .ok (.aload_n 0, 1) := by decide +kernel
theorem dX10_command_152 : decode cX10_command 152 = .ok (.iconst 0, 1) := by decide +kernel
theorem dX10_command_153 : decode cX10_command 153 = .ok (.bipush 98, 2) := by decide +kernel
theorem dX10_command_155 : decode cX10_command 155 = .ok (.bipush 114, 2) := by decide +kernel
theorem dX10_command_157 : decode cX10_command 157 = .ok (.invokevirtual 119, 3) := by decide +kernel
theorem dX10_command_160 : decode cX10_command 160 = .ok (.ifCond .eq 35, 3) := by decide +kernel
theorem dX10_command_163 : decode cX10_command 163 = .ok (.aload_n 0, 1) := by decide +kernel
theorem dX10_command_164 : decode cX10_command 164 = .ok (.iconst 2, 1) := by decide +kernel
theorem dX10_command_165 : decode cX10_command 165 = .ok (.bipush 101, 2) := by decide +kernel
theorem dX10_command_167 : decode cX10_command 167 = .ok (.bipush 97, 2) := by decide +kernel
theorem dX10_command_169 : decode cX10_command 169 = .ok (.invokevirtual 119, 3) := by decide +kernel
theorem dX10_command_172 : decode cX10_command 172 = .ok (.ifCond .eq 23, 3) := by decide +kernel
theorem dX10_command_175 : decode cX10_command 175 = .ok (.aload_n 0, 1) := by decide +kernel
theorem dX10_command_176 : decode cX10_command 176 = .ok (.getfield 32, 3) := by decide +kernel
theorem dX10_command_179 : decode cX10_command 179 = .ok (.aload_n 0, 1) := by decide +kernel
theorem dX10_command_180 : decode cX10_command 180 = .ok (.getfield 110, 3) := by decide +kernel
theorem dX10_command_183 : decode cX10_command 183 = .ok (.iconst 4, 1) := by decide +kernel
theorem dX10_command_184 : decode cX10_command 184 = .ok (.iadd, 1) := by decide +kernel
theorem dX10_command_185 : decode cX10_command 185 = .ok (.caload, 1) := by decide +kernel
theorem dX10_command_186 : decode cX10_command 186 = .ok (.bipush 107, 2) := by decide +kernel
theorem dX10_command_188 : decode cX10_command 188 = .ok (.if_icmp .ne 7, 3) := by decide +kernel
theorem dX10_command_191 : decode cX10_command 191 = .ok (.iconst 1, 1) := by decide +kernel
theorem dX10_command_192 : decode cX10_command 192 = .ok (.goto 4, 3) := by decide +kernel
theorem dX10_command_195 : decode cX10_command 195 = .ok (.iconst 0, 1) := by decide +kernel
theorem dX10_command_196 : decode cX10_command 196 = .ok (.istore_n 2, 1) := by decide +kernel
theorem dX10_command_197 : decode cX10_command 197 = .ok (.aload_n 0, 1) := by decide +kernel
theorem dX10_command_198 : decode cX10_command 198 = .ok (.iconst 0, 1) := by decide +kernel
theorem dX10_command_199 : decode cX10_command 199 = .ok (.bipush 115, 2) := by decide +kernel
theorem dX10_command_201 : decode cX10_command 201 = .ok (.bipush 119, 2) := by decide +kernel
theorem dX10_command_203 : decode cX10_command 203 = .ok (.invokevirtual 119, 3) := by decide +kernel
theorem dX10_command_206 : decode cX10_command 206 = .ok (.ifCond .eq 35, 3) := by decide +kernel
theorem dX10_command_209 : decode cX10_command 209 = .ok (.aload_n 0, 1) := by decide +kernel
theorem dX10_command_210 : decode cX10_command 210 = .ok (.iconst 2, 1) := by decide +kernel
theorem dX10_command_211 : decode cX10_command 211 = .ok (.bipush 101, 2) := by decide +kernel
theorem dX10_command_213 : decode cX10_command 213 = .ok (.bipush 101, 2) := by decide +kernel
theorem dX10_command_215 : decode cX10_command 215 = .ok (.invokevirtual 119, 3) := by decide +kernel
theorem dX10_command_218 : decode cX10_command 218 = .ok (.ifCond .eq 23, 3) := by decide +kernel
theorem dX10_command_221 : decode cX10_command 221 = .ok (.aload_n 0, 1) := by decide +kernel
theorem dX10_command_222 : decode cX10_command 222 = .ok (.getfield 32, 3) := by decide +kernel
theorem dX10_command_225 : decode cX10_command 225 = .ok (.aload_n 0, 1) := by decide +kernel
theorem dX10_command_226 : decode cX10_command 226 = .ok (.getfield 110, 3) := by decide +kernel
theorem dX10_command_229 : decode cX10_command 229 = .ok (.iconst 4, 1) := by decide +kernel
theorem dX10_command_230 : decode cX10_command 230 = .ok (.iadd, 1) := by decide +kernel
theorem dX10_command_231 : decode cX10_command 231 = .ok (.caload, 1) := by decide +kernel
theorem dX10_command_232 : decode cX10_command 232 = .ok (.bipush 112, 2) := by decide +kernel
theorem dX10_command_234 : decode cX10_command 234 = .ok (.if_icmp .ne 7, 3) := by decide +kernel
theorem dX10_command_237 : decode cX10_command 237 = .ok (.iconst 1, 1) := by decide +kernel
theorem dX10_command_238 : decode cX10_command 238 = .ok (.goto 4, 3) := by decide +kernel
theorem dX10_command_241 : decode cX10_command 241 = .ok (.iconst 0, 1) := by decide +kernel
theorem dX10_command_242 : decode cX10_command 242 = .ok (.istore_n 3, 1) := by decide +kernel
theorem dX10_command_243 : decode cX10_command 243 = .ok (.iload_n 2, 1) := by decide +kernel
theorem dX10_command_244 : decode cX10_command 244 = .ok (.ifCond .eq 7, 3) := by decide +kernel
theorem dX10_command_247 : decode cX10_command 247 = .ok (.iconst 1, 1) := by decide +kernel
theorem dX10_command_248 : decode cX10_command 248 = .ok (.goto 12, 3) := by decide +kernel
theorem dX10_command_251 : decode cX10_command 251 = .ok (.iload_n 3, 1) := by decide +kernel
theorem dX10_command_252 : decode cX10_command 252 = .ok (.ifCond .eq 7, 3) := by decide +kernel
theorem dX10_command_255 : decode cX10_command 255 = .ok (.iconst 4, 1) := by decide +kernel
theorem dX10_command_256 : decode cX10_command 256 = .ok (.goto 4, 3) := by decide +kernel
theorem dX10_command_259 : decode cX10_command 259 = .ok (.iconst (-1), 1) := by decide +kernel
theorem dX10_command_260 : decode cX10_command 260 = .ok (.ireturn, 1) := by decide +kernel
theorem dX10_command_261 : decode cX10_command 261 = .ok (.iconst (-1), 1) := by decide +kernel
theorem dX10_command_262 : decode cX10_command 262 = .ok (.ireturn, 1) := by decide +kernel
set_option maxRecDepth 20000 in
theorem ggX10_isNumber_X10_isDigit : GoodIn wsX10_isNumber wsX10_isDigit := goodIn_r _ [8, 9, 3, 10, 11, 12, 13, 14, 15, 16, 17, 18, 19, 20, 21, 22, 23, 24, 25] (by decide +kernel) (by decide +kernel)
set_option maxRecDepth 20000 in
theorem gX10_isNumber_X10_isDigit : GoodIn wsX10_isNumber (wsV RX10 116 RX10 yX10_isDigit wsX10_isDigit) := goodIn_app (goodIn_of _ (by decide +kernel)) ggX10_isNumber_X10_isDigit
theorem dX10_isNumber_0 : decode cX10_isNumber 0 = .ok (.aload_n 0, 1) := by decide +kernel
theorem dX10_isNumber_1 : decode cX10_isNumber 1 = .ok (.getfield 107, 3) := by decide +kernel
theorem dX10_isNumber_4 : decode cX10_isNumber 4 = .ok (.aload_n 0, 1) := by decide +kernel
theorem dX10_isNumber_5 : decode cX10_isNumber 5 = .ok (.getfield 110, 3) := by decide +kernel
theorem dX10_isNumber_8 : decode cX10_isNumber 8 = .ok (.isub, 1) := by decide +kernel
theorem dX10_isNumber_9 : decode cX10_isNumber 9 = .ok (.istore_n 1, 1) := by decide +kernel
theorem dX10_isNumber_10 : decode cX10_isNumber 10 = .ok (.aload_n 0, 1) := by decide +kernel
theorem dX10_isNumber_11 : decode cX10_isNumber 11 = .ok (.aload_n 0, 1) := by decide +kernel
theorem dX10_isNumber_12 : decode cX10_isNumber 12 = .ok (.getfield 110, 3) := by decide +kernel
theorem dX10_isNumber_15 : decode cX10_isNumber 15 = .ok (.invokevirtual 116, 3) := by decide +kernel
theorem dX10_isNumber_18 : decode cX10_isNumber 18 = .ok (.ifCond .eq 31, 3) := by decide +kernel
theorem dX10_isNumber_21 : decode cX10_isNumber 21 = .ok (.iload_n 1, 1) := by decide +kernel
theorem dX10_isNumber_22 : decode cX10_isNumber 22 = .ok (.iconst 4, 1) := by decide +kernel
theorem dX10_isNumber_23 : decode cX10_isNumber 23 = .ok (.if_icmp .gt 26, 3) := by decide +kernel
theorem dX10_isNumber_26 : decode cX10_isNumber 26 = .ok (.iload_n 1, 1) := by decide +kernel
theorem dX10_isNumber_27 : decode cX10_isNumber 27 = .ok (.iconst 1, 1) := by decide +kernel
theorem dX10_isNumber_28 : decode cX10_isNumber 28 = .ok (.if_icmp .eq 17, 3) := by decide +kernel
theorem dX10_isNumber_31 : decode cX10_isNumber 31 = .ok (.aload_n 0, 1) := by decide +kernel
theorem dX10_isNumber_32 : decode cX10_isNumber 32 = .ok (.getfield 32, 3) := by decide +kernel
theorem dX10_isNumber_35 : decode cX10_isNumber 35 = .ok (.aload_n 0, 1) := by decide +kernel
theorem dX10_isNumber_36 : decode cX10_isNumber 36 = .ok (.getfield 110, 3) := by decide +kernel
theorem dX10_isNumber_39 : decode cX10_isNumber 39 = .ok (.caload, 1) := by decide +kernel
theorem dX10_isNumber_40 : decode cX10_isNumber 40 = .ok (.bipush 48, 2) := by decide +kernel
theorem dX10_isNumber_42 : decode cX10_isNumber 42 = .ok (.if_icmp .eq 7, 3) := by decide +kernel
theorem dX10_isNumber_45 : decode cX10_isNumber 45 = .ok (.iconst 1, 1) := by decide +kernel
theorem dX10_isNumber_46 : decode cX10_isNumber 46 = .ok (.goto 4, 3) := by decide +kernel
theorem dX10_isNumber_49 : decode cX10_isNumber 49 = .ok (.iconst 0, 1) := by decide +kernel
theorem dX10_isNumber_50 : decode cX10_isNumber 50 = .ok (.ireturn, 1) := by decide +kernel
theorem dX10_number_0 : decode cX10_number 0 = .ok (.iconst 0, 1) := by decide +kernel
theorem dX10_number_1 : decode cX10_number 1 = .ok (.istore_n 1, 1) := by decide +kernel
theorem dX10_number_2 : decode cX10_number 2 = .ok (.aload_n 0, 1) := by decide +kernel
theorem dX10_number_3 : decode cX10_number 3 = .ok (.getfield 110, 3) := by decide +kernel
theorem dX10_number_6 : decode cX10_number 6 = .ok (.istore_n 2, 1) := by decide +kernel
theorem dX10_number_7 : decode cX10_number 7 = .ok (.iload_n 2, 1) := by decide +kernel
theorem dX10_number_8 : decode cX10_number 8 = .ok (.aload_n 0, 1) := by decide +kernel
theorem dX10_number_9 : decode cX10_number 9 = .ok (.getfield 107, 3) := by decide +kernel
theorem dX10_number_12 : decode cX10_number 12 = .ok (.if_icmp .ge 24, 3) := by decide +kernel
theorem dX10_number_15 : decode cX10_number 15 = .ok (.bipush 10, 2) := by decide +kernel
theorem dX10_number_17 : decode cX10_number 17 = .ok (.iload_n 1, 1) := by decide +kernel
theorem dX10_number_18 : decode cX10_number 18 = .ok (.imul, 1) := by decide +kernel
theorem dX10_number_19 : decode cX10_number 19 = .ok (.aload_n 0, 1) := by decide +kernel
theorem dX10_number_20 : decode cX10_number 20 = .ok (.getfield 32, 3) := by decide +kernel
theorem dX10_number_23 : decode cX10_number 23 = .ok (.iload_n 2, 1) := by decide +kernel
theorem dX10_number_24 : decode cX10_number 24 = .ok (.caload, 1) := by decide +kernel
theorem dX10_number_25 : decode cX10_number 25 = .ok (.iadd, 1) := by decide +kernel
theorem dX10_number_26 : decode cX10_number 26 = .ok (.bipush 48, 2) := by decide +kernel
theorem dX10_number_28 : decode cX10_number 28 = .ok (.isub, 1) := by decide +kernel
theorem dX10_number_29 : decode cX10_number 29 = .ok (.istore_n 1, 1) := by decide +kernel
theorem dX10_number_30 : decode cX10_number 30 = .ok (.iinc 2 1, 3) := by decide +kernel
theorem dX10_number_33 : decode cX10_number 33 = .ok (.goto (-26), 3) := by decide +kernel
theorem dX10_number_36 : decode cX10_number 36 = .ok (.iload_n 1, 1) := by decide +kernel
theorem dX10_number_37 : decode cX10_number 37 = .ok (.ireturn, 1) := by decide +kernel
set_option maxRecDepth 20000 in
theorem ggX10_readNumbers_X10_readToken : GoodIn wsX10_readNumbers wsX10_readToken := goodIn_r _ [9, 2, 3, 10, 4, 11, 12, 13, 8, 14, 15, 16, 17, 18, 27, 28, 29, 30, 31, 32, 33, 34, 35, 36, 37, 38, 39, 40, 41, 42] (by decide +kernel) (by decide +kernel)
set_option maxRecDepth 20000 in
theorem gX10_readNumbers_X10_readToken : GoodIn wsX10_readNumbers (wsV RX10 123 RX10 yX10_readToken wsX10_readToken) := goodIn_app (goodIn_of _ (by decide +kernel)) ggX10_readNumbers_X10_readToken
set_option maxRecDepth 20000 in
theorem ggX10_readNumbers_X10_isNumber : GoodIn wsX10_readNumbers wsX10_isNumber := goodIn_r _ [22, 2, 3, 4, 15, 16, 17, 8, 18, 10, 27, 28, 29, 30, 31, 32, 33, 34, 35, 36, 37, 38, 39, 40, 41, 42] (by decide +kernel) (by decide +kernel)
set_option maxRecDepth 20000 in
theorem gX10_readNumbers_X10_isNumber : GoodIn wsX10_readNumbers (wsV RX10 126 RX10 yX10_isNumber wsX10_isNumber) := goodIn_app (goodIn_of _ (by decide +kernel)) ggX10_readNumbers_X10_isNumber
set_option maxRecDepth 20000 in
theorem ggX10_readNumbers_X10_number : GoodIn wsX10_readNumbers wsX10_number := goodIn_r _ [26, 3, 2, 4, 27, 28, 29, 30, 31, 32, 33, 34, 35, 36, 37, 38, 39, 40, 41, 42] (by decide +kernel) (by decide +kernel)
set_option maxRecDepth 20000 in
theorem gX10_readNumbers_X10_number : GoodIn wsX10_readNumbers (wsV RX10 130 RX10 yX10_number wsX10_number) := goodIn_app (goodIn_of _ (by decide +kernel)) ggX10_readNumbers_X10_number
theorem dX10_readNumbers_0 : decode cX10_readNumbers 0 = .ok (.iconst 0, 1) := by decide +kernel
theorem dX10_readNumbers_1 : decode cX10_readNumbers 1 = .ok (.istore_n 2, 1) := by decide +kernel
theorem dX10_readNumbers_2 : decode cX10_readNumbers 2 = .ok (.iload_n 2, 1) := by decide +kernel
theorem dX10_readNumbers_3 : decode cX10_readNumbers 3 = .ok (.iload_n 1, 1) := by decide +kernel
theorem dX10_readNumbers_4 : decode cX10_readNumbers 4 = .ok (.if_icmp .ge 32, 3) := by decide +kernel
theorem dX10_readNumbers_7 : decode cX10_readNumbers 7 = .ok (.aload_n 0, 1) := by decide +kernel
theorem dX10_readNumbers_8 : decode cX10_readNumbers 8 = .ok (.invokevirtual 123, 3) := by decide +kernel
theorem dX10_readNumbers_11 : decode cX10_readNumbers 11 = .ok (.aload_n 0, 1) := by decide +kernel
theorem dX10_readNumbers_12 : decode cX10_readNumbers 12 = .ok (.invokevirtual 126, 3) := by decide +kernel
theorem dX10_readNumbers_15 : decode cX10_readNumbers 15 = .ok (.ifCond .ne 5, 3) := by decide +kernel
theorem dX10_readNumbers_18 : decode cX10_readNumbers 18 = .ok (.iconst 0, 1) := by decide +kernel
theorem dX10_readNumbers_19 : decode cX10_readNumbers 19 = .ok (.ireturn, 1) := by decide +kernel
theorem dX10_readNumbers_20 : decode cX10_readNumbers 20 = .ok (.aload_n 0, 1) := by decide +kernel
theorem dX10_readNumbers_21 : decode cX10_readNumbers 21 = .ok (.getfield 39, 3) := by decide +kernel
theorem dX10_readNumbers_24 : decode cX10_readNumbers 24 = .ok (.iload_n 2, 1) := by decide +kernel
theorem dX10_readNumbers_25 : decode cX10_readNumbers 25 = .ok (.aload_n 0, 1) := by decide +kernel
theorem dX10_readNumbers_26 : decode cX10_readNumbers 26 = .ok (.invokevirtual 130, 3) := by decide +kernel
theorem dX10_readNumbers_29 : decode cX10_readNumbers 29 = .ok (.iastore, 1) := by decide +kernel
theorem dX10_readNumbers_30 : decode cX10_readNumbers 30 = .ok (.iinc 2 1, 3) := by decide +kernel
theorem dX10_readNumbers_33 : decode cX10_readNumbers 33 = .ok (.goto (-31), 3) := by decide +kernel
theorem dX10_readNumbers_36 : decode cX10_readNumbers 36 = .ok (.aload_n 0, 1) := by decide +kernel
theorem dX10_readNumbers_37 : decode cX10_readNumbers 37 = .ok (.invokevirtual 123, 3) := by decide +kernel
theorem dX10_readNumbers_40 : decode cX10_readNumbers 40 = .ok (.aload_n 0, 1) := by decide +kernel
theorem dX10_readNumbers_41 : decode cX10_readNumbers 41 = .ok (.getfield 107, 3) := by decide +kernel
theorem dX10_readNumbers_44 : decode cX10_readNumbers 44 = .ok (.aload_n 0, 1) := by decide +kernel
theorem dX10_readNumbers_45 : decode cX10_readNumbers 45 = .ok (.getfield 110, 3) := by decide +kernel
theorem dX10_readNumbers_48 : decode cX10_readNumbers 48 = .ok (.if_icmp .le 21, 3) := by decide +kernel
theorem dX10_readNumbers_51 : decode cX10_readNumbers 51 = .ok (.aload_n 0, 1) := by decide +kernel
theorem dX10_readNumbers_52 : decode cX10_readNumbers 52 = .ok (.getfield 32, 3) := by decide +kernel
theorem dX10_readNumbers_55 : decode cX10_readNumbers 55 = .ok (.aload_n 0, 1) := by decide +kernel
theorem dX10_readNumbers_56 : decode cX10_readNumbers 56 = .ok (.getfield 110, 3) := by decide +kernel
theorem dX10_readNumbers_59 : decode cX10_readNumbers 59 = .ok (.caload, 1) := by decide +kernel
theorem dX10_readNumbers_60 : decode cX10_readNumbers 60 = .ok (.bipush 59, 2) := by decide +kernel
theorem dX10_readNumbers_62 : decode cX10_readNumbers 62 = .ok (.if_icmp .ne 7, 3) := by decide +kernel
theorem dX10_readNumbers_65 : decode cX10_readNumbers 65 = .ok (.iconst 1, 1) := by decide +kernel
theorem dX10_readNumbers_66 : decode cX10_readNumbers 66 = .ok (.goto 4, 3) := by decide +kernel
theorem dX10_readNumbers_69 : decode cX10_readNumbers 69 = .ok (.iconst 0, 1) := by decide +kernel
theorem dX10_readNumbers_70 : decode cX10_readNumbers 70 = .ok (.ireturn, 1) := by decide +kernel
set_option maxRecDepth 20000 in
theorem ggX10_does_X10_give : GoodIn wsX10_does wsX10_give := goodIn_r _ [6, 7, 8, 9, 10, 5, 11, 12, 13, 14, 15, 16, 17, 18, 19, 20, 21, 22, 23, 24, 25, 26, 27, 28, 29, 30, 95, 96, 97, 98, 99, 100, 101, 102, 103, 104, 105, 106, 107, 108, 109, 110] (by decide +kernel) (by decide +kernel)
set_option maxRecDepth 20000 in
theorem gX10_does_X10_give : GoodIn wsX10_does (wsV RX10 133 RX10 yX10_give wsX10_give) := goodIn_app (goodIn_of _ (by decide +kernel)) ggX10_does_X10_give
set_option maxRecDepth 20000 in
theorem ggX10_does_X10_breakOff : GoodIn wsX10_does wsX10_breakOff := goodIn_r _ [34, 7, 35, 36, 37, 5, 38, 8, 9, 10, 11, 12, 13, 14, 15, 16, 17, 18, 19, 20, 21, 22, 39, 40, 41, 42, 95, 96, 97, 98, 99, 100, 101, 102, 103, 104, 105, 106, 107, 108, 109, 110] (by decide +kernel) (by decide +kernel)
set_option maxRecDepth 20000 in
theorem gX10_does_X10_breakOff : GoodIn wsX10_does (wsV RX10 137 RX10 yX10_breakOff wsX10_breakOff) := goodIn_app (goodIn_of _ (by decide +kernel)) ggX10_does_X10_breakOff
set_option maxRecDepth 20000 in
theorem ggX10_does_X10_move : GoodIn wsX10_does wsX10_move := goodIn_r _ [46, 7, 35, 36, 37, 5, 38, 8, 9, 10, 11, 12, 13, 14, 15, 16, 17, 18, 19, 20, 21, 22, 23, 24, 25, 26, 27, 28, 29, 30, 95, 96, 97, 98, 99, 100, 101, 102, 103, 104, 105, 106, 107, 108, 109, 110] (by decide +kernel) (by decide +kernel)
set_option maxRecDepth 20000 in
theorem gX10_does_X10_move : GoodIn wsX10_does (wsV RX10 140 RX10 yX10_move wsX10_move) := goodIn_app (goodIn_of _ (by decide +kernel)) ggX10_does_X10_move
set_option maxRecDepth 20000 in
theorem ggX10_does_X10_pass : GoodIn wsX10_does wsX10_pass := goodIn_r _ [50, 7, 8, 9, 10, 5, 11, 12, 13, 14, 15, 16, 17, 18, 19, 20, 21, 22, 51, 52, 53, 54, 55, 56, 57, 58, 59, 60, 61, 62, 63, 64, 65, 66, 67, 68, 69, 70, 23, 24, 25, 26, 27, 28, 29, 30, 71, 72, 73, 74, 75, 76, 77, 78, 79, 80, 81, 82, 83, 84, 85, 86, 39, 40, 41, 42, 87, 88, 89, 90, 95, 96, 97, 98, 99, 100, 101, 102, 103, 104, 105, 106, 107, 108, 109, 110] (by decide +kernel) (by decide +kernel)
set_option maxRecDepth 20000 in
theorem gX10_does_X10_pass : GoodIn wsX10_does (wsV RX10 144 RX10 yX10_pass wsX10_pass) := goodIn_app (goodIn_of _ (by decide +kernel)) ggX10_does_X10_pass
set_option maxRecDepth 20000 in
theorem ggX10_does_X10_sweep : GoodIn wsX10_does wsX10_sweep := goodIn_r _ [94, 8, 9, 10, 5, 11, 12, 13, 14, 15, 16, 17, 18, 19, 20, 7, 21, 22, 87, 88, 89, 90, 67, 68, 69, 70, 95, 96, 97, 98, 99, 100, 101, 102, 103, 104, 105, 106, 107, 108, 109, 110] (by decide +kernel) (by decide +kernel)
set_option maxRecDepth 20000 in
theorem gX10_does_X10_sweep : GoodIn wsX10_does (wsV RX10 147 RX10 yX10_sweep wsX10_sweep) := goodIn_app (goodIn_of _ (by decide +kernel)) ggX10_does_X10_sweep
theorem dX10_does_0 : decode cX10_does 0 = .ok (.iload_n 1, 1) := by decide +kernel
theorem dX10_does_1 : decode cX10_does 1 = .ok (.tableswitch 93 0 3 #[31, 54, 65, 82], 31) := by decide +kernel
theorem dX10_does_32 : decode cX10_does 32 = .ok (.aload_n 0, 1) := by decide +kernel
theorem dX10_does_33 : decode cX10_does 33 = .ok (.aload_n 0, 1) := by decide +kernel
theorem dX10_does_34 : decode cX10_does 34 = .ok (.getfield 39, 3) := by decide +kernel
theorem dX10_does_37 : decode cX10_does 37 = .ok (.iconst 0, 1) := by decide +kernel
theorem dX10_does_38 : decode cX10_does 38 = .ok (.iaload, 1) := by decide +kernel
theorem dX10_does_39 : decode cX10_does 39 = .ok (.aload_n 0, 1) := by decide +kernel
theorem dX10_does_40 : decode cX10_does 40 = .ok (.getfield 39, 3) := by decide +kernel
theorem dX10_does_43 : decode cX10_does 43 = .ok (.iconst 1, 1) := by decide +kernel
theorem dX10_does_44 : decode cX10_does 44 = .ok (.iaload, 1) := by decide +kernel
theorem dX10_does_45 : decode cX10_does 45 = .ok (.aload_n 0, 1) := by decide +kernel
theorem dX10_does_46 : decode cX10_does 46 = .ok (.getfield 39, 3) := by decide +kernel
theorem dX10_does_49 : decode cX10_does 49 = .ok (.iconst 2, 1) := by decide +kernel
theorem dX10_does_50 : decode cX10_does 50 = .ok (.iaload, 1) := by decide +kernel
theorem dX10_does_51 : decode cX10_does 51 = .ok (.invokevirtual 133, 3) := by decide +kernel
theorem dX10_does_54 : decode cX10_does 54 = .ok (.ireturn, 1) := by decide +kernel
theorem dX10_does_55 : decode cX10_does 55 = .ok (.aload_n 0, 1) := by decide +kernel
theorem dX10_does_56 : decode cX10_does 56 = .ok (.aload_n 0, 1) := by decide +kernel
theorem dX10_does_57 : decode cX10_does 57 = .ok (.getfield 39, 3) := by decide +kernel
theorem dX10_does_60 : decode cX10_does 60 = .ok (.iconst 0, 1) := by decide +kernel
theorem dX10_does_61 : decode cX10_does 61 = .ok (.iaload, 1) := by decide +kernel
theorem dX10_does_62 : decode cX10_does 62 = .ok (.invokevirtual 137, 3) := by decide +kernel
theorem dX10_does_65 : decode cX10_does 65 = .ok (.ireturn, 1) := by decide +kernel
theorem dX10_does_66 : decode cX10_does 66 = .ok (.aload_n 0, 1) := by decide +kernel
theorem dX10_does_67 : decode cX10_does 67 = .ok (.aload_n 0, 1) := by decide +kernel
theorem dX10_does_68 : decode cX10_does 68 = .ok (.getfield 39, 3) := by decide +kernel
theorem dX10_does_71 : decode cX10_does 71 = .ok (.iconst 0, 1) := by decide +kernel
theorem dX10_does_72 : decode cX10_does 72 = .ok (.iaload, 1) := by decide +kernel
theorem dX10_does_73 : decode cX10_does 73 = .ok (.aload_n 0, 1) := by decide +kernel
theorem dX10_does_74 : decode cX10_does 74 = .ok (.getfield 39, 3) := by decide +kernel
theorem dX10_does_77 : decode cX10_does 77 = .ok (.iconst 1, 1) := by decide +kernel
theorem dX10_does_78 : decode cX10_does 78 = .ok (.iaload, 1) := by decide +kernel
theorem dX10_does_79 : decode cX10_does 79 = .ok (.invokevirtual 140, 3) := by decide +kernel
theorem dX10_does_82 : decode cX10_does 82 = .ok (.ireturn, 1) := by decide +kernel
theorem dX10_does_83 : decode cX10_does 83 = .ok (.aload_n 0, 1) := by decide +kernel
theorem dX10_does_84 : decode cX10_does 84 = .ok (.aload_n 0, 1) := by decide +kernel
theorem dX10_does_85 : decode cX10_does 85 = .ok (.getfield 39, 3) := by decide +kernel
theorem dX10_does_88 : decode cX10_does 88 = .ok (.iconst 0, 1) := by decide +kernel
theorem dX10_does_89 : decode cX10_does 89 = .ok (.iaload, 1) := by decide +kernel
theorem dX10_does_90 : decode cX10_does 90 = .ok (.invokevirtual 144, 3) := by decide +kernel
theorem dX10_does_93 : decode cX10_does 93 = .ok (.ireturn, 1) := by decide +kernel
theorem dX10_does_94 : decode cX10_does 94 = .ok (.aload_n 0, 1) := by decide +kernel
theorem dX10_does_95 : decode cX10_does 95 = .ok (.invokevirtual 147, 3) := by decide +kernel
theorem dX10_does_98 : decode cX10_does 98 = .ok (.ireturn, 1) := by decide +kernel
theorem dX10_numbersOf_0 : decode cX10_numbersOf 0 = .ok (.iload_n 0, 1) := by decide +kernel
theorem dX10_numbersOf_1 : decode cX10_numbersOf 1 = .ok (.ifCond .ne 7, 3) := by decide +kernel
theorem dX10_numbersOf_4 : decode cX10_numbersOf 4 = .ok (.iconst 3, 1) := by decide +kernel
theorem dX10_numbersOf_5 : decode cX10_numbersOf 5 = .ok (.goto 22, 3) := by decide +kernel
theorem dX10_numbersOf_8 : decode cX10_numbersOf 8 = .ok (.iload_n 0, 1) := by decide +kernel
theorem dX10_numbersOf_9 : decode cX10_numbersOf 9 = .ok (.iconst 2, 1) := by decide +kernel
theorem dX10_numbersOf_10 : decode cX10_numbersOf 10 = .ok (.if_icmp .ne 7, 3) := by decide +kernel
theorem dX10_numbersOf_13 : decode cX10_numbersOf 13 = .ok (.iconst 2, 1) := by decide +kernel
theorem dX10_numbersOf_14 : decode cX10_numbersOf 14 = .ok (.goto 13, 3) := by decide +kernel
theorem dX10_numbersOf_17 : decode cX10_numbersOf 17 = .ok (.iload_n 0, 1) := by decide +kernel
theorem dX10_numbersOf_18 : decode cX10_numbersOf 18 = .ok (.iconst 4, 1) := by decide +kernel
theorem dX10_numbersOf_19 : decode cX10_numbersOf 19 = .ok (.if_icmp .ne 7, 3) := by decide +kernel
theorem dX10_numbersOf_22 : decode cX10_numbersOf 22 = .ok (.iconst 0, 1) := by decide +kernel
theorem dX10_numbersOf_23 : decode cX10_numbersOf 23 = .ok (.goto 4, 3) := by decide +kernel
theorem dX10_numbersOf_26 : decode cX10_numbersOf 26 = .ok (.iconst 1, 1) := by decide +kernel
theorem dX10_numbersOf_27 : decode cX10_numbersOf 27 = .ok (.ireturn, 1) := by decide +kernel
theorem dX10_fail_0 : decode cX10_fail 0 = .ok (.aload_n 0, 1) := by decide +kernel
theorem dX10_fail_1 : decode cX10_fail 1 = .ok (.iconst 0, 1) := by decide +kernel
theorem dX10_fail_2 : decode cX10_fail 2 = .ok (.putfield 46, 3) := by decide +kernel
theorem dX10_fail_5 : decode cX10_fail 5 = .ok (.iconst 0, 1) := by decide +kernel
theorem dX10_fail_6 : decode cX10_fail 6 = .ok (.istore 5, 2) := by decide +kernel
theorem dX10_fail_8 : decode cX10_fail 8 = .ok (.iload 5, 2) := by decide +kernel
theorem dX10_fail_10 : decode cX10_fail 10 = .ok (.sipush 368, 3) := by decide +kernel
theorem dX10_fail_13 : decode cX10_fail 13 = .ok (.if_icmp .ge 23, 3) := by decide +kernel
theorem dX10_fail_16 : decode cX10_fail 16 = .ok (.aload_n 0, 1) := by decide +kernel
theorem dX10_fail_17 : decode cX10_fail 17 = .ok (.getfield 7, 3) := by decide +kernel
theorem dX10_fail_20 : decode cX10_fail 20 = .ok (.iload 5, 2) := by decide +kernel
theorem dX10_fail_22 : decode cX10_fail 22 = .ok (.aload_n 0, 1) := by decide +kernel
theorem dX10_fail_23 : decode cX10_fail 23 = .ok (.getfield 26, 3) := by decide +kernel
theorem dX10_fail_26 : decode cX10_fail 26 = .ok (.iload 5, 2) := by decide +kernel
theorem dX10_fail_28 : decode cX10_fail 28 = .ok (.iaload, 1) := by decide +kernel
theorem dX10_fail_29 : decode cX10_fail 29 = .ok (.iastore, 1) := by decide +kernel
theorem dX10_fail_30 : decode cX10_fail 30 = .ok (.iinc 5 1, 3) := by decide +kernel
theorem dX10_fail_33 : decode cX10_fail 33 = .ok (.goto (-25), 3) := by decide +kernel
theorem dX10_fail_36 : decode cX10_fail 36 = .ok (.aload_n 0, 1) := by decide +kernel
theorem dX10_fail_37 : decode cX10_fail 37 = .ok (.iconst 1, 1) := by decide +kernel
theorem dX10_fail_38 : decode cX10_fail 38 = .ok (.putfield 150, 3) := by decide +kernel
theorem dX10_fail_41 : decode cX10_fail 41 = .ok (.aload_n 0, 1) := by decide +kernel
theorem dX10_fail_42 : decode cX10_fail 42 = .ok (.getfield 36, 3) := by decide +kernel
theorem dX10_fail_45 : decode cX10_fail 45 = .ok (.iconst 0, 1) := by decide +kernel
theorem dX10_fail_46 : decode cX10_fail 46 = .ok (.iload_n 1, 1) := by decide +kernel
theorem dX10_fail_47 : decode cX10_fail 47 = .ok (.iastore, 1) := by decide +kernel
theorem dX10_fail_48 : decode cX10_fail 48 = .ok (.aload_n 0, 1) := by decide +kernel
theorem dX10_fail_49 : decode cX10_fail 49 = .ok (.getfield 36, 3) := by decide +kernel
theorem dX10_fail_52 : decode cX10_fail 52 = .ok (.iconst 1, 1) := by decide +kernel
theorem dX10_fail_53 : decode cX10_fail 53 = .ok (.iload_n 2, 1) := by decide +kernel
theorem dX10_fail_54 : decode cX10_fail 54 = .ok (.iastore, 1) := by decide +kernel
theorem dX10_fail_55 : decode cX10_fail 55 = .ok (.aload_n 0, 1) := by decide +kernel
theorem dX10_fail_56 : decode cX10_fail 56 = .ok (.getfield 36, 3) := by decide +kernel
theorem dX10_fail_59 : decode cX10_fail 59 = .ok (.iconst 2, 1) := by decide +kernel
theorem dX10_fail_60 : decode cX10_fail 60 = .ok (.iload_n 3, 1) := by decide +kernel
theorem dX10_fail_61 : decode cX10_fail 61 = .ok (.iastore, 1) := by decide +kernel
theorem dX10_fail_62 : decode cX10_fail 62 = .ok (.aload_n 0, 1) := by decide +kernel
theorem dX10_fail_63 : decode cX10_fail 63 = .ok (.getfield 36, 3) := by decide +kernel
theorem dX10_fail_66 : decode cX10_fail 66 = .ok (.iconst 3, 1) := by decide +kernel
theorem dX10_fail_67 : decode cX10_fail 67 = .ok (.iload 4, 2) := by decide +kernel
theorem dX10_fail_69 : decode cX10_fail 69 = .ok (.iastore, 1) := by decide +kernel
theorem dX10_fail_70 : decode cX10_fail 70 = .ok (.sipush (-1000), 3) := by decide +kernel
theorem dX10_fail_73 : decode cX10_fail 73 = .ok (.iload_n 2, 1) := by decide +kernel
theorem dX10_fail_74 : decode cX10_fail 74 = .ok (.isub, 1) := by decide +kernel
theorem dX10_fail_75 : decode cX10_fail 75 = .ok (.ireturn, 1) := by decide +kernel
set_option maxRecDepth 20000 in
theorem ggX10_run_X10_readToken : GoodIn wsX10_run wsX10_readToken := goodIn_r _ [11, 4, 5, 6, 12, 13, 14, 15, 10, 16, 17, 18, 19, 20, 144, 145, 146, 147, 148, 149, 150, 151, 152, 153, 154, 155, 156, 157, 158, 159] (by decide +kernel) (by decide +kernel)
set_option maxRecDepth 20000 in
theorem gX10_run_X10_readToken : GoodIn wsX10_run (wsV RX10 123 RX10 yX10_readToken wsX10_readToken) := goodIn_app (goodIn_of _ (by decide +kernel)) ggX10_run_X10_readToken
set_option maxRecDepth 20000 in
theorem ggX10_run_X10_command : GoodIn wsX10_run wsX10_command := goodIn_r _ [24, 4, 5, 12, 13, 14, 15, 10, 16, 6, 25, 26, 27, 28, 144, 145, 146, 147, 148, 149, 150, 151, 152, 153, 154, 155, 156, 157, 158, 159] (by decide +kernel) (by decide +kernel)
set_option maxRecDepth 20000 in
theorem gX10_run_X10_command : GoodIn wsX10_run (wsV RX10 153 RX10 yX10_command wsX10_command) := goodIn_app (goodIn_of _ (by decide +kernel)) ggX10_run_X10_command
set_option maxRecDepth 20000 in
theorem ggX10_run_X10_numbersOf : GoodIn wsX10_run wsX10_numbersOf := goodIn_r _ [31] (by decide +kernel) (by decide +kernel)
set_option maxRecDepth 20000 in
theorem gX10_run_X10_numbersOf : GoodIn wsX10_run (va_wsS RX10 156 yX10_numbersOf wsX10_numbersOf) := goodIn_app (goodIn_of _ (by decide +kernel)) ggX10_run_X10_numbersOf
set_option maxRecDepth 20000 in
theorem ggX10_run_X10_readNumbers : GoodIn wsX10_run wsX10_readNumbers := goodIn_r _ [35, 36, 4, 5, 12, 7, 8, 9, 10, 11, 6, 13, 14, 15, 16, 17, 18, 19, 20, 37, 38, 39, 40, 41, 42, 43, 44, 144, 145, 146, 147, 148, 149, 150, 151, 152, 153, 154, 155, 156, 157, 158, 159] (by decide +kernel) (by decide +kernel)
set_option maxRecDepth 20000 in
theorem gX10_run_X10_readNumbers : GoodIn wsX10_run (wsV RX10 159 RX10 yX10_readNumbers wsX10_readNumbers) := goodIn_app (goodIn_of _ (by decide +kernel)) ggX10_run_X10_readNumbers
set_option maxRecDepth 20000 in
theorem ggX10_run_X10_fail : GoodIn wsX10_run wsX10_fail := goodIn_r _ [48, 3, 2, 1, 49, 50, 144, 145, 146, 147, 148, 149, 150, 151, 152, 153, 154, 155, 156, 157, 158, 159] (by decide +kernel) (by decide +kernel)
set_option maxRecDepth 20000 in
theorem gX10_run_X10_fail : GoodIn wsX10_run (wsV RX10 162 RX10 yX10_fail wsX10_fail) := goodIn_app (goodIn_of _ (by decide +kernel)) ggX10_run_X10_fail
set_option maxRecDepth 20000 in
theorem ggX10_run_X10_does : GoodIn wsX10_run wsX10_does := goodIn_r _ [54, 36, 55, 56, 57, 10, 58, 2, 59, 60, 61, 62, 3, 63, 64, 65, 66, 67, 68, 69, 1, 70, 71, 72, 73, 74, 75, 76, 77, 78, 79, 80, 81, 82, 83, 84, 85, 86, 87, 88, 89, 90, 91, 92, 93, 94, 95, 96, 97, 98, 99, 100, 101, 102, 103, 104, 105, 106, 107, 108, 109, 110, 111, 112, 113, 114, 115, 116, 117, 118, 119, 120, 121, 122, 123, 124, 125, 126, 127, 128, 129, 130, 131, 132, 133, 134, 135, 136, 137, 138, 139, 140, 141, 142, 143, 144, 145, 146, 147, 148, 149, 150, 151, 152, 153, 154, 155, 156, 157, 158, 159] (by decide +kernel) (by decide +kernel)
set_option maxRecDepth 20000 in
theorem gX10_run_X10_does : GoodIn wsX10_run (wsV RX10 166 RX10 yX10_does wsX10_does) := goodIn_app (goodIn_of _ (by decide +kernel)) ggX10_run_X10_does
set_option maxRecDepth 20000 in
theorem ggX10_run_X10_push : GoodIn wsX10_run wsX10_push := goodIn_r _ [66, 67, 68, 69, 1, 2, 70, 71, 144, 145, 146, 147, 148, 149, 150, 151, 152, 153, 154, 155, 156, 157, 158, 159] (by decide +kernel) (by decide +kernel)
set_option maxRecDepth 20000 in
theorem gX10_run_X10_push : GoodIn wsX10_run (wsV RX10 50 RX10 yX10_push wsX10_push) := goodIn_app (goodIn_of _ (by decide +kernel)) ggX10_run_X10_push
theorem dX10_run_0 : decode cX10_run 0 = .ok (.iconst 0, 1) := by decide +kernel
theorem dX10_run_1 : decode cX10_run 1 = .ok (.istore_n 1, 1) := by decide +kernel
theorem dX10_run_2 : decode cX10_run 2 = .ok (.iload_n 1, 1) := by decide +kernel
theorem dX10_run_3 : decode cX10_run 3 = .ok (.sipush 368, 3) := by decide +kernel
theorem dX10_run_6 : decode cX10_run 6 = .ok (.if_icmp .ge 21, 3) := by decide +kernel
theorem dX10_run_9 : decode cX10_run 9 = .ok (.aload_n 0, 1) := by decide +kernel
theorem dX10_run_10 : decode cX10_run 10 = .ok (.getfield 26, 3) := by decide +kernel
theorem dX10_run_13 : decode cX10_run 13 = .ok (.iload_n 1, 1) := by decide +kernel
theorem dX10_run_14 : decode cX10_run 14 = .ok (.aload_n 0, 1) := by decide +kernel
theorem dX10_run_15 : decode cX10_run 15 = .ok (.getfield 7, 3) := by decide +kernel
theorem dX10_run_18 : decode cX10_run 18 = .ok (.iload_n 1, 1) := by decide +kernel
theorem dX10_run_19 : decode cX10_run 19 = .ok (.iaload, 1) := by decide +kernel
theorem dX10_run_20 : decode cX10_run 20 = .ok (.iastore, 1) := by decide +kernel
theorem dX10_run_21 : decode cX10_run 21 = .ok (.iinc 1 1, 3) := by decide +kernel
theorem dX10_run_24 : decode cX10_run 24 = .ok (.goto (-22), 3) := by decide +kernel
theorem dX10_run_27 : decode cX10_run 27 = .ok (.aload_n 0, 1) := by decide +kernel
theorem dX10_run_28 : decode cX10_run 28 = .ok (.iconst 1, 1) := by decide +kernel
theorem dX10_run_29 : decode cX10_run 29 = .ok (.putfield 46, 3) := by decide +kernel
theorem dX10_run_32 : decode cX10_run 32 = .ok (.aload_n 0, 1) := by decide +kernel
theorem dX10_run_33 : decode cX10_run 33 = .ok (.iconst 0, 1) := by decide +kernel
theorem dX10_run_34 : decode cX10_run 34 = .ok (.putfield 107, 3) := by decide +kernel
theorem dX10_run_37 : decode cX10_run 37 = .ok (.iconst 0, 1) := by decide +kernel
theorem dX10_run_38 : decode cX10_run 38 = .ok (.istore_n 1, 1) := by decide +kernel
theorem dX10_run_39 : decode cX10_run 39 = .ok (.aload_n 0, 1) := by decide +kernel
theorem dX10_run_40 : decode cX10_run 40 = .ok (.invokevirtual 123, 3) := by decide +kernel
theorem dX10_run_43 : decode cX10_run 43 = .ok (.aload_n 0, 1) := by decide +kernel
theorem dX10_run_44 : decode cX10_run 44 = .ok (.getfield 107, 3) := by decide +kernel
theorem dX10_run_47 : decode cX10_run 47 = .ok (.aload_n 0, 1) := by decide +kernel
theorem dX10_run_48 : decode cX10_run 48 = .ok (.getfield 110, 3) := by decide +kernel
theorem dX10_run_51 : decode cX10_run 51 = .ok (.if_icmp .le 73, 3) := by decide +kernel
theorem dX10_run_54 : decode cX10_run 54 = .ok (.aload_n 0, 1) := by decide +kernel
theorem dX10_run_55 : decode cX10_run 55 = .ok (.getfield 110, 3) := by decide +kernel
theorem dX10_run_58 : decode cX10_run 58 = .ok (.istore_n 2, 1) := by decide +kernel
theorem dX10_run_59 : decode cX10_run 59 = .ok (.aload_n 0, 1) := by decide +kernel
theorem dX10_run_60 : decode cX10_run 60 = .ok (.invokevirtual 153, 3) := by decide +kernel
theorem dX10_run_63 : decode cX10_run 63 = .ok (.istore_n 3, 1) := by decide +kernel
theorem dX10_run_64 : decode cX10_run 64 = .ok (.iload_n 3, 1) := by decide +kernel
theorem dX10_run_65 : decode cX10_run 65 = .ok (.ifCond .lt 14, 3) := by decide +kernel
theorem dX10_run_68 : decode cX10_run 68 = .ok (.aload_n 0, 1) := by decide +kernel
theorem dX10_run_69 : decode cX10_run 69 = .ok (.iload_n 3, 1) := by decide +kernel
theorem dX10_run_70 : decode cX10_run 70 = .ok (.invokestatic 156, 3) := by decide +kernel
theorem dX10_run_73 : decode cX10_run 73 = .ok (.invokevirtual 159, 3) := by decide +kernel
theorem dX10_run_76 : decode cX10_run 76 = .ok (.ifCond .ne 16, 3) := by decide +kernel
theorem dX10_run_79 : decode cX10_run 79 = .ok (.aload_n 0, 1) := by decide +kernel
theorem dX10_run_80 : decode cX10_run 80 = .ok (.iconst 1, 1) := by decide +kernel
theorem dX10_run_81 : decode cX10_run 81 = .ok (.aload_n 0, 1) := by decide +kernel
theorem dX10_run_82 : decode cX10_run 82 = .ok (.getfield 110, 3) := by decide +kernel
theorem dX10_run_85 : decode cX10_run 85 = .ok (.iload_n 1, 1) := by decide +kernel
theorem dX10_run_86 : decode cX10_run 86 = .ok (.bipush (-9), 2) := by decide +kernel
theorem dX10_run_88 : decode cX10_run 88 = .ok (.invokevirtual 162, 3) := by decide +kernel
theorem dX10_run_91 : decode cX10_run 91 = .ok (.ireturn, 1) := by decide +kernel
theorem dX10_run_92 : decode cX10_run 92 = .ok (.aload_n 0, 1) := by decide +kernel
theorem dX10_run_93 : decode cX10_run 93 = .ok (.iload_n 3, 1) := by decide +kernel
theorem dX10_run_94 : decode cX10_run 94 = .ok (.invokevirtual 166, 3) := by decide +kernel
theorem dX10_run_97 : decode cX10_run 97 = .ok (.istore 4, 2) := by decide +kernel
theorem dX10_run_99 : decode cX10_run 99 = .ok (.iload 4, 2) := by decide +kernel
theorem dX10_run_101 : decode cX10_run 101 = .ok (.ifCond .ge 13, 3) := by decide +kernel
theorem dX10_run_104 : decode cX10_run 104 = .ok (.aload_n 0, 1) := by decide +kernel
theorem dX10_run_105 : decode cX10_run 105 = .ok (.iconst 2, 1) := by decide +kernel
theorem dX10_run_106 : decode cX10_run 106 = .ok (.iload_n 2, 1) := by decide +kernel
theorem dX10_run_107 : decode cX10_run 107 = .ok (.iload_n 1, 1) := by decide +kernel
theorem dX10_run_108 : decode cX10_run 108 = .ok (.iload 4, 2) := by decide +kernel
theorem dX10_run_110 : decode cX10_run 110 = .ok (.invokevirtual 162, 3) := by decide +kernel
theorem dX10_run_113 : decode cX10_run 113 = .ok (.ireturn, 1) := by decide +kernel
theorem dX10_run_114 : decode cX10_run 114 = .ok (.iinc 1 1, 3) := by decide +kernel
theorem dX10_run_117 : decode cX10_run 117 = .ok (.aload_n 0, 1) := by decide +kernel
theorem dX10_run_118 : decode cX10_run 118 = .ok (.invokevirtual 123, 3) := by decide +kernel
theorem dX10_run_121 : decode cX10_run 121 = .ok (.goto (-78), 3) := by decide +kernel
theorem dX10_run_124 : decode cX10_run 124 = .ok (.aload_n 0, 1) := by decide +kernel
theorem dX10_run_125 : decode cX10_run 125 = .ok (.iconst 0, 1) := by decide +kernel
theorem dX10_run_126 : decode cX10_run 126 = .ok (.putfield 46, 3) := by decide +kernel
theorem dX10_run_129 : decode cX10_run 129 = .ok (.aload_n 0, 1) := by decide +kernel
theorem dX10_run_130 : decode cX10_run 130 = .ok (.iconst 1, 1) := by decide +kernel
theorem dX10_run_131 : decode cX10_run 131 = .ok (.invokevirtual 50, 3) := by decide +kernel
theorem dX10_run_134 : decode cX10_run 134 = .ok (.aload_n 0, 1) := by decide +kernel
theorem dX10_run_135 : decode cX10_run 135 = .ok (.iconst 0, 1) := by decide +kernel
theorem dX10_run_136 : decode cX10_run 136 = .ok (.putfield 104, 3) := by decide +kernel
theorem dX10_run_139 : decode cX10_run 139 = .ok (.iload_n 1, 1) := by decide +kernel
theorem dX10_run_140 : decode cX10_run 140 = .ok (.ireturn, 1) := by decide +kernel
theorem dX10_failure_0 : decode cX10_failure 0 = .ok (.iload_n 1, 1) := by decide +kernel
theorem dX10_failure_1 : decode cX10_failure 1 = .ok (.ifCond .lt 8, 3) := by decide +kernel
theorem dX10_failure_4 : decode cX10_failure 4 = .ok (.iload_n 1, 1) := by decide +kernel
theorem dX10_failure_5 : decode cX10_failure 5 = .ok (.iconst 3, 1) := by decide +kernel
theorem dX10_failure_6 : decode cX10_failure 6 = .ok (.if_icmp .le 5, 3) := by decide +kernel
theorem dX10_failure_9 : decode cX10_failure 9 = .ok (.iconst (-1), 1) := by decide +kernel
theorem dX10_failure_10 : decode cX10_failure 10 = .ok (.ireturn, 1) := by decide +kernel
theorem dX10_failure_11 : decode cX10_failure 11 = .ok (.aload_n 0, 1) := by decide +kernel
theorem dX10_failure_12 : decode cX10_failure 12 = .ok (.getfield 150, 3) := by decide +kernel
theorem dX10_failure_15 : decode cX10_failure 15 = .ok (.ifCond .eq 12, 3) := by decide +kernel
theorem dX10_failure_18 : decode cX10_failure 18 = .ok (.aload_n 0, 1) := by decide +kernel
theorem dX10_failure_19 : decode cX10_failure 19 = .ok (.getfield 36, 3) := by decide +kernel
theorem dX10_failure_22 : decode cX10_failure 22 = .ok (.iload_n 1, 1) := by decide +kernel
theorem dX10_failure_23 : decode cX10_failure 23 = .ok (.iaload, 1) := by decide +kernel
theorem dX10_failure_24 : decode cX10_failure 24 = .ok (.goto 5, 3) := by decide +kernel
theorem dX10_failure_27 : decode cX10_failure 27 = .ok (.bipush (-9), 2) := by decide +kernel
theorem dX10_failure_29 : decode cX10_failure 29 = .ok (.ireturn, 1) := by decide +kernel
theorem dX10_snapshots_0 : decode cX10_snapshots 0 = .ok (.aload_n 0, 1) := by decide +kernel
theorem dX10_snapshots_1 : decode cX10_snapshots 1 = .ok (.getfield 16, 3) := by decide +kernel
theorem dX10_snapshots_4 : decode cX10_snapshots 4 = .ok (.iconst 0, 1) := by decide +kernel
theorem dX10_snapshots_5 : decode cX10_snapshots 5 = .ok (.baload, 1) := by decide +kernel
theorem dX10_snapshots_6 : decode cX10_snapshots 6 = .ok (.ifCond .eq 7, 3) := by decide +kernel
theorem dX10_snapshots_9 : decode cX10_snapshots 9 = .ok (.iconst 1, 1) := by decide +kernel
theorem dX10_snapshots_10 : decode cX10_snapshots 10 = .ok (.goto 4, 3) := by decide +kernel
theorem dX10_snapshots_13 : decode cX10_snapshots 13 = .ok (.iconst 0, 1) := by decide +kernel
theorem dX10_snapshots_14 : decode cX10_snapshots 14 = .ok (.istore_n 1, 1) := by decide +kernel
theorem dX10_snapshots_15 : decode cX10_snapshots 15 = .ok (.aload_n 0, 1) := by decide +kernel
theorem dX10_snapshots_16 : decode cX10_snapshots 16 = .ok (.getfield 16, 3) := by decide +kernel
theorem dX10_snapshots_19 : decode cX10_snapshots 19 = .ok (.iconst 1, 1) := by decide +kernel
theorem dX10_snapshots_20 : decode cX10_snapshots 20 = .ok (.baload, 1) := by decide +kernel
theorem dX10_snapshots_21 : decode cX10_snapshots 21 = .ok (.ifCond .eq 9, 3) := by decide +kernel
theorem dX10_snapshots_24 : decode cX10_snapshots 24 = .ok (.iload_n 1, 1) := by decide +kernel
theorem dX10_snapshots_25 : decode cX10_snapshots 25 = .ok (.iconst 1, 1) := by decide +kernel
theorem dX10_snapshots_26 : decode cX10_snapshots 26 = .ok (.iadd, 1) := by decide +kernel
theorem dX10_snapshots_27 : decode cX10_snapshots 27 = .ok (.goto 4, 3) := by decide +kernel
theorem dX10_snapshots_30 : decode cX10_snapshots 30 = .ok (.iload_n 1, 1) := by decide +kernel
theorem dX10_snapshots_31 : decode cX10_snapshots 31 = .ok (.ireturn, 1) := by decide +kernel
set_option maxRecDepth 20000 in
theorem ggX10_count_X10_inState : GoodIn wsX10_count wsX10_inState := goodIn_r _ [8, 1, 14, 15, 16, 17, 18, 19, 20, 21, 22, 23, 24, 25, 26, 27, 28, 29] (by decide +kernel) (by decide +kernel)
set_option maxRecDepth 20000 in
theorem gX10_count_X10_inState : GoodIn wsX10_count (wsV RX10 90 RX10 yX10_inState wsX10_inState) := goodIn_app (goodIn_of _ (by decide +kernel)) ggX10_count_X10_inState
set_option maxRecDepth 20000 in
theorem ggX10_count_X10_snapshots : GoodIn wsX10_count wsX10_snapshots := goodIn_r _ [12, 13, 14, 15, 16, 17, 18, 19, 20, 21, 22, 23, 24, 25, 26, 27, 28, 29] (by decide +kernel) (by decide +kernel)
set_option maxRecDepth 20000 in
theorem gX10_count_X10_snapshots : GoodIn wsX10_count (wsV RX10 169 RX10 yX10_snapshots wsX10_snapshots) := goodIn_app (goodIn_of _ (by decide +kernel)) ggX10_count_X10_snapshots
theorem dX10_count_0 : decode cX10_count 0 = .ok (.iload_n 1, 1) := by decide +kernel
theorem dX10_count_1 : decode cX10_count 1 = .ok (.ifCond .lt 9, 3) := by decide +kernel
theorem dX10_count_4 : decode cX10_count 4 = .ok (.iload_n 1, 1) := by decide +kernel
theorem dX10_count_5 : decode cX10_count 5 = .ok (.bipush 16, 2) := by decide +kernel
theorem dX10_count_7 : decode cX10_count 7 = .ok (.if_icmp .le 5, 3) := by decide +kernel
theorem dX10_count_10 : decode cX10_count 10 = .ok (.iconst (-1), 1) := by decide +kernel
theorem dX10_count_11 : decode cX10_count 11 = .ok (.ireturn, 1) := by decide +kernel
theorem dX10_count_12 : decode cX10_count 12 = .ok (.iload_n 1, 1) := by decide +kernel
theorem dX10_count_13 : decode cX10_count 13 = .ok (.tableswitch 118 0 13 #[71, 78, 85, 91, 97, 118, 118, 118, 118, 118, 118, 103, 108, 113], 71) := by decide +kernel
theorem dX10_count_84 : decode cX10_count 84 = .ok (.aload_n 0, 1) := by decide +kernel
theorem dX10_count_85 : decode cX10_count 85 = .ok (.getfield 7, 3) := by decide +kernel
theorem dX10_count_88 : decode cX10_count 88 = .ok (.iconst 0, 1) := by decide +kernel
theorem dX10_count_89 : decode cX10_count 89 = .ok (.iaload, 1) := by decide +kernel
theorem dX10_count_90 : decode cX10_count 90 = .ok (.ireturn, 1) := by decide +kernel
theorem dX10_count_91 : decode cX10_count 91 = .ok (.aload_n 0, 1) := by decide +kernel
theorem dX10_count_92 : decode cX10_count 92 = .ok (.getfield 7, 3) := by decide +kernel
theorem dX10_count_95 : decode cX10_count 95 = .ok (.iconst 1, 1) := by decide +kernel
theorem dX10_count_96 : decode cX10_count 96 = .ok (.iaload, 1) := by decide +kernel
theorem dX10_count_97 : decode cX10_count 97 = .ok (.ireturn, 1) := by decide +kernel
theorem dX10_count_98 : decode cX10_count 98 = .ok (.aload_n 0, 1) := by decide +kernel
theorem dX10_count_99 : decode cX10_count 99 = .ok (.iconst 0, 1) := by decide +kernel
theorem dX10_count_100 : decode cX10_count 100 = .ok (.invokevirtual 90, 3) := by decide +kernel
theorem dX10_count_103 : decode cX10_count 103 = .ok (.ireturn, 1) := by decide +kernel
theorem dX10_count_104 : decode cX10_count 104 = .ok (.aload_n 0, 1) := by decide +kernel
theorem dX10_count_105 : decode cX10_count 105 = .ok (.iconst 1, 1) := by decide +kernel
theorem dX10_count_106 : decode cX10_count 106 = .ok (.invokevirtual 90, 3) := by decide +kernel
theorem dX10_count_109 : decode cX10_count 109 = .ok (.ireturn, 1) := by decide +kernel
theorem dX10_count_110 : decode cX10_count 110 = .ok (.aload_n 0, 1) := by decide +kernel
theorem dX10_count_111 : decode cX10_count 111 = .ok (.iconst 3, 1) := by decide +kernel
theorem dX10_count_112 : decode cX10_count 112 = .ok (.invokevirtual 90, 3) := by decide +kernel
theorem dX10_count_115 : decode cX10_count 115 = .ok (.ireturn, 1) := by decide +kernel
theorem dX10_count_116 : decode cX10_count 116 = .ok (.aload_n 0, 1) := by decide +kernel
theorem dX10_count_117 : decode cX10_count 117 = .ok (.invokevirtual 169, 3) := by decide +kernel
theorem dX10_count_120 : decode cX10_count 120 = .ok (.ireturn, 1) := by decide +kernel
theorem dX10_count_121 : decode cX10_count 121 = .ok (.aload_n 0, 1) := by decide +kernel
theorem dX10_count_122 : decode cX10_count 122 = .ok (.getfield 42, 3) := by decide +kernel
theorem dX10_count_125 : decode cX10_count 125 = .ok (.ireturn, 1) := by decide +kernel
theorem dX10_count_126 : decode cX10_count 126 = .ok (.aload_n 0, 1) := by decide +kernel
theorem dX10_count_127 : decode cX10_count 127 = .ok (.getfield 104, 3) := by decide +kernel
theorem dX10_count_130 : decode cX10_count 130 = .ok (.ireturn, 1) := by decide +kernel
theorem dX10_count_131 : decode cX10_count 131 = .ok (.iload_n 1, 1) := by decide +kernel
theorem dX10_count_132 : decode cX10_count 132 = .ok (.bipush 11, 2) := by decide +kernel
theorem dX10_count_134 : decode cX10_count 134 = .ok (.if_icmp .ge 16, 3) := by decide +kernel
theorem dX10_count_137 : decode cX10_count 137 = .ok (.aload_n 0, 1) := by decide +kernel
theorem dX10_count_138 : decode cX10_count 138 = .ok (.getfield 7, 3) := by decide +kernel
theorem dX10_count_141 : decode cX10_count 141 = .ok (.iconst 5, 1) := by decide +kernel
theorem dX10_count_142 : decode cX10_count 142 = .ok (.iload_n 1, 1) := by decide +kernel
theorem dX10_count_143 : decode cX10_count 143 = .ok (.iadd, 1) := by decide +kernel
theorem dX10_count_144 : decode cX10_count 144 = .ok (.iconst 5, 1) := by decide +kernel
theorem dX10_count_145 : decode cX10_count 145 = .ok (.isub, 1) := by decide +kernel
theorem dX10_count_146 : decode cX10_count 146 = .ok (.iaload, 1) := by decide +kernel
theorem dX10_count_147 : decode cX10_count 147 = .ok (.goto 14, 3) := by decide +kernel
theorem dX10_count_150 : decode cX10_count 150 = .ok (.aload_n 0, 1) := by decide +kernel
theorem dX10_count_151 : decode cX10_count 151 = .ok (.getfield 7, 3) := by decide +kernel
theorem dX10_count_154 : decode cX10_count 154 = .ok (.iconst 2, 1) := by decide +kernel
theorem dX10_count_155 : decode cX10_count 155 = .ok (.iload_n 1, 1) := by decide +kernel
theorem dX10_count_156 : decode cX10_count 156 = .ok (.iadd, 1) := by decide +kernel
theorem dX10_count_157 : decode cX10_count 157 = .ok (.bipush 14, 2) := by decide +kernel
theorem dX10_count_159 : decode cX10_count 159 = .ok (.isub, 1) := by decide +kernel
theorem dX10_count_160 : decode cX10_count 160 = .ok (.iaload, 1) := by decide +kernel
theorem dX10_count_161 : decode cX10_count 161 = .ok (.ireturn, 1) := by decide +kernel
set_option maxRecDepth 20000 in
theorem ggX10_promise_X10_isPromise : GoodIn wsX10_promise wsX10_isPromise := goodIn_r _ [6, 1, 11, 12, 13, 14, 15, 16, 17, 18, 19, 20, 21, 22, 23, 24, 25, 26] (by decide +kernel) (by decide +kernel)
set_option maxRecDepth 20000 in
theorem gX10_promise_X10_isPromise : GoodIn wsX10_promise (wsV RX10 97 RX10 yX10_isPromise wsX10_isPromise) := goodIn_app (goodIn_of _ (by decide +kernel)) ggX10_promise_X10_isPromise
set_option maxRecDepth 20000 in
theorem ggX10_promise_X10_placeOf : GoodIn wsX10_promise wsX10_placeOf := goodIn_r _ [10, 1, 11, 12, 13, 14, 15, 16, 17, 18, 19, 20, 21, 22, 23, 24, 25, 26] (by decide +kernel) (by decide +kernel)
set_option maxRecDepth 20000 in
theorem gX10_promise_X10_placeOf : GoodIn wsX10_promise (wsV RX10 172 RX10 yX10_placeOf wsX10_placeOf) := goodIn_app (goodIn_of _ (by decide +kernel)) ggX10_promise_X10_placeOf
theorem dX10_promise_0 : decode cX10_promise 0 = .ok (.aload_n 0, 1) := by decide +kernel
theorem dX10_promise_1 : decode cX10_promise 1 = .ok (.iload_n 1, 1) := by decide +kernel
theorem dX10_promise_2 : decode cX10_promise 2 = .ok (.invokevirtual 97, 3) := by decide +kernel
theorem dX10_promise_5 : decode cX10_promise 5 = .ok (.ifCond .eq 13, 3) := by decide +kernel
theorem dX10_promise_8 : decode cX10_promise 8 = .ok (.iload_n 2, 1) := by decide +kernel
theorem dX10_promise_9 : decode cX10_promise 9 = .ok (.ifCond .lt 9, 3) := by decide +kernel
theorem dX10_promise_12 : decode cX10_promise 12 = .ok (.iload_n 2, 1) := by decide +kernel
theorem dX10_promise_13 : decode cX10_promise 13 = .ok (.bipush 8, 2) := by decide +kernel
theorem dX10_promise_15 : decode cX10_promise 15 = .ok (.if_icmp .le 5, 3) := by decide +kernel
theorem dX10_promise_18 : decode cX10_promise 18 = .ok (.iconst (-1), 1) := by decide +kernel
theorem dX10_promise_19 : decode cX10_promise 19 = .ok (.ireturn, 1) := by decide +kernel
theorem dX10_promise_20 : decode cX10_promise 20 = .ok (.aload_n 0, 1) := by decide +kernel
theorem dX10_promise_21 : decode cX10_promise 21 = .ok (.getfield 7, 3) := by decide +kernel
theorem dX10_promise_24 : decode cX10_promise 24 = .ok (.sipush 172, 3) := by decide +kernel
theorem dX10_promise_27 : decode cX10_promise 27 = .ok (.iload_n 1, 1) := by decide +kernel
theorem dX10_promise_28 : decode cX10_promise 28 = .ok (.iadd, 1) := by decide +kernel
theorem dX10_promise_29 : decode cX10_promise 29 = .ok (.iaload, 1) := by decide +kernel
theorem dX10_promise_30 : decode cX10_promise 30 = .ok (.istore_n 3, 1) := by decide +kernel
theorem dX10_promise_31 : decode cX10_promise 31 = .ok (.iload_n 3, 1) := by decide +kernel
theorem dX10_promise_32 : decode cX10_promise 32 = .ok (.ifCond .lt 13, 3) := by decide +kernel
theorem dX10_promise_35 : decode cX10_promise 35 = .ok (.iload_n 3, 1) := by decide +kernel
theorem dX10_promise_36 : decode cX10_promise 36 = .ok (.bipush 24, 2) := by decide +kernel
theorem dX10_promise_38 : decode cX10_promise 38 = .ok (.if_icmp .ge 7, 3) := by decide +kernel
theorem dX10_promise_41 : decode cX10_promise 41 = .ok (.iconst 1, 1) := by decide +kernel
theorem dX10_promise_42 : decode cX10_promise 42 = .ok (.goto 4, 3) := by decide +kernel
theorem dX10_promise_45 : decode cX10_promise 45 = .ok (.iconst 0, 1) := by decide +kernel
theorem dX10_promise_46 : decode cX10_promise 46 = .ok (.istore 4, 2) := by decide +kernel
theorem dX10_promise_48 : decode cX10_promise 48 = .ok (.iload_n 2, 1) := by decide +kernel
theorem dX10_promise_49 : decode cX10_promise 49 = .ok (.tableswitch 145 0 7 #[47, 58, 68, 78, 88, 103, 118, 134], 47) := by decide +kernel
theorem dX10_promise_96 : decode cX10_promise 96 = .ok (.aload_n 0, 1) := by decide +kernel
theorem dX10_promise_97 : decode cX10_promise 97 = .ok (.getfield 7, 3) := by decide +kernel
theorem dX10_promise_100 : decode cX10_promise 100 = .ok (.sipush 132, 3) := by decide +kernel
theorem dX10_promise_103 : decode cX10_promise 103 = .ok (.iload_n 1, 1) := by decide +kernel
theorem dX10_promise_104 : decode cX10_promise 104 = .ok (.iadd, 1) := by decide +kernel
theorem dX10_promise_105 : decode cX10_promise 105 = .ok (.iaload, 1) := by decide +kernel
theorem dX10_promise_106 : decode cX10_promise 106 = .ok (.ireturn, 1) := by decide +kernel
theorem dX10_promise_107 : decode cX10_promise 107 = .ok (.aload_n 0, 1) := by decide +kernel
theorem dX10_promise_108 : decode cX10_promise 108 = .ok (.getfield 7, 3) := by decide +kernel
theorem dX10_promise_111 : decode cX10_promise 111 = .ok (.bipush 12, 2) := by decide +kernel
theorem dX10_promise_113 : decode cX10_promise 113 = .ok (.iload_n 1, 1) := by decide +kernel
theorem dX10_promise_114 : decode cX10_promise 114 = .ok (.iadd, 1) := by decide +kernel
theorem dX10_promise_115 : decode cX10_promise 115 = .ok (.iaload, 1) := by decide +kernel
theorem dX10_promise_116 : decode cX10_promise 116 = .ok (.ireturn, 1) := by decide +kernel
theorem dX10_promise_117 : decode cX10_promise 117 = .ok (.aload_n 0, 1) := by decide +kernel
theorem dX10_promise_118 : decode cX10_promise 118 = .ok (.getfield 7, 3) := by decide +kernel
theorem dX10_promise_121 : decode cX10_promise 121 = .ok (.bipush 52, 2) := by decide +kernel
theorem dX10_promise_123 : decode cX10_promise 123 = .ok (.iload_n 1, 1) := by decide +kernel
theorem dX10_promise_124 : decode cX10_promise 124 = .ok (.iadd, 1) := by decide +kernel
theorem dX10_promise_125 : decode cX10_promise 125 = .ok (.iaload, 1) := by decide +kernel
theorem dX10_promise_126 : decode cX10_promise 126 = .ok (.ireturn, 1) := by decide +kernel
theorem dX10_promise_127 : decode cX10_promise 127 = .ok (.aload_n 0, 1) := by decide +kernel
theorem dX10_promise_128 : decode cX10_promise 128 = .ok (.getfield 7, 3) := by decide +kernel
theorem dX10_promise_131 : decode cX10_promise 131 = .ok (.bipush 92, 2) := by decide +kernel
theorem dX10_promise_133 : decode cX10_promise 133 = .ok (.iload_n 1, 1) := by decide +kernel
theorem dX10_promise_134 : decode cX10_promise 134 = .ok (.iadd, 1) := by decide +kernel
theorem dX10_promise_135 : decode cX10_promise 135 = .ok (.iaload, 1) := by decide +kernel
theorem dX10_promise_136 : decode cX10_promise 136 = .ok (.ireturn, 1) := by decide +kernel
theorem dX10_promise_137 : decode cX10_promise 137 = .ok (.iload 4, 2) := by decide +kernel
theorem dX10_promise_139 : decode cX10_promise 139 = .ok (.ifCond .eq 10, 3) := by decide +kernel
theorem dX10_promise_142 : decode cX10_promise 142 = .ok (.iload_n 3, 1) := by decide +kernel
theorem dX10_promise_143 : decode cX10_promise 143 = .ok (.bipush 8, 2) := by decide +kernel
theorem dX10_promise_145 : decode cX10_promise 145 = .ok (.idiv, 1) := by decide +kernel
theorem dX10_promise_146 : decode cX10_promise 146 = .ok (.goto 5, 3) := by decide +kernel
theorem dX10_promise_149 : decode cX10_promise 149 = .ok (.bipush (-9), 2) := by decide +kernel
theorem dX10_promise_151 : decode cX10_promise 151 = .ok (.ireturn, 1) := by decide +kernel
theorem dX10_promise_152 : decode cX10_promise 152 = .ok (.iload 4, 2) := by decide +kernel
theorem dX10_promise_154 : decode cX10_promise 154 = .ok (.ifCond .eq 10, 3) := by decide +kernel
theorem dX10_promise_157 : decode cX10_promise 157 = .ok (.iload_n 3, 1) := by decide +kernel
theorem dX10_promise_158 : decode cX10_promise 158 = .ok (.bipush 8, 2) := by decide +kernel
theorem dX10_promise_160 : decode cX10_promise 160 = .ok (.irem, 1) := by decide +kernel
theorem dX10_promise_161 : decode cX10_promise 161 = .ok (.goto 5, 3) := by decide +kernel
theorem dX10_promise_164 : decode cX10_promise 164 = .ok (.bipush (-9), 2) := by decide +kernel
theorem dX10_promise_166 : decode cX10_promise 166 = .ok (.ireturn, 1) := by decide +kernel
theorem dX10_promise_167 : decode cX10_promise 167 = .ok (.iload_n 3, 1) := by decide +kernel
theorem dX10_promise_168 : decode cX10_promise 168 = .ok (.iconst (-1), 1) := by decide +kernel
theorem dX10_promise_169 : decode cX10_promise 169 = .ok (.if_icmp .ne 8, 3) := by decide +kernel
theorem dX10_promise_172 : decode cX10_promise 172 = .ok (.bipush (-9), 2) := by decide +kernel
theorem dX10_promise_174 : decode cX10_promise 174 = .ok (.goto 8, 3) := by decide +kernel
theorem dX10_promise_177 : decode cX10_promise 177 = .ok (.aload_n 0, 1) := by decide +kernel
theorem dX10_promise_178 : decode cX10_promise 178 = .ok (.iload_n 1, 1) := by decide +kernel
theorem dX10_promise_179 : decode cX10_promise 179 = .ok (.invokevirtual 172, 3) := by decide +kernel
theorem dX10_promise_182 : decode cX10_promise 182 = .ok (.ireturn, 1) := by decide +kernel
theorem dX10_promise_183 : decode cX10_promise 183 = .ok (.aload_n 0, 1) := by decide +kernel
theorem dX10_promise_184 : decode cX10_promise 184 = .ok (.getfield 7, 3) := by decide +kernel
theorem dX10_promise_187 : decode cX10_promise 187 = .ok (.sipush 252, 3) := by decide +kernel
theorem dX10_promise_190 : decode cX10_promise 190 = .ok (.iload_n 1, 1) := by decide +kernel
theorem dX10_promise_191 : decode cX10_promise 191 = .ok (.iadd, 1) := by decide +kernel
theorem dX10_promise_192 : decode cX10_promise 192 = .ok (.iaload, 1) := by decide +kernel
theorem dX10_promise_193 : decode cX10_promise 193 = .ok (.ireturn, 1) := by decide +kernel
theorem dX10_promise_194 : decode cX10_promise 194 = .ok (.aload_n 0, 1) := by decide +kernel
theorem dX10_promise_195 : decode cX10_promise 195 = .ok (.getfield 7, 3) := by decide +kernel
theorem dX10_promise_198 : decode cX10_promise 198 = .ok (.sipush 292, 3) := by decide +kernel
theorem dX10_promise_201 : decode cX10_promise 201 = .ok (.iload_n 1, 1) := by decide +kernel
theorem dX10_promise_202 : decode cX10_promise 202 = .ok (.iadd, 1) := by decide +kernel
theorem dX10_promise_203 : decode cX10_promise 203 = .ok (.iaload, 1) := by decide +kernel
theorem dX10_promise_204 : decode cX10_promise 204 = .ok (.ireturn, 1) := by decide +kernel
set_option maxRecDepth 20000 in
theorem ggX10_slot_X10_manyAt : GoodIn wsX10_slot wsX10_manyAt := goodIn_r _ [6, 1, 7, 8, 9, 10, 11, 12, 13, 14, 15, 16, 17, 18, 19, 20, 21, 22] (by decide +kernel) (by decide +kernel)
set_option maxRecDepth 20000 in
theorem gX10_slot_X10_manyAt : GoodIn wsX10_slot (wsV RX10 65 RX10 yX10_manyAt wsX10_manyAt) := goodIn_app (goodIn_of _ (by decide +kernel)) ggX10_slot_X10_manyAt
theorem dX10_slot_0 : decode cX10_slot 0 = .ok (.iload_n 1, 1) := by decide +kernel
theorem dX10_slot_1 : decode cX10_slot 1 = .ok (.ifCond .lt 27, 3) := by decide +kernel
theorem dX10_slot_4 : decode cX10_slot 4 = .ok (.iload_n 1, 1) := by decide +kernel
theorem dX10_slot_5 : decode cX10_slot 5 = .ok (.iconst 2, 1) := by decide +kernel
theorem dX10_slot_6 : decode cX10_slot 6 = .ok (.if_icmp .gt 22, 3) := by decide +kernel
theorem dX10_slot_9 : decode cX10_slot 9 = .ok (.iload_n 2, 1) := by decide +kernel
theorem dX10_slot_10 : decode cX10_slot 10 = .ok (.ifCond .lt 18, 3) := by decide +kernel
theorem dX10_slot_13 : decode cX10_slot 13 = .ok (.iload_n 2, 1) := by decide +kernel
theorem dX10_slot_14 : decode cX10_slot 14 = .ok (.bipush 7, 2) := by decide +kernel
theorem dX10_slot_16 : decode cX10_slot 16 = .ok (.if_icmp .gt 12, 3) := by decide +kernel
theorem dX10_slot_19 : decode cX10_slot 19 = .ok (.iload_n 3, 1) := by decide +kernel
theorem dX10_slot_20 : decode cX10_slot 20 = .ok (.ifCond .lt 8, 3) := by decide +kernel
theorem dX10_slot_23 : decode cX10_slot 23 = .ok (.iload_n 3, 1) := by decide +kernel
theorem dX10_slot_24 : decode cX10_slot 24 = .ok (.iconst 2, 1) := by decide +kernel
theorem dX10_slot_25 : decode cX10_slot 25 = .ok (.if_icmp .le 5, 3) := by decide +kernel
theorem dX10_slot_28 : decode cX10_slot 28 = .ok (.iconst (-1), 1) := by decide +kernel
theorem dX10_slot_29 : decode cX10_slot 29 = .ok (.ireturn, 1) := by decide +kernel
theorem dX10_slot_30 : decode cX10_slot 30 = .ok (.bipush 8, 2) := by decide +kernel
theorem dX10_slot_32 : decode cX10_slot 32 = .ok (.iload_n 1, 1) := by decide +kernel
theorem dX10_slot_33 : decode cX10_slot 33 = .ok (.imul, 1) := by decide +kernel
theorem dX10_slot_34 : decode cX10_slot 34 = .ok (.iload_n 2, 1) := by decide +kernel
theorem dX10_slot_35 : decode cX10_slot 35 = .ok (.iadd, 1) := by decide +kernel
theorem dX10_slot_36 : decode cX10_slot 36 = .ok (.istore 4, 2) := by decide +kernel
theorem dX10_slot_38 : decode cX10_slot 38 = .ok (.iconst 0, 1) := by decide +kernel
theorem dX10_slot_39 : decode cX10_slot 39 = .ok (.istore 5, 2) := by decide +kernel
theorem dX10_slot_41 : decode cX10_slot 41 = .ok (.bipush (-9), 2) := by decide +kernel
theorem dX10_slot_43 : decode cX10_slot 43 = .ok (.istore 6, 2) := by decide +kernel
theorem dX10_slot_45 : decode cX10_slot 45 = .ok (.iconst 0, 1) := by decide +kernel
theorem dX10_slot_46 : decode cX10_slot 46 = .ok (.istore 7, 2) := by decide +kernel
theorem dX10_slot_48 : decode cX10_slot 48 = .ok (.iload 7, 2) := by decide +kernel
theorem dX10_slot_50 : decode cX10_slot 50 = .ok (.aload_n 0, 1) := by decide +kernel
theorem dX10_slot_51 : decode cX10_slot 51 = .ok (.getfield 7, 3) := by decide +kernel
theorem dX10_slot_54 : decode cX10_slot 54 = .ok (.iconst 1, 1) := by decide +kernel
theorem dX10_slot_55 : decode cX10_slot 55 = .ok (.iaload, 1) := by decide +kernel
theorem dX10_slot_56 : decode cX10_slot 56 = .ok (.if_icmp .ge 135, 3) := by decide +kernel
theorem dX10_slot_59 : decode cX10_slot 59 = .ok (.aload_n 0, 1) := by decide +kernel
theorem dX10_slot_60 : decode cX10_slot 60 = .ok (.getfield 7, 3) := by decide +kernel
theorem dX10_slot_63 : decode cX10_slot 63 = .ok (.sipush 172, 3) := by decide +kernel
theorem dX10_slot_66 : decode cX10_slot 66 = .ok (.iload 7, 2) := by decide +kernel
theorem dX10_slot_68 : decode cX10_slot 68 = .ok (.iadd, 1) := by decide +kernel
theorem dX10_slot_69 : decode cX10_slot 69 = .ok (.iaload, 1) := by decide +kernel
theorem dX10_slot_70 : decode cX10_slot 70 = .ok (.iload 4, 2) := by decide +kernel
theorem dX10_slot_72 : decode cX10_slot 72 = .ok (.if_icmp .ne 7, 3) := by decide +kernel
theorem dX10_slot_75 : decode cX10_slot 75 = .ok (.iconst 1, 1) := by decide +kernel
theorem dX10_slot_76 : decode cX10_slot 76 = .ok (.goto 4, 3) := by decide +kernel
theorem dX10_slot_79 : decode cX10_slot 79 = .ok (.iconst 0, 1) := by decide +kernel
theorem dX10_slot_80 : decode cX10_slot 80 = .ok (.istore 8, 2) := by decide +kernel
theorem dX10_slot_82 : decode cX10_slot 82 = .ok (.aload_n 0, 1) := by decide +kernel
theorem dX10_slot_83 : decode cX10_slot 83 = .ok (.getfield 7, 3) := by decide +kernel
theorem dX10_slot_86 : decode cX10_slot 86 = .ok (.sipush 132, 3) := by decide +kernel
theorem dX10_slot_89 : decode cX10_slot 89 = .ok (.iload 7, 2) := by decide +kernel
theorem dX10_slot_91 : decode cX10_slot 91 = .ok (.iadd, 1) := by decide +kernel
theorem dX10_slot_92 : decode cX10_slot 92 = .ok (.iaload, 1) := by decide +kernel
theorem dX10_slot_93 : decode cX10_slot 93 = .ok (.iconst 3, 1) := by decide +kernel
theorem dX10_slot_94 : decode cX10_slot 94 = .ok (.if_icmp .ne 7, 3) := by decide +kernel
theorem dX10_slot_97 : decode cX10_slot 97 = .ok (.iconst 1, 1) := by decide +kernel
theorem dX10_slot_98 : decode cX10_slot 98 = .ok (.goto 4, 3) := by decide +kernel
theorem dX10_slot_101 : decode cX10_slot 101 = .ok (.iconst 0, 1) := by decide +kernel
theorem dX10_slot_102 : decode cX10_slot 102 = .ok (.istore 9, 2) := by decide +kernel
theorem dX10_slot_104 : decode cX10_slot 104 = .ok (.iload 5, 2) := by decide +kernel
theorem dX10_slot_106 : decode cX10_slot 106 = .ok (.iload 8, 2) := by decide +kernel
theorem dX10_slot_108 : decode cX10_slot 108 = .ok (.ifCond .eq 12, 3) := by decide +kernel
theorem dX10_slot_111 : decode cX10_slot 111 = .ok (.iload 9, 2) := by decide +kernel
theorem dX10_slot_113 : decode cX10_slot 113 = .ok (.ifCond .eq 7, 3) := by decide +kernel
theorem dX10_slot_116 : decode cX10_slot 116 = .ok (.iconst 1, 1) := by decide +kernel
theorem dX10_slot_117 : decode cX10_slot 117 = .ok (.goto 4, 3) := by decide +kernel
theorem dX10_slot_120 : decode cX10_slot 120 = .ok (.iconst 0, 1) := by decide +kernel
theorem dX10_slot_121 : decode cX10_slot 121 = .ok (.iadd, 1) := by decide +kernel
theorem dX10_slot_122 : decode cX10_slot 122 = .ok (.istore 5, 2) := by decide +kernel
theorem dX10_slot_124 : decode cX10_slot 124 = .ok (.iload 8, 2) := by decide +kernel
theorem dX10_slot_126 : decode cX10_slot 126 = .ok (.ifCond .eq 34, 3) := by decide +kernel
theorem dX10_slot_129 : decode cX10_slot 129 = .ok (.iload 9, 2) := by decide +kernel
theorem dX10_slot_131 : decode cX10_slot 131 = .ok (.ifCond .ne 29, 3) := by decide +kernel
theorem dX10_slot_134 : decode cX10_slot 134 = .ok (.iload 6, 2) := by decide +kernel
theorem dX10_slot_136 : decode cX10_slot 136 = .ok (.bipush (-9), 2) := by decide +kernel
theorem dX10_slot_138 : decode cX10_slot 138 = .ok (.if_icmp .eq 18, 3) := by decide +kernel
theorem dX10_slot_141 : decode cX10_slot 141 = .ok (.aload_n 0, 1) := by decide +kernel
theorem dX10_slot_142 : decode cX10_slot 142 = .ok (.getfield 7, 3) := by decide +kernel
theorem dX10_slot_145 : decode cX10_slot 145 = .ok (.bipush 12, 2) := by decide +kernel
theorem dX10_slot_147 : decode cX10_slot 147 = .ok (.iload 7, 2) := by decide +kernel
theorem dX10_slot_149 : decode cX10_slot 149 = .ok (.iadd, 1) := by decide +kernel
theorem dX10_slot_150 : decode cX10_slot 150 = .ok (.iaload, 1) := by decide +kernel
theorem dX10_slot_151 : decode cX10_slot 151 = .ok (.iload 6, 2) := by decide +kernel
theorem dX10_slot_153 : decode cX10_slot 153 = .ok (.if_icmp .ge 7, 3) := by decide +kernel
theorem dX10_slot_156 : decode cX10_slot 156 = .ok (.iconst 1, 1) := by decide +kernel
theorem dX10_slot_157 : decode cX10_slot 157 = .ok (.goto 4, 3) := by decide +kernel
theorem dX10_slot_160 : decode cX10_slot 160 = .ok (.iconst 0, 1) := by decide +kernel
theorem dX10_slot_161 : decode cX10_slot 161 = .ok (.istore 10, 2) := by decide +kernel
theorem dX10_slot_163 : decode cX10_slot 163 = .ok (.iload 10, 2) := by decide +kernel
theorem dX10_slot_165 : decode cX10_slot 165 = .ok (.ifCond .eq 16, 3) := by decide +kernel
theorem dX10_slot_168 : decode cX10_slot 168 = .ok (.aload_n 0, 1) := by decide +kernel
theorem dX10_slot_169 : decode cX10_slot 169 = .ok (.getfield 7, 3) := by decide +kernel
theorem dX10_slot_172 : decode cX10_slot 172 = .ok (.bipush 12, 2) := by decide +kernel
theorem dX10_slot_174 : decode cX10_slot 174 = .ok (.iload 7, 2) := by decide +kernel
theorem dX10_slot_176 : decode cX10_slot 176 = .ok (.iadd, 1) := by decide +kernel
theorem dX10_slot_177 : decode cX10_slot 177 = .ok (.iaload, 1) := by decide +kernel
theorem dX10_slot_178 : decode cX10_slot 178 = .ok (.goto 5, 3) := by decide +kernel
theorem dX10_slot_181 : decode cX10_slot 181 = .ok (.iload 6, 2) := by decide +kernel
theorem dX10_slot_183 : decode cX10_slot 183 = .ok (.istore 6, 2) := by decide +kernel
theorem dX10_slot_185 : decode cX10_slot 185 = .ok (.iinc 7 1, 3) := by decide +kernel
theorem dX10_slot_188 : decode cX10_slot 188 = .ok (.goto (-140), 3) := by decide +kernel
theorem dX10_slot_191 : decode cX10_slot 191 = .ok (.iload_n 3, 1) := by decide +kernel
theorem dX10_slot_192 : decode cX10_slot 192 = .ok (.ifCond .ne 12, 3) := by decide +kernel
theorem dX10_slot_195 : decode cX10_slot 195 = .ok (.aload_n 0, 1) := by decide +kernel
theorem dX10_slot_196 : decode cX10_slot 196 = .ok (.iload 4, 2) := by decide +kernel
theorem dX10_slot_198 : decode cX10_slot 198 = .ok (.invokevirtual 65, 3) := by decide +kernel
theorem dX10_slot_201 : decode cX10_slot 201 = .ok (.goto 15, 3) := by decide +kernel
theorem dX10_slot_204 : decode cX10_slot 204 = .ok (.iload_n 3, 1) := by decide +kernel
theorem dX10_slot_205 : decode cX10_slot 205 = .ok (.iconst 1, 1) := by decide +kernel
theorem dX10_slot_206 : decode cX10_slot 206 = .ok (.if_icmp .ne 8, 3) := by decide +kernel
theorem dX10_slot_209 : decode cX10_slot 209 = .ok (.iload 5, 2) := by decide +kernel
theorem dX10_slot_211 : decode cX10_slot 211 = .ok (.goto 5, 3) := by decide +kernel
theorem dX10_slot_214 : decode cX10_slot 214 = .ok (.iload 6, 2) := by decide +kernel
theorem dX10_slot_216 : decode cX10_slot 216 = .ok (.ireturn, 1) := by decide +kernel
set_option maxRecDepth 20000 in
theorem ggX10_stands_X10_placeOf : GoodIn wsX10_stands wsX10_placeOf := goodIn_r _ [6, 1, 7, 8, 9, 10, 11, 12, 13, 14, 15, 16, 17, 18, 19, 20, 21, 22] (by decide +kernel) (by decide +kernel)
set_option maxRecDepth 20000 in
theorem gX10_stands_X10_placeOf : GoodIn wsX10_stands (wsV RX10 172 RX10 yX10_placeOf wsX10_placeOf) := goodIn_app (goodIn_of _ (by decide +kernel)) ggX10_stands_X10_placeOf
theorem dX10_stands_0 : decode cX10_stands 0 = .ok (.iload_n 1, 1) := by decide +kernel
theorem dX10_stands_1 : decode cX10_stands 1 = .ok (.ifCond .lt 31, 3) := by decide +kernel
theorem dX10_stands_4 : decode cX10_stands 4 = .ok (.iload_n 1, 1) := by decide +kernel
theorem dX10_stands_5 : decode cX10_stands 5 = .ok (.iconst 3, 1) := by decide +kernel
theorem dX10_stands_6 : decode cX10_stands 6 = .ok (.if_icmp .gt 26, 3) := by decide +kernel
theorem dX10_stands_9 : decode cX10_stands 9 = .ok (.iload_n 2, 1) := by decide +kernel
theorem dX10_stands_10 : decode cX10_stands 10 = .ok (.ifCond .lt 22, 3) := by decide +kernel
theorem dX10_stands_13 : decode cX10_stands 13 = .ok (.iload_n 2, 1) := by decide +kernel
theorem dX10_stands_14 : decode cX10_stands 14 = .ok (.bipush 7, 2) := by decide +kernel
theorem dX10_stands_16 : decode cX10_stands 16 = .ok (.if_icmp .gt 16, 3) := by decide +kernel
theorem dX10_stands_19 : decode cX10_stands 19 = .ok (.iload_n 1, 1) := by decide +kernel
theorem dX10_stands_20 : decode cX10_stands 20 = .ok (.iconst 3, 1) := by decide +kernel
theorem dX10_stands_21 : decode cX10_stands 21 = .ok (.if_icmp .ne 7, 3) := by decide +kernel
theorem dX10_stands_24 : decode cX10_stands 24 = .ok (.iload_n 2, 1) := by decide +kernel
theorem dX10_stands_25 : decode cX10_stands 25 = .ok (.ifCond .gt 7, 3) := by decide +kernel
theorem dX10_stands_28 : decode cX10_stands 28 = .ok (.iload_n 3, 1) := by decide +kernel
theorem dX10_stands_29 : decode cX10_stands 29 = .ok (.ifCond .ge 5, 3) := by decide +kernel
theorem dX10_stands_32 : decode cX10_stands 32 = .ok (.iconst (-1), 1) := by decide +kernel
theorem dX10_stands_33 : decode cX10_stands 33 = .ok (.ireturn, 1) := by decide +kernel
theorem dX10_stands_34 : decode cX10_stands 34 = .ok (.iload_n 1, 1) := by decide +kernel
theorem dX10_stands_35 : decode cX10_stands 35 = .ok (.iconst 3, 1) := by decide +kernel
theorem dX10_stands_36 : decode cX10_stands 36 = .ok (.if_icmp .ne 8, 3) := by decide +kernel
theorem dX10_stands_39 : decode cX10_stands 39 = .ok (.bipush 24, 2) := by decide +kernel
theorem dX10_stands_41 : decode cX10_stands 41 = .ok (.goto 9, 3) := by decide +kernel
theorem dX10_stands_44 : decode cX10_stands 44 = .ok (.bipush 8, 2) := by decide +kernel
theorem dX10_stands_46 : decode cX10_stands 46 = .ok (.iload_n 1, 1) := by decide +kernel
theorem dX10_stands_47 : decode cX10_stands 47 = .ok (.imul, 1) := by decide +kernel
theorem dX10_stands_48 : decode cX10_stands 48 = .ok (.iload_n 2, 1) := by decide +kernel
theorem dX10_stands_49 : decode cX10_stands 49 = .ok (.iadd, 1) := by decide +kernel
theorem dX10_stands_50 : decode cX10_stands 50 = .ok (.istore 4, 2) := by decide +kernel
theorem dX10_stands_52 : decode cX10_stands 52 = .ok (.bipush (-9), 2) := by decide +kernel
theorem dX10_stands_54 : decode cX10_stands 54 = .ok (.istore 5, 2) := by decide +kernel
theorem dX10_stands_56 : decode cX10_stands 56 = .ok (.iconst 0, 1) := by decide +kernel
theorem dX10_stands_57 : decode cX10_stands 57 = .ok (.istore 6, 2) := by decide +kernel
theorem dX10_stands_59 : decode cX10_stands 59 = .ok (.iload 6, 2) := by decide +kernel
theorem dX10_stands_61 : decode cX10_stands 61 = .ok (.aload_n 0, 1) := by decide +kernel
theorem dX10_stands_62 : decode cX10_stands 62 = .ok (.getfield 7, 3) := by decide +kernel
theorem dX10_stands_65 : decode cX10_stands 65 = .ok (.iconst 1, 1) := by decide +kernel
theorem dX10_stands_66 : decode cX10_stands 66 = .ok (.iaload, 1) := by decide +kernel
theorem dX10_stands_67 : decode cX10_stands 67 = .ok (.if_icmp .ge 44, 3) := by decide +kernel
theorem dX10_stands_70 : decode cX10_stands 70 = .ok (.aload_n 0, 1) := by decide +kernel
theorem dX10_stands_71 : decode cX10_stands 71 = .ok (.getfield 7, 3) := by decide +kernel
theorem dX10_stands_74 : decode cX10_stands 74 = .ok (.sipush 172, 3) := by decide +kernel
theorem dX10_stands_77 : decode cX10_stands 77 = .ok (.iload 6, 2) := by decide +kernel
theorem dX10_stands_79 : decode cX10_stands 79 = .ok (.iadd, 1) := by decide +kernel
theorem dX10_stands_80 : decode cX10_stands 80 = .ok (.iaload, 1) := by decide +kernel
theorem dX10_stands_81 : decode cX10_stands 81 = .ok (.iload 4, 2) := by decide +kernel
theorem dX10_stands_83 : decode cX10_stands 83 = .ok (.if_icmp .ne 18, 3) := by decide +kernel
theorem dX10_stands_86 : decode cX10_stands 86 = .ok (.aload_n 0, 1) := by decide +kernel
theorem dX10_stands_87 : decode cX10_stands 87 = .ok (.iload 6, 2) := by decide +kernel
theorem dX10_stands_89 : decode cX10_stands 89 = .ok (.invokevirtual 172, 3) := by decide +kernel
theorem dX10_stands_92 : decode cX10_stands 92 = .ok (.iload_n 3, 1) := by decide +kernel
theorem dX10_stands_93 : decode cX10_stands 93 = .ok (.if_icmp .ne 8, 3) := by decide +kernel
theorem dX10_stands_96 : decode cX10_stands 96 = .ok (.iload 6, 2) := by decide +kernel
theorem dX10_stands_98 : decode cX10_stands 98 = .ok (.goto 5, 3) := by decide +kernel
theorem dX10_stands_101 : decode cX10_stands 101 = .ok (.iload 5, 2) := by decide +kernel
theorem dX10_stands_103 : decode cX10_stands 103 = .ok (.istore 5, 2) := by decide +kernel
theorem dX10_stands_105 : decode cX10_stands 105 = .ok (.iinc 6 1, 3) := by decide +kernel
theorem dX10_stands_108 : decode cX10_stands 108 = .ok (.goto (-49), 3) := by decide +kernel
theorem dX10_stands_111 : decode cX10_stands 111 = .ok (.iload 5, 2) := by decide +kernel
theorem dX10_stands_113 : decode cX10_stands 113 = .ok (.ireturn, 1) := by decide +kernel
theorem dX10_call_0 : decode cX10_call 0 = .ok (.iload_n 1, 1) := by decide +kernel
theorem dX10_call_1 : decode cX10_call 1 = .ok (.ifCond .lt 18, 3) := by decide +kernel
theorem dX10_call_4 : decode cX10_call 4 = .ok (.iload_n 1, 1) := by decide +kernel
theorem dX10_call_5 : decode cX10_call 5 = .ok (.bipush 12, 2) := by decide +kernel
theorem dX10_call_7 : decode cX10_call 7 = .ok (.if_icmp .ge 12, 3) := by decide +kernel
theorem dX10_call_10 : decode cX10_call 10 = .ok (.iload_n 2, 1) := by decide +kernel
theorem dX10_call_11 : decode cX10_call 11 = .ok (.ifCond .lt 8, 3) := by decide +kernel
theorem dX10_call_14 : decode cX10_call 14 = .ok (.iload_n 2, 1) := by decide +kernel
theorem dX10_call_15 : decode cX10_call 15 = .ok (.iconst 2, 1) := by decide +kernel
theorem dX10_call_16 : decode cX10_call 16 = .ok (.if_icmp .le 5, 3) := by decide +kernel
theorem dX10_call_19 : decode cX10_call 19 = .ok (.iconst (-1), 1) := by decide +kernel
theorem dX10_call_20 : decode cX10_call 20 = .ok (.ireturn, 1) := by decide +kernel
theorem dX10_call_21 : decode cX10_call 21 = .ok (.iload_n 1, 1) := by decide +kernel
theorem dX10_call_22 : decode cX10_call 22 = .ok (.aload_n 0, 1) := by decide +kernel
theorem dX10_call_23 : decode cX10_call 23 = .ok (.getfield 7, 3) := by decide +kernel
theorem dX10_call_26 : decode cX10_call 26 = .ok (.iconst 5, 1) := by decide +kernel
theorem dX10_call_27 : decode cX10_call 27 = .ok (.iaload, 1) := by decide +kernel
theorem dX10_call_28 : decode cX10_call 28 = .ok (.if_icmp .lt 6, 3) := by decide +kernel
theorem dX10_call_31 : decode cX10_call 31 = .ok (.bipush (-9), 2) := by decide +kernel
theorem dX10_call_33 : decode cX10_call 33 = .ok (.ireturn, 1) := by decide +kernel
theorem dX10_call_34 : decode cX10_call 34 = .ok (.aload_n 0, 1) := by decide +kernel
theorem dX10_call_35 : decode cX10_call 35 = .ok (.getfield 7, 3) := by decide +kernel
theorem dX10_call_38 : decode cX10_call 38 = .ok (.iload_n 2, 1) := by decide +kernel
theorem dX10_call_39 : decode cX10_call 39 = .ok (.ifCond .ne 9, 3) := by decide +kernel
theorem dX10_call_42 : decode cX10_call 42 = .ok (.sipush 332, 3) := by decide +kernel
theorem dX10_call_45 : decode cX10_call 45 = .ok (.goto 17, 3) := by decide +kernel
theorem dX10_call_48 : decode cX10_call 48 = .ok (.iload_n 2, 1) := by decide +kernel
theorem dX10_call_49 : decode cX10_call 49 = .ok (.iconst 1, 1) := by decide +kernel
theorem dX10_call_50 : decode cX10_call 50 = .ok (.if_icmp .ne 9, 3) := by decide +kernel
theorem dX10_call_53 : decode cX10_call 53 = .ok (.sipush 344, 3) := by decide +kernel
theorem dX10_call_56 : decode cX10_call 56 = .ok (.goto 6, 3) := by decide +kernel
theorem dX10_call_59 : decode cX10_call 59 = .ok (.sipush 356, 3) := by decide +kernel
theorem dX10_call_62 : decode cX10_call 62 = .ok (.iload_n 1, 1) := by decide +kernel
theorem dX10_call_63 : decode cX10_call 63 = .ok (.iadd, 1) := by decide +kernel
theorem dX10_call_64 : decode cX10_call 64 = .ok (.iaload, 1) := by decide +kernel
theorem dX10_call_65 : decode cX10_call 65 = .ok (.ireturn, 1) := by decide +kernel
theorem dX10_better_0 : decode cX10_better 0 = .ok (.iload_n 1, 1) := by decide +kernel
theorem dX10_better_1 : decode cX10_better 1 = .ok (.ifCond .lt 7, 3) := by decide +kernel
theorem dX10_better_4 : decode cX10_better 4 = .ok (.iload_n 2, 1) := by decide +kernel
theorem dX10_better_5 : decode cX10_better 5 = .ok (.ifCond .ge 13, 3) := by decide +kernel
theorem dX10_better_8 : decode cX10_better 8 = .ok (.iload_n 1, 1) := by decide +kernel
theorem dX10_better_9 : decode cX10_better 9 = .ok (.ifCond .ge 7, 3) := by decide +kernel
theorem dX10_better_12 : decode cX10_better 12 = .ok (.iload_n 2, 1) := by decide +kernel
theorem dX10_better_13 : decode cX10_better 13 = .ok (.goto 4, 3) := by decide +kernel
theorem dX10_better_16 : decode cX10_better 16 = .ok (.iload_n 1, 1) := by decide +kernel
theorem dX10_better_17 : decode cX10_better 17 = .ok (.ireturn, 1) := by decide +kernel
theorem dX10_better_18 : decode cX10_better 18 = .ok (.aload_n 0, 1) := by decide +kernel
theorem dX10_better_19 : decode cX10_better 19 = .ok (.getfield 7, 3) := by decide +kernel
theorem dX10_better_22 : decode cX10_better 22 = .ok (.bipush 12, 2) := by decide +kernel
theorem dX10_better_24 : decode cX10_better 24 = .ok (.iload_n 1, 1) := by decide +kernel
theorem dX10_better_25 : decode cX10_better 25 = .ok (.iadd, 1) := by decide +kernel
theorem dX10_better_26 : decode cX10_better 26 = .ok (.iaload, 1) := by decide +kernel
theorem dX10_better_27 : decode cX10_better 27 = .ok (.aload_n 0, 1) := by decide +kernel
theorem dX10_better_28 : decode cX10_better 28 = .ok (.getfield 7, 3) := by decide +kernel
theorem dX10_better_31 : decode cX10_better 31 = .ok (.bipush 12, 2) := by decide +kernel
theorem dX10_better_33 : decode cX10_better 33 = .ok (.iload_n 2, 1) := by decide +kernel
theorem dX10_better_34 : decode cX10_better 34 = .ok (.iadd, 1) := by decide +kernel
theorem dX10_better_35 : decode cX10_better 35 = .ok (.iaload, 1) := by decide +kernel
theorem dX10_better_36 : decode cX10_better 36 = .ok (.if_icmp .lt 29, 3) := by decide +kernel
theorem dX10_better_39 : decode cX10_better 39 = .ok (.aload_n 0, 1) := by decide +kernel
theorem dX10_better_40 : decode cX10_better 40 = .ok (.getfield 7, 3) := by decide +kernel
theorem dX10_better_43 : decode cX10_better 43 = .ok (.bipush 12, 2) := by decide +kernel
theorem dX10_better_45 : decode cX10_better 45 = .ok (.iload_n 1, 1) := by decide +kernel
theorem dX10_better_46 : decode cX10_better 46 = .ok (.iadd, 1) := by decide +kernel
theorem dX10_better_47 : decode cX10_better 47 = .ok (.iaload, 1) := by decide +kernel
theorem dX10_better_48 : decode cX10_better 48 = .ok (.aload_n 0, 1) := by decide +kernel
theorem dX10_better_49 : decode cX10_better 49 = .ok (.getfield 7, 3) := by decide +kernel
theorem dX10_better_52 : decode cX10_better 52 = .ok (.bipush 12, 2) := by decide +kernel
theorem dX10_better_54 : decode cX10_better 54 = .ok (.iload_n 2, 1) := by decide +kernel
theorem dX10_better_55 : decode cX10_better 55 = .ok (.iadd, 1) := by decide +kernel
theorem dX10_better_56 : decode cX10_better 56 = .ok (.iaload, 1) := by decide +kernel
theorem dX10_better_57 : decode cX10_better 57 = .ok (.if_icmp .ne 12, 3) := by decide +kernel
theorem dX10_better_60 : decode cX10_better 60 = .ok (.iload_n 1, 1) := by decide +kernel
theorem dX10_better_61 : decode cX10_better 61 = .ok (.iload_n 2, 1) := by decide +kernel
theorem dX10_better_62 : decode cX10_better 62 = .ok (.if_icmp .ge 7, 3) := by decide +kernel
theorem dX10_better_65 : decode cX10_better 65 = .ok (.iconst 1, 1) := by decide +kernel
theorem dX10_better_66 : decode cX10_better 66 = .ok (.goto 4, 3) := by decide +kernel
theorem dX10_better_69 : decode cX10_better 69 = .ok (.iconst 0, 1) := by decide +kernel
theorem dX10_better_70 : decode cX10_better 70 = .ok (.istore_n 3, 1) := by decide +kernel
theorem dX10_better_71 : decode cX10_better 71 = .ok (.iload_n 3, 1) := by decide +kernel
theorem dX10_better_72 : decode cX10_better 72 = .ok (.ifCond .eq 7, 3) := by decide +kernel
theorem dX10_better_75 : decode cX10_better 75 = .ok (.iload_n 1, 1) := by decide +kernel
theorem dX10_better_76 : decode cX10_better 76 = .ok (.goto 4, 3) := by decide +kernel
theorem dX10_better_79 : decode cX10_better 79 = .ok (.iload_n 2, 1) := by decide +kernel
theorem dX10_better_80 : decode cX10_better 80 = .ok (.ireturn, 1) := by decide +kernel
set_option maxRecDepth 20000 in
theorem ggX10_bestAt_X10_better : GoodIn wsX10_bestAt wsX10_better := goodIn_r _ [6, 1, 7, 8, 9, 10, 11, 12, 13, 14, 15, 16, 17, 18, 19, 20, 21, 22] (by decide +kernel) (by decide +kernel)
set_option maxRecDepth 20000 in
theorem gX10_bestAt_X10_better : GoodIn wsX10_bestAt (wsV RX10 175 RX10 yX10_better wsX10_better) := goodIn_app (goodIn_of _ (by decide +kernel)) ggX10_bestAt_X10_better
theorem dX10_bestAt_0 : decode cX10_bestAt 0 = .ok (.iconst (-1), 1) := by decide +kernel
theorem dX10_bestAt_1 : decode cX10_bestAt 1 = .ok (.istore_n 2, 1) := by decide +kernel
theorem dX10_bestAt_2 : decode cX10_bestAt 2 = .ok (.iconst 0, 1) := by decide +kernel
theorem dX10_bestAt_3 : decode cX10_bestAt 3 = .ok (.istore_n 3, 1) := by decide +kernel
theorem dX10_bestAt_4 : decode cX10_bestAt 4 = .ok (.iload_n 3, 1) := by decide +kernel
theorem dX10_bestAt_5 : decode cX10_bestAt 5 = .ok (.aload_n 0, 1) := by decide +kernel
theorem dX10_bestAt_6 : decode cX10_bestAt 6 = .ok (.getfield 7, 3) := by decide +kernel
theorem dX10_bestAt_9 : decode cX10_bestAt 9 = .ok (.iconst 1, 1) := by decide +kernel
theorem dX10_bestAt_10 : decode cX10_bestAt 10 = .ok (.iaload, 1) := by decide +kernel
theorem dX10_bestAt_11 : decode cX10_bestAt 11 = .ok (.if_icmp .ge 47, 3) := by decide +kernel
theorem dX10_bestAt_14 : decode cX10_bestAt 14 = .ok (.aload_n 0, 1) := by decide +kernel
theorem dX10_bestAt_15 : decode cX10_bestAt 15 = .ok (.getfield 7, 3) := by decide +kernel
theorem dX10_bestAt_18 : decode cX10_bestAt 18 = .ok (.sipush 132, 3) := by decide +kernel
theorem dX10_bestAt_21 : decode cX10_bestAt 21 = .ok (.iload_n 3, 1) := by decide +kernel
theorem dX10_bestAt_22 : decode cX10_bestAt 22 = .ok (.iadd, 1) := by decide +kernel
theorem dX10_bestAt_23 : decode cX10_bestAt 23 = .ok (.iaload, 1) := by decide +kernel
theorem dX10_bestAt_24 : decode cX10_bestAt 24 = .ok (.ifCond .ne 28, 3) := by decide +kernel
theorem dX10_bestAt_27 : decode cX10_bestAt 27 = .ok (.iload_n 1, 1) := by decide +kernel
theorem dX10_bestAt_28 : decode cX10_bestAt 28 = .ok (.ifCond .lt 17, 3) := by decide +kernel
theorem dX10_bestAt_31 : decode cX10_bestAt 31 = .ok (.aload_n 0, 1) := by decide +kernel
theorem dX10_bestAt_32 : decode cX10_bestAt 32 = .ok (.getfield 7, 3) := by decide +kernel
theorem dX10_bestAt_35 : decode cX10_bestAt 35 = .ok (.sipush 172, 3) := by decide +kernel
theorem dX10_bestAt_38 : decode cX10_bestAt 38 = .ok (.iload_n 3, 1) := by decide +kernel
theorem dX10_bestAt_39 : decode cX10_bestAt 39 = .ok (.iadd, 1) := by decide +kernel
theorem dX10_bestAt_40 : decode cX10_bestAt 40 = .ok (.iaload, 1) := by decide +kernel
theorem dX10_bestAt_41 : decode cX10_bestAt 41 = .ok (.iload_n 1, 1) := by decide +kernel
theorem dX10_bestAt_42 : decode cX10_bestAt 42 = .ok (.if_icmp .ne 10, 3) := by decide +kernel
theorem dX10_bestAt_45 : decode cX10_bestAt 45 = .ok (.aload_n 0, 1) := by decide +kernel
theorem dX10_bestAt_46 : decode cX10_bestAt 46 = .ok (.iload_n 2, 1) := by decide +kernel
theorem dX10_bestAt_47 : decode cX10_bestAt 47 = .ok (.iload_n 3, 1) := by decide +kernel
theorem dX10_bestAt_48 : decode cX10_bestAt 48 = .ok (.invokevirtual 175, 3) := by decide +kernel
theorem dX10_bestAt_51 : decode cX10_bestAt 51 = .ok (.istore_n 2, 1) := by decide +kernel
theorem dX10_bestAt_52 : decode cX10_bestAt 52 = .ok (.iinc 3 1, 3) := by decide +kernel
theorem dX10_bestAt_55 : decode cX10_bestAt 55 = .ok (.goto (-51), 3) := by decide +kernel
theorem dX10_bestAt_58 : decode cX10_bestAt 58 = .ok (.iload_n 2, 1) := by decide +kernel
theorem dX10_bestAt_59 : decode cX10_bestAt 59 = .ok (.ireturn, 1) := by decide +kernel
set_option maxRecDepth 20000 in
theorem ggX10_bestOfRing_X10_bestAt : GoodIn wsX10_bestOfRing wsX10_bestAt := goodIn_r _ [6, 1, 7, 8, 9, 5, 10, 11, 12, 13, 14, 15, 16, 17, 18, 19, 20, 21, 22, 23, 24, 25, 26] (by decide +kernel) (by decide +kernel)
set_option maxRecDepth 20000 in
theorem gX10_bestOfRing_X10_bestAt : GoodIn wsX10_bestOfRing (wsV RX10 178 RX10 yX10_bestAt wsX10_bestAt) := goodIn_app (goodIn_of _ (by decide +kernel)) ggX10_bestOfRing_X10_bestAt
theorem dX10_bestOfRing_0 : decode cX10_bestOfRing 0 = .ok (.iload_n 1, 1) := by decide +kernel
theorem dX10_bestOfRing_1 : decode cX10_bestOfRing 1 = .ok (.ifCond .ne 12, 3) := by decide +kernel
theorem dX10_bestOfRing_4 : decode cX10_bestOfRing 4 = .ok (.aload_n 0, 1) := by decide +kernel
theorem dX10_bestOfRing_5 : decode cX10_bestOfRing 5 = .ok (.getfield 7, 3) := by decide +kernel
theorem dX10_bestOfRing_8 : decode cX10_bestOfRing 8 = .ok (.iconst 0, 1) := by decide +kernel
theorem dX10_bestOfRing_9 : decode cX10_bestOfRing 9 = .ok (.iaload, 1) := by decide +kernel
theorem dX10_bestOfRing_10 : decode cX10_bestOfRing 10 = .ok (.goto 29, 3) := by decide +kernel
theorem dX10_bestOfRing_13 : decode cX10_bestOfRing 13 = .ok (.iload_n 1, 1) := by decide +kernel
theorem dX10_bestOfRing_14 : decode cX10_bestOfRing 14 = .ok (.iconst 1, 1) := by decide +kernel
theorem dX10_bestOfRing_15 : decode cX10_bestOfRing 15 = .ok (.if_icmp .ne 15, 3) := by decide +kernel
theorem dX10_bestOfRing_18 : decode cX10_bestOfRing 18 = .ok (.aload_n 0, 1) := by decide +kernel
theorem dX10_bestOfRing_19 : decode cX10_bestOfRing 19 = .ok (.getfield 7, 3) := by decide +kernel
theorem dX10_bestOfRing_22 : decode cX10_bestOfRing 22 = .ok (.iconst 0, 1) := by decide +kernel
theorem dX10_bestOfRing_23 : decode cX10_bestOfRing 23 = .ok (.iaload, 1) := by decide +kernel
theorem dX10_bestOfRing_24 : decode cX10_bestOfRing 24 = .ok (.bipush 8, 2) := by decide +kernel
theorem dX10_bestOfRing_26 : decode cX10_bestOfRing 26 = .ok (.idiv, 1) := by decide +kernel
theorem dX10_bestOfRing_27 : decode cX10_bestOfRing 27 = .ok (.goto 12, 3) := by decide +kernel
theorem dX10_bestOfRing_30 : decode cX10_bestOfRing 30 = .ok (.aload_n 0, 1) := by decide +kernel
theorem dX10_bestOfRing_31 : decode cX10_bestOfRing 31 = .ok (.getfield 7, 3) := by decide +kernel
theorem dX10_bestOfRing_34 : decode cX10_bestOfRing 34 = .ok (.iconst 0, 1) := by decide +kernel
theorem dX10_bestOfRing_35 : decode cX10_bestOfRing 35 = .ok (.iaload, 1) := by decide +kernel
theorem dX10_bestOfRing_36 : decode cX10_bestOfRing 36 = .ok (.bipush 64, 2) := by decide +kernel
theorem dX10_bestOfRing_38 : decode cX10_bestOfRing 38 = .ok (.idiv, 1) := by decide +kernel
theorem dX10_bestOfRing_39 : decode cX10_bestOfRing 39 = .ok (.istore_n 2, 1) := by decide +kernel
theorem dX10_bestOfRing_40 : decode cX10_bestOfRing 40 = .ok (.iconst (-1), 1) := by decide +kernel
theorem dX10_bestOfRing_41 : decode cX10_bestOfRing 41 = .ok (.istore_n 3, 1) := by decide +kernel
theorem dX10_bestOfRing_42 : decode cX10_bestOfRing 42 = .ok (.iconst 1, 1) := by decide +kernel
theorem dX10_bestOfRing_43 : decode cX10_bestOfRing 43 = .ok (.istore 4, 2) := by decide +kernel
theorem dX10_bestOfRing_45 : decode cX10_bestOfRing 45 = .ok (.iload 4, 2) := by decide +kernel
theorem dX10_bestOfRing_47 : decode cX10_bestOfRing 47 = .ok (.bipush 8, 2) := by decide +kernel
theorem dX10_bestOfRing_49 : decode cX10_bestOfRing 49 = .ok (.if_icmp .gt 30, 3) := by decide +kernel
theorem dX10_bestOfRing_52 : decode cX10_bestOfRing 52 = .ok (.iload_n 3, 1) := by decide +kernel
theorem dX10_bestOfRing_53 : decode cX10_bestOfRing 53 = .ok (.ifCond .ge 26, 3) := by decide +kernel
theorem dX10_bestOfRing_56 : decode cX10_bestOfRing 56 = .ok (.aload_n 0, 1) := by decide +kernel
theorem dX10_bestOfRing_57 : decode cX10_bestOfRing 57 = .ok (.bipush 8, 2) := by decide +kernel
theorem dX10_bestOfRing_59 : decode cX10_bestOfRing 59 = .ok (.iload_n 1, 1) := by decide +kernel
theorem dX10_bestOfRing_60 : decode cX10_bestOfRing 60 = .ok (.imul, 1) := by decide +kernel
theorem dX10_bestOfRing_61 : decode cX10_bestOfRing 61 = .ok (.iload_n 2, 1) := by decide +kernel
theorem dX10_bestOfRing_62 : decode cX10_bestOfRing 62 = .ok (.iload 4, 2) := by decide +kernel
theorem dX10_bestOfRing_64 : decode cX10_bestOfRing 64 = .ok (.iadd, 1) := by decide +kernel
theorem dX10_bestOfRing_65 : decode cX10_bestOfRing 65 = .ok (.bipush 8, 2) := by decide +kernel
theorem dX10_bestOfRing_67 : decode cX10_bestOfRing 67 = .ok (.irem, 1) := by decide +kernel
theorem dX10_bestOfRing_68 : decode cX10_bestOfRing 68 = .ok (.iadd, 1) := by decide +kernel
theorem dX10_bestOfRing_69 : decode cX10_bestOfRing 69 = .ok (.invokevirtual 178, 3) := by decide +kernel
theorem dX10_bestOfRing_72 : decode cX10_bestOfRing 72 = .ok (.istore_n 3, 1) := by decide +kernel
theorem dX10_bestOfRing_73 : decode cX10_bestOfRing 73 = .ok (.iinc 4 1, 3) := by decide +kernel
theorem dX10_bestOfRing_76 : decode cX10_bestOfRing 76 = .ok (.goto (-31), 3) := by decide +kernel
theorem dX10_bestOfRing_79 : decode cX10_bestOfRing 79 = .ok (.iload_n 3, 1) := by decide +kernel
theorem dX10_bestOfRing_80 : decode cX10_bestOfRing 80 = .ok (.ireturn, 1) := by decide +kernel
set_option maxRecDepth 20000 in
theorem ggX10_next_X10_bestAt : GoodIn wsX10_next wsX10_bestAt := goodIn_r _ [6, 1, 7, 8, 9, 5, 10, 15, 16, 17, 18, 19, 20, 21, 22, 23, 24, 25, 26, 27, 28, 29, 30] (by decide +kernel) (by decide +kernel)
set_option maxRecDepth 20000 in
theorem gX10_next_X10_bestAt : GoodIn wsX10_next (wsV RX10 178 RX10 yX10_bestAt wsX10_bestAt) := goodIn_app (goodIn_of _ (by decide +kernel)) ggX10_next_X10_bestAt
set_option maxRecDepth 20000 in
theorem ggX10_next_X10_bestOfRing : GoodIn wsX10_next wsX10_bestOfRing := goodIn_r _ [14, 1, 2, 3, 4, 5, 6, 7, 8, 9, 10, 15, 16, 17, 18, 19, 20, 21, 22, 23, 24, 25, 26, 27, 28, 29, 30] (by decide +kernel) (by decide +kernel)
set_option maxRecDepth 20000 in
theorem gX10_next_X10_bestOfRing : GoodIn wsX10_next (wsV RX10 181 RX10 yX10_bestOfRing wsX10_bestOfRing) := goodIn_app (goodIn_of _ (by decide +kernel)) ggX10_next_X10_bestOfRing
set_option maxRecDepth 20000 in
theorem ggX10_next_X10_better : GoodIn wsX10_next wsX10_better := goodIn_r _ [10, 1, 15, 16, 17, 18, 19, 20, 21, 22, 23, 24, 25, 26, 27, 28, 29, 30] (by decide +kernel) (by decide +kernel)
set_option maxRecDepth 20000 in
theorem gX10_next_X10_better : GoodIn wsX10_next (wsV RX10 175 RX10 yX10_better wsX10_better) := goodIn_app (goodIn_of _ (by decide +kernel)) ggX10_next_X10_better
theorem dX10_next_0 : decode cX10_next 0 = .ok (.iload_n 1, 1) := by decide +kernel
theorem dX10_next_1 : decode cX10_next 1 = .ok (.ifCond .lt 17, 3) := by decide +kernel
theorem dX10_next_4 : decode cX10_next 4 = .ok (.iload_n 1, 1) := by decide +kernel
theorem dX10_next_5 : decode cX10_next 5 = .ok (.iconst 1, 1) := by decide +kernel
theorem dX10_next_6 : decode cX10_next 6 = .ok (.if_icmp .gt 12, 3) := by decide +kernel
theorem dX10_next_9 : decode cX10_next 9 = .ok (.iload_n 2, 1) := by decide +kernel
theorem dX10_next_10 : decode cX10_next 10 = .ok (.ifCond .lt 8, 3) := by decide +kernel
theorem dX10_next_13 : decode cX10_next 13 = .ok (.iload_n 2, 1) := by decide +kernel
theorem dX10_next_14 : decode cX10_next 14 = .ok (.iconst 1, 1) := by decide +kernel
theorem dX10_next_15 : decode cX10_next 15 = .ok (.if_icmp .le 5, 3) := by decide +kernel
theorem dX10_next_18 : decode cX10_next 18 = .ok (.iconst (-1), 1) := by decide +kernel
theorem dX10_next_19 : decode cX10_next 19 = .ok (.ireturn, 1) := by decide +kernel
theorem dX10_next_20 : decode cX10_next 20 = .ok (.aload_n 0, 1) := by decide +kernel
theorem dX10_next_21 : decode cX10_next 21 = .ok (.iconst (-1), 1) := by decide +kernel
theorem dX10_next_22 : decode cX10_next 22 = .ok (.invokevirtual 178, 3) := by decide +kernel
theorem dX10_next_25 : decode cX10_next 25 = .ok (.istore_n 3, 1) := by decide +kernel
theorem dX10_next_26 : decode cX10_next 26 = .ok (.iload_n 1, 1) := by decide +kernel
theorem dX10_next_27 : decode cX10_next 27 = .ok (.iconst 1, 1) := by decide +kernel
theorem dX10_next_28 : decode cX10_next 28 = .ok (.if_icmp .ne 29, 3) := by decide +kernel
theorem dX10_next_31 : decode cX10_next 31 = .ok (.aload_n 0, 1) := by decide +kernel
theorem dX10_next_32 : decode cX10_next 32 = .ok (.aload_n 0, 1) := by decide +kernel
theorem dX10_next_33 : decode cX10_next 33 = .ok (.iconst 0, 1) := by decide +kernel
theorem dX10_next_34 : decode cX10_next 34 = .ok (.invokevirtual 181, 3) := by decide +kernel
theorem dX10_next_37 : decode cX10_next 37 = .ok (.aload_n 0, 1) := by decide +kernel
theorem dX10_next_38 : decode cX10_next 38 = .ok (.iconst 1, 1) := by decide +kernel
theorem dX10_next_39 : decode cX10_next 39 = .ok (.invokevirtual 181, 3) := by decide +kernel
theorem dX10_next_42 : decode cX10_next 42 = .ok (.invokevirtual 175, 3) := by decide +kernel
theorem dX10_next_45 : decode cX10_next 45 = .ok (.istore_n 3, 1) := by decide +kernel
theorem dX10_next_46 : decode cX10_next 46 = .ok (.aload_n 0, 1) := by decide +kernel
theorem dX10_next_47 : decode cX10_next 47 = .ok (.iload_n 3, 1) := by decide +kernel
theorem dX10_next_48 : decode cX10_next 48 = .ok (.aload_n 0, 1) := by decide +kernel
theorem dX10_next_49 : decode cX10_next 49 = .ok (.iconst 2, 1) := by decide +kernel
theorem dX10_next_50 : decode cX10_next 50 = .ok (.invokevirtual 181, 3) := by decide +kernel
theorem dX10_next_53 : decode cX10_next 53 = .ok (.invokevirtual 175, 3) := by decide +kernel
theorem dX10_next_56 : decode cX10_next 56 = .ok (.istore_n 3, 1) := by decide +kernel
theorem dX10_next_57 : decode cX10_next 57 = .ok (.iload_n 3, 1) := by decide +kernel
theorem dX10_next_58 : decode cX10_next 58 = .ok (.ifCond .ge 8, 3) := by decide +kernel
theorem dX10_next_61 : decode cX10_next 61 = .ok (.bipush (-9), 2) := by decide +kernel
theorem dX10_next_63 : decode cX10_next 63 = .ok (.goto 20, 3) := by decide +kernel
theorem dX10_next_66 : decode cX10_next 66 = .ok (.iload_n 2, 1) := by decide +kernel
theorem dX10_next_67 : decode cX10_next 67 = .ok (.ifCond .ne 7, 3) := by decide +kernel
theorem dX10_next_70 : decode cX10_next 70 = .ok (.iload_n 3, 1) := by decide +kernel
theorem dX10_next_71 : decode cX10_next 71 = .ok (.goto 12, 3) := by decide +kernel
theorem dX10_next_74 : decode cX10_next 74 = .ok (.aload_n 0, 1) := by decide +kernel
theorem dX10_next_75 : decode cX10_next 75 = .ok (.getfield 7, 3) := by decide +kernel
theorem dX10_next_78 : decode cX10_next 78 = .ok (.bipush 12, 2) := by decide +kernel
theorem dX10_next_80 : decode cX10_next 80 = .ok (.iload_n 3, 1) := by decide +kernel
theorem dX10_next_81 : decode cX10_next 81 = .ok (.iadd, 1) := by decide +kernel
theorem dX10_next_82 : decode cX10_next 82 = .ok (.iaload, 1) := by decide +kernel
theorem dX10_next_83 : decode cX10_next 83 = .ok (.ireturn, 1) := by decide +kernel
theorem dX10_keepAside_0 : decode cX10_keepAside 0 = .ok (.iconst 0, 1) := by decide +kernel
theorem dX10_keepAside_1 : decode cX10_keepAside 1 = .ok (.istore_n 1, 1) := by decide +kernel
theorem dX10_keepAside_2 : decode cX10_keepAside 2 = .ok (.iload_n 1, 1) := by decide +kernel
theorem dX10_keepAside_3 : decode cX10_keepAside 3 = .ok (.sipush 368, 3) := by decide +kernel
theorem dX10_keepAside_6 : decode cX10_keepAside 6 = .ok (.if_icmp .ge 21, 3) := by decide +kernel
theorem dX10_keepAside_9 : decode cX10_keepAside 9 = .ok (.aload_n 0, 1) := by decide +kernel
theorem dX10_keepAside_10 : decode cX10_keepAside 10 = .ok (.getfield 29, 3) := by decide +kernel
theorem dX10_keepAside_13 : decode cX10_keepAside 13 = .ok (.iload_n 1, 1) := by decide +kernel
theorem dX10_keepAside_14 : decode cX10_keepAside 14 = .ok (.aload_n 0, 1) := by decide +kernel
theorem dX10_keepAside_15 : decode cX10_keepAside 15 = .ok (.getfield 7, 3) := by decide +kernel
theorem dX10_keepAside_18 : decode cX10_keepAside 18 = .ok (.iload_n 1, 1) := by decide +kernel
theorem dX10_keepAside_19 : decode cX10_keepAside 19 = .ok (.iaload, 1) := by decide +kernel
theorem dX10_keepAside_20 : decode cX10_keepAside 20 = .ok (.iastore, 1) := by decide +kernel
theorem dX10_keepAside_21 : decode cX10_keepAside 21 = .ok (.iinc 1 1, 3) := by decide +kernel
theorem dX10_keepAside_24 : decode cX10_keepAside 24 = .ok (.goto (-22), 3) := by decide +kernel
theorem dX10_keepAside_27 : decode cX10_keepAside 27 = .ok (.return_, 1) := by decide +kernel
theorem dX10_bringBack_0 : decode cX10_bringBack 0 = .ok (.iconst 0, 1) := by decide +kernel
theorem dX10_bringBack_1 : decode cX10_bringBack 1 = .ok (.istore_n 1, 1) := by decide +kernel
theorem dX10_bringBack_2 : decode cX10_bringBack 2 = .ok (.iload_n 1, 1) := by decide +kernel
theorem dX10_bringBack_3 : decode cX10_bringBack 3 = .ok (.sipush 368, 3) := by decide +kernel
theorem dX10_bringBack_6 : decode cX10_bringBack 6 = .ok (.if_icmp .ge 21, 3) := by decide +kernel
theorem dX10_bringBack_9 : decode cX10_bringBack 9 = .ok (.aload_n 0, 1) := by decide +kernel
theorem dX10_bringBack_10 : decode cX10_bringBack 10 = .ok (.getfield 7, 3) := by decide +kernel
theorem dX10_bringBack_13 : decode cX10_bringBack 13 = .ok (.iload_n 1, 1) := by decide +kernel
theorem dX10_bringBack_14 : decode cX10_bringBack 14 = .ok (.aload_n 0, 1) := by decide +kernel
theorem dX10_bringBack_15 : decode cX10_bringBack 15 = .ok (.getfield 29, 3) := by decide +kernel
theorem dX10_bringBack_18 : decode cX10_bringBack 18 = .ok (.iload_n 1, 1) := by decide +kernel
theorem dX10_bringBack_19 : decode cX10_bringBack 19 = .ok (.iaload, 1) := by decide +kernel
theorem dX10_bringBack_20 : decode cX10_bringBack 20 = .ok (.iastore, 1) := by decide +kernel
theorem dX10_bringBack_21 : decode cX10_bringBack 21 = .ok (.iinc 1 1, 3) := by decide +kernel
theorem dX10_bringBack_24 : decode cX10_bringBack 24 = .ok (.goto (-22), 3) := by decide +kernel
theorem dX10_bringBack_27 : decode cX10_bringBack 27 = .ok (.return_, 1) := by decide +kernel
set_option maxRecDepth 20000 in
theorem ggX10_when_X10_isPromise : GoodIn wsX10_when wsX10_isPromise := goodIn_r _ [6, 1, 68, 69, 70, 71, 72, 73, 74, 75, 76, 77, 78, 79, 80, 81, 82, 83] (by decide +kernel) (by decide +kernel)
set_option maxRecDepth 20000 in
theorem gX10_when_X10_isPromise : GoodIn wsX10_when (wsV RX10 97 RX10 yX10_isPromise wsX10_isPromise) := goodIn_app (goodIn_of _ (by decide +kernel)) ggX10_when_X10_isPromise
set_option maxRecDepth 20000 in
theorem ggX10_when_X10_keepAside : GoodIn wsX10_when wsX10_keepAside := goodIn_r _ [10, 11, 1, 68, 69, 70, 71, 72, 73, 74, 75, 76, 77, 78, 79, 80, 81, 82, 83] (by decide +kernel) (by decide +kernel)
set_option maxRecDepth 20000 in
theorem gX10_when_X10_keepAside : GoodIn wsX10_when (wsV RX10 184 RX10 yX10_keepAside wsX10_keepAside) := goodIn_app (goodIn_of _ (by decide +kernel)) ggX10_when_X10_keepAside
set_option maxRecDepth 20000 in
theorem ggX10_when_X10_tick : GoodIn wsX10_when wsX10_tick := goodIn_r _ [15, 1, 16, 17, 18, 5, 19, 20, 21, 22, 23, 24, 25, 26, 27, 28, 29, 30, 31, 32, 33, 34, 35, 36, 37, 38, 39, 40, 41, 42, 43, 44, 45, 46, 47, 48, 49, 50, 51, 52, 53, 54, 55, 56, 57, 58, 59, 60, 61, 62, 63, 68, 69, 70, 71, 72, 73, 74, 75, 76, 77, 78, 79, 80, 81, 82, 83] (by decide +kernel) (by decide +kernel)
set_option maxRecDepth 20000 in
theorem gX10_when_X10_tick : GoodIn wsX10_when (wsV RX10 101 RX10 yX10_tick wsX10_tick) := goodIn_app (goodIn_of _ (by decide +kernel)) ggX10_when_X10_tick
set_option maxRecDepth 20000 in
theorem ggX10_when_X10_bringBack : GoodIn wsX10_when wsX10_bringBack := goodIn_r _ [67, 1, 11, 68, 69, 70, 71, 72, 73, 74, 75, 76, 77, 78, 79, 80, 81, 82, 83] (by decide +kernel) (by decide +kernel)
set_option maxRecDepth 20000 in
theorem gX10_when_X10_bringBack : GoodIn wsX10_when (wsV RX10 187 RX10 yX10_bringBack wsX10_bringBack) := goodIn_app (goodIn_of _ (by decide +kernel)) ggX10_when_X10_bringBack
theorem dX10_when_0 : decode cX10_when 0 = .ok (.aload_n 0, 1) := by decide +kernel
theorem dX10_when_1 : decode cX10_when 1 = .ok (.iload_n 1, 1) := by decide +kernel
theorem dX10_when_2 : decode cX10_when 2 = .ok (.invokevirtual 97, 3) := by decide +kernel
theorem dX10_when_5 : decode cX10_when 5 = .ok (.ifCond .ne 5, 3) := by decide +kernel
theorem dX10_when_8 : decode cX10_when 8 = .ok (.iconst (-1), 1) := by decide +kernel
theorem dX10_when_9 : decode cX10_when 9 = .ok (.ireturn, 1) := by decide +kernel
theorem dX10_when_10 : decode cX10_when 10 = .ok (.aload_n 0, 1) := by decide +kernel
theorem dX10_when_11 : decode cX10_when 11 = .ok (.getfield 7, 3) := by decide +kernel
theorem dX10_when_14 : decode cX10_when 14 = .ok (.sipush 132, 3) := by decide +kernel
theorem dX10_when_17 : decode cX10_when 17 = .ok (.iload_n 1, 1) := by decide +kernel
theorem dX10_when_18 : decode cX10_when 18 = .ok (.iadd, 1) := by decide +kernel
theorem dX10_when_19 : decode cX10_when 19 = .ok (.iaload, 1) := by decide +kernel
theorem dX10_when_20 : decode cX10_when 20 = .ok (.iconst 1, 1) := by decide +kernel
theorem dX10_when_21 : decode cX10_when 21 = .ok (.if_icmp .le 6, 3) := by decide +kernel
theorem dX10_when_24 : decode cX10_when 24 = .ok (.bipush (-2), 2) := by decide +kernel
theorem dX10_when_26 : decode cX10_when 26 = .ok (.ireturn, 1) := by decide +kernel
theorem dX10_when_27 : decode cX10_when 27 = .ok (.aload_n 0, 1) := by decide +kernel
theorem dX10_when_28 : decode cX10_when 28 = .ok (.invokevirtual 184, 3) := by decide +kernel
theorem dX10_when_31 : decode cX10_when 31 = .ok (.aload_n 0, 1) := by decide +kernel
theorem dX10_when_32 : decode cX10_when 32 = .ok (.getfield 7, 3) := by decide +kernel
theorem dX10_when_35 : decode cX10_when 35 = .ok (.sipush 252, 3) := by decide +kernel
theorem dX10_when_38 : decode cX10_when 38 = .ok (.iload_n 1, 1) := by decide +kernel
theorem dX10_when_39 : decode cX10_when 39 = .ok (.iadd, 1) := by decide +kernel
theorem dX10_when_40 : decode cX10_when 40 = .ok (.iaload, 1) := by decide +kernel
theorem dX10_when_41 : decode cX10_when 41 = .ok (.istore_n 2, 1) := by decide +kernel
theorem dX10_when_42 : decode cX10_when 42 = .ok (.iconst 0, 1) := by decide +kernel
theorem dX10_when_43 : decode cX10_when 43 = .ok (.istore_n 3, 1) := by decide +kernel
theorem dX10_when_44 : decode cX10_when 44 = .ok (.iload_n 3, 1) := by decide +kernel
theorem dX10_when_45 : decode cX10_when 45 = .ok (.sipush 600, 3) := by decide +kernel
theorem dX10_when_48 : decode cX10_when 48 = .ok (.if_icmp .ge 27, 3) := by decide +kernel
theorem dX10_when_51 : decode cX10_when 51 = .ok (.aload_n 0, 1) := by decide +kernel
theorem dX10_when_52 : decode cX10_when 52 = .ok (.getfield 7, 3) := by decide +kernel
theorem dX10_when_55 : decode cX10_when 55 = .ok (.sipush 252, 3) := by decide +kernel
theorem dX10_when_58 : decode cX10_when 58 = .ok (.iload_n 1, 1) := by decide +kernel
theorem dX10_when_59 : decode cX10_when 59 = .ok (.iadd, 1) := by decide +kernel
theorem dX10_when_60 : decode cX10_when 60 = .ok (.iaload, 1) := by decide +kernel
theorem dX10_when_61 : decode cX10_when 61 = .ok (.iload_n 2, 1) := by decide +kernel
theorem dX10_when_62 : decode cX10_when 62 = .ok (.if_icmp .ne 13, 3) := by decide +kernel
theorem dX10_when_65 : decode cX10_when 65 = .ok (.aload_n 0, 1) := by decide +kernel
theorem dX10_when_66 : decode cX10_when 66 = .ok (.invokevirtual 101, 3) := by decide +kernel
theorem dX10_when_69 : decode cX10_when 69 = .ok (.iinc 3 1, 3) := by decide +kernel
theorem dX10_when_72 : decode cX10_when 72 = .ok (.goto (-28), 3) := by decide +kernel
theorem dX10_when_75 : decode cX10_when 75 = .ok (.aload_n 0, 1) := by decide +kernel
theorem dX10_when_76 : decode cX10_when 76 = .ok (.getfield 7, 3) := by decide +kernel
theorem dX10_when_79 : decode cX10_when 79 = .ok (.sipush 252, 3) := by decide +kernel
theorem dX10_when_82 : decode cX10_when 82 = .ok (.iload_n 1, 1) := by decide +kernel
theorem dX10_when_83 : decode cX10_when 83 = .ok (.iadd, 1) := by decide +kernel
theorem dX10_when_84 : decode cX10_when 84 = .ok (.iaload, 1) := by decide +kernel
theorem dX10_when_85 : decode cX10_when 85 = .ok (.iload_n 2, 1) := by decide +kernel
theorem dX10_when_86 : decode cX10_when 86 = .ok (.if_icmp .le 12, 3) := by decide +kernel
theorem dX10_when_89 : decode cX10_when 89 = .ok (.aload_n 0, 1) := by decide +kernel
theorem dX10_when_90 : decode cX10_when 90 = .ok (.getfield 7, 3) := by decide +kernel
theorem dX10_when_93 : decode cX10_when 93 = .ok (.iconst 0, 1) := by decide +kernel
theorem dX10_when_94 : decode cX10_when 94 = .ok (.iaload, 1) := by decide +kernel
theorem dX10_when_95 : decode cX10_when 95 = .ok (.goto 5, 3) := by decide +kernel
theorem dX10_when_98 : decode cX10_when 98 = .ok (.bipush (-9), 2) := by decide +kernel
theorem dX10_when_100 : decode cX10_when 100 = .ok (.istore_n 3, 1) := by decide +kernel
theorem dX10_when_101 : decode cX10_when 101 = .ok (.aload_n 0, 1) := by decide +kernel
theorem dX10_when_102 : decode cX10_when 102 = .ok (.invokevirtual 187, 3) := by decide +kernel
theorem dX10_when_105 : decode cX10_when 105 = .ok (.iload_n 3, 1) := by decide +kernel
theorem dX10_when_106 : decode cX10_when 106 = .ok (.ireturn, 1) := by decide +kernel
set_option maxRecDepth 20000 in
theorem ggX10_would_X10_keepAside : GoodIn wsX10_would wsX10_keepAside := goodIn_r _ [7, 2, 1, 64, 65, 66, 67, 68, 69, 70, 71, 72, 73, 74, 75, 76, 77, 78, 79] (by decide +kernel) (by decide +kernel)
set_option maxRecDepth 20000 in
theorem gX10_would_X10_keepAside : GoodIn wsX10_would (wsV RX10 184 RX10 yX10_keepAside wsX10_keepAside) := goodIn_app (goodIn_of _ (by decide +kernel)) ggX10_would_X10_keepAside
set_option maxRecDepth 20000 in
theorem ggX10_would_X10_tick : GoodIn wsX10_would wsX10_tick := goodIn_r _ [11, 1, 12, 13, 14, 6, 15, 16, 17, 18, 19, 20, 21, 22, 23, 24, 25, 26, 27, 28, 29, 30, 31, 32, 33, 34, 35, 36, 37, 38, 39, 40, 41, 42, 43, 44, 45, 46, 47, 48, 49, 50, 51, 52, 53, 54, 55, 56, 57, 58, 59, 64, 65, 66, 67, 68, 69, 70, 71, 72, 73, 74, 75, 76, 77, 78, 79] (by decide +kernel) (by decide +kernel)
set_option maxRecDepth 20000 in
theorem gX10_would_X10_tick : GoodIn wsX10_would (wsV RX10 101 RX10 yX10_tick wsX10_tick) := goodIn_app (goodIn_of _ (by decide +kernel)) ggX10_would_X10_tick
set_option maxRecDepth 20000 in
theorem ggX10_would_X10_inState : GoodIn wsX10_would wsX10_inState := goodIn_r _ [55, 1, 64, 65, 66, 67, 68, 69, 70, 71, 72, 73, 74, 75, 76, 77, 78, 79] (by decide +kernel) (by decide +kernel)
set_option maxRecDepth 20000 in
theorem gX10_would_X10_inState : GoodIn wsX10_would (wsV RX10 90 RX10 yX10_inState wsX10_inState) := goodIn_app (goodIn_of _ (by decide +kernel)) ggX10_would_X10_inState
set_option maxRecDepth 20000 in
theorem ggX10_would_X10_bringBack : GoodIn wsX10_would wsX10_bringBack := goodIn_r _ [63, 1, 2, 64, 65, 66, 67, 68, 69, 70, 71, 72, 73, 74, 75, 76, 77, 78, 79] (by decide +kernel) (by decide +kernel)
set_option maxRecDepth 20000 in
theorem gX10_would_X10_bringBack : GoodIn wsX10_would (wsV RX10 187 RX10 yX10_bringBack wsX10_bringBack) := goodIn_app (goodIn_of _ (by decide +kernel)) ggX10_would_X10_bringBack
theorem dX10_would_0 : decode cX10_would 0 = .ok (.iload_n 1, 1) := by decide +kernel
theorem dX10_would_1 : decode cX10_would 1 = .ok (.iconst 1, 1) := by decide +kernel
theorem dX10_would_2 : decode cX10_would 2 = .ok (.if_icmp .lt 19, 3) := by decide +kernel
theorem dX10_would_5 : decode cX10_would 5 = .ok (.iload_n 1, 1) := by decide +kernel
theorem dX10_would_6 : decode cX10_would 6 = .ok (.sipush 600, 3) := by decide +kernel
theorem dX10_would_9 : decode cX10_would 9 = .ok (.if_icmp .gt 12, 3) := by decide +kernel
theorem dX10_would_12 : decode cX10_would 12 = .ok (.iload_n 2, 1) := by decide +kernel
theorem dX10_would_13 : decode cX10_would 13 = .ok (.ifCond .lt 8, 3) := by decide +kernel
theorem dX10_would_16 : decode cX10_would 16 = .ok (.iload_n 2, 1) := by decide +kernel
theorem dX10_would_17 : decode cX10_would 17 = .ok (.iconst 2, 1) := by decide +kernel
theorem dX10_would_18 : decode cX10_would 18 = .ok (.if_icmp .le 5, 3) := by decide +kernel
theorem dX10_would_21 : decode cX10_would 21 = .ok (.iconst (-1), 1) := by decide +kernel
theorem dX10_would_22 : decode cX10_would 22 = .ok (.ireturn, 1) := by decide +kernel
theorem dX10_would_23 : decode cX10_would 23 = .ok (.aload_n 0, 1) := by decide +kernel
theorem dX10_would_24 : decode cX10_would 24 = .ok (.invokevirtual 184, 3) := by decide +kernel
theorem dX10_would_27 : decode cX10_would 27 = .ok (.iconst 0, 1) := by decide +kernel
theorem dX10_would_28 : decode cX10_would 28 = .ok (.istore_n 3, 1) := by decide +kernel
theorem dX10_would_29 : decode cX10_would 29 = .ok (.iconst 0, 1) := by decide +kernel
theorem dX10_would_30 : decode cX10_would 30 = .ok (.istore 4, 2) := by decide +kernel
theorem dX10_would_32 : decode cX10_would 32 = .ok (.iload 4, 2) := by decide +kernel
theorem dX10_would_34 : decode cX10_would 34 = .ok (.iload_n 1, 1) := by decide +kernel
theorem dX10_would_35 : decode cX10_would 35 = .ok (.if_icmp .ge 33, 3) := by decide +kernel
theorem dX10_would_38 : decode cX10_would 38 = .ok (.aload_n 0, 1) := by decide +kernel
theorem dX10_would_39 : decode cX10_would 39 = .ok (.invokevirtual 101, 3) := by decide +kernel
theorem dX10_would_42 : decode cX10_would 42 = .ok (.aload_n 0, 1) := by decide +kernel
theorem dX10_would_43 : decode cX10_would 43 = .ok (.iconst 1, 1) := by decide +kernel
theorem dX10_would_44 : decode cX10_would 44 = .ok (.invokevirtual 90, 3) := by decide +kernel
theorem dX10_would_47 : decode cX10_would 47 = .ok (.istore 5, 2) := by decide +kernel
theorem dX10_would_49 : decode cX10_would 49 = .ok (.iload 5, 2) := by decide +kernel
theorem dX10_would_51 : decode cX10_would 51 = .ok (.iload_n 3, 1) := by decide +kernel
theorem dX10_would_52 : decode cX10_would 52 = .ok (.if_icmp .le 8, 3) := by decide +kernel
theorem dX10_would_55 : decode cX10_would 55 = .ok (.iload 5, 2) := by decide +kernel
theorem dX10_would_57 : decode cX10_would 57 = .ok (.goto 4, 3) := by decide +kernel
theorem dX10_would_60 : decode cX10_would 60 = .ok (.iload_n 3, 1) := by decide +kernel
theorem dX10_would_61 : decode cX10_would 61 = .ok (.istore_n 3, 1) := by decide +kernel
theorem dX10_would_62 : decode cX10_would 62 = .ok (.iinc 4 1, 3) := by decide +kernel
theorem dX10_would_65 : decode cX10_would 65 = .ok (.goto (-33), 3) := by decide +kernel
theorem dX10_would_68 : decode cX10_would 68 = .ok (.iload_n 2, 1) := by decide +kernel
theorem dX10_would_69 : decode cX10_would 69 = .ok (.ifCond .ne 19, 3) := by decide +kernel
theorem dX10_would_72 : decode cX10_would 72 = .ok (.aload_n 0, 1) := by decide +kernel
theorem dX10_would_73 : decode cX10_would 73 = .ok (.getfield 7, 3) := by decide +kernel
theorem dX10_would_76 : decode cX10_would 76 = .ok (.iconst 5, 1) := by decide +kernel
theorem dX10_would_77 : decode cX10_would 77 = .ok (.iaload, 1) := by decide +kernel
theorem dX10_would_78 : decode cX10_would 78 = .ok (.aload_n 0, 1) := by decide +kernel
theorem dX10_would_79 : decode cX10_would 79 = .ok (.getfield 29, 3) := by decide +kernel
theorem dX10_would_82 : decode cX10_would 82 = .ok (.iconst 5, 1) := by decide +kernel
theorem dX10_would_83 : decode cX10_would 83 = .ok (.iaload, 1) := by decide +kernel
theorem dX10_would_84 : decode cX10_would 84 = .ok (.isub, 1) := by decide +kernel
theorem dX10_would_85 : decode cX10_would 85 = .ok (.goto 27, 3) := by decide +kernel
theorem dX10_would_88 : decode cX10_would 88 = .ok (.iload_n 2, 1) := by decide +kernel
theorem dX10_would_89 : decode cX10_would 89 = .ok (.iconst 1, 1) := by decide +kernel
theorem dX10_would_90 : decode cX10_would 90 = .ok (.if_icmp .ne 21, 3) := by decide +kernel
theorem dX10_would_93 : decode cX10_would 93 = .ok (.aload_n 0, 1) := by decide +kernel
theorem dX10_would_94 : decode cX10_would 94 = .ok (.getfield 7, 3) := by decide +kernel
theorem dX10_would_97 : decode cX10_would 97 = .ok (.bipush 6, 2) := by decide +kernel
theorem dX10_would_99 : decode cX10_would 99 = .ok (.iaload, 1) := by decide +kernel
theorem dX10_would_100 : decode cX10_would 100 = .ok (.aload_n 0, 1) := by decide +kernel
theorem dX10_would_101 : decode cX10_would 101 = .ok (.getfield 29, 3) := by decide +kernel
theorem dX10_would_104 : decode cX10_would 104 = .ok (.bipush 6, 2) := by decide +kernel
theorem dX10_would_106 : decode cX10_would 106 = .ok (.iaload, 1) := by decide +kernel
theorem dX10_would_107 : decode cX10_would 107 = .ok (.isub, 1) := by decide +kernel
theorem dX10_would_108 : decode cX10_would 108 = .ok (.goto 4, 3) := by decide +kernel
theorem dX10_would_111 : decode cX10_would 111 = .ok (.iload_n 3, 1) := by decide +kernel
theorem dX10_would_112 : decode cX10_would 112 = .ok (.istore 4, 2) := by decide +kernel
theorem dX10_would_114 : decode cX10_would 114 = .ok (.aload_n 0, 1) := by decide +kernel
theorem dX10_would_115 : decode cX10_would 115 = .ok (.invokevirtual 187, 3) := by decide +kernel
theorem dX10_would_118 : decode cX10_would 118 = .ok (.iload 4, 2) := by decide +kernel
theorem dX10_would_120 : decode cX10_would 120 = .ok (.ireturn, 1) := by decide +kernel
set_option maxRecDepth 20000 in
theorem ggX10_isNeverLate_X10_keepAside : GoodIn wsX10_isNeverLate wsX10_keepAside := goodIn_r _ [7, 2, 1, 64, 65, 66, 67, 68, 69, 70, 71, 72, 73, 74, 75, 76, 77, 78, 79] (by decide +kernel) (by decide +kernel)
set_option maxRecDepth 20000 in
theorem gX10_isNeverLate_X10_keepAside : GoodIn wsX10_isNeverLate (wsV RX10 184 RX10 yX10_keepAside wsX10_keepAside) := goodIn_app (goodIn_of _ (by decide +kernel)) ggX10_isNeverLate_X10_keepAside
set_option maxRecDepth 20000 in
theorem ggX10_isNeverLate_X10_tick : GoodIn wsX10_isNeverLate wsX10_tick := goodIn_r _ [11, 1, 12, 13, 14, 6, 15, 16, 17, 18, 19, 20, 21, 22, 23, 24, 25, 26, 27, 28, 29, 30, 31, 32, 33, 34, 35, 36, 37, 38, 39, 40, 41, 42, 43, 44, 45, 46, 47, 48, 49, 50, 51, 52, 53, 54, 55, 56, 57, 58, 59, 64, 65, 66, 67, 68, 69, 70, 71, 72, 73, 74, 75, 76, 77, 78, 79] (by decide +kernel) (by decide +kernel)
set_option maxRecDepth 20000 in
theorem gX10_isNeverLate_X10_tick : GoodIn wsX10_isNeverLate (wsV RX10 101 RX10 yX10_tick wsX10_tick) := goodIn_app (goodIn_of _ (by decide +kernel)) ggX10_isNeverLate_X10_tick
set_option maxRecDepth 20000 in
theorem ggX10_isNeverLate_X10_bringBack : GoodIn wsX10_isNeverLate wsX10_bringBack := goodIn_r _ [63, 1, 2, 64, 65, 66, 67, 68, 69, 70, 71, 72, 73, 74, 75, 76, 77, 78, 79] (by decide +kernel) (by decide +kernel)
set_option maxRecDepth 20000 in
theorem gX10_isNeverLate_X10_bringBack : GoodIn wsX10_isNeverLate (wsV RX10 187 RX10 yX10_bringBack wsX10_bringBack) := goodIn_app (goodIn_of _ (by decide +kernel)) ggX10_isNeverLate_X10_bringBack
theorem dX10_isNeverLate_0 : decode cX10_isNeverLate 0 = .ok (.aload_n 0, 1) := by decide +kernel
theorem dX10_isNeverLate_1 : decode cX10_isNeverLate 1 = .ok (.invokevirtual 184, 3) := by decide +kernel
theorem dX10_isNeverLate_4 : decode cX10_isNeverLate 4 = .ok (.aload_n 0, 1) := by decide +kernel
theorem dX10_isNeverLate_5 : decode cX10_isNeverLate 5 = .ok (.getfield 7, 3) := by decide +kernel
theorem dX10_isNeverLate_8 : decode cX10_isNeverLate 8 = .ok (.iconst 2, 1) := by decide +kernel
theorem dX10_isNeverLate_9 : decode cX10_isNeverLate 9 = .ok (.iload_n 1, 1) := by decide +kernel
theorem dX10_isNeverLate_10 : decode cX10_isNeverLate 10 = .ok (.iastore, 1) := by decide +kernel
theorem dX10_isNeverLate_11 : decode cX10_isNeverLate 11 = .ok (.iconst 0, 1) := by decide +kernel
theorem dX10_isNeverLate_12 : decode cX10_isNeverLate 12 = .ok (.istore_n 3, 1) := by decide +kernel
theorem dX10_isNeverLate_13 : decode cX10_isNeverLate 13 = .ok (.iload_n 3, 1) := by decide +kernel
theorem dX10_isNeverLate_14 : decode cX10_isNeverLate 14 = .ok (.iload_n 2, 1) := by decide +kernel
theorem dX10_isNeverLate_15 : decode cX10_isNeverLate 15 = .ok (.if_icmp .ge 30, 3) := by decide +kernel
theorem dX10_isNeverLate_18 : decode cX10_isNeverLate 18 = .ok (.aload_n 0, 1) := by decide +kernel
theorem dX10_isNeverLate_19 : decode cX10_isNeverLate 19 = .ok (.getfield 7, 3) := by decide +kernel
theorem dX10_isNeverLate_22 : decode cX10_isNeverLate 22 = .ok (.bipush 6, 2) := by decide +kernel
theorem dX10_isNeverLate_24 : decode cX10_isNeverLate 24 = .ok (.iaload, 1) := by decide +kernel
theorem dX10_isNeverLate_25 : decode cX10_isNeverLate 25 = .ok (.aload_n 0, 1) := by decide +kernel
theorem dX10_isNeverLate_26 : decode cX10_isNeverLate 26 = .ok (.getfield 29, 3) := by decide +kernel
theorem dX10_isNeverLate_29 : decode cX10_isNeverLate 29 = .ok (.bipush 6, 2) := by decide +kernel
theorem dX10_isNeverLate_31 : decode cX10_isNeverLate 31 = .ok (.iaload, 1) := by decide +kernel
theorem dX10_isNeverLate_32 : decode cX10_isNeverLate 32 = .ok (.if_icmp .ne 13, 3) := by decide +kernel
theorem dX10_isNeverLate_35 : decode cX10_isNeverLate 35 = .ok (.aload_n 0, 1) := by decide +kernel
theorem dX10_isNeverLate_36 : decode cX10_isNeverLate 36 = .ok (.invokevirtual 101, 3) := by decide +kernel
theorem dX10_isNeverLate_39 : decode cX10_isNeverLate 39 = .ok (.iinc 3 1, 3) := by decide +kernel
theorem dX10_isNeverLate_42 : decode cX10_isNeverLate 42 = .ok (.goto (-29), 3) := by decide +kernel
theorem dX10_isNeverLate_45 : decode cX10_isNeverLate 45 = .ok (.aload_n 0, 1) := by decide +kernel
theorem dX10_isNeverLate_46 : decode cX10_isNeverLate 46 = .ok (.getfield 7, 3) := by decide +kernel
theorem dX10_isNeverLate_49 : decode cX10_isNeverLate 49 = .ok (.bipush 6, 2) := by decide +kernel
theorem dX10_isNeverLate_51 : decode cX10_isNeverLate 51 = .ok (.iaload, 1) := by decide +kernel
theorem dX10_isNeverLate_52 : decode cX10_isNeverLate 52 = .ok (.aload_n 0, 1) := by decide +kernel
theorem dX10_isNeverLate_53 : decode cX10_isNeverLate 53 = .ok (.getfield 29, 3) := by decide +kernel
theorem dX10_isNeverLate_56 : decode cX10_isNeverLate 56 = .ok (.bipush 6, 2) := by decide +kernel
theorem dX10_isNeverLate_58 : decode cX10_isNeverLate 58 = .ok (.iaload, 1) := by decide +kernel
theorem dX10_isNeverLate_59 : decode cX10_isNeverLate 59 = .ok (.if_icmp .ne 7, 3) := by decide +kernel
theorem dX10_isNeverLate_62 : decode cX10_isNeverLate 62 = .ok (.iconst 1, 1) := by decide +kernel
theorem dX10_isNeverLate_63 : decode cX10_isNeverLate 63 = .ok (.goto 4, 3) := by decide +kernel
theorem dX10_isNeverLate_66 : decode cX10_isNeverLate 66 = .ok (.iconst 0, 1) := by decide +kernel
theorem dX10_isNeverLate_67 : decode cX10_isNeverLate 67 = .ok (.istore_n 3, 1) := by decide +kernel
theorem dX10_isNeverLate_68 : decode cX10_isNeverLate 68 = .ok (.aload_n 0, 1) := by decide +kernel
theorem dX10_isNeverLate_69 : decode cX10_isNeverLate 69 = .ok (.invokevirtual 187, 3) := by decide +kernel
theorem dX10_isNeverLate_72 : decode cX10_isNeverLate 72 = .ok (.iload_n 3, 1) := by decide +kernel
theorem dX10_isNeverLate_73 : decode cX10_isNeverLate 73 = .ok (.ireturn, 1) := by decide +kernel
set_option maxRecDepth 20000 in
theorem ggX10_leastRoom_X10_isNeverLate : GoodIn wsX10_leastRoom wsX10_isNeverLate := goodIn_r _ [5, 6, 7, 8, 9, 10, 4, 11, 12, 13, 14, 15, 16, 17, 18, 19, 20, 21, 22, 23, 24, 25, 26, 27, 28, 29, 30, 31, 32, 33, 34, 35, 36, 37, 38, 39, 40, 41, 42, 43, 44, 45, 46, 47, 48, 49, 50, 51, 52, 53, 54, 55, 56, 57, 58, 59, 60, 61, 62, 63, 64, 65, 66, 67, 68, 69, 70, 71, 72, 73, 74, 75, 76, 77, 78, 79, 80, 81, 82, 83] (by decide +kernel) (by decide +kernel)
set_option maxRecDepth 20000 in
theorem gX10_leastRoom_X10_isNeverLate : GoodIn wsX10_leastRoom (wsV RX10 190 RX10 yX10_isNeverLate wsX10_isNeverLate) := goodIn_app (goodIn_of _ (by decide +kernel)) ggX10_leastRoom_X10_isNeverLate
theorem dX10_leastRoom_0 : decode cX10_leastRoom 0 = .ok (.iload_n 1, 1) := by decide +kernel
theorem dX10_leastRoom_1 : decode cX10_leastRoom 1 = .ok (.iconst 1, 1) := by decide +kernel
theorem dX10_leastRoom_2 : decode cX10_leastRoom 2 = .ok (.if_icmp .lt 10, 3) := by decide +kernel
theorem dX10_leastRoom_5 : decode cX10_leastRoom 5 = .ok (.iload_n 1, 1) := by decide +kernel
theorem dX10_leastRoom_6 : decode cX10_leastRoom 6 = .ok (.sipush 200, 3) := by decide +kernel
theorem dX10_leastRoom_9 : decode cX10_leastRoom 9 = .ok (.if_icmp .le 5, 3) := by decide +kernel
theorem dX10_leastRoom_12 : decode cX10_leastRoom 12 = .ok (.iconst (-1), 1) := by decide +kernel
theorem dX10_leastRoom_13 : decode cX10_leastRoom 13 = .ok (.ireturn, 1) := by decide +kernel
theorem dX10_leastRoom_14 : decode cX10_leastRoom 14 = .ok (.bipush (-9), 2) := by decide +kernel
theorem dX10_leastRoom_16 : decode cX10_leastRoom 16 = .ok (.istore_n 2, 1) := by decide +kernel
theorem dX10_leastRoom_17 : decode cX10_leastRoom 17 = .ok (.iconst 1, 1) := by decide +kernel
theorem dX10_leastRoom_18 : decode cX10_leastRoom 18 = .ok (.istore_n 3, 1) := by decide +kernel
theorem dX10_leastRoom_19 : decode cX10_leastRoom 19 = .ok (.iload_n 3, 1) := by decide +kernel
theorem dX10_leastRoom_20 : decode cX10_leastRoom 20 = .ok (.bipush 20, 2) := by decide +kernel
theorem dX10_leastRoom_22 : decode cX10_leastRoom 22 = .ok (.if_icmp .gt 31, 3) := by decide +kernel
theorem dX10_leastRoom_25 : decode cX10_leastRoom 25 = .ok (.iload_n 2, 1) := by decide +kernel
theorem dX10_leastRoom_26 : decode cX10_leastRoom 26 = .ok (.bipush (-9), 2) := by decide +kernel
theorem dX10_leastRoom_28 : decode cX10_leastRoom 28 = .ok (.if_icmp .ne 25, 3) := by decide +kernel
theorem dX10_leastRoom_31 : decode cX10_leastRoom 31 = .ok (.aload_n 0, 1) := by decide +kernel
theorem dX10_leastRoom_32 : decode cX10_leastRoom 32 = .ok (.iload_n 3, 1) := by decide +kernel
theorem dX10_leastRoom_33 : decode cX10_leastRoom 33 = .ok (.iload_n 1, 1) := by decide +kernel
theorem dX10_leastRoom_34 : decode cX10_leastRoom 34 = .ok (.invokevirtual 190, 3) := by decide +kernel
theorem dX10_leastRoom_37 : decode cX10_leastRoom 37 = .ok (.ifCond .eq 7, 3) := by decide +kernel
theorem dX10_leastRoom_40 : decode cX10_leastRoom 40 = .ok (.iload_n 3, 1) := by decide +kernel
theorem dX10_leastRoom_41 : decode cX10_leastRoom 41 = .ok (.goto 5, 3) := by decide +kernel
theorem dX10_leastRoom_44 : decode cX10_leastRoom 44 = .ok (.bipush (-9), 2) := by decide +kernel
theorem dX10_leastRoom_46 : decode cX10_leastRoom 46 = .ok (.istore_n 2, 1) := by decide +kernel
theorem dX10_leastRoom_47 : decode cX10_leastRoom 47 = .ok (.iinc 3 1, 3) := by decide +kernel
theorem dX10_leastRoom_50 : decode cX10_leastRoom 50 = .ok (.goto (-31), 3) := by decide +kernel
theorem dX10_leastRoom_53 : decode cX10_leastRoom 53 = .ok (.iload_n 2, 1) := by decide +kernel
theorem dX10_leastRoom_54 : decode cX10_leastRoom 54 = .ok (.ireturn, 1) := by decide +kernel
