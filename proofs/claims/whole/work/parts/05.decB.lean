def tcX12_within_0 : List (Instr × Nat) := [(.lload_n 0, 1), (.lload_n 2, 1), (.lcmp, 1), (.ifCond .lt 14, 3), (.lload_n 0, 1), (.lload 4, 2), (.lcmp, 1), (.ifCond .gt 7, 3), (.iconst 1, 1), (.goto 4, 3), (.iconst 0, 1), (.ireturn, 1)]
theorem ocX12_within_0 : chk (cX12_within.data.toList.drop 0) tcX12_within_0 = true := by decide +kernel
theorem dX12_within_0 : decode cX12_within 0 = .ok (.lload_n 0, 1) := chk_nth ocX12_within_0 (k := 0) rfl
theorem dX12_within_1 : decode cX12_within 1 = .ok (.lload_n 2, 1) := chk_nth ocX12_within_0 (k := 1) rfl
theorem dX12_within_2 : decode cX12_within 2 = .ok (.lcmp, 1) := chk_nth ocX12_within_0 (k := 2) rfl
theorem dX12_within_3 : decode cX12_within 3 = .ok (.ifCond .lt 14, 3) := chk_nth ocX12_within_0 (k := 3) rfl
theorem dX12_within_6 : decode cX12_within 6 = .ok (.lload_n 0, 1) := chk_nth ocX12_within_0 (k := 4) rfl
theorem dX12_within_7 : decode cX12_within 7 = .ok (.lload 4, 2) := chk_nth ocX12_within_0 (k := 5) rfl
theorem dX12_within_9 : decode cX12_within 9 = .ok (.lcmp, 1) := chk_nth ocX12_within_0 (k := 6) rfl
theorem dX12_within_10 : decode cX12_within 10 = .ok (.ifCond .gt 7, 3) := chk_nth ocX12_within_0 (k := 7) rfl
theorem dX12_within_13 : decode cX12_within 13 = .ok (.iconst 1, 1) := chk_nth ocX12_within_0 (k := 8) rfl
theorem dX12_within_14 : decode cX12_within 14 = .ok (.goto 4, 3) := chk_nth ocX12_within_0 (k := 9) rfl
theorem dX12_within_17 : decode cX12_within 17 = .ok (.iconst 0, 1) := chk_nth ocX12_within_0 (k := 10) rfl
theorem dX12_within_18 : decode cX12_within 18 = .ok (.ireturn, 1) := chk_nth ocX12_within_0 (k := 11) rfl
def tcX12_init_0 : List (Instr × Nat) := [(.aload_n 0, 1), (.invokespecial 7, 3), (.aload_n 0, 1), (.sipush 3303, 3), (.newarray .int, 2), (.putfield 13, 3), (.aload_n 0, 1), (.iconst 2, 1), (.newarray .boolean, 2), (.putfield 17, 3), (.aload_n 0, 1), (.sipush 900, 3), (.newarray .int, 2), (.putfield 21, 3), (.aload_n 0, 1), (.sipush 1101, 3), (.newarray .int, 2), (.putfield 24, 3), (.aload_n 0, 1), (.iconst (-1), 1), (.putfield 27, 3), (.aload_n 0, 1), (.sipush 900, 3), (.newarray .int, 2)]
theorem ocX12_init_0 : chk (cX12_init.data.toList.drop 0) tcX12_init_0 = true := by decide +kernel
theorem dX12_init_0 : decode cX12_init 0 = .ok (.aload_n 0, 1) := chk_nth ocX12_init_0 (k := 0) rfl
theorem dX12_init_1 : decode cX12_init 1 = .ok (.invokespecial 7, 3) := chk_nth ocX12_init_0 (k := 1) rfl
theorem dX12_init_4 : decode cX12_init 4 = .ok (.aload_n 0, 1) := chk_nth ocX12_init_0 (k := 2) rfl
theorem dX12_init_5 : decode cX12_init 5 = .ok (.sipush 3303, 3) := chk_nth ocX12_init_0 (k := 3) rfl
theorem dX12_init_8 : decode cX12_init 8 = .ok (.newarray .int, 2) := chk_nth ocX12_init_0 (k := 4) rfl
theorem dX12_init_10 : decode cX12_init 10 = .ok (.putfield 13, 3) := chk_nth ocX12_init_0 (k := 5) rfl
theorem dX12_init_13 : decode cX12_init 13 = .ok (.aload_n 0, 1) := chk_nth ocX12_init_0 (k := 6) rfl
theorem dX12_init_14 : decode cX12_init 14 = .ok (.iconst 2, 1) := chk_nth ocX12_init_0 (k := 7) rfl
theorem dX12_init_15 : decode cX12_init 15 = .ok (.newarray .boolean, 2) := chk_nth ocX12_init_0 (k := 8) rfl
theorem dX12_init_17 : decode cX12_init 17 = .ok (.putfield 17, 3) := chk_nth ocX12_init_0 (k := 9) rfl
theorem dX12_init_20 : decode cX12_init 20 = .ok (.aload_n 0, 1) := chk_nth ocX12_init_0 (k := 10) rfl
theorem dX12_init_21 : decode cX12_init 21 = .ok (.sipush 900, 3) := chk_nth ocX12_init_0 (k := 11) rfl
theorem dX12_init_24 : decode cX12_init 24 = .ok (.newarray .int, 2) := chk_nth ocX12_init_0 (k := 12) rfl
theorem dX12_init_26 : decode cX12_init 26 = .ok (.putfield 21, 3) := chk_nth ocX12_init_0 (k := 13) rfl
theorem dX12_init_29 : decode cX12_init 29 = .ok (.aload_n 0, 1) := chk_nth ocX12_init_0 (k := 14) rfl
theorem dX12_init_30 : decode cX12_init 30 = .ok (.sipush 1101, 3) := chk_nth ocX12_init_0 (k := 15) rfl
theorem dX12_init_33 : decode cX12_init 33 = .ok (.newarray .int, 2) := chk_nth ocX12_init_0 (k := 16) rfl
theorem dX12_init_35 : decode cX12_init 35 = .ok (.putfield 24, 3) := chk_nth ocX12_init_0 (k := 17) rfl
theorem dX12_init_38 : decode cX12_init 38 = .ok (.aload_n 0, 1) := chk_nth ocX12_init_0 (k := 18) rfl
theorem dX12_init_39 : decode cX12_init 39 = .ok (.iconst (-1), 1) := chk_nth ocX12_init_0 (k := 19) rfl
theorem dX12_init_40 : decode cX12_init 40 = .ok (.putfield 27, 3) := chk_nth ocX12_init_0 (k := 20) rfl
theorem dX12_init_43 : decode cX12_init 43 = .ok (.aload_n 0, 1) := chk_nth ocX12_init_0 (k := 21) rfl
theorem dX12_init_44 : decode cX12_init 44 = .ok (.sipush 900, 3) := chk_nth ocX12_init_0 (k := 22) rfl
theorem dX12_init_47 : decode cX12_init 47 = .ok (.newarray .int, 2) := chk_nth ocX12_init_0 (k := 23) rfl
def tcX12_init_1 : List (Instr × Nat) := [(.putfield 30, 3), (.aload_n 0, 1), (.bipush 6, 2), (.newarray .int, 2), (.putfield 33, 3), (.aload_n 0, 1), (.bipush 15, 2), (.newarray .int, 2), (.putfield 36, 3), (.aload_n 0, 1), (.sipush 960, 3), (.newarray .int, 2), (.putfield 39, 3), (.aload_n 0, 1), (.bipush 120, 2), (.newarray .int, 2), (.putfield 42, 3), (.aload_n 0, 1), (.bipush 120, 2), (.newarray .int, 2), (.putfield 45, 3), (.aload_n 0, 1), (.bipush 120, 2), (.newarray .int, 2)]
theorem ocX12_init_1 : chk (cX12_init.data.toList.drop 49) tcX12_init_1 = true := by decide +kernel
theorem dX12_init_49 : decode cX12_init 49 = .ok (.putfield 30, 3) := chk_nth ocX12_init_1 (k := 0) rfl
theorem dX12_init_52 : decode cX12_init 52 = .ok (.aload_n 0, 1) := chk_nth ocX12_init_1 (k := 1) rfl
theorem dX12_init_53 : decode cX12_init 53 = .ok (.bipush 6, 2) := chk_nth ocX12_init_1 (k := 2) rfl
theorem dX12_init_55 : decode cX12_init 55 = .ok (.newarray .int, 2) := chk_nth ocX12_init_1 (k := 3) rfl
theorem dX12_init_57 : decode cX12_init 57 = .ok (.putfield 33, 3) := chk_nth ocX12_init_1 (k := 4) rfl
theorem dX12_init_60 : decode cX12_init 60 = .ok (.aload_n 0, 1) := chk_nth ocX12_init_1 (k := 5) rfl
theorem dX12_init_61 : decode cX12_init 61 = .ok (.bipush 15, 2) := chk_nth ocX12_init_1 (k := 6) rfl
theorem dX12_init_63 : decode cX12_init 63 = .ok (.newarray .int, 2) := chk_nth ocX12_init_1 (k := 7) rfl
theorem dX12_init_65 : decode cX12_init 65 = .ok (.putfield 36, 3) := chk_nth ocX12_init_1 (k := 8) rfl
theorem dX12_init_68 : decode cX12_init 68 = .ok (.aload_n 0, 1) := chk_nth ocX12_init_1 (k := 9) rfl
theorem dX12_init_69 : decode cX12_init 69 = .ok (.sipush 960, 3) := chk_nth ocX12_init_1 (k := 10) rfl
theorem dX12_init_72 : decode cX12_init 72 = .ok (.newarray .int, 2) := chk_nth ocX12_init_1 (k := 11) rfl
theorem dX12_init_74 : decode cX12_init 74 = .ok (.putfield 39, 3) := chk_nth ocX12_init_1 (k := 12) rfl
theorem dX12_init_77 : decode cX12_init 77 = .ok (.aload_n 0, 1) := chk_nth ocX12_init_1 (k := 13) rfl
theorem dX12_init_78 : decode cX12_init 78 = .ok (.bipush 120, 2) := chk_nth ocX12_init_1 (k := 14) rfl
theorem dX12_init_80 : decode cX12_init 80 = .ok (.newarray .int, 2) := chk_nth ocX12_init_1 (k := 15) rfl
theorem dX12_init_82 : decode cX12_init 82 = .ok (.putfield 42, 3) := chk_nth ocX12_init_1 (k := 16) rfl
theorem dX12_init_85 : decode cX12_init 85 = .ok (.aload_n 0, 1) := chk_nth ocX12_init_1 (k := 17) rfl
theorem dX12_init_86 : decode cX12_init 86 = .ok (.bipush 120, 2) := chk_nth ocX12_init_1 (k := 18) rfl
theorem dX12_init_88 : decode cX12_init 88 = .ok (.newarray .int, 2) := chk_nth ocX12_init_1 (k := 19) rfl
theorem dX12_init_90 : decode cX12_init 90 = .ok (.putfield 45, 3) := chk_nth ocX12_init_1 (k := 20) rfl
theorem dX12_init_93 : decode cX12_init 93 = .ok (.aload_n 0, 1) := chk_nth ocX12_init_1 (k := 21) rfl
theorem dX12_init_94 : decode cX12_init 94 = .ok (.bipush 120, 2) := chk_nth ocX12_init_1 (k := 22) rfl
theorem dX12_init_96 : decode cX12_init 96 = .ok (.newarray .int, 2) := chk_nth ocX12_init_1 (k := 23) rfl
def tcX12_init_2 : List (Instr × Nat) := [(.putfield 48, 3), (.aload_n 0, 1), (.bipush 120, 2), (.newarray .long, 2), (.putfield 51, 3), (.aload_n 0, 1), (.bipush 120, 2), (.newarray .long, 2), (.putfield 55, 3), (.aload_n 0, 1), (.sipush 1920, 3), (.newarray .int, 2), (.putfield 58, 3), (.aload_n 0, 1), (.bipush 120, 2), (.newarray .int, 2), (.putfield 61, 3), (.aload_n 0, 1), (.bipush 20, 2), (.newarray .int, 2), (.putfield 64, 3), (.aload_n 0, 1), (.iconst 4, 1), (.newarray .int, 2)]
theorem ocX12_init_2 : chk (cX12_init.data.toList.drop 98) tcX12_init_2 = true := by decide +kernel
theorem dX12_init_98 : decode cX12_init 98 = .ok (.putfield 48, 3) := chk_nth ocX12_init_2 (k := 0) rfl
theorem dX12_init_101 : decode cX12_init 101 = .ok (.aload_n 0, 1) := chk_nth ocX12_init_2 (k := 1) rfl
theorem dX12_init_102 : decode cX12_init 102 = .ok (.bipush 120, 2) := chk_nth ocX12_init_2 (k := 2) rfl
theorem dX12_init_104 : decode cX12_init 104 = .ok (.newarray .long, 2) := chk_nth ocX12_init_2 (k := 3) rfl
theorem dX12_init_106 : decode cX12_init 106 = .ok (.putfield 51, 3) := chk_nth ocX12_init_2 (k := 4) rfl
theorem dX12_init_109 : decode cX12_init 109 = .ok (.aload_n 0, 1) := chk_nth ocX12_init_2 (k := 5) rfl
theorem dX12_init_110 : decode cX12_init 110 = .ok (.bipush 120, 2) := chk_nth ocX12_init_2 (k := 6) rfl
theorem dX12_init_112 : decode cX12_init 112 = .ok (.newarray .long, 2) := chk_nth ocX12_init_2 (k := 7) rfl
theorem dX12_init_114 : decode cX12_init 114 = .ok (.putfield 55, 3) := chk_nth ocX12_init_2 (k := 8) rfl
theorem dX12_init_117 : decode cX12_init 117 = .ok (.aload_n 0, 1) := chk_nth ocX12_init_2 (k := 9) rfl
theorem dX12_init_118 : decode cX12_init 118 = .ok (.sipush 1920, 3) := chk_nth ocX12_init_2 (k := 10) rfl
theorem dX12_init_121 : decode cX12_init 121 = .ok (.newarray .int, 2) := chk_nth ocX12_init_2 (k := 11) rfl
theorem dX12_init_123 : decode cX12_init 123 = .ok (.putfield 58, 3) := chk_nth ocX12_init_2 (k := 12) rfl
theorem dX12_init_126 : decode cX12_init 126 = .ok (.aload_n 0, 1) := chk_nth ocX12_init_2 (k := 13) rfl
theorem dX12_init_127 : decode cX12_init 127 = .ok (.bipush 120, 2) := chk_nth ocX12_init_2 (k := 14) rfl
theorem dX12_init_129 : decode cX12_init 129 = .ok (.newarray .int, 2) := chk_nth ocX12_init_2 (k := 15) rfl
theorem dX12_init_131 : decode cX12_init 131 = .ok (.putfield 61, 3) := chk_nth ocX12_init_2 (k := 16) rfl
theorem dX12_init_134 : decode cX12_init 134 = .ok (.aload_n 0, 1) := chk_nth ocX12_init_2 (k := 17) rfl
theorem dX12_init_135 : decode cX12_init 135 = .ok (.bipush 20, 2) := chk_nth ocX12_init_2 (k := 18) rfl
theorem dX12_init_137 : decode cX12_init 137 = .ok (.newarray .int, 2) := chk_nth ocX12_init_2 (k := 19) rfl
theorem dX12_init_139 : decode cX12_init 139 = .ok (.putfield 64, 3) := chk_nth ocX12_init_2 (k := 20) rfl
theorem dX12_init_142 : decode cX12_init 142 = .ok (.aload_n 0, 1) := chk_nth ocX12_init_2 (k := 21) rfl
theorem dX12_init_143 : decode cX12_init 143 = .ok (.iconst 4, 1) := chk_nth ocX12_init_2 (k := 22) rfl
theorem dX12_init_144 : decode cX12_init 144 = .ok (.newarray .int, 2) := chk_nth ocX12_init_2 (k := 23) rfl
def tcX12_init_3 : List (Instr × Nat) := [(.dup, 1), (.iconst 0, 1), (.iconst (-1), 1), (.iastore, 1), (.dup, 1), (.iconst 1, 1), (.iconst (-1), 1), (.iastore, 1), (.dup, 1), (.iconst 2, 1), (.iconst (-1), 1), (.iastore, 1), (.dup, 1), (.iconst 3, 1), (.iconst (-1), 1), (.iastore, 1), (.putfield 67, 3), (.aload_n 0, 1), (.iconst 4, 1), (.newarray .int, 2), (.putfield 70, 3), (.aload_n 0, 1), (.sipush 160, 3), (.newarray .long, 2)]
theorem ocX12_init_3 : chk (cX12_init.data.toList.drop 146) tcX12_init_3 = true := by decide +kernel
theorem dX12_init_146 : decode cX12_init 146 = .ok (.dup, 1) := chk_nth ocX12_init_3 (k := 0) rfl
theorem dX12_init_147 : decode cX12_init 147 = .ok (.iconst 0, 1) := chk_nth ocX12_init_3 (k := 1) rfl
theorem dX12_init_148 : decode cX12_init 148 = .ok (.iconst (-1), 1) := chk_nth ocX12_init_3 (k := 2) rfl
theorem dX12_init_149 : decode cX12_init 149 = .ok (.iastore, 1) := chk_nth ocX12_init_3 (k := 3) rfl
theorem dX12_init_150 : decode cX12_init 150 = .ok (.dup, 1) := chk_nth ocX12_init_3 (k := 4) rfl
theorem dX12_init_151 : decode cX12_init 151 = .ok (.iconst 1, 1) := chk_nth ocX12_init_3 (k := 5) rfl
theorem dX12_init_152 : decode cX12_init 152 = .ok (.iconst (-1), 1) := chk_nth ocX12_init_3 (k := 6) rfl
theorem dX12_init_153 : decode cX12_init 153 = .ok (.iastore, 1) := chk_nth ocX12_init_3 (k := 7) rfl
theorem dX12_init_154 : decode cX12_init 154 = .ok (.dup, 1) := chk_nth ocX12_init_3 (k := 8) rfl
theorem dX12_init_155 : decode cX12_init 155 = .ok (.iconst 2, 1) := chk_nth ocX12_init_3 (k := 9) rfl
theorem dX12_init_156 : decode cX12_init 156 = .ok (.iconst (-1), 1) := chk_nth ocX12_init_3 (k := 10) rfl
theorem dX12_init_157 : decode cX12_init 157 = .ok (.iastore, 1) := chk_nth ocX12_init_3 (k := 11) rfl
theorem dX12_init_158 : decode cX12_init 158 = .ok (.dup, 1) := chk_nth ocX12_init_3 (k := 12) rfl
theorem dX12_init_159 : decode cX12_init 159 = .ok (.iconst 3, 1) := chk_nth ocX12_init_3 (k := 13) rfl
theorem dX12_init_160 : decode cX12_init 160 = .ok (.iconst (-1), 1) := chk_nth ocX12_init_3 (k := 14) rfl
theorem dX12_init_161 : decode cX12_init 161 = .ok (.iastore, 1) := chk_nth ocX12_init_3 (k := 15) rfl
theorem dX12_init_162 : decode cX12_init 162 = .ok (.putfield 67, 3) := chk_nth ocX12_init_3 (k := 16) rfl
theorem dX12_init_165 : decode cX12_init 165 = .ok (.aload_n 0, 1) := chk_nth ocX12_init_3 (k := 17) rfl
theorem dX12_init_166 : decode cX12_init 166 = .ok (.iconst 4, 1) := chk_nth ocX12_init_3 (k := 18) rfl
theorem dX12_init_167 : decode cX12_init 167 = .ok (.newarray .int, 2) := chk_nth ocX12_init_3 (k := 19) rfl
theorem dX12_init_169 : decode cX12_init 169 = .ok (.putfield 70, 3) := chk_nth ocX12_init_3 (k := 20) rfl
theorem dX12_init_172 : decode cX12_init 172 = .ok (.aload_n 0, 1) := chk_nth ocX12_init_3 (k := 21) rfl
theorem dX12_init_173 : decode cX12_init 173 = .ok (.sipush 160, 3) := chk_nth ocX12_init_3 (k := 22) rfl
theorem dX12_init_176 : decode cX12_init 176 = .ok (.newarray .long, 2) := chk_nth ocX12_init_3 (k := 23) rfl
def tcX12_init_4 : List (Instr × Nat) := [(.putfield 73, 3), (.aload_n 0, 1), (.getfield 13, 3), (.invokestatic 76, 3), (.return_, 1)]
theorem ocX12_init_4 : chk (cX12_init.data.toList.drop 178) tcX12_init_4 = true := by decide +kernel
theorem dX12_init_178 : decode cX12_init 178 = .ok (.putfield 73, 3) := chk_nth ocX12_init_4 (k := 0) rfl
theorem dX12_init_181 : decode cX12_init 181 = .ok (.aload_n 0, 1) := chk_nth ocX12_init_4 (k := 1) rfl
theorem dX12_init_182 : decode cX12_init 182 = .ok (.getfield 13, 3) := chk_nth ocX12_init_4 (k := 2) rfl
theorem dX12_init_185 : decode cX12_init 185 = .ok (.invokestatic 76, 3) := chk_nth ocX12_init_4 (k := 3) rfl
theorem dX12_init_188 : decode cX12_init 188 = .ok (.return_, 1) := chk_nth ocX12_init_4 (k := 4) rfl
def tcX12_plain_0 : List (Instr × Nat) := [(.iconst 0, 1), (.istore_n 1, 1), (.iload_n 1, 1), (.sipush 1101, 3), (.if_icmp .ge 13, 3), (.aload_n 0, 1), (.iload_n 1, 1), (.iconst 0, 1), (.iastore, 1), (.iinc 1 1, 3), (.goto (-14), 3), (.aload_n 0, 1), (.iconst 1, 1), (.iconst 1, 1), (.iastore, 1), (.return_, 1)]
theorem ocX12_plain_0 : chk (cX12_plain.data.toList.drop 0) tcX12_plain_0 = true := by decide +kernel
theorem dX12_plain_0 : decode cX12_plain 0 = .ok (.iconst 0, 1) := chk_nth ocX12_plain_0 (k := 0) rfl
theorem dX12_plain_1 : decode cX12_plain 1 = .ok (.istore_n 1, 1) := chk_nth ocX12_plain_0 (k := 1) rfl
theorem dX12_plain_2 : decode cX12_plain 2 = .ok (.iload_n 1, 1) := chk_nth ocX12_plain_0 (k := 2) rfl
theorem dX12_plain_3 : decode cX12_plain 3 = .ok (.sipush 1101, 3) := chk_nth ocX12_plain_0 (k := 3) rfl
theorem dX12_plain_6 : decode cX12_plain 6 = .ok (.if_icmp .ge 13, 3) := chk_nth ocX12_plain_0 (k := 4) rfl
theorem dX12_plain_9 : decode cX12_plain 9 = .ok (.aload_n 0, 1) := chk_nth ocX12_plain_0 (k := 5) rfl
theorem dX12_plain_10 : decode cX12_plain 10 = .ok (.iload_n 1, 1) := chk_nth ocX12_plain_0 (k := 6) rfl
theorem dX12_plain_11 : decode cX12_plain 11 = .ok (.iconst 0, 1) := chk_nth ocX12_plain_0 (k := 7) rfl
theorem dX12_plain_12 : decode cX12_plain 12 = .ok (.iastore, 1) := chk_nth ocX12_plain_0 (k := 8) rfl
theorem dX12_plain_13 : decode cX12_plain 13 = .ok (.iinc 1 1, 3) := chk_nth ocX12_plain_0 (k := 9) rfl
theorem dX12_plain_16 : decode cX12_plain 16 = .ok (.goto (-14), 3) := chk_nth ocX12_plain_0 (k := 10) rfl
theorem dX12_plain_19 : decode cX12_plain 19 = .ok (.aload_n 0, 1) := chk_nth ocX12_plain_0 (k := 11) rfl
theorem dX12_plain_20 : decode cX12_plain 20 = .ok (.iconst 1, 1) := chk_nth ocX12_plain_0 (k := 12) rfl
theorem dX12_plain_21 : decode cX12_plain 21 = .ok (.iconst 1, 1) := chk_nth ocX12_plain_0 (k := 13) rfl
theorem dX12_plain_22 : decode cX12_plain 22 = .ok (.iastore, 1) := chk_nth ocX12_plain_0 (k := 14) rfl
theorem dX12_plain_23 : decode cX12_plain 23 = .ok (.return_, 1) := chk_nth ocX12_plain_0 (k := 15) rfl
def tcX12_feed_0 : List (Instr × Nat) := [(.aload_n 0, 1), (.iconst 0, 1), (.putfield 1, 3), (.aload_n 0, 1), (.getfield 80, 3), (.bipush 20, 2), (.iadd, 1), (.sipush 900, 3), (.if_icmp .le 6, 3), (.bipush (-5), 2), (.ireturn, 1), (.iconst 0, 1), (.istore 6, 2), (.iload 6, 2), (.bipush 20, 2), (.if_icmp .ge 93, 3), (.iload 6, 2), (.iconst 4, 1), (.if_icmp .ge 7, 3), (.iload_n 1, 1), (.goto 39, 3), (.iload 6, 2), (.bipush 8, 2), (.if_icmp .ge 7, 3)]
theorem ocX12_feed_0 : chk (cX12_feed.data.toList.drop 0) tcX12_feed_0 = true := by decide +kernel
theorem dX12_feed_0 : decode cX12_feed 0 = .ok (.aload_n 0, 1) := chk_nth ocX12_feed_0 (k := 0) rfl
theorem dX12_feed_1 : decode cX12_feed 1 = .ok (.iconst 0, 1) := chk_nth ocX12_feed_0 (k := 1) rfl
theorem dX12_feed_2 : decode cX12_feed 2 = .ok (.putfield 1, 3) := chk_nth ocX12_feed_0 (k := 2) rfl
theorem dX12_feed_5 : decode cX12_feed 5 = .ok (.aload_n 0, 1) := chk_nth ocX12_feed_0 (k := 3) rfl
theorem dX12_feed_6 : decode cX12_feed 6 = .ok (.getfield 80, 3) := chk_nth ocX12_feed_0 (k := 4) rfl
theorem dX12_feed_9 : decode cX12_feed 9 = .ok (.bipush 20, 2) := chk_nth ocX12_feed_0 (k := 5) rfl
theorem dX12_feed_11 : decode cX12_feed 11 = .ok (.iadd, 1) := chk_nth ocX12_feed_0 (k := 6) rfl
theorem dX12_feed_12 : decode cX12_feed 12 = .ok (.sipush 900, 3) := chk_nth ocX12_feed_0 (k := 7) rfl
theorem dX12_feed_15 : decode cX12_feed 15 = .ok (.if_icmp .le 6, 3) := chk_nth ocX12_feed_0 (k := 8) rfl
theorem dX12_feed_18 : decode cX12_feed 18 = .ok (.bipush (-5), 2) := chk_nth ocX12_feed_0 (k := 9) rfl
theorem dX12_feed_20 : decode cX12_feed 20 = .ok (.ireturn, 1) := chk_nth ocX12_feed_0 (k := 10) rfl
theorem dX12_feed_21 : decode cX12_feed 21 = .ok (.iconst 0, 1) := chk_nth ocX12_feed_0 (k := 11) rfl
theorem dX12_feed_22 : decode cX12_feed 22 = .ok (.istore 6, 2) := chk_nth ocX12_feed_0 (k := 12) rfl
theorem dX12_feed_24 : decode cX12_feed 24 = .ok (.iload 6, 2) := chk_nth ocX12_feed_0 (k := 13) rfl
theorem dX12_feed_26 : decode cX12_feed 26 = .ok (.bipush 20, 2) := chk_nth ocX12_feed_0 (k := 14) rfl
theorem dX12_feed_28 : decode cX12_feed 28 = .ok (.if_icmp .ge 93, 3) := chk_nth ocX12_feed_0 (k := 15) rfl
theorem dX12_feed_31 : decode cX12_feed 31 = .ok (.iload 6, 2) := chk_nth ocX12_feed_0 (k := 16) rfl
theorem dX12_feed_33 : decode cX12_feed 33 = .ok (.iconst 4, 1) := chk_nth ocX12_feed_0 (k := 17) rfl
theorem dX12_feed_34 : decode cX12_feed 34 = .ok (.if_icmp .ge 7, 3) := chk_nth ocX12_feed_0 (k := 18) rfl
theorem dX12_feed_37 : decode cX12_feed 37 = .ok (.iload_n 1, 1) := chk_nth ocX12_feed_0 (k := 19) rfl
theorem dX12_feed_38 : decode cX12_feed 38 = .ok (.goto 39, 3) := chk_nth ocX12_feed_0 (k := 20) rfl
theorem dX12_feed_41 : decode cX12_feed 41 = .ok (.iload 6, 2) := chk_nth ocX12_feed_0 (k := 21) rfl
theorem dX12_feed_43 : decode cX12_feed 43 = .ok (.bipush 8, 2) := chk_nth ocX12_feed_0 (k := 22) rfl
theorem dX12_feed_45 : decode cX12_feed 45 = .ok (.if_icmp .ge 7, 3) := chk_nth ocX12_feed_0 (k := 23) rfl
def tcX12_feed_1 : List (Instr × Nat) := [(.iload_n 2, 1), (.goto 28, 3), (.iload 6, 2), (.bipush 12, 2), (.if_icmp .ge 7, 3), (.iload_n 3, 1), (.goto 17, 3), (.iload 6, 2), (.bipush 16, 2), (.if_icmp .ge 8, 3), (.iload 4, 2), (.goto 5, 3), (.iload 5, 2), (.istore 7, 2), (.aload_n 0, 1), (.getfield 21, 3), (.aload_n 0, 1), (.getfield 80, 3), (.iload 7, 2), (.bipush 24, 2), (.bipush 8, 2), (.iload 6, 2), (.iconst 4, 1), (.irem, 1)]
theorem ocX12_feed_1 : chk (cX12_feed.data.toList.drop 48) tcX12_feed_1 = true := by decide +kernel
theorem dX12_feed_48 : decode cX12_feed 48 = .ok (.iload_n 2, 1) := chk_nth ocX12_feed_1 (k := 0) rfl
theorem dX12_feed_49 : decode cX12_feed 49 = .ok (.goto 28, 3) := chk_nth ocX12_feed_1 (k := 1) rfl
theorem dX12_feed_52 : decode cX12_feed 52 = .ok (.iload 6, 2) := chk_nth ocX12_feed_1 (k := 2) rfl
theorem dX12_feed_54 : decode cX12_feed 54 = .ok (.bipush 12, 2) := chk_nth ocX12_feed_1 (k := 3) rfl
theorem dX12_feed_56 : decode cX12_feed 56 = .ok (.if_icmp .ge 7, 3) := chk_nth ocX12_feed_1 (k := 4) rfl
theorem dX12_feed_59 : decode cX12_feed 59 = .ok (.iload_n 3, 1) := chk_nth ocX12_feed_1 (k := 5) rfl
theorem dX12_feed_60 : decode cX12_feed 60 = .ok (.goto 17, 3) := chk_nth ocX12_feed_1 (k := 6) rfl
theorem dX12_feed_63 : decode cX12_feed 63 = .ok (.iload 6, 2) := chk_nth ocX12_feed_1 (k := 7) rfl
theorem dX12_feed_65 : decode cX12_feed 65 = .ok (.bipush 16, 2) := chk_nth ocX12_feed_1 (k := 8) rfl
theorem dX12_feed_67 : decode cX12_feed 67 = .ok (.if_icmp .ge 8, 3) := chk_nth ocX12_feed_1 (k := 9) rfl
theorem dX12_feed_70 : decode cX12_feed 70 = .ok (.iload 4, 2) := chk_nth ocX12_feed_1 (k := 10) rfl
theorem dX12_feed_72 : decode cX12_feed 72 = .ok (.goto 5, 3) := chk_nth ocX12_feed_1 (k := 11) rfl
theorem dX12_feed_75 : decode cX12_feed 75 = .ok (.iload 5, 2) := chk_nth ocX12_feed_1 (k := 12) rfl
theorem dX12_feed_77 : decode cX12_feed 77 = .ok (.istore 7, 2) := chk_nth ocX12_feed_1 (k := 13) rfl
theorem dX12_feed_79 : decode cX12_feed 79 = .ok (.aload_n 0, 1) := chk_nth ocX12_feed_1 (k := 14) rfl
theorem dX12_feed_80 : decode cX12_feed 80 = .ok (.getfield 21, 3) := chk_nth ocX12_feed_1 (k := 15) rfl
theorem dX12_feed_83 : decode cX12_feed 83 = .ok (.aload_n 0, 1) := chk_nth ocX12_feed_1 (k := 16) rfl
theorem dX12_feed_84 : decode cX12_feed 84 = .ok (.getfield 80, 3) := chk_nth ocX12_feed_1 (k := 17) rfl
theorem dX12_feed_87 : decode cX12_feed 87 = .ok (.iload 7, 2) := chk_nth ocX12_feed_1 (k := 18) rfl
theorem dX12_feed_89 : decode cX12_feed 89 = .ok (.bipush 24, 2) := chk_nth ocX12_feed_1 (k := 19) rfl
theorem dX12_feed_91 : decode cX12_feed 91 = .ok (.bipush 8, 2) := chk_nth ocX12_feed_1 (k := 20) rfl
theorem dX12_feed_93 : decode cX12_feed 93 = .ok (.iload 6, 2) := chk_nth ocX12_feed_1 (k := 21) rfl
theorem dX12_feed_95 : decode cX12_feed 95 = .ok (.iconst 4, 1) := chk_nth ocX12_feed_1 (k := 22) rfl
theorem dX12_feed_96 : decode cX12_feed 96 = .ok (.irem, 1) := chk_nth ocX12_feed_1 (k := 23) rfl
def tcX12_feed_2 : List (Instr × Nat) := [(.imul, 1), (.isub, 1), (.ishr, 1), (.sipush 255, 3), (.iand, 1), (.iastore, 1), (.aload_n 0, 1), (.dup, 1), (.getfield 80, 3), (.iconst 1, 1), (.iadd, 1), (.putfield 80, 3), (.iinc 6 1, 3), (.goto (-94), 3), (.aload_n 0, 1), (.getfield 80, 3), (.ireturn, 1)]
theorem ocX12_feed_2 : chk (cX12_feed.data.toList.drop 97) tcX12_feed_2 = true := by decide +kernel
theorem dX12_feed_97 : decode cX12_feed 97 = .ok (.imul, 1) := chk_nth ocX12_feed_2 (k := 0) rfl
theorem dX12_feed_98 : decode cX12_feed 98 = .ok (.isub, 1) := chk_nth ocX12_feed_2 (k := 1) rfl
theorem dX12_feed_99 : decode cX12_feed 99 = .ok (.ishr, 1) := chk_nth ocX12_feed_2 (k := 2) rfl
theorem dX12_feed_100 : decode cX12_feed 100 = .ok (.sipush 255, 3) := chk_nth ocX12_feed_2 (k := 3) rfl
theorem dX12_feed_103 : decode cX12_feed 103 = .ok (.iand, 1) := chk_nth ocX12_feed_2 (k := 4) rfl
theorem dX12_feed_104 : decode cX12_feed 104 = .ok (.iastore, 1) := chk_nth ocX12_feed_2 (k := 5) rfl
theorem dX12_feed_105 : decode cX12_feed 105 = .ok (.aload_n 0, 1) := chk_nth ocX12_feed_2 (k := 6) rfl
theorem dX12_feed_106 : decode cX12_feed 106 = .ok (.dup, 1) := chk_nth ocX12_feed_2 (k := 7) rfl
theorem dX12_feed_107 : decode cX12_feed 107 = .ok (.getfield 80, 3) := chk_nth ocX12_feed_2 (k := 8) rfl
theorem dX12_feed_110 : decode cX12_feed 110 = .ok (.iconst 1, 1) := chk_nth ocX12_feed_2 (k := 9) rfl
theorem dX12_feed_111 : decode cX12_feed 111 = .ok (.iadd, 1) := chk_nth ocX12_feed_2 (k := 10) rfl
theorem dX12_feed_112 : decode cX12_feed 112 = .ok (.putfield 80, 3) := chk_nth ocX12_feed_2 (k := 11) rfl
theorem dX12_feed_115 : decode cX12_feed 115 = .ok (.iinc 6 1, 3) := chk_nth ocX12_feed_2 (k := 12) rfl
theorem dX12_feed_118 : decode cX12_feed 118 = .ok (.goto (-94), 3) := chk_nth ocX12_feed_2 (k := 13) rfl
theorem dX12_feed_121 : decode cX12_feed 121 = .ok (.aload_n 0, 1) := chk_nth ocX12_feed_2 (k := 14) rfl
theorem dX12_feed_122 : decode cX12_feed 122 = .ok (.getfield 80, 3) := chk_nth ocX12_feed_2 (k := 15) rfl
theorem dX12_feed_125 : decode cX12_feed 125 = .ok (.ireturn, 1) := chk_nth ocX12_feed_2 (k := 16) rfl
def tcX12_see_0 : List (Instr × Nat) := [(.iload_n 1, 1), (.aload_n 0, 1), (.getfield 83, 3), (.if_icmp .ge 12, 3), (.aload_n 0, 1), (.getfield 21, 3), (.iload_n 1, 1), (.iaload, 1), (.goto 4, 3), (.iconst (-1), 1), (.ireturn, 1)]
theorem ocX12_see_0 : chk (cX12_see.data.toList.drop 0) tcX12_see_0 = true := by decide +kernel
theorem dX12_see_0 : decode cX12_see 0 = .ok (.iload_n 1, 1) := chk_nth ocX12_see_0 (k := 0) rfl
theorem dX12_see_1 : decode cX12_see 1 = .ok (.aload_n 0, 1) := chk_nth ocX12_see_0 (k := 1) rfl
theorem dX12_see_2 : decode cX12_see 2 = .ok (.getfield 83, 3) := chk_nth ocX12_see_0 (k := 2) rfl
theorem dX12_see_5 : decode cX12_see 5 = .ok (.if_icmp .ge 12, 3) := chk_nth ocX12_see_0 (k := 3) rfl
theorem dX12_see_8 : decode cX12_see 8 = .ok (.aload_n 0, 1) := chk_nth ocX12_see_0 (k := 4) rfl
theorem dX12_see_9 : decode cX12_see 9 = .ok (.getfield 21, 3) := chk_nth ocX12_see_0 (k := 5) rfl
theorem dX12_see_12 : decode cX12_see 12 = .ok (.iload_n 1, 1) := chk_nth ocX12_see_0 (k := 6) rfl
theorem dX12_see_13 : decode cX12_see 13 = .ok (.iaload, 1) := chk_nth ocX12_see_0 (k := 7) rfl
theorem dX12_see_14 : decode cX12_see 14 = .ok (.goto 4, 3) := chk_nth ocX12_see_0 (k := 8) rfl
theorem dX12_see_17 : decode cX12_see 17 = .ok (.iconst (-1), 1) := chk_nth ocX12_see_0 (k := 9) rfl
theorem dX12_see_18 : decode cX12_see 18 = .ok (.ireturn, 1) := chk_nth ocX12_see_0 (k := 10) rfl
def tcX12_isSmall_0 : List (Instr × Nat) := [(.iload_n 0, 1), (.bipush 97, 2), (.if_icmp .lt 13, 3), (.iload_n 0, 1), (.bipush 122, 2), (.if_icmp .gt 7, 3), (.iconst 1, 1), (.goto 4, 3), (.iconst 0, 1), (.ireturn, 1)]
theorem ocX12_isSmall_0 : chk (cX12_isSmall.data.toList.drop 0) tcX12_isSmall_0 = true := by decide +kernel
theorem dX12_isSmall_0 : decode cX12_isSmall 0 = .ok (.iload_n 0, 1) := chk_nth ocX12_isSmall_0 (k := 0) rfl
theorem dX12_isSmall_1 : decode cX12_isSmall 1 = .ok (.bipush 97, 2) := chk_nth ocX12_isSmall_0 (k := 1) rfl
theorem dX12_isSmall_3 : decode cX12_isSmall 3 = .ok (.if_icmp .lt 13, 3) := chk_nth ocX12_isSmall_0 (k := 2) rfl
theorem dX12_isSmall_6 : decode cX12_isSmall 6 = .ok (.iload_n 0, 1) := chk_nth ocX12_isSmall_0 (k := 3) rfl
theorem dX12_isSmall_7 : decode cX12_isSmall 7 = .ok (.bipush 122, 2) := chk_nth ocX12_isSmall_0 (k := 4) rfl
theorem dX12_isSmall_9 : decode cX12_isSmall 9 = .ok (.if_icmp .gt 7, 3) := chk_nth ocX12_isSmall_0 (k := 5) rfl
theorem dX12_isSmall_12 : decode cX12_isSmall 12 = .ok (.iconst 1, 1) := chk_nth ocX12_isSmall_0 (k := 6) rfl
theorem dX12_isSmall_13 : decode cX12_isSmall 13 = .ok (.goto 4, 3) := chk_nth ocX12_isSmall_0 (k := 7) rfl
theorem dX12_isSmall_16 : decode cX12_isSmall 16 = .ok (.iconst 0, 1) := chk_nth ocX12_isSmall_0 (k := 8) rfl
theorem dX12_isSmall_17 : decode cX12_isSmall 17 = .ok (.ireturn, 1) := chk_nth ocX12_isSmall_0 (k := 9) rfl
def tcX12_isDigit_0 : List (Instr × Nat) := [(.iload_n 0, 1), (.bipush 48, 2), (.if_icmp .lt 13, 3), (.iload_n 0, 1), (.bipush 57, 2), (.if_icmp .gt 7, 3), (.iconst 1, 1), (.goto 4, 3), (.iconst 0, 1), (.ireturn, 1)]
theorem ocX12_isDigit_0 : chk (cX12_isDigit.data.toList.drop 0) tcX12_isDigit_0 = true := by decide +kernel
theorem dX12_isDigit_0 : decode cX12_isDigit 0 = .ok (.iload_n 0, 1) := chk_nth ocX12_isDigit_0 (k := 0) rfl
theorem dX12_isDigit_1 : decode cX12_isDigit 1 = .ok (.bipush 48, 2) := chk_nth ocX12_isDigit_0 (k := 1) rfl
theorem dX12_isDigit_3 : decode cX12_isDigit 3 = .ok (.if_icmp .lt 13, 3) := chk_nth ocX12_isDigit_0 (k := 2) rfl
theorem dX12_isDigit_6 : decode cX12_isDigit 6 = .ok (.iload_n 0, 1) := chk_nth ocX12_isDigit_0 (k := 3) rfl
theorem dX12_isDigit_7 : decode cX12_isDigit 7 = .ok (.bipush 57, 2) := chk_nth ocX12_isDigit_0 (k := 4) rfl
theorem dX12_isDigit_9 : decode cX12_isDigit 9 = .ok (.if_icmp .gt 7, 3) := chk_nth ocX12_isDigit_0 (k := 5) rfl
theorem dX12_isDigit_12 : decode cX12_isDigit 12 = .ok (.iconst 1, 1) := chk_nth ocX12_isDigit_0 (k := 6) rfl
theorem dX12_isDigit_13 : decode cX12_isDigit 13 = .ok (.goto 4, 3) := chk_nth ocX12_isDigit_0 (k := 7) rfl
theorem dX12_isDigit_16 : decode cX12_isDigit 16 = .ok (.iconst 0, 1) := chk_nth ocX12_isDigit_0 (k := 8) rfl
theorem dX12_isDigit_17 : decode cX12_isDigit 17 = .ok (.ireturn, 1) := chk_nth ocX12_isDigit_0 (k := 9) rfl
def tcX12_keyAt_0 : List (Instr × Nat) := [(.iconst 0, 1), (.istore_n 1, 1), (.iconst 1, 1), (.istore_n 2, 1), (.iload_n 2, 1), (.ldc 86, 2), (.invokevirtual 88, 3), (.if_icmp .ge 113, 3), (.iconst 0, 1), (.istore_n 3, 1), (.ldc 86, 2), (.iload_n 2, 1), (.iload_n 3, 1), (.iadd, 1), (.invokevirtual 94, 3), (.bipush 32, 2), (.if_icmp .eq 44, 3), (.aload_n 0, 1), (.getfield 98, 3), (.iload_n 3, 1), (.iadd, 1), (.aload_n 0, 1), (.getfield 101, 3), (.if_icmp .ge 31, 3)]
theorem ocX12_keyAt_0 : chk (cX12_keyAt.data.toList.drop 0) tcX12_keyAt_0 = true := by decide +kernel
theorem dX12_keyAt_0 : decode cX12_keyAt 0 = .ok (.iconst 0, 1) := chk_nth ocX12_keyAt_0 (k := 0) rfl
theorem dX12_keyAt_1 : decode cX12_keyAt 1 = .ok (.istore_n 1, 1) := chk_nth ocX12_keyAt_0 (k := 1) rfl
theorem dX12_keyAt_2 : decode cX12_keyAt 2 = .ok (.iconst 1, 1) := chk_nth ocX12_keyAt_0 (k := 2) rfl
theorem dX12_keyAt_3 : decode cX12_keyAt 3 = .ok (.istore_n 2, 1) := chk_nth ocX12_keyAt_0 (k := 3) rfl
theorem dX12_keyAt_4 : decode cX12_keyAt 4 = .ok (.iload_n 2, 1) := chk_nth ocX12_keyAt_0 (k := 4) rfl
theorem dX12_keyAt_5 : decode cX12_keyAt 5 = .ok (.ldc 86, 2) := chk_nth ocX12_keyAt_0 (k := 5) rfl
theorem dX12_keyAt_7 : decode cX12_keyAt 7 = .ok (.invokevirtual 88, 3) := chk_nth ocX12_keyAt_0 (k := 6) rfl
theorem dX12_keyAt_10 : decode cX12_keyAt 10 = .ok (.if_icmp .ge 113, 3) := chk_nth ocX12_keyAt_0 (k := 7) rfl
theorem dX12_keyAt_13 : decode cX12_keyAt 13 = .ok (.iconst 0, 1) := chk_nth ocX12_keyAt_0 (k := 8) rfl
theorem dX12_keyAt_14 : decode cX12_keyAt 14 = .ok (.istore_n 3, 1) := chk_nth ocX12_keyAt_0 (k := 9) rfl
theorem dX12_keyAt_15 : decode cX12_keyAt 15 = .ok (.ldc 86, 2) := chk_nth ocX12_keyAt_0 (k := 10) rfl
theorem dX12_keyAt_17 : decode cX12_keyAt 17 = .ok (.iload_n 2, 1) := chk_nth ocX12_keyAt_0 (k := 11) rfl
theorem dX12_keyAt_18 : decode cX12_keyAt 18 = .ok (.iload_n 3, 1) := chk_nth ocX12_keyAt_0 (k := 12) rfl
theorem dX12_keyAt_19 : decode cX12_keyAt 19 = .ok (.iadd, 1) := chk_nth ocX12_keyAt_0 (k := 13) rfl
theorem dX12_keyAt_20 : decode cX12_keyAt 20 = .ok (.invokevirtual 94, 3) := chk_nth ocX12_keyAt_0 (k := 14) rfl
theorem dX12_keyAt_23 : decode cX12_keyAt 23 = .ok (.bipush 32, 2) := chk_nth ocX12_keyAt_0 (k := 15) rfl
theorem dX12_keyAt_25 : decode cX12_keyAt 25 = .ok (.if_icmp .eq 44, 3) := chk_nth ocX12_keyAt_0 (k := 16) rfl
theorem dX12_keyAt_28 : decode cX12_keyAt 28 = .ok (.aload_n 0, 1) := chk_nth ocX12_keyAt_0 (k := 17) rfl
theorem dX12_keyAt_29 : decode cX12_keyAt 29 = .ok (.getfield 98, 3) := chk_nth ocX12_keyAt_0 (k := 18) rfl
theorem dX12_keyAt_32 : decode cX12_keyAt 32 = .ok (.iload_n 3, 1) := chk_nth ocX12_keyAt_0 (k := 19) rfl
theorem dX12_keyAt_33 : decode cX12_keyAt 33 = .ok (.iadd, 1) := chk_nth ocX12_keyAt_0 (k := 20) rfl
theorem dX12_keyAt_34 : decode cX12_keyAt 34 = .ok (.aload_n 0, 1) := chk_nth ocX12_keyAt_0 (k := 21) rfl
theorem dX12_keyAt_35 : decode cX12_keyAt 35 = .ok (.getfield 101, 3) := chk_nth ocX12_keyAt_0 (k := 22) rfl
theorem dX12_keyAt_38 : decode cX12_keyAt 38 = .ok (.if_icmp .ge 31, 3) := chk_nth ocX12_keyAt_0 (k := 23) rfl
def tcX12_keyAt_1 : List (Instr × Nat) := [(.aload_n 0, 1), (.getfield 21, 3), (.aload_n 0, 1), (.getfield 98, 3), (.iload_n 3, 1), (.iadd, 1), (.iaload, 1), (.ldc 86, 2), (.iload_n 2, 1), (.iload_n 3, 1), (.iadd, 1), (.invokevirtual 94, 3), (.if_icmp .ne 9, 3), (.iinc 3 1, 3), (.goto (-51), 3), (.ldc 86, 2), (.iload_n 2, 1), (.iload_n 3, 1), (.iadd, 1), (.invokevirtual 94, 3), (.bipush 32, 2), (.if_icmp .ne 18, 3), (.aload_n 0, 1), (.getfield 98, 3)]
theorem ocX12_keyAt_1 : chk (cX12_keyAt.data.toList.drop 41) tcX12_keyAt_1 = true := by decide +kernel
theorem dX12_keyAt_41 : decode cX12_keyAt 41 = .ok (.aload_n 0, 1) := chk_nth ocX12_keyAt_1 (k := 0) rfl
theorem dX12_keyAt_42 : decode cX12_keyAt 42 = .ok (.getfield 21, 3) := chk_nth ocX12_keyAt_1 (k := 1) rfl
theorem dX12_keyAt_45 : decode cX12_keyAt 45 = .ok (.aload_n 0, 1) := chk_nth ocX12_keyAt_1 (k := 2) rfl
theorem dX12_keyAt_46 : decode cX12_keyAt 46 = .ok (.getfield 98, 3) := chk_nth ocX12_keyAt_1 (k := 3) rfl
theorem dX12_keyAt_49 : decode cX12_keyAt 49 = .ok (.iload_n 3, 1) := chk_nth ocX12_keyAt_1 (k := 4) rfl
theorem dX12_keyAt_50 : decode cX12_keyAt 50 = .ok (.iadd, 1) := chk_nth ocX12_keyAt_1 (k := 5) rfl
theorem dX12_keyAt_51 : decode cX12_keyAt 51 = .ok (.iaload, 1) := chk_nth ocX12_keyAt_1 (k := 6) rfl
theorem dX12_keyAt_52 : decode cX12_keyAt 52 = .ok (.ldc 86, 2) := chk_nth ocX12_keyAt_1 (k := 7) rfl
theorem dX12_keyAt_54 : decode cX12_keyAt 54 = .ok (.iload_n 2, 1) := chk_nth ocX12_keyAt_1 (k := 8) rfl
theorem dX12_keyAt_55 : decode cX12_keyAt 55 = .ok (.iload_n 3, 1) := chk_nth ocX12_keyAt_1 (k := 9) rfl
theorem dX12_keyAt_56 : decode cX12_keyAt 56 = .ok (.iadd, 1) := chk_nth ocX12_keyAt_1 (k := 10) rfl
theorem dX12_keyAt_57 : decode cX12_keyAt 57 = .ok (.invokevirtual 94, 3) := chk_nth ocX12_keyAt_1 (k := 11) rfl
theorem dX12_keyAt_60 : decode cX12_keyAt 60 = .ok (.if_icmp .ne 9, 3) := chk_nth ocX12_keyAt_1 (k := 12) rfl
theorem dX12_keyAt_63 : decode cX12_keyAt 63 = .ok (.iinc 3 1, 3) := chk_nth ocX12_keyAt_1 (k := 13) rfl
theorem dX12_keyAt_66 : decode cX12_keyAt 66 = .ok (.goto (-51), 3) := chk_nth ocX12_keyAt_1 (k := 14) rfl
theorem dX12_keyAt_69 : decode cX12_keyAt 69 = .ok (.ldc 86, 2) := chk_nth ocX12_keyAt_1 (k := 15) rfl
theorem dX12_keyAt_71 : decode cX12_keyAt 71 = .ok (.iload_n 2, 1) := chk_nth ocX12_keyAt_1 (k := 16) rfl
theorem dX12_keyAt_72 : decode cX12_keyAt 72 = .ok (.iload_n 3, 1) := chk_nth ocX12_keyAt_1 (k := 17) rfl
theorem dX12_keyAt_73 : decode cX12_keyAt 73 = .ok (.iadd, 1) := chk_nth ocX12_keyAt_1 (k := 18) rfl
theorem dX12_keyAt_74 : decode cX12_keyAt 74 = .ok (.invokevirtual 94, 3) := chk_nth ocX12_keyAt_1 (k := 19) rfl
theorem dX12_keyAt_77 : decode cX12_keyAt 77 = .ok (.bipush 32, 2) := chk_nth ocX12_keyAt_1 (k := 20) rfl
theorem dX12_keyAt_79 : decode cX12_keyAt 79 = .ok (.if_icmp .ne 18, 3) := chk_nth ocX12_keyAt_1 (k := 21) rfl
theorem dX12_keyAt_82 : decode cX12_keyAt 82 = .ok (.aload_n 0, 1) := chk_nth ocX12_keyAt_1 (k := 22) rfl
theorem dX12_keyAt_83 : decode cX12_keyAt 83 = .ok (.getfield 98, 3) := chk_nth ocX12_keyAt_1 (k := 23) rfl
def tcX12_keyAt_2 : List (Instr × Nat) := [(.iload_n 3, 1), (.iadd, 1), (.aload_n 0, 1), (.getfield 101, 3), (.if_icmp .ne 5, 3), (.iload_n 1, 1), (.ireturn, 1), (.ldc 86, 2), (.iload_n 2, 1), (.invokevirtual 94, 3), (.bipush 32, 2), (.if_icmp .eq 9, 3), (.iinc 2 1, 3), (.goto (-14), 3), (.iinc 2 1, 3), (.iinc 1 1, 3), (.goto (-116), 3), (.bipush 22, 2), (.ireturn, 1)]
theorem ocX12_keyAt_2 : chk (cX12_keyAt.data.toList.drop 86) tcX12_keyAt_2 = true := by decide +kernel
theorem dX12_keyAt_86 : decode cX12_keyAt 86 = .ok (.iload_n 3, 1) := chk_nth ocX12_keyAt_2 (k := 0) rfl
theorem dX12_keyAt_87 : decode cX12_keyAt 87 = .ok (.iadd, 1) := chk_nth ocX12_keyAt_2 (k := 1) rfl
theorem dX12_keyAt_88 : decode cX12_keyAt 88 = .ok (.aload_n 0, 1) := chk_nth ocX12_keyAt_2 (k := 2) rfl
theorem dX12_keyAt_89 : decode cX12_keyAt 89 = .ok (.getfield 101, 3) := chk_nth ocX12_keyAt_2 (k := 3) rfl
theorem dX12_keyAt_92 : decode cX12_keyAt 92 = .ok (.if_icmp .ne 5, 3) := chk_nth ocX12_keyAt_2 (k := 4) rfl
theorem dX12_keyAt_95 : decode cX12_keyAt 95 = .ok (.iload_n 1, 1) := chk_nth ocX12_keyAt_2 (k := 5) rfl
theorem dX12_keyAt_96 : decode cX12_keyAt 96 = .ok (.ireturn, 1) := chk_nth ocX12_keyAt_2 (k := 6) rfl
theorem dX12_keyAt_97 : decode cX12_keyAt 97 = .ok (.ldc 86, 2) := chk_nth ocX12_keyAt_2 (k := 7) rfl
theorem dX12_keyAt_99 : decode cX12_keyAt 99 = .ok (.iload_n 2, 1) := chk_nth ocX12_keyAt_2 (k := 8) rfl
theorem dX12_keyAt_100 : decode cX12_keyAt 100 = .ok (.invokevirtual 94, 3) := chk_nth ocX12_keyAt_2 (k := 9) rfl
theorem dX12_keyAt_103 : decode cX12_keyAt 103 = .ok (.bipush 32, 2) := chk_nth ocX12_keyAt_2 (k := 10) rfl
theorem dX12_keyAt_105 : decode cX12_keyAt 105 = .ok (.if_icmp .eq 9, 3) := chk_nth ocX12_keyAt_2 (k := 11) rfl
theorem dX12_keyAt_108 : decode cX12_keyAt 108 = .ok (.iinc 2 1, 3) := chk_nth ocX12_keyAt_2 (k := 12) rfl
theorem dX12_keyAt_111 : decode cX12_keyAt 111 = .ok (.goto (-14), 3) := chk_nth ocX12_keyAt_2 (k := 13) rfl
theorem dX12_keyAt_114 : decode cX12_keyAt 114 = .ok (.iinc 2 1, 3) := chk_nth ocX12_keyAt_2 (k := 14) rfl
theorem dX12_keyAt_117 : decode cX12_keyAt 117 = .ok (.iinc 1 1, 3) := chk_nth ocX12_keyAt_2 (k := 15) rfl
theorem dX12_keyAt_120 : decode cX12_keyAt 120 = .ok (.goto (-116), 3) := chk_nth ocX12_keyAt_2 (k := 16) rfl
theorem dX12_keyAt_123 : decode cX12_keyAt 123 = .ok (.bipush 22, 2) := chk_nth ocX12_keyAt_2 (k := 17) rfl
theorem dX12_keyAt_125 : decode cX12_keyAt 125 = .ok (.ireturn, 1) := chk_nth ocX12_keyAt_2 (k := 18) rfl
def tcX12_next_0 : List (Instr × Nat) := [(.aload_n 0, 1), (.aload_n 0, 1), (.getfield 101, 3), (.putfield 98, 3), (.aload_n 0, 1), (.aload_n 0, 1), (.getfield 98, 3), (.invokevirtual 104, 3), (.bipush 10, 2), (.if_icmp .eq 16, 3), (.aload_n 0, 1), (.aload_n 0, 1), (.getfield 98, 3), (.invokevirtual 104, 3), (.bipush 32, 2), (.if_icmp .ne 16, 3), (.aload_n 0, 1), (.dup, 1), (.getfield 98, 3), (.iconst 1, 1), (.iadd, 1), (.putfield 98, 3), (.goto (-36), 3), (.aload_n 0, 1)]
theorem ocX12_next_0 : chk (cX12_next.data.toList.drop 0) tcX12_next_0 = true := by decide +kernel
theorem dX12_next_0 : decode cX12_next 0 = .ok (.aload_n 0, 1) := chk_nth ocX12_next_0 (k := 0) rfl
theorem dX12_next_1 : decode cX12_next 1 = .ok (.aload_n 0, 1) := chk_nth ocX12_next_0 (k := 1) rfl
theorem dX12_next_2 : decode cX12_next 2 = .ok (.getfield 101, 3) := chk_nth ocX12_next_0 (k := 2) rfl
theorem dX12_next_5 : decode cX12_next 5 = .ok (.putfield 98, 3) := chk_nth ocX12_next_0 (k := 3) rfl
theorem dX12_next_8 : decode cX12_next 8 = .ok (.aload_n 0, 1) := chk_nth ocX12_next_0 (k := 4) rfl
theorem dX12_next_9 : decode cX12_next 9 = .ok (.aload_n 0, 1) := chk_nth ocX12_next_0 (k := 5) rfl
theorem dX12_next_10 : decode cX12_next 10 = .ok (.getfield 98, 3) := chk_nth ocX12_next_0 (k := 6) rfl
theorem dX12_next_13 : decode cX12_next 13 = .ok (.invokevirtual 104, 3) := chk_nth ocX12_next_0 (k := 7) rfl
theorem dX12_next_16 : decode cX12_next 16 = .ok (.bipush 10, 2) := chk_nth ocX12_next_0 (k := 8) rfl
theorem dX12_next_18 : decode cX12_next 18 = .ok (.if_icmp .eq 16, 3) := chk_nth ocX12_next_0 (k := 9) rfl
theorem dX12_next_21 : decode cX12_next 21 = .ok (.aload_n 0, 1) := chk_nth ocX12_next_0 (k := 10) rfl
theorem dX12_next_22 : decode cX12_next 22 = .ok (.aload_n 0, 1) := chk_nth ocX12_next_0 (k := 11) rfl
theorem dX12_next_23 : decode cX12_next 23 = .ok (.getfield 98, 3) := chk_nth ocX12_next_0 (k := 12) rfl
theorem dX12_next_26 : decode cX12_next 26 = .ok (.invokevirtual 104, 3) := chk_nth ocX12_next_0 (k := 13) rfl
theorem dX12_next_29 : decode cX12_next 29 = .ok (.bipush 32, 2) := chk_nth ocX12_next_0 (k := 14) rfl
theorem dX12_next_31 : decode cX12_next 31 = .ok (.if_icmp .ne 16, 3) := chk_nth ocX12_next_0 (k := 15) rfl
theorem dX12_next_34 : decode cX12_next 34 = .ok (.aload_n 0, 1) := chk_nth ocX12_next_0 (k := 16) rfl
theorem dX12_next_35 : decode cX12_next 35 = .ok (.dup, 1) := chk_nth ocX12_next_0 (k := 17) rfl
theorem dX12_next_36 : decode cX12_next 36 = .ok (.getfield 98, 3) := chk_nth ocX12_next_0 (k := 18) rfl
theorem dX12_next_39 : decode cX12_next 39 = .ok (.iconst 1, 1) := chk_nth ocX12_next_0 (k := 19) rfl
theorem dX12_next_40 : decode cX12_next 40 = .ok (.iadd, 1) := chk_nth ocX12_next_0 (k := 20) rfl
theorem dX12_next_41 : decode cX12_next 41 = .ok (.putfield 98, 3) := chk_nth ocX12_next_0 (k := 21) rfl
theorem dX12_next_44 : decode cX12_next 44 = .ok (.goto (-36), 3) := chk_nth ocX12_next_0 (k := 22) rfl
theorem dX12_next_47 : decode cX12_next 47 = .ok (.aload_n 0, 1) := chk_nth ocX12_next_0 (k := 23) rfl
def tcX12_next_1 : List (Instr × Nat) := [(.aload_n 0, 1), (.getfield 98, 3), (.putfield 101, 3), (.aload_n 0, 1), (.getfield 98, 3), (.aload_n 0, 1), (.getfield 83, 3), (.if_icmp .lt 12, 3), (.aload_n 0, 1), (.bipush 24, 2), (.putfield 108, 3), (.goto 222, 3), (.aload_n 0, 1), (.aload_n 0, 1), (.getfield 98, 3), (.invokevirtual 104, 3), (.invokestatic 111, 3), (.ifCond .eq 41, 3), (.aload_n 0, 1), (.aload_n 0, 1), (.getfield 101, 3), (.invokevirtual 104, 3), (.invokestatic 111, 3), (.ifCond .eq 16, 3)]
theorem ocX12_next_1 : chk (cX12_next.data.toList.drop 48) tcX12_next_1 = true := by decide +kernel
theorem dX12_next_48 : decode cX12_next 48 = .ok (.aload_n 0, 1) := chk_nth ocX12_next_1 (k := 0) rfl
theorem dX12_next_49 : decode cX12_next 49 = .ok (.getfield 98, 3) := chk_nth ocX12_next_1 (k := 1) rfl
theorem dX12_next_52 : decode cX12_next 52 = .ok (.putfield 101, 3) := chk_nth ocX12_next_1 (k := 2) rfl
theorem dX12_next_55 : decode cX12_next 55 = .ok (.aload_n 0, 1) := chk_nth ocX12_next_1 (k := 3) rfl
theorem dX12_next_56 : decode cX12_next 56 = .ok (.getfield 98, 3) := chk_nth ocX12_next_1 (k := 4) rfl
theorem dX12_next_59 : decode cX12_next 59 = .ok (.aload_n 0, 1) := chk_nth ocX12_next_1 (k := 5) rfl
theorem dX12_next_60 : decode cX12_next 60 = .ok (.getfield 83, 3) := chk_nth ocX12_next_1 (k := 6) rfl
theorem dX12_next_63 : decode cX12_next 63 = .ok (.if_icmp .lt 12, 3) := chk_nth ocX12_next_1 (k := 7) rfl
theorem dX12_next_66 : decode cX12_next 66 = .ok (.aload_n 0, 1) := chk_nth ocX12_next_1 (k := 8) rfl
theorem dX12_next_67 : decode cX12_next 67 = .ok (.bipush 24, 2) := chk_nth ocX12_next_1 (k := 9) rfl
theorem dX12_next_69 : decode cX12_next 69 = .ok (.putfield 108, 3) := chk_nth ocX12_next_1 (k := 10) rfl
theorem dX12_next_72 : decode cX12_next 72 = .ok (.goto 222, 3) := chk_nth ocX12_next_1 (k := 11) rfl
theorem dX12_next_75 : decode cX12_next 75 = .ok (.aload_n 0, 1) := chk_nth ocX12_next_1 (k := 12) rfl
theorem dX12_next_76 : decode cX12_next 76 = .ok (.aload_n 0, 1) := chk_nth ocX12_next_1 (k := 13) rfl
theorem dX12_next_77 : decode cX12_next 77 = .ok (.getfield 98, 3) := chk_nth ocX12_next_1 (k := 14) rfl
theorem dX12_next_80 : decode cX12_next 80 = .ok (.invokevirtual 104, 3) := chk_nth ocX12_next_1 (k := 15) rfl
theorem dX12_next_83 : decode cX12_next 83 = .ok (.invokestatic 111, 3) := chk_nth ocX12_next_1 (k := 16) rfl
theorem dX12_next_86 : decode cX12_next 86 = .ok (.ifCond .eq 41, 3) := chk_nth ocX12_next_1 (k := 17) rfl
theorem dX12_next_89 : decode cX12_next 89 = .ok (.aload_n 0, 1) := chk_nth ocX12_next_1 (k := 18) rfl
theorem dX12_next_90 : decode cX12_next 90 = .ok (.aload_n 0, 1) := chk_nth ocX12_next_1 (k := 19) rfl
theorem dX12_next_91 : decode cX12_next 91 = .ok (.getfield 101, 3) := chk_nth ocX12_next_1 (k := 20) rfl
theorem dX12_next_94 : decode cX12_next 94 = .ok (.invokevirtual 104, 3) := chk_nth ocX12_next_1 (k := 21) rfl
theorem dX12_next_97 : decode cX12_next 97 = .ok (.invokestatic 111, 3) := chk_nth ocX12_next_1 (k := 22) rfl
theorem dX12_next_100 : decode cX12_next 100 = .ok (.ifCond .eq 16, 3) := chk_nth ocX12_next_1 (k := 23) rfl
def tcX12_next_2 : List (Instr × Nat) := [(.aload_n 0, 1), (.dup, 1), (.getfield 101, 3), (.iconst 1, 1), (.iadd, 1), (.putfield 101, 3), (.goto (-24), 3), (.aload_n 0, 1), (.aload_n 0, 1), (.invokevirtual 115, 3), (.putfield 108, 3), (.goto 170, 3), (.aload_n 0, 1), (.aload_n 0, 1), (.getfield 98, 3), (.invokevirtual 104, 3), (.invokestatic 118, 3), (.ifCond .eq 98, 3), (.aload_n 0, 1), (.iconst 0, 1), (.putfield 121, 3), (.aload_n 0, 1), (.aload_n 0, 1), (.getfield 101, 3)]
theorem ocX12_next_2 : chk (cX12_next.data.toList.drop 103) tcX12_next_2 = true := by decide +kernel
theorem dX12_next_103 : decode cX12_next 103 = .ok (.aload_n 0, 1) := chk_nth ocX12_next_2 (k := 0) rfl
theorem dX12_next_104 : decode cX12_next 104 = .ok (.dup, 1) := chk_nth ocX12_next_2 (k := 1) rfl
theorem dX12_next_105 : decode cX12_next 105 = .ok (.getfield 101, 3) := chk_nth ocX12_next_2 (k := 2) rfl
theorem dX12_next_108 : decode cX12_next 108 = .ok (.iconst 1, 1) := chk_nth ocX12_next_2 (k := 3) rfl
theorem dX12_next_109 : decode cX12_next 109 = .ok (.iadd, 1) := chk_nth ocX12_next_2 (k := 4) rfl
theorem dX12_next_110 : decode cX12_next 110 = .ok (.putfield 101, 3) := chk_nth ocX12_next_2 (k := 5) rfl
theorem dX12_next_113 : decode cX12_next 113 = .ok (.goto (-24), 3) := chk_nth ocX12_next_2 (k := 6) rfl
theorem dX12_next_116 : decode cX12_next 116 = .ok (.aload_n 0, 1) := chk_nth ocX12_next_2 (k := 7) rfl
theorem dX12_next_117 : decode cX12_next 117 = .ok (.aload_n 0, 1) := chk_nth ocX12_next_2 (k := 8) rfl
theorem dX12_next_118 : decode cX12_next 118 = .ok (.invokevirtual 115, 3) := chk_nth ocX12_next_2 (k := 9) rfl
theorem dX12_next_121 : decode cX12_next 121 = .ok (.putfield 108, 3) := chk_nth ocX12_next_2 (k := 10) rfl
theorem dX12_next_124 : decode cX12_next 124 = .ok (.goto 170, 3) := chk_nth ocX12_next_2 (k := 11) rfl
theorem dX12_next_127 : decode cX12_next 127 = .ok (.aload_n 0, 1) := chk_nth ocX12_next_2 (k := 12) rfl
theorem dX12_next_128 : decode cX12_next 128 = .ok (.aload_n 0, 1) := chk_nth ocX12_next_2 (k := 13) rfl
theorem dX12_next_129 : decode cX12_next 129 = .ok (.getfield 98, 3) := chk_nth ocX12_next_2 (k := 14) rfl
theorem dX12_next_132 : decode cX12_next 132 = .ok (.invokevirtual 104, 3) := chk_nth ocX12_next_2 (k := 15) rfl
theorem dX12_next_135 : decode cX12_next 135 = .ok (.invokestatic 118, 3) := chk_nth ocX12_next_2 (k := 16) rfl
theorem dX12_next_138 : decode cX12_next 138 = .ok (.ifCond .eq 98, 3) := chk_nth ocX12_next_2 (k := 17) rfl
theorem dX12_next_141 : decode cX12_next 141 = .ok (.aload_n 0, 1) := chk_nth ocX12_next_2 (k := 18) rfl
theorem dX12_next_142 : decode cX12_next 142 = .ok (.iconst 0, 1) := chk_nth ocX12_next_2 (k := 19) rfl
theorem dX12_next_143 : decode cX12_next 143 = .ok (.putfield 121, 3) := chk_nth ocX12_next_2 (k := 20) rfl
theorem dX12_next_146 : decode cX12_next 146 = .ok (.aload_n 0, 1) := chk_nth ocX12_next_2 (k := 21) rfl
theorem dX12_next_147 : decode cX12_next 147 = .ok (.aload_n 0, 1) := chk_nth ocX12_next_2 (k := 22) rfl
theorem dX12_next_148 : decode cX12_next 148 = .ok (.getfield 101, 3) := chk_nth ocX12_next_2 (k := 23) rfl
def tcX12_next_3 : List (Instr × Nat) := [(.invokevirtual 104, 3), (.invokestatic 118, 3), (.ifCond .eq 52, 3), (.aload_n 0, 1), (.getfield 101, 3), (.aload_n 0, 1), (.getfield 98, 3), (.isub, 1), (.iconst 3, 1), (.if_icmp .ge 26, 3), (.aload_n 0, 1), (.bipush 10, 2), (.aload_n 0, 1), (.getfield 121, 3), (.imul, 1), (.aload_n 0, 1), (.aload_n 0, 1), (.getfield 101, 3), (.invokevirtual 104, 3), (.iadd, 1), (.bipush 48, 2), (.isub, 1), (.putfield 121, 3), (.aload_n 0, 1)]
theorem ocX12_next_3 : chk (cX12_next.data.toList.drop 151) tcX12_next_3 = true := by decide +kernel
theorem dX12_next_151 : decode cX12_next 151 = .ok (.invokevirtual 104, 3) := chk_nth ocX12_next_3 (k := 0) rfl
theorem dX12_next_154 : decode cX12_next 154 = .ok (.invokestatic 118, 3) := chk_nth ocX12_next_3 (k := 1) rfl
theorem dX12_next_157 : decode cX12_next 157 = .ok (.ifCond .eq 52, 3) := chk_nth ocX12_next_3 (k := 2) rfl
theorem dX12_next_160 : decode cX12_next 160 = .ok (.aload_n 0, 1) := chk_nth ocX12_next_3 (k := 3) rfl
theorem dX12_next_161 : decode cX12_next 161 = .ok (.getfield 101, 3) := chk_nth ocX12_next_3 (k := 4) rfl
theorem dX12_next_164 : decode cX12_next 164 = .ok (.aload_n 0, 1) := chk_nth ocX12_next_3 (k := 5) rfl
theorem dX12_next_165 : decode cX12_next 165 = .ok (.getfield 98, 3) := chk_nth ocX12_next_3 (k := 6) rfl
theorem dX12_next_168 : decode cX12_next 168 = .ok (.isub, 1) := chk_nth ocX12_next_3 (k := 7) rfl
theorem dX12_next_169 : decode cX12_next 169 = .ok (.iconst 3, 1) := chk_nth ocX12_next_3 (k := 8) rfl
theorem dX12_next_170 : decode cX12_next 170 = .ok (.if_icmp .ge 26, 3) := chk_nth ocX12_next_3 (k := 9) rfl
theorem dX12_next_173 : decode cX12_next 173 = .ok (.aload_n 0, 1) := chk_nth ocX12_next_3 (k := 10) rfl
theorem dX12_next_174 : decode cX12_next 174 = .ok (.bipush 10, 2) := chk_nth ocX12_next_3 (k := 11) rfl
theorem dX12_next_176 : decode cX12_next 176 = .ok (.aload_n 0, 1) := chk_nth ocX12_next_3 (k := 12) rfl
theorem dX12_next_177 : decode cX12_next 177 = .ok (.getfield 121, 3) := chk_nth ocX12_next_3 (k := 13) rfl
theorem dX12_next_180 : decode cX12_next 180 = .ok (.imul, 1) := chk_nth ocX12_next_3 (k := 14) rfl
theorem dX12_next_181 : decode cX12_next 181 = .ok (.aload_n 0, 1) := chk_nth ocX12_next_3 (k := 15) rfl
theorem dX12_next_182 : decode cX12_next 182 = .ok (.aload_n 0, 1) := chk_nth ocX12_next_3 (k := 16) rfl
theorem dX12_next_183 : decode cX12_next 183 = .ok (.getfield 101, 3) := chk_nth ocX12_next_3 (k := 17) rfl
theorem dX12_next_186 : decode cX12_next 186 = .ok (.invokevirtual 104, 3) := chk_nth ocX12_next_3 (k := 18) rfl
theorem dX12_next_189 : decode cX12_next 189 = .ok (.iadd, 1) := chk_nth ocX12_next_3 (k := 19) rfl
theorem dX12_next_190 : decode cX12_next 190 = .ok (.bipush 48, 2) := chk_nth ocX12_next_3 (k := 20) rfl
theorem dX12_next_192 : decode cX12_next 192 = .ok (.isub, 1) := chk_nth ocX12_next_3 (k := 21) rfl
theorem dX12_next_193 : decode cX12_next 193 = .ok (.putfield 121, 3) := chk_nth ocX12_next_3 (k := 22) rfl
theorem dX12_next_196 : decode cX12_next 196 = .ok (.aload_n 0, 1) := chk_nth ocX12_next_3 (k := 23) rfl
def tcX12_next_4 : List (Instr × Nat) := [(.dup, 1), (.getfield 101, 3), (.iconst 1, 1), (.iadd, 1), (.putfield 101, 3), (.goto (-60), 3), (.aload_n 0, 1), (.aload_n 0, 1), (.getfield 101, 3), (.aload_n 0, 1), (.getfield 98, 3), (.isub, 1), (.iconst 3, 1), (.if_icmp .le 8, 3), (.bipush 25, 2), (.goto 5, 3), (.bipush 23, 2), (.putfield 108, 3), (.goto 61, 3), (.aload_n 0, 1), (.dup, 1), (.getfield 101, 3), (.iconst 1, 1), (.iadd, 1)]
theorem ocX12_next_4 : chk (cX12_next.data.toList.drop 197) tcX12_next_4 = true := by decide +kernel
theorem dX12_next_197 : decode cX12_next 197 = .ok (.dup, 1) := chk_nth ocX12_next_4 (k := 0) rfl
theorem dX12_next_198 : decode cX12_next 198 = .ok (.getfield 101, 3) := chk_nth ocX12_next_4 (k := 1) rfl
theorem dX12_next_201 : decode cX12_next 201 = .ok (.iconst 1, 1) := chk_nth ocX12_next_4 (k := 2) rfl
theorem dX12_next_202 : decode cX12_next 202 = .ok (.iadd, 1) := chk_nth ocX12_next_4 (k := 3) rfl
theorem dX12_next_203 : decode cX12_next 203 = .ok (.putfield 101, 3) := chk_nth ocX12_next_4 (k := 4) rfl
theorem dX12_next_206 : decode cX12_next 206 = .ok (.goto (-60), 3) := chk_nth ocX12_next_4 (k := 5) rfl
theorem dX12_next_209 : decode cX12_next 209 = .ok (.aload_n 0, 1) := chk_nth ocX12_next_4 (k := 6) rfl
theorem dX12_next_210 : decode cX12_next 210 = .ok (.aload_n 0, 1) := chk_nth ocX12_next_4 (k := 7) rfl
theorem dX12_next_211 : decode cX12_next 211 = .ok (.getfield 101, 3) := chk_nth ocX12_next_4 (k := 8) rfl
theorem dX12_next_214 : decode cX12_next 214 = .ok (.aload_n 0, 1) := chk_nth ocX12_next_4 (k := 9) rfl
theorem dX12_next_215 : decode cX12_next 215 = .ok (.getfield 98, 3) := chk_nth ocX12_next_4 (k := 10) rfl
theorem dX12_next_218 : decode cX12_next 218 = .ok (.isub, 1) := chk_nth ocX12_next_4 (k := 11) rfl
theorem dX12_next_219 : decode cX12_next 219 = .ok (.iconst 3, 1) := chk_nth ocX12_next_4 (k := 12) rfl
theorem dX12_next_220 : decode cX12_next 220 = .ok (.if_icmp .le 8, 3) := chk_nth ocX12_next_4 (k := 13) rfl
theorem dX12_next_223 : decode cX12_next 223 = .ok (.bipush 25, 2) := chk_nth ocX12_next_4 (k := 14) rfl
theorem dX12_next_225 : decode cX12_next 225 = .ok (.goto 5, 3) := chk_nth ocX12_next_4 (k := 15) rfl
theorem dX12_next_228 : decode cX12_next 228 = .ok (.bipush 23, 2) := chk_nth ocX12_next_4 (k := 16) rfl
theorem dX12_next_230 : decode cX12_next 230 = .ok (.putfield 108, 3) := chk_nth ocX12_next_4 (k := 17) rfl
theorem dX12_next_233 : decode cX12_next 233 = .ok (.goto 61, 3) := chk_nth ocX12_next_4 (k := 18) rfl
theorem dX12_next_236 : decode cX12_next 236 = .ok (.aload_n 0, 1) := chk_nth ocX12_next_4 (k := 19) rfl
theorem dX12_next_237 : decode cX12_next 237 = .ok (.dup, 1) := chk_nth ocX12_next_4 (k := 20) rfl
theorem dX12_next_238 : decode cX12_next 238 = .ok (.getfield 101, 3) := chk_nth ocX12_next_4 (k := 21) rfl
theorem dX12_next_241 : decode cX12_next 241 = .ok (.iconst 1, 1) := chk_nth ocX12_next_4 (k := 22) rfl
theorem dX12_next_242 : decode cX12_next 242 = .ok (.iadd, 1) := chk_nth ocX12_next_4 (k := 23) rfl
def tcX12_next_5 : List (Instr × Nat) := [(.putfield 101, 3), (.aload_n 0, 1), (.bipush 25, 2), (.putfield 108, 3), (.iconst 0, 1), (.istore_n 1, 1), (.iload_n 1, 1), (.ldc 124, 2), (.invokevirtual 88, 3), (.if_icmp .ge 34, 3), (.aload_n 0, 1), (.aload_n 0, 1), (.getfield 98, 3), (.invokevirtual 104, 3), (.ldc 124, 2), (.iload_n 1, 1), (.invokevirtual 94, 3), (.if_icmp .ne 11, 3), (.aload_n 0, 1), (.bipush 30, 2), (.iload_n 1, 1), (.iadd, 1), (.putfield 108, 3), (.iinc 1 1, 3)]
theorem ocX12_next_5 : chk (cX12_next.data.toList.drop 243) tcX12_next_5 = true := by decide +kernel
theorem dX12_next_243 : decode cX12_next 243 = .ok (.putfield 101, 3) := chk_nth ocX12_next_5 (k := 0) rfl
theorem dX12_next_246 : decode cX12_next 246 = .ok (.aload_n 0, 1) := chk_nth ocX12_next_5 (k := 1) rfl
theorem dX12_next_247 : decode cX12_next 247 = .ok (.bipush 25, 2) := chk_nth ocX12_next_5 (k := 2) rfl
theorem dX12_next_249 : decode cX12_next 249 = .ok (.putfield 108, 3) := chk_nth ocX12_next_5 (k := 3) rfl
theorem dX12_next_252 : decode cX12_next 252 = .ok (.iconst 0, 1) := chk_nth ocX12_next_5 (k := 4) rfl
theorem dX12_next_253 : decode cX12_next 253 = .ok (.istore_n 1, 1) := chk_nth ocX12_next_5 (k := 5) rfl
theorem dX12_next_254 : decode cX12_next 254 = .ok (.iload_n 1, 1) := chk_nth ocX12_next_5 (k := 6) rfl
theorem dX12_next_255 : decode cX12_next 255 = .ok (.ldc 124, 2) := chk_nth ocX12_next_5 (k := 7) rfl
theorem dX12_next_257 : decode cX12_next 257 = .ok (.invokevirtual 88, 3) := chk_nth ocX12_next_5 (k := 8) rfl
theorem dX12_next_260 : decode cX12_next 260 = .ok (.if_icmp .ge 34, 3) := chk_nth ocX12_next_5 (k := 9) rfl
theorem dX12_next_263 : decode cX12_next 263 = .ok (.aload_n 0, 1) := chk_nth ocX12_next_5 (k := 10) rfl
theorem dX12_next_264 : decode cX12_next 264 = .ok (.aload_n 0, 1) := chk_nth ocX12_next_5 (k := 11) rfl
theorem dX12_next_265 : decode cX12_next 265 = .ok (.getfield 98, 3) := chk_nth ocX12_next_5 (k := 12) rfl
theorem dX12_next_268 : decode cX12_next 268 = .ok (.invokevirtual 104, 3) := chk_nth ocX12_next_5 (k := 13) rfl
theorem dX12_next_271 : decode cX12_next 271 = .ok (.ldc 124, 2) := chk_nth ocX12_next_5 (k := 14) rfl
theorem dX12_next_273 : decode cX12_next 273 = .ok (.iload_n 1, 1) := chk_nth ocX12_next_5 (k := 15) rfl
theorem dX12_next_274 : decode cX12_next 274 = .ok (.invokevirtual 94, 3) := chk_nth ocX12_next_5 (k := 16) rfl
theorem dX12_next_277 : decode cX12_next 277 = .ok (.if_icmp .ne 11, 3) := chk_nth ocX12_next_5 (k := 17) rfl
theorem dX12_next_280 : decode cX12_next 280 = .ok (.aload_n 0, 1) := chk_nth ocX12_next_5 (k := 18) rfl
theorem dX12_next_281 : decode cX12_next 281 = .ok (.bipush 30, 2) := chk_nth ocX12_next_5 (k := 19) rfl
theorem dX12_next_283 : decode cX12_next 283 = .ok (.iload_n 1, 1) := chk_nth ocX12_next_5 (k := 20) rfl
theorem dX12_next_284 : decode cX12_next 284 = .ok (.iadd, 1) := chk_nth ocX12_next_5 (k := 21) rfl
theorem dX12_next_285 : decode cX12_next 285 = .ok (.putfield 108, 3) := chk_nth ocX12_next_5 (k := 22) rfl
theorem dX12_next_288 : decode cX12_next 288 = .ok (.iinc 1 1, 3) := chk_nth ocX12_next_5 (k := 23) rfl
def tcX12_next_6 : List (Instr × Nat) := [(.goto (-37), 3), (.return_, 1)]
theorem ocX12_next_6 : chk (cX12_next.data.toList.drop 291) tcX12_next_6 = true := by decide +kernel
theorem dX12_next_291 : decode cX12_next 291 = .ok (.goto (-37), 3) := chk_nth ocX12_next_6 (k := 0) rfl
theorem dX12_next_294 : decode cX12_next 294 = .ok (.return_, 1) := chk_nth ocX12_next_6 (k := 1) rfl
def tcX12_fails_0 : List (Instr × Nat) := [(.aload_n 0, 1), (.getfield 126, 3), (.ifCond .eq 4, 3), (.return_, 1), (.aload_n 0, 1), (.aload_n 0, 1), (.getfield 108, 3), (.bipush 25, 2), (.if_icmp .ne 7, 3), (.iconst 1, 1), (.goto 4, 3), (.iload_n 1, 1), (.putfield 126, 3), (.aload_n 0, 1), (.aload_n 0, 1), (.getfield 98, 3), (.putfield 129, 3), (.return_, 1)]
theorem ocX12_fails_0 : chk (cX12_fails.data.toList.drop 0) tcX12_fails_0 = true := by decide +kernel
theorem dX12_fails_0 : decode cX12_fails 0 = .ok (.aload_n 0, 1) := chk_nth ocX12_fails_0 (k := 0) rfl
theorem dX12_fails_1 : decode cX12_fails 1 = .ok (.getfield 126, 3) := chk_nth ocX12_fails_0 (k := 1) rfl
theorem dX12_fails_4 : decode cX12_fails 4 = .ok (.ifCond .eq 4, 3) := chk_nth ocX12_fails_0 (k := 2) rfl
theorem dX12_fails_7 : decode cX12_fails 7 = .ok (.return_, 1) := chk_nth ocX12_fails_0 (k := 3) rfl
theorem dX12_fails_8 : decode cX12_fails 8 = .ok (.aload_n 0, 1) := chk_nth ocX12_fails_0 (k := 4) rfl
theorem dX12_fails_9 : decode cX12_fails 9 = .ok (.aload_n 0, 1) := chk_nth ocX12_fails_0 (k := 5) rfl
theorem dX12_fails_10 : decode cX12_fails 10 = .ok (.getfield 108, 3) := chk_nth ocX12_fails_0 (k := 6) rfl
theorem dX12_fails_13 : decode cX12_fails 13 = .ok (.bipush 25, 2) := chk_nth ocX12_fails_0 (k := 7) rfl
theorem dX12_fails_15 : decode cX12_fails 15 = .ok (.if_icmp .ne 7, 3) := chk_nth ocX12_fails_0 (k := 8) rfl
theorem dX12_fails_18 : decode cX12_fails 18 = .ok (.iconst 1, 1) := chk_nth ocX12_fails_0 (k := 9) rfl
theorem dX12_fails_19 : decode cX12_fails 19 = .ok (.goto 4, 3) := chk_nth ocX12_fails_0 (k := 10) rfl
theorem dX12_fails_22 : decode cX12_fails 22 = .ok (.iload_n 1, 1) := chk_nth ocX12_fails_0 (k := 11) rfl
theorem dX12_fails_23 : decode cX12_fails 23 = .ok (.putfield 126, 3) := chk_nth ocX12_fails_0 (k := 12) rfl
theorem dX12_fails_26 : decode cX12_fails 26 = .ok (.aload_n 0, 1) := chk_nth ocX12_fails_0 (k := 13) rfl
theorem dX12_fails_27 : decode cX12_fails 27 = .ok (.aload_n 0, 1) := chk_nth ocX12_fails_0 (k := 14) rfl
theorem dX12_fails_28 : decode cX12_fails 28 = .ok (.getfield 98, 3) := chk_nth ocX12_fails_0 (k := 15) rfl
theorem dX12_fails_31 : decode cX12_fails 31 = .ok (.putfield 129, 3) := chk_nth ocX12_fails_0 (k := 16) rfl
theorem dX12_fails_34 : decode cX12_fails 34 = .ok (.return_, 1) := chk_nth ocX12_fails_0 (k := 17) rfl
def tcX12_is_0 : List (Instr × Nat) := [(.aload_n 0, 1), (.getfield 126, 3), (.ifCond .ne 15, 3), (.aload_n 0, 1), (.getfield 108, 3), (.iload_n 1, 1), (.if_icmp .ne 7, 3), (.iconst 1, 1), (.goto 4, 3), (.iconst 0, 1), (.ireturn, 1)]
theorem ocX12_is_0 : chk (cX12_is.data.toList.drop 0) tcX12_is_0 = true := by decide +kernel
theorem dX12_is_0 : decode cX12_is 0 = .ok (.aload_n 0, 1) := chk_nth ocX12_is_0 (k := 0) rfl
theorem dX12_is_1 : decode cX12_is 1 = .ok (.getfield 126, 3) := chk_nth ocX12_is_0 (k := 1) rfl
theorem dX12_is_4 : decode cX12_is 4 = .ok (.ifCond .ne 15, 3) := chk_nth ocX12_is_0 (k := 2) rfl
theorem dX12_is_7 : decode cX12_is 7 = .ok (.aload_n 0, 1) := chk_nth ocX12_is_0 (k := 3) rfl
theorem dX12_is_8 : decode cX12_is 8 = .ok (.getfield 108, 3) := chk_nth ocX12_is_0 (k := 4) rfl
theorem dX12_is_11 : decode cX12_is 11 = .ok (.iload_n 1, 1) := chk_nth ocX12_is_0 (k := 5) rfl
theorem dX12_is_12 : decode cX12_is 12 = .ok (.if_icmp .ne 7, 3) := chk_nth ocX12_is_0 (k := 6) rfl
theorem dX12_is_15 : decode cX12_is 15 = .ok (.iconst 1, 1) := chk_nth ocX12_is_0 (k := 7) rfl
theorem dX12_is_16 : decode cX12_is 16 = .ok (.goto 4, 3) := chk_nth ocX12_is_0 (k := 8) rfl
theorem dX12_is_19 : decode cX12_is 19 = .ok (.iconst 0, 1) := chk_nth ocX12_is_0 (k := 9) rfl
theorem dX12_is_20 : decode cX12_is 20 = .ok (.ireturn, 1) := chk_nth ocX12_is_0 (k := 10) rfl
def tcX12_eats_0 : List (Instr × Nat) := [(.aload_n 0, 1), (.iload_n 1, 1), (.invokevirtual 132, 3), (.ifCond .ne 5, 3), (.iconst 0, 1), (.ireturn, 1), (.aload_n 0, 1), (.invokevirtual 135, 3), (.iconst 1, 1), (.ireturn, 1)]
theorem ocX12_eats_0 : chk (cX12_eats.data.toList.drop 0) tcX12_eats_0 = true := by decide +kernel
theorem dX12_eats_0 : decode cX12_eats 0 = .ok (.aload_n 0, 1) := chk_nth ocX12_eats_0 (k := 0) rfl
theorem dX12_eats_1 : decode cX12_eats 1 = .ok (.iload_n 1, 1) := chk_nth ocX12_eats_0 (k := 1) rfl
theorem dX12_eats_2 : decode cX12_eats 2 = .ok (.invokevirtual 132, 3) := chk_nth ocX12_eats_0 (k := 2) rfl
theorem dX12_eats_5 : decode cX12_eats 5 = .ok (.ifCond .ne 5, 3) := chk_nth ocX12_eats_0 (k := 3) rfl
theorem dX12_eats_8 : decode cX12_eats 8 = .ok (.iconst 0, 1) := chk_nth ocX12_eats_0 (k := 4) rfl
theorem dX12_eats_9 : decode cX12_eats 9 = .ok (.ireturn, 1) := chk_nth ocX12_eats_0 (k := 5) rfl
theorem dX12_eats_10 : decode cX12_eats 10 = .ok (.aload_n 0, 1) := chk_nth ocX12_eats_0 (k := 6) rfl
theorem dX12_eats_11 : decode cX12_eats 11 = .ok (.invokevirtual 135, 3) := chk_nth ocX12_eats_0 (k := 7) rfl
theorem dX12_eats_14 : decode cX12_eats 14 = .ok (.iconst 1, 1) := chk_nth ocX12_eats_0 (k := 8) rfl
theorem dX12_eats_15 : decode cX12_eats 15 = .ok (.ireturn, 1) := chk_nth ocX12_eats_0 (k := 9) rfl
def tcX12_takes_0 : List (Instr × Nat) := [(.aload_n 0, 1), (.bipush 23, 2), (.invokevirtual 132, 3), (.ifCond .ne 11, 3), (.aload_n 0, 1), (.iconst 2, 1), (.invokevirtual 138, 3), (.goto 23, 3), (.aload_n 0, 1), (.getfield 121, 3), (.i2l, 1), (.iload_n 1, 1), (.i2l, 1), (.iload_n 2, 1), (.i2l, 1), (.invokestatic 142, 3), (.ifCond .ne 8, 3), (.aload_n 0, 1), (.iconst 3, 1), (.invokevirtual 138, 3), (.aload_n 0, 1), (.getfield 121, 3), (.istore_n 3, 1), (.aload_n 0, 1)]
theorem ocX12_takes_0 : chk (cX12_takes.data.toList.drop 0) tcX12_takes_0 = true := by decide +kernel
theorem dX12_takes_0 : decode cX12_takes 0 = .ok (.aload_n 0, 1) := chk_nth ocX12_takes_0 (k := 0) rfl
theorem dX12_takes_1 : decode cX12_takes 1 = .ok (.bipush 23, 2) := chk_nth ocX12_takes_0 (k := 1) rfl
theorem dX12_takes_3 : decode cX12_takes 3 = .ok (.invokevirtual 132, 3) := chk_nth ocX12_takes_0 (k := 2) rfl
theorem dX12_takes_6 : decode cX12_takes 6 = .ok (.ifCond .ne 11, 3) := chk_nth ocX12_takes_0 (k := 3) rfl
theorem dX12_takes_9 : decode cX12_takes 9 = .ok (.aload_n 0, 1) := chk_nth ocX12_takes_0 (k := 4) rfl
theorem dX12_takes_10 : decode cX12_takes 10 = .ok (.iconst 2, 1) := chk_nth ocX12_takes_0 (k := 5) rfl
theorem dX12_takes_11 : decode cX12_takes 11 = .ok (.invokevirtual 138, 3) := chk_nth ocX12_takes_0 (k := 6) rfl
theorem dX12_takes_14 : decode cX12_takes 14 = .ok (.goto 23, 3) := chk_nth ocX12_takes_0 (k := 7) rfl
theorem dX12_takes_17 : decode cX12_takes 17 = .ok (.aload_n 0, 1) := chk_nth ocX12_takes_0 (k := 8) rfl
theorem dX12_takes_18 : decode cX12_takes 18 = .ok (.getfield 121, 3) := chk_nth ocX12_takes_0 (k := 9) rfl
theorem dX12_takes_21 : decode cX12_takes 21 = .ok (.i2l, 1) := chk_nth ocX12_takes_0 (k := 10) rfl
theorem dX12_takes_22 : decode cX12_takes 22 = .ok (.iload_n 1, 1) := chk_nth ocX12_takes_0 (k := 11) rfl
theorem dX12_takes_23 : decode cX12_takes 23 = .ok (.i2l, 1) := chk_nth ocX12_takes_0 (k := 12) rfl
theorem dX12_takes_24 : decode cX12_takes 24 = .ok (.iload_n 2, 1) := chk_nth ocX12_takes_0 (k := 13) rfl
theorem dX12_takes_25 : decode cX12_takes 25 = .ok (.i2l, 1) := chk_nth ocX12_takes_0 (k := 14) rfl
theorem dX12_takes_26 : decode cX12_takes 26 = .ok (.invokestatic 142, 3) := chk_nth ocX12_takes_0 (k := 15) rfl
theorem dX12_takes_29 : decode cX12_takes 29 = .ok (.ifCond .ne 8, 3) := chk_nth ocX12_takes_0 (k := 16) rfl
theorem dX12_takes_32 : decode cX12_takes 32 = .ok (.aload_n 0, 1) := chk_nth ocX12_takes_0 (k := 17) rfl
theorem dX12_takes_33 : decode cX12_takes 33 = .ok (.iconst 3, 1) := chk_nth ocX12_takes_0 (k := 18) rfl
theorem dX12_takes_34 : decode cX12_takes 34 = .ok (.invokevirtual 138, 3) := chk_nth ocX12_takes_0 (k := 19) rfl
theorem dX12_takes_37 : decode cX12_takes 37 = .ok (.aload_n 0, 1) := chk_nth ocX12_takes_0 (k := 20) rfl
theorem dX12_takes_38 : decode cX12_takes 38 = .ok (.getfield 121, 3) := chk_nth ocX12_takes_0 (k := 21) rfl
theorem dX12_takes_41 : decode cX12_takes 41 = .ok (.istore_n 3, 1) := chk_nth ocX12_takes_0 (k := 22) rfl
theorem dX12_takes_42 : decode cX12_takes 42 = .ok (.aload_n 0, 1) := chk_nth ocX12_takes_0 (k := 23) rfl
def tcX12_takes_1 : List (Instr × Nat) := [(.getfield 126, 3), (.ifCond .ne 7, 3), (.aload_n 0, 1), (.invokevirtual 135, 3), (.iload_n 3, 1), (.ireturn, 1)]
theorem ocX12_takes_1 : chk (cX12_takes.data.toList.drop 43) tcX12_takes_1 = true := by decide +kernel
theorem dX12_takes_43 : decode cX12_takes 43 = .ok (.getfield 126, 3) := chk_nth ocX12_takes_1 (k := 0) rfl
theorem dX12_takes_46 : decode cX12_takes 46 = .ok (.ifCond .ne 7, 3) := chk_nth ocX12_takes_1 (k := 1) rfl
theorem dX12_takes_49 : decode cX12_takes 49 = .ok (.aload_n 0, 1) := chk_nth ocX12_takes_1 (k := 2) rfl
theorem dX12_takes_50 : decode cX12_takes 50 = .ok (.invokevirtual 135, 3) := chk_nth ocX12_takes_1 (k := 3) rfl
theorem dX12_takes_53 : decode cX12_takes 53 = .ok (.iload_n 3, 1) := chk_nth ocX12_takes_1 (k := 4) rfl
theorem dX12_takes_54 : decode cX12_takes 54 = .ok (.ireturn, 1) := chk_nth ocX12_takes_1 (k := 5) rfl
def tcX12_isIn_0 : List (Instr × Nat) := [(.lload_n 0, 1), (.iload_n 2, 1), (.lshr, 1), (.lconst 1, 1), (.land, 1), (.lconst 1, 1), (.lcmp, 1), (.ifCond .ne 7, 3), (.iconst 1, 1), (.goto 4, 3), (.iconst 0, 1), (.ireturn, 1)]
theorem ocX12_isIn_0 : chk (cX12_isIn.data.toList.drop 0) tcX12_isIn_0 = true := by decide +kernel
theorem dX12_isIn_0 : decode cX12_isIn 0 = .ok (.lload_n 0, 1) := chk_nth ocX12_isIn_0 (k := 0) rfl
theorem dX12_isIn_1 : decode cX12_isIn 1 = .ok (.iload_n 2, 1) := chk_nth ocX12_isIn_0 (k := 1) rfl
theorem dX12_isIn_2 : decode cX12_isIn 2 = .ok (.lshr, 1) := chk_nth ocX12_isIn_0 (k := 2) rfl
theorem dX12_isIn_3 : decode cX12_isIn 3 = .ok (.lconst 1, 1) := chk_nth ocX12_isIn_0 (k := 3) rfl
theorem dX12_isIn_4 : decode cX12_isIn 4 = .ok (.land, 1) := chk_nth ocX12_isIn_0 (k := 4) rfl
theorem dX12_isIn_5 : decode cX12_isIn 5 = .ok (.lconst 1, 1) := chk_nth ocX12_isIn_0 (k := 5) rfl
theorem dX12_isIn_6 : decode cX12_isIn 6 = .ok (.lcmp, 1) := chk_nth ocX12_isIn_0 (k := 6) rfl
theorem dX12_isIn_7 : decode cX12_isIn 7 = .ok (.ifCond .ne 7, 3) := chk_nth ocX12_isIn_0 (k := 7) rfl
theorem dX12_isIn_10 : decode cX12_isIn 10 = .ok (.iconst 1, 1) := chk_nth ocX12_isIn_0 (k := 8) rfl
theorem dX12_isIn_11 : decode cX12_isIn 11 = .ok (.goto 4, 3) := chk_nth ocX12_isIn_0 (k := 9) rfl
theorem dX12_isIn_14 : decode cX12_isIn 14 = .ok (.iconst 0, 1) := chk_nth ocX12_isIn_0 (k := 10) rfl
theorem dX12_isIn_15 : decode cX12_isIn 15 = .ok (.ireturn, 1) := chk_nth ocX12_isIn_0 (k := 11) rfl
def tcX12_wordOf_0 : List (Instr × Nat) := [(.iload_n 1, 1)]
theorem ocX12_wordOf_0 : chk (cX12_wordOf.data.toList.drop 0) tcX12_wordOf_0 = true := by decide +kernel
theorem dX12_wordOf_0 : decode cX12_wordOf 0 = .ok (.iload_n 1, 1) := chk_nth ocX12_wordOf_0 (k := 0) rfl
theorem dX12_wordOf_1 : decode cX12_wordOf 1 = .ok (.tableswitch 95 1 14 #[71, 73, 95, 95, 81, 75, 79, 95, 95, 95, 95, 95, 95, 77], 71) := by decide +kernel
def tcX12_wordOf_1 : List (Instr × Nat) := [(.iconst 0, 1), (.ireturn, 1), (.iconst 1, 1), (.ireturn, 1), (.iconst 2, 1), (.ireturn, 1), (.iconst 3, 1), (.ireturn, 1), (.iconst 4, 1), (.ireturn, 1), (.aload_n 0, 1), (.getfield 146, 3), (.iconst 1, 1), (.if_icmp .ne 7, 3), (.iconst 5, 1), (.goto 4, 3), (.iconst (-1), 1), (.ireturn, 1), (.iconst (-1), 1), (.ireturn, 1)]
theorem ocX12_wordOf_1 : chk (cX12_wordOf.data.toList.drop 72) tcX12_wordOf_1 = true := by decide +kernel
theorem dX12_wordOf_72 : decode cX12_wordOf 72 = .ok (.iconst 0, 1) := chk_nth ocX12_wordOf_1 (k := 0) rfl
theorem dX12_wordOf_73 : decode cX12_wordOf 73 = .ok (.ireturn, 1) := chk_nth ocX12_wordOf_1 (k := 1) rfl
theorem dX12_wordOf_74 : decode cX12_wordOf 74 = .ok (.iconst 1, 1) := chk_nth ocX12_wordOf_1 (k := 2) rfl
theorem dX12_wordOf_75 : decode cX12_wordOf 75 = .ok (.ireturn, 1) := chk_nth ocX12_wordOf_1 (k := 3) rfl
theorem dX12_wordOf_76 : decode cX12_wordOf 76 = .ok (.iconst 2, 1) := chk_nth ocX12_wordOf_1 (k := 4) rfl
theorem dX12_wordOf_77 : decode cX12_wordOf 77 = .ok (.ireturn, 1) := chk_nth ocX12_wordOf_1 (k := 5) rfl
theorem dX12_wordOf_78 : decode cX12_wordOf 78 = .ok (.iconst 3, 1) := chk_nth ocX12_wordOf_1 (k := 6) rfl
theorem dX12_wordOf_79 : decode cX12_wordOf 79 = .ok (.ireturn, 1) := chk_nth ocX12_wordOf_1 (k := 7) rfl
theorem dX12_wordOf_80 : decode cX12_wordOf 80 = .ok (.iconst 4, 1) := chk_nth ocX12_wordOf_1 (k := 8) rfl
theorem dX12_wordOf_81 : decode cX12_wordOf 81 = .ok (.ireturn, 1) := chk_nth ocX12_wordOf_1 (k := 9) rfl
theorem dX12_wordOf_82 : decode cX12_wordOf 82 = .ok (.aload_n 0, 1) := chk_nth ocX12_wordOf_1 (k := 10) rfl
theorem dX12_wordOf_83 : decode cX12_wordOf 83 = .ok (.getfield 146, 3) := chk_nth ocX12_wordOf_1 (k := 11) rfl
theorem dX12_wordOf_86 : decode cX12_wordOf 86 = .ok (.iconst 1, 1) := chk_nth ocX12_wordOf_1 (k := 12) rfl
theorem dX12_wordOf_87 : decode cX12_wordOf 87 = .ok (.if_icmp .ne 7, 3) := chk_nth ocX12_wordOf_1 (k := 13) rfl
theorem dX12_wordOf_90 : decode cX12_wordOf 90 = .ok (.iconst 5, 1) := chk_nth ocX12_wordOf_1 (k := 14) rfl
theorem dX12_wordOf_91 : decode cX12_wordOf 91 = .ok (.goto 4, 3) := chk_nth ocX12_wordOf_1 (k := 15) rfl
theorem dX12_wordOf_94 : decode cX12_wordOf 94 = .ok (.iconst (-1), 1) := chk_nth ocX12_wordOf_1 (k := 16) rfl
theorem dX12_wordOf_95 : decode cX12_wordOf 95 = .ok (.ireturn, 1) := chk_nth ocX12_wordOf_1 (k := 17) rfl
theorem dX12_wordOf_96 : decode cX12_wordOf 96 = .ok (.iconst (-1), 1) := chk_nth ocX12_wordOf_1 (k := 18) rfl
theorem dX12_wordOf_97 : decode cX12_wordOf 97 = .ok (.ireturn, 1) := chk_nth ocX12_wordOf_1 (k := 19) rfl
def tcX12_codes_0 : List (Instr × Nat) := [(.aload_n 0, 1), (.getfield 126, 3), (.ifCond .eq 4, 3), (.return_, 1), (.aload_n 0, 1), (.getfield 24, 3), (.sipush 201, 3), (.aload_n 0, 1), (.getfield 24, 3), (.sipush 200, 3), (.iaload, 1), (.iadd, 1), (.iload_n 1, 1), (.iastore, 1), (.aload_n 0, 1), (.getfield 24, 3), (.sipush 200, 3), (.dup2, 1), (.iaload, 1), (.iconst 1, 1), (.iadd, 1), (.iastore, 1), (.return_, 1)]
theorem ocX12_codes_0 : chk (cX12_codes.data.toList.drop 0) tcX12_codes_0 = true := by decide +kernel
theorem dX12_codes_0 : decode cX12_codes 0 = .ok (.aload_n 0, 1) := chk_nth ocX12_codes_0 (k := 0) rfl
theorem dX12_codes_1 : decode cX12_codes 1 = .ok (.getfield 126, 3) := chk_nth ocX12_codes_0 (k := 1) rfl
theorem dX12_codes_4 : decode cX12_codes 4 = .ok (.ifCond .eq 4, 3) := chk_nth ocX12_codes_0 (k := 2) rfl
theorem dX12_codes_7 : decode cX12_codes 7 = .ok (.return_, 1) := chk_nth ocX12_codes_0 (k := 3) rfl
theorem dX12_codes_8 : decode cX12_codes 8 = .ok (.aload_n 0, 1) := chk_nth ocX12_codes_0 (k := 4) rfl
theorem dX12_codes_9 : decode cX12_codes 9 = .ok (.getfield 24, 3) := chk_nth ocX12_codes_0 (k := 5) rfl
theorem dX12_codes_12 : decode cX12_codes 12 = .ok (.sipush 201, 3) := chk_nth ocX12_codes_0 (k := 6) rfl
theorem dX12_codes_15 : decode cX12_codes 15 = .ok (.aload_n 0, 1) := chk_nth ocX12_codes_0 (k := 7) rfl
theorem dX12_codes_16 : decode cX12_codes 16 = .ok (.getfield 24, 3) := chk_nth ocX12_codes_0 (k := 8) rfl
theorem dX12_codes_19 : decode cX12_codes 19 = .ok (.sipush 200, 3) := chk_nth ocX12_codes_0 (k := 9) rfl
theorem dX12_codes_22 : decode cX12_codes 22 = .ok (.iaload, 1) := chk_nth ocX12_codes_0 (k := 10) rfl
theorem dX12_codes_23 : decode cX12_codes 23 = .ok (.iadd, 1) := chk_nth ocX12_codes_0 (k := 11) rfl
theorem dX12_codes_24 : decode cX12_codes 24 = .ok (.iload_n 1, 1) := chk_nth ocX12_codes_0 (k := 12) rfl
theorem dX12_codes_25 : decode cX12_codes 25 = .ok (.iastore, 1) := chk_nth ocX12_codes_0 (k := 13) rfl
theorem dX12_codes_26 : decode cX12_codes 26 = .ok (.aload_n 0, 1) := chk_nth ocX12_codes_0 (k := 14) rfl
theorem dX12_codes_27 : decode cX12_codes 27 = .ok (.getfield 24, 3) := chk_nth ocX12_codes_0 (k := 15) rfl
theorem dX12_codes_30 : decode cX12_codes 30 = .ok (.sipush 200, 3) := chk_nth ocX12_codes_0 (k := 16) rfl
theorem dX12_codes_33 : decode cX12_codes 33 = .ok (.dup2, 1) := chk_nth ocX12_codes_0 (k := 17) rfl
theorem dX12_codes_34 : decode cX12_codes 34 = .ok (.iaload, 1) := chk_nth ocX12_codes_0 (k := 18) rfl
theorem dX12_codes_35 : decode cX12_codes 35 = .ok (.iconst 1, 1) := chk_nth ocX12_codes_0 (k := 19) rfl
theorem dX12_codes_36 : decode cX12_codes 36 = .ok (.iadd, 1) := chk_nth ocX12_codes_0 (k := 20) rfl
theorem dX12_codes_37 : decode cX12_codes 37 = .ok (.iastore, 1) := chk_nth ocX12_codes_0 (k := 21) rfl
theorem dX12_codes_38 : decode cX12_codes 38 = .ok (.return_, 1) := chk_nth ocX12_codes_0 (k := 22) rfl
def tcX12_goesIn_0 : List (Instr × Nat) := [(.iload_n 1, 1), (.bipush 6, 2), (.if_icmp .ne 8, 3), (.aload_n 0, 1), (.iconst 4, 1), (.invokevirtual 138, 3), (.aload_n 0, 1), (.getfield 126, 3), (.ifCond .ne 7, 3), (.aload_n 0, 1), (.invokevirtual 135, 3), (.aload_n 0, 1), (.getfield 126, 3), (.ifCond .ne 7, 3), (.iconst 1, 1), (.goto 4, 3), (.iconst 0, 1), (.ireturn, 1)]
theorem ocX12_goesIn_0 : chk (cX12_goesIn.data.toList.drop 0) tcX12_goesIn_0 = true := by decide +kernel
theorem dX12_goesIn_0 : decode cX12_goesIn 0 = .ok (.iload_n 1, 1) := chk_nth ocX12_goesIn_0 (k := 0) rfl
theorem dX12_goesIn_1 : decode cX12_goesIn 1 = .ok (.bipush 6, 2) := chk_nth ocX12_goesIn_0 (k := 1) rfl
theorem dX12_goesIn_3 : decode cX12_goesIn 3 = .ok (.if_icmp .ne 8, 3) := chk_nth ocX12_goesIn_0 (k := 2) rfl
theorem dX12_goesIn_6 : decode cX12_goesIn 6 = .ok (.aload_n 0, 1) := chk_nth ocX12_goesIn_0 (k := 3) rfl
theorem dX12_goesIn_7 : decode cX12_goesIn 7 = .ok (.iconst 4, 1) := chk_nth ocX12_goesIn_0 (k := 4) rfl
theorem dX12_goesIn_8 : decode cX12_goesIn 8 = .ok (.invokevirtual 138, 3) := chk_nth ocX12_goesIn_0 (k := 5) rfl
theorem dX12_goesIn_11 : decode cX12_goesIn 11 = .ok (.aload_n 0, 1) := chk_nth ocX12_goesIn_0 (k := 6) rfl
theorem dX12_goesIn_12 : decode cX12_goesIn 12 = .ok (.getfield 126, 3) := chk_nth ocX12_goesIn_0 (k := 7) rfl
theorem dX12_goesIn_15 : decode cX12_goesIn 15 = .ok (.ifCond .ne 7, 3) := chk_nth ocX12_goesIn_0 (k := 8) rfl
theorem dX12_goesIn_18 : decode cX12_goesIn 18 = .ok (.aload_n 0, 1) := chk_nth ocX12_goesIn_0 (k := 9) rfl
theorem dX12_goesIn_19 : decode cX12_goesIn 19 = .ok (.invokevirtual 135, 3) := chk_nth ocX12_goesIn_0 (k := 10) rfl
theorem dX12_goesIn_22 : decode cX12_goesIn 22 = .ok (.aload_n 0, 1) := chk_nth ocX12_goesIn_0 (k := 11) rfl
theorem dX12_goesIn_23 : decode cX12_goesIn 23 = .ok (.getfield 126, 3) := chk_nth ocX12_goesIn_0 (k := 12) rfl
theorem dX12_goesIn_26 : decode cX12_goesIn 26 = .ok (.ifCond .ne 7, 3) := chk_nth ocX12_goesIn_0 (k := 13) rfl
theorem dX12_goesIn_29 : decode cX12_goesIn 29 = .ok (.iconst 1, 1) := chk_nth ocX12_goesIn_0 (k := 14) rfl
theorem dX12_goesIn_30 : decode cX12_goesIn 30 = .ok (.goto 4, 3) := chk_nth ocX12_goesIn_0 (k := 15) rfl
theorem dX12_goesIn_33 : decode cX12_goesIn 33 = .ok (.iconst 0, 1) := chk_nth ocX12_goesIn_0 (k := 16) rfl
theorem dX12_goesIn_34 : decode cX12_goesIn 34 = .ok (.ireturn, 1) := chk_nth ocX12_goesIn_0 (k := 17) rfl
def tcX12_readAtom_0 : List (Instr × Nat) := [(.aload_n 0, 1), (.bipush 23, 2), (.invokevirtual 132, 3), (.ifCond .eq 18, 3), (.aload_n 0, 1), (.aload_n 0, 1), (.getfield 121, 3), (.invokevirtual 149, 3), (.aload_n 0, 1), (.invokevirtual 135, 3), (.goto 109, 3), (.aload_n 0, 1), (.getfield 126, 3), (.ifCond .ne 38, 3), (.aload_n 0, 1), (.aload_n 0, 1), (.getfield 108, 3), (.invokevirtual 152, 3), (.iconst (-1), 1), (.if_icmp .eq 26, 3), (.aload_n 0, 1), (.sipush 1000, 3), (.aload_n 0, 1), (.aload_n 0, 1)]
theorem ocX12_readAtom_0 : chk (cX12_readAtom.data.toList.drop 0) tcX12_readAtom_0 = true := by decide +kernel
theorem dX12_readAtom_0 : decode cX12_readAtom 0 = .ok (.aload_n 0, 1) := chk_nth ocX12_readAtom_0 (k := 0) rfl
theorem dX12_readAtom_1 : decode cX12_readAtom 1 = .ok (.bipush 23, 2) := chk_nth ocX12_readAtom_0 (k := 1) rfl
theorem dX12_readAtom_3 : decode cX12_readAtom 3 = .ok (.invokevirtual 132, 3) := chk_nth ocX12_readAtom_0 (k := 2) rfl
theorem dX12_readAtom_6 : decode cX12_readAtom 6 = .ok (.ifCond .eq 18, 3) := chk_nth ocX12_readAtom_0 (k := 3) rfl
theorem dX12_readAtom_9 : decode cX12_readAtom 9 = .ok (.aload_n 0, 1) := chk_nth ocX12_readAtom_0 (k := 4) rfl
theorem dX12_readAtom_10 : decode cX12_readAtom 10 = .ok (.aload_n 0, 1) := chk_nth ocX12_readAtom_0 (k := 5) rfl
theorem dX12_readAtom_11 : decode cX12_readAtom 11 = .ok (.getfield 121, 3) := chk_nth ocX12_readAtom_0 (k := 6) rfl
theorem dX12_readAtom_14 : decode cX12_readAtom 14 = .ok (.invokevirtual 149, 3) := chk_nth ocX12_readAtom_0 (k := 7) rfl
theorem dX12_readAtom_17 : decode cX12_readAtom 17 = .ok (.aload_n 0, 1) := chk_nth ocX12_readAtom_0 (k := 8) rfl
theorem dX12_readAtom_18 : decode cX12_readAtom 18 = .ok (.invokevirtual 135, 3) := chk_nth ocX12_readAtom_0 (k := 9) rfl
theorem dX12_readAtom_21 : decode cX12_readAtom 21 = .ok (.goto 109, 3) := chk_nth ocX12_readAtom_0 (k := 10) rfl
theorem dX12_readAtom_24 : decode cX12_readAtom 24 = .ok (.aload_n 0, 1) := chk_nth ocX12_readAtom_0 (k := 11) rfl
theorem dX12_readAtom_25 : decode cX12_readAtom 25 = .ok (.getfield 126, 3) := chk_nth ocX12_readAtom_0 (k := 12) rfl
theorem dX12_readAtom_28 : decode cX12_readAtom 28 = .ok (.ifCond .ne 38, 3) := chk_nth ocX12_readAtom_0 (k := 13) rfl
theorem dX12_readAtom_31 : decode cX12_readAtom 31 = .ok (.aload_n 0, 1) := chk_nth ocX12_readAtom_0 (k := 14) rfl
theorem dX12_readAtom_32 : decode cX12_readAtom 32 = .ok (.aload_n 0, 1) := chk_nth ocX12_readAtom_0 (k := 15) rfl
theorem dX12_readAtom_33 : decode cX12_readAtom 33 = .ok (.getfield 108, 3) := chk_nth ocX12_readAtom_0 (k := 16) rfl
theorem dX12_readAtom_36 : decode cX12_readAtom 36 = .ok (.invokevirtual 152, 3) := chk_nth ocX12_readAtom_0 (k := 17) rfl
theorem dX12_readAtom_39 : decode cX12_readAtom 39 = .ok (.iconst (-1), 1) := chk_nth ocX12_readAtom_0 (k := 18) rfl
theorem dX12_readAtom_40 : decode cX12_readAtom 40 = .ok (.if_icmp .eq 26, 3) := chk_nth ocX12_readAtom_0 (k := 19) rfl
theorem dX12_readAtom_43 : decode cX12_readAtom 43 = .ok (.aload_n 0, 1) := chk_nth ocX12_readAtom_0 (k := 20) rfl
theorem dX12_readAtom_44 : decode cX12_readAtom 44 = .ok (.sipush 1000, 3) := chk_nth ocX12_readAtom_0 (k := 21) rfl
theorem dX12_readAtom_47 : decode cX12_readAtom 47 = .ok (.aload_n 0, 1) := chk_nth ocX12_readAtom_0 (k := 22) rfl
theorem dX12_readAtom_48 : decode cX12_readAtom 48 = .ok (.aload_n 0, 1) := chk_nth ocX12_readAtom_0 (k := 23) rfl
def tcX12_readAtom_1 : List (Instr × Nat) := [(.getfield 108, 3), (.invokevirtual 152, 3), (.iadd, 1), (.invokevirtual 149, 3), (.aload_n 0, 1), (.invokevirtual 135, 3), (.goto 67, 3), (.aload_n 0, 1), (.bipush 35, 2), (.invokevirtual 132, 3), (.ifCond .eq 36, 3), (.aload_n 0, 1), (.iload_n 1, 1), (.invokevirtual 155, 3), (.ifCond .ne 4, 3), (.return_, 1), (.aload_n 0, 1), (.iload_n 1, 1), (.iconst 1, 1), (.iadd, 1), (.invokevirtual 158, 3), (.aload_n 0, 1), (.bipush 36, 2), (.invokevirtual 161, 3)]
theorem ocX12_readAtom_1 : chk (cX12_readAtom.data.toList.drop 49) tcX12_readAtom_1 = true := by decide +kernel
theorem dX12_readAtom_49 : decode cX12_readAtom 49 = .ok (.getfield 108, 3) := chk_nth ocX12_readAtom_1 (k := 0) rfl
theorem dX12_readAtom_52 : decode cX12_readAtom 52 = .ok (.invokevirtual 152, 3) := chk_nth ocX12_readAtom_1 (k := 1) rfl
theorem dX12_readAtom_55 : decode cX12_readAtom 55 = .ok (.iadd, 1) := chk_nth ocX12_readAtom_1 (k := 2) rfl
theorem dX12_readAtom_56 : decode cX12_readAtom 56 = .ok (.invokevirtual 149, 3) := chk_nth ocX12_readAtom_1 (k := 3) rfl
theorem dX12_readAtom_59 : decode cX12_readAtom 59 = .ok (.aload_n 0, 1) := chk_nth ocX12_readAtom_1 (k := 4) rfl
theorem dX12_readAtom_60 : decode cX12_readAtom 60 = .ok (.invokevirtual 135, 3) := chk_nth ocX12_readAtom_1 (k := 5) rfl
theorem dX12_readAtom_63 : decode cX12_readAtom 63 = .ok (.goto 67, 3) := chk_nth ocX12_readAtom_1 (k := 6) rfl
theorem dX12_readAtom_66 : decode cX12_readAtom 66 = .ok (.aload_n 0, 1) := chk_nth ocX12_readAtom_1 (k := 7) rfl
theorem dX12_readAtom_67 : decode cX12_readAtom 67 = .ok (.bipush 35, 2) := chk_nth ocX12_readAtom_1 (k := 8) rfl
theorem dX12_readAtom_69 : decode cX12_readAtom 69 = .ok (.invokevirtual 132, 3) := chk_nth ocX12_readAtom_1 (k := 9) rfl
theorem dX12_readAtom_72 : decode cX12_readAtom 72 = .ok (.ifCond .eq 36, 3) := chk_nth ocX12_readAtom_1 (k := 10) rfl
theorem dX12_readAtom_75 : decode cX12_readAtom 75 = .ok (.aload_n 0, 1) := chk_nth ocX12_readAtom_1 (k := 11) rfl
theorem dX12_readAtom_76 : decode cX12_readAtom 76 = .ok (.iload_n 1, 1) := chk_nth ocX12_readAtom_1 (k := 12) rfl
theorem dX12_readAtom_77 : decode cX12_readAtom 77 = .ok (.invokevirtual 155, 3) := chk_nth ocX12_readAtom_1 (k := 13) rfl
theorem dX12_readAtom_80 : decode cX12_readAtom 80 = .ok (.ifCond .ne 4, 3) := chk_nth ocX12_readAtom_1 (k := 14) rfl
theorem dX12_readAtom_83 : decode cX12_readAtom 83 = .ok (.return_, 1) := chk_nth ocX12_readAtom_1 (k := 15) rfl
theorem dX12_readAtom_84 : decode cX12_readAtom 84 = .ok (.aload_n 0, 1) := chk_nth ocX12_readAtom_1 (k := 16) rfl
theorem dX12_readAtom_85 : decode cX12_readAtom 85 = .ok (.iload_n 1, 1) := chk_nth ocX12_readAtom_1 (k := 17) rfl
theorem dX12_readAtom_86 : decode cX12_readAtom 86 = .ok (.iconst 1, 1) := chk_nth ocX12_readAtom_1 (k := 18) rfl
theorem dX12_readAtom_87 : decode cX12_readAtom 87 = .ok (.iadd, 1) := chk_nth ocX12_readAtom_1 (k := 19) rfl
theorem dX12_readAtom_88 : decode cX12_readAtom 88 = .ok (.invokevirtual 158, 3) := chk_nth ocX12_readAtom_1 (k := 20) rfl
theorem dX12_readAtom_91 : decode cX12_readAtom 91 = .ok (.aload_n 0, 1) := chk_nth ocX12_readAtom_1 (k := 21) rfl
theorem dX12_readAtom_92 : decode cX12_readAtom 92 = .ok (.bipush 36, 2) := chk_nth ocX12_readAtom_1 (k := 22) rfl
theorem dX12_readAtom_94 : decode cX12_readAtom 94 = .ok (.invokevirtual 161, 3) := chk_nth ocX12_readAtom_1 (k := 23) rfl
def tcX12_readAtom_2 : List (Instr × Nat) := [(.ifCond .ne 33, 3), (.aload_n 0, 1), (.iconst 2, 1), (.invokevirtual 138, 3), (.goto 25, 3), (.aload_n 0, 1), (.bipush 10, 2), (.invokevirtual 132, 3), (.ifCond .eq 11, 3), (.aload_n 0, 1), (.iload_n 1, 1), (.invokevirtual 164, 3), (.goto 8, 3), (.aload_n 0, 1), (.iconst 2, 1), (.invokevirtual 138, 3), (.return_, 1)]
theorem ocX12_readAtom_2 : chk (cX12_readAtom.data.toList.drop 97) tcX12_readAtom_2 = true := by decide +kernel
theorem dX12_readAtom_97 : decode cX12_readAtom 97 = .ok (.ifCond .ne 33, 3) := chk_nth ocX12_readAtom_2 (k := 0) rfl
theorem dX12_readAtom_100 : decode cX12_readAtom 100 = .ok (.aload_n 0, 1) := chk_nth ocX12_readAtom_2 (k := 1) rfl
theorem dX12_readAtom_101 : decode cX12_readAtom 101 = .ok (.iconst 2, 1) := chk_nth ocX12_readAtom_2 (k := 2) rfl
theorem dX12_readAtom_102 : decode cX12_readAtom 102 = .ok (.invokevirtual 138, 3) := chk_nth ocX12_readAtom_2 (k := 3) rfl
theorem dX12_readAtom_105 : decode cX12_readAtom 105 = .ok (.goto 25, 3) := chk_nth ocX12_readAtom_2 (k := 4) rfl
theorem dX12_readAtom_108 : decode cX12_readAtom 108 = .ok (.aload_n 0, 1) := chk_nth ocX12_readAtom_2 (k := 5) rfl
theorem dX12_readAtom_109 : decode cX12_readAtom 109 = .ok (.bipush 10, 2) := chk_nth ocX12_readAtom_2 (k := 6) rfl
theorem dX12_readAtom_111 : decode cX12_readAtom 111 = .ok (.invokevirtual 132, 3) := chk_nth ocX12_readAtom_2 (k := 7) rfl
theorem dX12_readAtom_114 : decode cX12_readAtom 114 = .ok (.ifCond .eq 11, 3) := chk_nth ocX12_readAtom_2 (k := 8) rfl
theorem dX12_readAtom_117 : decode cX12_readAtom 117 = .ok (.aload_n 0, 1) := chk_nth ocX12_readAtom_2 (k := 9) rfl
theorem dX12_readAtom_118 : decode cX12_readAtom 118 = .ok (.iload_n 1, 1) := chk_nth ocX12_readAtom_2 (k := 10) rfl
theorem dX12_readAtom_119 : decode cX12_readAtom 119 = .ok (.invokevirtual 164, 3) := chk_nth ocX12_readAtom_2 (k := 11) rfl
theorem dX12_readAtom_122 : decode cX12_readAtom 122 = .ok (.goto 8, 3) := chk_nth ocX12_readAtom_2 (k := 12) rfl
theorem dX12_readAtom_125 : decode cX12_readAtom 125 = .ok (.aload_n 0, 1) := chk_nth ocX12_readAtom_2 (k := 13) rfl
theorem dX12_readAtom_126 : decode cX12_readAtom 126 = .ok (.iconst 2, 1) := chk_nth ocX12_readAtom_2 (k := 14) rfl
theorem dX12_readAtom_127 : decode cX12_readAtom 127 = .ok (.invokevirtual 138, 3) := chk_nth ocX12_readAtom_2 (k := 15) rfl
theorem dX12_readAtom_130 : decode cX12_readAtom 130 = .ok (.return_, 1) := chk_nth ocX12_readAtom_2 (k := 16) rfl
def tcX12_readIf_0 : List (Instr × Nat) := [(.aload_n 0, 1), (.iload_n 1, 1), (.invokevirtual 155, 3), (.ifCond .ne 4, 3), (.return_, 1), (.aload_n 0, 1), (.iload_n 1, 1), (.iconst 1, 1), (.iadd, 1), (.invokevirtual 167, 3), (.aload_n 0, 1), (.bipush 11, 2), (.invokevirtual 161, 3), (.ifCond .ne 8, 3), (.aload_n 0, 1), (.iconst 2, 1), (.invokevirtual 138, 3), (.aload_n 0, 1), (.iload_n 1, 1), (.iconst 1, 1), (.iadd, 1), (.invokevirtual 158, 3), (.aload_n 0, 1), (.bipush 12, 2)]
theorem ocX12_readIf_0 : chk (cX12_readIf.data.toList.drop 0) tcX12_readIf_0 = true := by decide +kernel
theorem dX12_readIf_0 : decode cX12_readIf 0 = .ok (.aload_n 0, 1) := chk_nth ocX12_readIf_0 (k := 0) rfl
theorem dX12_readIf_1 : decode cX12_readIf 1 = .ok (.iload_n 1, 1) := chk_nth ocX12_readIf_0 (k := 1) rfl
theorem dX12_readIf_2 : decode cX12_readIf 2 = .ok (.invokevirtual 155, 3) := chk_nth ocX12_readIf_0 (k := 2) rfl
theorem dX12_readIf_5 : decode cX12_readIf 5 = .ok (.ifCond .ne 4, 3) := chk_nth ocX12_readIf_0 (k := 3) rfl
theorem dX12_readIf_8 : decode cX12_readIf 8 = .ok (.return_, 1) := chk_nth ocX12_readIf_0 (k := 4) rfl
theorem dX12_readIf_9 : decode cX12_readIf 9 = .ok (.aload_n 0, 1) := chk_nth ocX12_readIf_0 (k := 5) rfl
theorem dX12_readIf_10 : decode cX12_readIf 10 = .ok (.iload_n 1, 1) := chk_nth ocX12_readIf_0 (k := 6) rfl
theorem dX12_readIf_11 : decode cX12_readIf 11 = .ok (.iconst 1, 1) := chk_nth ocX12_readIf_0 (k := 7) rfl
theorem dX12_readIf_12 : decode cX12_readIf 12 = .ok (.iadd, 1) := chk_nth ocX12_readIf_0 (k := 8) rfl
theorem dX12_readIf_13 : decode cX12_readIf 13 = .ok (.invokevirtual 167, 3) := chk_nth ocX12_readIf_0 (k := 9) rfl
theorem dX12_readIf_16 : decode cX12_readIf 16 = .ok (.aload_n 0, 1) := chk_nth ocX12_readIf_0 (k := 10) rfl
theorem dX12_readIf_17 : decode cX12_readIf 17 = .ok (.bipush 11, 2) := chk_nth ocX12_readIf_0 (k := 11) rfl
theorem dX12_readIf_19 : decode cX12_readIf 19 = .ok (.invokevirtual 161, 3) := chk_nth ocX12_readIf_0 (k := 12) rfl
theorem dX12_readIf_22 : decode cX12_readIf 22 = .ok (.ifCond .ne 8, 3) := chk_nth ocX12_readIf_0 (k := 13) rfl
theorem dX12_readIf_25 : decode cX12_readIf 25 = .ok (.aload_n 0, 1) := chk_nth ocX12_readIf_0 (k := 14) rfl
theorem dX12_readIf_26 : decode cX12_readIf 26 = .ok (.iconst 2, 1) := chk_nth ocX12_readIf_0 (k := 15) rfl
theorem dX12_readIf_27 : decode cX12_readIf 27 = .ok (.invokevirtual 138, 3) := chk_nth ocX12_readIf_0 (k := 16) rfl
theorem dX12_readIf_30 : decode cX12_readIf 30 = .ok (.aload_n 0, 1) := chk_nth ocX12_readIf_0 (k := 17) rfl
theorem dX12_readIf_31 : decode cX12_readIf 31 = .ok (.iload_n 1, 1) := chk_nth ocX12_readIf_0 (k := 18) rfl
theorem dX12_readIf_32 : decode cX12_readIf 32 = .ok (.iconst 1, 1) := chk_nth ocX12_readIf_0 (k := 19) rfl
theorem dX12_readIf_33 : decode cX12_readIf 33 = .ok (.iadd, 1) := chk_nth ocX12_readIf_0 (k := 20) rfl
theorem dX12_readIf_34 : decode cX12_readIf 34 = .ok (.invokevirtual 158, 3) := chk_nth ocX12_readIf_0 (k := 21) rfl
theorem dX12_readIf_37 : decode cX12_readIf 37 = .ok (.aload_n 0, 1) := chk_nth ocX12_readIf_0 (k := 22) rfl
theorem dX12_readIf_38 : decode cX12_readIf 38 = .ok (.bipush 12, 2) := chk_nth ocX12_readIf_0 (k := 23) rfl
def tcX12_readIf_1 : List (Instr × Nat) := [(.invokevirtual 161, 3), (.ifCond .ne 8, 3), (.aload_n 0, 1), (.iconst 2, 1), (.invokevirtual 138, 3), (.aload_n 0, 1), (.iload_n 1, 1), (.iconst 1, 1), (.iadd, 1), (.invokevirtual 158, 3), (.aload_n 0, 1), (.bipush 13, 2), (.invokevirtual 161, 3), (.ifCond .ne 8, 3), (.aload_n 0, 1), (.iconst 2, 1), (.invokevirtual 138, 3), (.aload_n 0, 1), (.sipush 3009, 3), (.invokevirtual 149, 3), (.return_, 1)]
theorem ocX12_readIf_1 : chk (cX12_readIf.data.toList.drop 40) tcX12_readIf_1 = true := by decide +kernel
theorem dX12_readIf_40 : decode cX12_readIf 40 = .ok (.invokevirtual 161, 3) := chk_nth ocX12_readIf_1 (k := 0) rfl
theorem dX12_readIf_43 : decode cX12_readIf 43 = .ok (.ifCond .ne 8, 3) := chk_nth ocX12_readIf_1 (k := 1) rfl
theorem dX12_readIf_46 : decode cX12_readIf 46 = .ok (.aload_n 0, 1) := chk_nth ocX12_readIf_1 (k := 2) rfl
theorem dX12_readIf_47 : decode cX12_readIf 47 = .ok (.iconst 2, 1) := chk_nth ocX12_readIf_1 (k := 3) rfl
theorem dX12_readIf_48 : decode cX12_readIf 48 = .ok (.invokevirtual 138, 3) := chk_nth ocX12_readIf_1 (k := 4) rfl
theorem dX12_readIf_51 : decode cX12_readIf 51 = .ok (.aload_n 0, 1) := chk_nth ocX12_readIf_1 (k := 5) rfl
theorem dX12_readIf_52 : decode cX12_readIf 52 = .ok (.iload_n 1, 1) := chk_nth ocX12_readIf_1 (k := 6) rfl
theorem dX12_readIf_53 : decode cX12_readIf 53 = .ok (.iconst 1, 1) := chk_nth ocX12_readIf_1 (k := 7) rfl
theorem dX12_readIf_54 : decode cX12_readIf 54 = .ok (.iadd, 1) := chk_nth ocX12_readIf_1 (k := 8) rfl
theorem dX12_readIf_55 : decode cX12_readIf 55 = .ok (.invokevirtual 158, 3) := chk_nth ocX12_readIf_1 (k := 9) rfl
theorem dX12_readIf_58 : decode cX12_readIf 58 = .ok (.aload_n 0, 1) := chk_nth ocX12_readIf_1 (k := 10) rfl
theorem dX12_readIf_59 : decode cX12_readIf 59 = .ok (.bipush 13, 2) := chk_nth ocX12_readIf_1 (k := 11) rfl
theorem dX12_readIf_61 : decode cX12_readIf 61 = .ok (.invokevirtual 161, 3) := chk_nth ocX12_readIf_1 (k := 12) rfl
theorem dX12_readIf_64 : decode cX12_readIf 64 = .ok (.ifCond .ne 8, 3) := chk_nth ocX12_readIf_1 (k := 13) rfl
theorem dX12_readIf_67 : decode cX12_readIf 67 = .ok (.aload_n 0, 1) := chk_nth ocX12_readIf_1 (k := 14) rfl
theorem dX12_readIf_68 : decode cX12_readIf 68 = .ok (.iconst 2, 1) := chk_nth ocX12_readIf_1 (k := 15) rfl
theorem dX12_readIf_69 : decode cX12_readIf 69 = .ok (.invokevirtual 138, 3) := chk_nth ocX12_readIf_1 (k := 16) rfl
theorem dX12_readIf_72 : decode cX12_readIf 72 = .ok (.aload_n 0, 1) := chk_nth ocX12_readIf_1 (k := 17) rfl
theorem dX12_readIf_73 : decode cX12_readIf 73 = .ok (.sipush 3009, 3) := chk_nth ocX12_readIf_1 (k := 18) rfl
theorem dX12_readIf_76 : decode cX12_readIf 76 = .ok (.invokevirtual 149, 3) := chk_nth ocX12_readIf_1 (k := 19) rfl
theorem dX12_readIf_79 : decode cX12_readIf 79 = .ok (.return_, 1) := chk_nth ocX12_readIf_1 (k := 20) rfl
def tcX12_readTerm_0 : List (Instr × Nat) := [(.aload_n 0, 1), (.iload_n 1, 1), (.invokevirtual 170, 3), (.aload_n 0, 1), (.bipush 34, 2), (.invokevirtual 161, 3), (.ifCond .eq 18, 3), (.aload_n 0, 1), (.iload_n 1, 1), (.invokevirtual 170, 3), (.aload_n 0, 1), (.sipush 3002, 3), (.invokevirtual 149, 3), (.goto (-21), 3), (.return_, 1)]
theorem ocX12_readTerm_0 : chk (cX12_readTerm.data.toList.drop 0) tcX12_readTerm_0 = true := by decide +kernel
theorem dX12_readTerm_0 : decode cX12_readTerm 0 = .ok (.aload_n 0, 1) := chk_nth ocX12_readTerm_0 (k := 0) rfl
theorem dX12_readTerm_1 : decode cX12_readTerm 1 = .ok (.iload_n 1, 1) := chk_nth ocX12_readTerm_0 (k := 1) rfl
theorem dX12_readTerm_2 : decode cX12_readTerm 2 = .ok (.invokevirtual 170, 3) := chk_nth ocX12_readTerm_0 (k := 2) rfl
theorem dX12_readTerm_5 : decode cX12_readTerm 5 = .ok (.aload_n 0, 1) := chk_nth ocX12_readTerm_0 (k := 3) rfl
theorem dX12_readTerm_6 : decode cX12_readTerm 6 = .ok (.bipush 34, 2) := chk_nth ocX12_readTerm_0 (k := 4) rfl
theorem dX12_readTerm_8 : decode cX12_readTerm 8 = .ok (.invokevirtual 161, 3) := chk_nth ocX12_readTerm_0 (k := 5) rfl
theorem dX12_readTerm_11 : decode cX12_readTerm 11 = .ok (.ifCond .eq 18, 3) := chk_nth ocX12_readTerm_0 (k := 6) rfl
theorem dX12_readTerm_14 : decode cX12_readTerm 14 = .ok (.aload_n 0, 1) := chk_nth ocX12_readTerm_0 (k := 7) rfl
theorem dX12_readTerm_15 : decode cX12_readTerm 15 = .ok (.iload_n 1, 1) := chk_nth ocX12_readTerm_0 (k := 8) rfl
theorem dX12_readTerm_16 : decode cX12_readTerm 16 = .ok (.invokevirtual 170, 3) := chk_nth ocX12_readTerm_0 (k := 9) rfl
theorem dX12_readTerm_19 : decode cX12_readTerm 19 = .ok (.aload_n 0, 1) := chk_nth ocX12_readTerm_0 (k := 10) rfl
theorem dX12_readTerm_20 : decode cX12_readTerm 20 = .ok (.sipush 3002, 3) := chk_nth ocX12_readTerm_0 (k := 11) rfl
theorem dX12_readTerm_23 : decode cX12_readTerm 23 = .ok (.invokevirtual 149, 3) := chk_nth ocX12_readTerm_0 (k := 12) rfl
theorem dX12_readTerm_26 : decode cX12_readTerm 26 = .ok (.goto (-21), 3) := chk_nth ocX12_readTerm_0 (k := 13) rfl
theorem dX12_readTerm_29 : decode cX12_readTerm 29 = .ok (.return_, 1) := chk_nth ocX12_readTerm_0 (k := 14) rfl
def tcX12_readSum_0 : List (Instr × Nat) := [(.aload_n 0, 1), (.iload_n 1, 1), (.invokevirtual 173, 3), (.aload_n 0, 1), (.bipush 32, 2), (.invokevirtual 132, 3), (.ifCond .ne 12, 3), (.aload_n 0, 1), (.bipush 33, 2), (.invokevirtual 132, 3), (.ifCond .eq 39, 3), (.aload_n 0, 1), (.getfield 108, 3), (.bipush 32, 2), (.if_icmp .ne 9, 3), (.sipush 3000, 3), (.goto 6, 3), (.sipush 3001, 3), (.istore_n 2, 1), (.aload_n 0, 1), (.invokevirtual 135, 3), (.aload_n 0, 1), (.iload_n 1, 1), (.invokevirtual 173, 3)]
theorem ocX12_readSum_0 : chk (cX12_readSum.data.toList.drop 0) tcX12_readSum_0 = true := by decide +kernel
theorem dX12_readSum_0 : decode cX12_readSum 0 = .ok (.aload_n 0, 1) := chk_nth ocX12_readSum_0 (k := 0) rfl
theorem dX12_readSum_1 : decode cX12_readSum 1 = .ok (.iload_n 1, 1) := chk_nth ocX12_readSum_0 (k := 1) rfl
theorem dX12_readSum_2 : decode cX12_readSum 2 = .ok (.invokevirtual 173, 3) := chk_nth ocX12_readSum_0 (k := 2) rfl
theorem dX12_readSum_5 : decode cX12_readSum 5 = .ok (.aload_n 0, 1) := chk_nth ocX12_readSum_0 (k := 3) rfl
theorem dX12_readSum_6 : decode cX12_readSum 6 = .ok (.bipush 32, 2) := chk_nth ocX12_readSum_0 (k := 4) rfl
theorem dX12_readSum_8 : decode cX12_readSum 8 = .ok (.invokevirtual 132, 3) := chk_nth ocX12_readSum_0 (k := 5) rfl
theorem dX12_readSum_11 : decode cX12_readSum 11 = .ok (.ifCond .ne 12, 3) := chk_nth ocX12_readSum_0 (k := 6) rfl
theorem dX12_readSum_14 : decode cX12_readSum 14 = .ok (.aload_n 0, 1) := chk_nth ocX12_readSum_0 (k := 7) rfl
theorem dX12_readSum_15 : decode cX12_readSum 15 = .ok (.bipush 33, 2) := chk_nth ocX12_readSum_0 (k := 8) rfl
theorem dX12_readSum_17 : decode cX12_readSum 17 = .ok (.invokevirtual 132, 3) := chk_nth ocX12_readSum_0 (k := 9) rfl
theorem dX12_readSum_20 : decode cX12_readSum 20 = .ok (.ifCond .eq 39, 3) := chk_nth ocX12_readSum_0 (k := 10) rfl
theorem dX12_readSum_23 : decode cX12_readSum 23 = .ok (.aload_n 0, 1) := chk_nth ocX12_readSum_0 (k := 11) rfl
theorem dX12_readSum_24 : decode cX12_readSum 24 = .ok (.getfield 108, 3) := chk_nth ocX12_readSum_0 (k := 12) rfl
theorem dX12_readSum_27 : decode cX12_readSum 27 = .ok (.bipush 32, 2) := chk_nth ocX12_readSum_0 (k := 13) rfl
theorem dX12_readSum_29 : decode cX12_readSum 29 = .ok (.if_icmp .ne 9, 3) := chk_nth ocX12_readSum_0 (k := 14) rfl
theorem dX12_readSum_32 : decode cX12_readSum 32 = .ok (.sipush 3000, 3) := chk_nth ocX12_readSum_0 (k := 15) rfl
theorem dX12_readSum_35 : decode cX12_readSum 35 = .ok (.goto 6, 3) := chk_nth ocX12_readSum_0 (k := 16) rfl
theorem dX12_readSum_38 : decode cX12_readSum 38 = .ok (.sipush 3001, 3) := chk_nth ocX12_readSum_0 (k := 17) rfl
theorem dX12_readSum_41 : decode cX12_readSum 41 = .ok (.istore_n 2, 1) := chk_nth ocX12_readSum_0 (k := 18) rfl
theorem dX12_readSum_42 : decode cX12_readSum 42 = .ok (.aload_n 0, 1) := chk_nth ocX12_readSum_0 (k := 19) rfl
theorem dX12_readSum_43 : decode cX12_readSum 43 = .ok (.invokevirtual 135, 3) := chk_nth ocX12_readSum_0 (k := 20) rfl
theorem dX12_readSum_46 : decode cX12_readSum 46 = .ok (.aload_n 0, 1) := chk_nth ocX12_readSum_0 (k := 21) rfl
theorem dX12_readSum_47 : decode cX12_readSum 47 = .ok (.iload_n 1, 1) := chk_nth ocX12_readSum_0 (k := 22) rfl
theorem dX12_readSum_48 : decode cX12_readSum 48 = .ok (.invokevirtual 173, 3) := chk_nth ocX12_readSum_0 (k := 23) rfl
def tcX12_readSum_1 : List (Instr × Nat) := [(.aload_n 0, 1), (.iload_n 2, 1), (.invokevirtual 149, 3), (.goto (-51), 3), (.return_, 1)]
theorem ocX12_readSum_1 : chk (cX12_readSum.data.toList.drop 51) tcX12_readSum_1 = true := by decide +kernel
theorem dX12_readSum_51 : decode cX12_readSum 51 = .ok (.aload_n 0, 1) := chk_nth ocX12_readSum_1 (k := 0) rfl
theorem dX12_readSum_52 : decode cX12_readSum 52 = .ok (.iload_n 2, 1) := chk_nth ocX12_readSum_1 (k := 1) rfl
theorem dX12_readSum_53 : decode cX12_readSum 53 = .ok (.invokevirtual 149, 3) := chk_nth ocX12_readSum_1 (k := 2) rfl
theorem dX12_readSum_56 : decode cX12_readSum 56 = .ok (.goto (-51), 3) := chk_nth ocX12_readSum_1 (k := 3) rfl
theorem dX12_readSum_59 : decode cX12_readSum 59 = .ok (.return_, 1) := chk_nth ocX12_readSum_1 (k := 4) rfl
def tcX12_readUnit_0 : List (Instr × Nat) := [(.aload_n 0, 1), (.bipush 17, 2), (.invokevirtual 132, 3), (.ifCond .eq 27, 3), (.aload_n 0, 1), (.iload_n 1, 1), (.invokevirtual 155, 3), (.ifCond .ne 4, 3), (.return_, 1), (.aload_n 0, 1), (.iload_n 1, 1), (.iconst 1, 1), (.iadd, 1), (.invokevirtual 176, 3), (.aload_n 0, 1), (.sipush 3006, 3), (.invokevirtual 149, 3), (.return_, 1), (.aload_n 0, 1), (.bipush 37, 2), (.invokevirtual 132, 3), (.ifCond .eq 34, 3), (.aload_n 0, 1), (.iload_n 1, 1)]
theorem ocX12_readUnit_0 : chk (cX12_readUnit.data.toList.drop 0) tcX12_readUnit_0 = true := by decide +kernel
theorem dX12_readUnit_0 : decode cX12_readUnit 0 = .ok (.aload_n 0, 1) := chk_nth ocX12_readUnit_0 (k := 0) rfl
theorem dX12_readUnit_1 : decode cX12_readUnit 1 = .ok (.bipush 17, 2) := chk_nth ocX12_readUnit_0 (k := 1) rfl
theorem dX12_readUnit_3 : decode cX12_readUnit 3 = .ok (.invokevirtual 132, 3) := chk_nth ocX12_readUnit_0 (k := 2) rfl
theorem dX12_readUnit_6 : decode cX12_readUnit 6 = .ok (.ifCond .eq 27, 3) := chk_nth ocX12_readUnit_0 (k := 3) rfl
theorem dX12_readUnit_9 : decode cX12_readUnit 9 = .ok (.aload_n 0, 1) := chk_nth ocX12_readUnit_0 (k := 4) rfl
theorem dX12_readUnit_10 : decode cX12_readUnit 10 = .ok (.iload_n 1, 1) := chk_nth ocX12_readUnit_0 (k := 5) rfl
theorem dX12_readUnit_11 : decode cX12_readUnit 11 = .ok (.invokevirtual 155, 3) := chk_nth ocX12_readUnit_0 (k := 6) rfl
theorem dX12_readUnit_14 : decode cX12_readUnit 14 = .ok (.ifCond .ne 4, 3) := chk_nth ocX12_readUnit_0 (k := 7) rfl
theorem dX12_readUnit_17 : decode cX12_readUnit 17 = .ok (.return_, 1) := chk_nth ocX12_readUnit_0 (k := 8) rfl
theorem dX12_readUnit_18 : decode cX12_readUnit 18 = .ok (.aload_n 0, 1) := chk_nth ocX12_readUnit_0 (k := 9) rfl
theorem dX12_readUnit_19 : decode cX12_readUnit 19 = .ok (.iload_n 1, 1) := chk_nth ocX12_readUnit_0 (k := 10) rfl
theorem dX12_readUnit_20 : decode cX12_readUnit 20 = .ok (.iconst 1, 1) := chk_nth ocX12_readUnit_0 (k := 11) rfl
theorem dX12_readUnit_21 : decode cX12_readUnit 21 = .ok (.iadd, 1) := chk_nth ocX12_readUnit_0 (k := 12) rfl
theorem dX12_readUnit_22 : decode cX12_readUnit 22 = .ok (.invokevirtual 176, 3) := chk_nth ocX12_readUnit_0 (k := 13) rfl
theorem dX12_readUnit_25 : decode cX12_readUnit 25 = .ok (.aload_n 0, 1) := chk_nth ocX12_readUnit_0 (k := 14) rfl
theorem dX12_readUnit_26 : decode cX12_readUnit 26 = .ok (.sipush 3006, 3) := chk_nth ocX12_readUnit_0 (k := 15) rfl
theorem dX12_readUnit_29 : decode cX12_readUnit 29 = .ok (.invokevirtual 149, 3) := chk_nth ocX12_readUnit_0 (k := 16) rfl
theorem dX12_readUnit_32 : decode cX12_readUnit 32 = .ok (.return_, 1) := chk_nth ocX12_readUnit_0 (k := 17) rfl
theorem dX12_readUnit_33 : decode cX12_readUnit 33 = .ok (.aload_n 0, 1) := chk_nth ocX12_readUnit_0 (k := 18) rfl
theorem dX12_readUnit_34 : decode cX12_readUnit 34 = .ok (.bipush 37, 2) := chk_nth ocX12_readUnit_0 (k := 19) rfl
theorem dX12_readUnit_36 : decode cX12_readUnit 36 = .ok (.invokevirtual 132, 3) := chk_nth ocX12_readUnit_0 (k := 20) rfl
theorem dX12_readUnit_39 : decode cX12_readUnit 39 = .ok (.ifCond .eq 34, 3) := chk_nth ocX12_readUnit_0 (k := 21) rfl
theorem dX12_readUnit_42 : decode cX12_readUnit 42 = .ok (.aload_n 0, 1) := chk_nth ocX12_readUnit_0 (k := 22) rfl
theorem dX12_readUnit_43 : decode cX12_readUnit 43 = .ok (.iload_n 1, 1) := chk_nth ocX12_readUnit_0 (k := 23) rfl
def tcX12_readUnit_1 : List (Instr × Nat) := [(.invokevirtual 155, 3), (.ifCond .ne 4, 3), (.return_, 1), (.aload_n 0, 1), (.iload_n 1, 1), (.iconst 1, 1), (.iadd, 1), (.invokevirtual 167, 3), (.aload_n 0, 1), (.bipush 38, 2), (.invokevirtual 161, 3), (.ifCond .ne 8, 3), (.aload_n 0, 1), (.iconst 2, 1), (.invokevirtual 138, 3), (.return_, 1), (.aload_n 0, 1), (.iload_n 1, 1), (.invokevirtual 158, 3), (.aload_n 0, 1), (.bipush 39, 2), (.invokevirtual 132, 3), (.ifCond .eq 9, 3), (.sipush 3003, 3)]
theorem ocX12_readUnit_1 : chk (cX12_readUnit.data.toList.drop 44) tcX12_readUnit_1 = true := by decide +kernel
theorem dX12_readUnit_44 : decode cX12_readUnit 44 = .ok (.invokevirtual 155, 3) := chk_nth ocX12_readUnit_1 (k := 0) rfl
theorem dX12_readUnit_47 : decode cX12_readUnit 47 = .ok (.ifCond .ne 4, 3) := chk_nth ocX12_readUnit_1 (k := 1) rfl
theorem dX12_readUnit_50 : decode cX12_readUnit 50 = .ok (.return_, 1) := chk_nth ocX12_readUnit_1 (k := 2) rfl
theorem dX12_readUnit_51 : decode cX12_readUnit 51 = .ok (.aload_n 0, 1) := chk_nth ocX12_readUnit_1 (k := 3) rfl
theorem dX12_readUnit_52 : decode cX12_readUnit 52 = .ok (.iload_n 1, 1) := chk_nth ocX12_readUnit_1 (k := 4) rfl
theorem dX12_readUnit_53 : decode cX12_readUnit 53 = .ok (.iconst 1, 1) := chk_nth ocX12_readUnit_1 (k := 5) rfl
theorem dX12_readUnit_54 : decode cX12_readUnit 54 = .ok (.iadd, 1) := chk_nth ocX12_readUnit_1 (k := 6) rfl
theorem dX12_readUnit_55 : decode cX12_readUnit 55 = .ok (.invokevirtual 167, 3) := chk_nth ocX12_readUnit_1 (k := 7) rfl
theorem dX12_readUnit_58 : decode cX12_readUnit 58 = .ok (.aload_n 0, 1) := chk_nth ocX12_readUnit_1 (k := 8) rfl
theorem dX12_readUnit_59 : decode cX12_readUnit 59 = .ok (.bipush 38, 2) := chk_nth ocX12_readUnit_1 (k := 9) rfl
theorem dX12_readUnit_61 : decode cX12_readUnit 61 = .ok (.invokevirtual 161, 3) := chk_nth ocX12_readUnit_1 (k := 10) rfl
theorem dX12_readUnit_64 : decode cX12_readUnit 64 = .ok (.ifCond .ne 8, 3) := chk_nth ocX12_readUnit_1 (k := 11) rfl
theorem dX12_readUnit_67 : decode cX12_readUnit 67 = .ok (.aload_n 0, 1) := chk_nth ocX12_readUnit_1 (k := 12) rfl
theorem dX12_readUnit_68 : decode cX12_readUnit 68 = .ok (.iconst 2, 1) := chk_nth ocX12_readUnit_1 (k := 13) rfl
theorem dX12_readUnit_69 : decode cX12_readUnit 69 = .ok (.invokevirtual 138, 3) := chk_nth ocX12_readUnit_1 (k := 14) rfl
theorem dX12_readUnit_72 : decode cX12_readUnit 72 = .ok (.return_, 1) := chk_nth ocX12_readUnit_1 (k := 15) rfl
theorem dX12_readUnit_73 : decode cX12_readUnit 73 = .ok (.aload_n 0, 1) := chk_nth ocX12_readUnit_1 (k := 16) rfl
theorem dX12_readUnit_74 : decode cX12_readUnit 74 = .ok (.iload_n 1, 1) := chk_nth ocX12_readUnit_1 (k := 17) rfl
theorem dX12_readUnit_75 : decode cX12_readUnit 75 = .ok (.invokevirtual 158, 3) := chk_nth ocX12_readUnit_1 (k := 18) rfl
theorem dX12_readUnit_78 : decode cX12_readUnit 78 = .ok (.aload_n 0, 1) := chk_nth ocX12_readUnit_1 (k := 19) rfl
theorem dX12_readUnit_79 : decode cX12_readUnit 79 = .ok (.bipush 39, 2) := chk_nth ocX12_readUnit_1 (k := 20) rfl
theorem dX12_readUnit_81 : decode cX12_readUnit 81 = .ok (.invokevirtual 132, 3) := chk_nth ocX12_readUnit_1 (k := 21) rfl
theorem dX12_readUnit_84 : decode cX12_readUnit 84 = .ok (.ifCond .eq 9, 3) := chk_nth ocX12_readUnit_1 (k := 22) rfl
theorem dX12_readUnit_87 : decode cX12_readUnit 87 = .ok (.sipush 3003, 3) := chk_nth ocX12_readUnit_1 (k := 23) rfl
def tcX12_readUnit_2 : List (Instr × Nat) := [(.goto 21, 3), (.aload_n 0, 1), (.bipush 40, 2), (.invokevirtual 132, 3), (.ifCond .eq 9, 3), (.sipush 3004, 3), (.goto 6, 3), (.sipush 3005, 3), (.istore_n 2, 1), (.aload_n 0, 1), (.bipush 39, 2), (.invokevirtual 132, 3), (.ifCond .ne 21, 3), (.aload_n 0, 1), (.bipush 40, 2), (.invokevirtual 132, 3), (.ifCond .ne 12, 3), (.aload_n 0, 1), (.bipush 41, 2), (.invokevirtual 132, 3), (.ifCond .eq 10, 3), (.aload_n 0, 1), (.invokevirtual 135, 3), (.goto 8, 3)]
theorem ocX12_readUnit_2 : chk (cX12_readUnit.data.toList.drop 90) tcX12_readUnit_2 = true := by decide +kernel
theorem dX12_readUnit_90 : decode cX12_readUnit 90 = .ok (.goto 21, 3) := chk_nth ocX12_readUnit_2 (k := 0) rfl
theorem dX12_readUnit_93 : decode cX12_readUnit 93 = .ok (.aload_n 0, 1) := chk_nth ocX12_readUnit_2 (k := 1) rfl
theorem dX12_readUnit_94 : decode cX12_readUnit 94 = .ok (.bipush 40, 2) := chk_nth ocX12_readUnit_2 (k := 2) rfl
theorem dX12_readUnit_96 : decode cX12_readUnit 96 = .ok (.invokevirtual 132, 3) := chk_nth ocX12_readUnit_2 (k := 3) rfl
theorem dX12_readUnit_99 : decode cX12_readUnit 99 = .ok (.ifCond .eq 9, 3) := chk_nth ocX12_readUnit_2 (k := 4) rfl
theorem dX12_readUnit_102 : decode cX12_readUnit 102 = .ok (.sipush 3004, 3) := chk_nth ocX12_readUnit_2 (k := 5) rfl
theorem dX12_readUnit_105 : decode cX12_readUnit 105 = .ok (.goto 6, 3) := chk_nth ocX12_readUnit_2 (k := 6) rfl
theorem dX12_readUnit_108 : decode cX12_readUnit 108 = .ok (.sipush 3005, 3) := chk_nth ocX12_readUnit_2 (k := 7) rfl
theorem dX12_readUnit_111 : decode cX12_readUnit 111 = .ok (.istore_n 2, 1) := chk_nth ocX12_readUnit_2 (k := 8) rfl
theorem dX12_readUnit_112 : decode cX12_readUnit 112 = .ok (.aload_n 0, 1) := chk_nth ocX12_readUnit_2 (k := 9) rfl
theorem dX12_readUnit_113 : decode cX12_readUnit 113 = .ok (.bipush 39, 2) := chk_nth ocX12_readUnit_2 (k := 10) rfl
theorem dX12_readUnit_115 : decode cX12_readUnit 115 = .ok (.invokevirtual 132, 3) := chk_nth ocX12_readUnit_2 (k := 11) rfl
theorem dX12_readUnit_118 : decode cX12_readUnit 118 = .ok (.ifCond .ne 21, 3) := chk_nth ocX12_readUnit_2 (k := 12) rfl
theorem dX12_readUnit_121 : decode cX12_readUnit 121 = .ok (.aload_n 0, 1) := chk_nth ocX12_readUnit_2 (k := 13) rfl
theorem dX12_readUnit_122 : decode cX12_readUnit 122 = .ok (.bipush 40, 2) := chk_nth ocX12_readUnit_2 (k := 14) rfl
theorem dX12_readUnit_124 : decode cX12_readUnit 124 = .ok (.invokevirtual 132, 3) := chk_nth ocX12_readUnit_2 (k := 15) rfl
theorem dX12_readUnit_127 : decode cX12_readUnit 127 = .ok (.ifCond .ne 12, 3) := chk_nth ocX12_readUnit_2 (k := 16) rfl
theorem dX12_readUnit_130 : decode cX12_readUnit 130 = .ok (.aload_n 0, 1) := chk_nth ocX12_readUnit_2 (k := 17) rfl
theorem dX12_readUnit_131 : decode cX12_readUnit 131 = .ok (.bipush 41, 2) := chk_nth ocX12_readUnit_2 (k := 18) rfl
theorem dX12_readUnit_133 : decode cX12_readUnit 133 = .ok (.invokevirtual 132, 3) := chk_nth ocX12_readUnit_2 (k := 19) rfl
theorem dX12_readUnit_136 : decode cX12_readUnit 136 = .ok (.ifCond .eq 10, 3) := chk_nth ocX12_readUnit_2 (k := 20) rfl
theorem dX12_readUnit_139 : decode cX12_readUnit 139 = .ok (.aload_n 0, 1) := chk_nth ocX12_readUnit_2 (k := 21) rfl
theorem dX12_readUnit_140 : decode cX12_readUnit 140 = .ok (.invokevirtual 135, 3) := chk_nth ocX12_readUnit_2 (k := 22) rfl
theorem dX12_readUnit_143 : decode cX12_readUnit 143 = .ok (.goto 8, 3) := chk_nth ocX12_readUnit_2 (k := 23) rfl
def tcX12_readUnit_3 : List (Instr × Nat) := [(.aload_n 0, 1), (.iconst 2, 1), (.invokevirtual 138, 3), (.aload_n 0, 1), (.iload_n 1, 1), (.invokevirtual 158, 3), (.aload_n 0, 1), (.iload_n 2, 1), (.invokevirtual 149, 3), (.return_, 1)]
theorem ocX12_readUnit_3 : chk (cX12_readUnit.data.toList.drop 146) tcX12_readUnit_3 = true := by decide +kernel
theorem dX12_readUnit_146 : decode cX12_readUnit 146 = .ok (.aload_n 0, 1) := chk_nth ocX12_readUnit_3 (k := 0) rfl
theorem dX12_readUnit_147 : decode cX12_readUnit 147 = .ok (.iconst 2, 1) := chk_nth ocX12_readUnit_3 (k := 1) rfl
theorem dX12_readUnit_148 : decode cX12_readUnit 148 = .ok (.invokevirtual 138, 3) := chk_nth ocX12_readUnit_3 (k := 2) rfl
theorem dX12_readUnit_151 : decode cX12_readUnit 151 = .ok (.aload_n 0, 1) := chk_nth ocX12_readUnit_3 (k := 3) rfl
theorem dX12_readUnit_152 : decode cX12_readUnit 152 = .ok (.iload_n 1, 1) := chk_nth ocX12_readUnit_3 (k := 4) rfl
theorem dX12_readUnit_153 : decode cX12_readUnit 153 = .ok (.invokevirtual 158, 3) := chk_nth ocX12_readUnit_3 (k := 5) rfl
theorem dX12_readUnit_156 : decode cX12_readUnit 156 = .ok (.aload_n 0, 1) := chk_nth ocX12_readUnit_3 (k := 6) rfl
theorem dX12_readUnit_157 : decode cX12_readUnit 157 = .ok (.iload_n 2, 1) := chk_nth ocX12_readUnit_3 (k := 7) rfl
theorem dX12_readUnit_158 : decode cX12_readUnit 158 = .ok (.invokevirtual 149, 3) := chk_nth ocX12_readUnit_3 (k := 8) rfl
theorem dX12_readUnit_161 : decode cX12_readUnit 161 = .ok (.return_, 1) := chk_nth ocX12_readUnit_3 (k := 9) rfl
def tcX12_readBoth_0 : List (Instr × Nat) := [(.aload_n 0, 1), (.iload_n 1, 1), (.invokevirtual 176, 3), (.aload_n 0, 1), (.bipush 15, 2), (.invokevirtual 161, 3), (.ifCond .eq 18, 3), (.aload_n 0, 1), (.iload_n 1, 1), (.invokevirtual 176, 3), (.aload_n 0, 1), (.sipush 3007, 3), (.invokevirtual 149, 3), (.goto (-21), 3), (.return_, 1)]
theorem ocX12_readBoth_0 : chk (cX12_readBoth.data.toList.drop 0) tcX12_readBoth_0 = true := by decide +kernel
theorem dX12_readBoth_0 : decode cX12_readBoth 0 = .ok (.aload_n 0, 1) := chk_nth ocX12_readBoth_0 (k := 0) rfl
theorem dX12_readBoth_1 : decode cX12_readBoth 1 = .ok (.iload_n 1, 1) := chk_nth ocX12_readBoth_0 (k := 1) rfl
theorem dX12_readBoth_2 : decode cX12_readBoth 2 = .ok (.invokevirtual 176, 3) := chk_nth ocX12_readBoth_0 (k := 2) rfl
theorem dX12_readBoth_5 : decode cX12_readBoth 5 = .ok (.aload_n 0, 1) := chk_nth ocX12_readBoth_0 (k := 3) rfl
theorem dX12_readBoth_6 : decode cX12_readBoth 6 = .ok (.bipush 15, 2) := chk_nth ocX12_readBoth_0 (k := 4) rfl
theorem dX12_readBoth_8 : decode cX12_readBoth 8 = .ok (.invokevirtual 161, 3) := chk_nth ocX12_readBoth_0 (k := 5) rfl
theorem dX12_readBoth_11 : decode cX12_readBoth 11 = .ok (.ifCond .eq 18, 3) := chk_nth ocX12_readBoth_0 (k := 6) rfl
theorem dX12_readBoth_14 : decode cX12_readBoth 14 = .ok (.aload_n 0, 1) := chk_nth ocX12_readBoth_0 (k := 7) rfl
theorem dX12_readBoth_15 : decode cX12_readBoth 15 = .ok (.iload_n 1, 1) := chk_nth ocX12_readBoth_0 (k := 8) rfl
theorem dX12_readBoth_16 : decode cX12_readBoth 16 = .ok (.invokevirtual 176, 3) := chk_nth ocX12_readBoth_0 (k := 9) rfl
theorem dX12_readBoth_19 : decode cX12_readBoth 19 = .ok (.aload_n 0, 1) := chk_nth ocX12_readBoth_0 (k := 10) rfl
theorem dX12_readBoth_20 : decode cX12_readBoth 20 = .ok (.sipush 3007, 3) := chk_nth ocX12_readBoth_0 (k := 11) rfl
theorem dX12_readBoth_23 : decode cX12_readBoth 23 = .ok (.invokevirtual 149, 3) := chk_nth ocX12_readBoth_0 (k := 12) rfl
theorem dX12_readBoth_26 : decode cX12_readBoth 26 = .ok (.goto (-21), 3) := chk_nth ocX12_readBoth_0 (k := 13) rfl
theorem dX12_readBoth_29 : decode cX12_readBoth 29 = .ok (.return_, 1) := chk_nth ocX12_readBoth_0 (k := 14) rfl
def tcX12_readTruth_0 : List (Instr × Nat) := [(.aload_n 0, 1), (.iload_n 1, 1), (.invokevirtual 179, 3), (.aload_n 0, 1), (.bipush 16, 2), (.invokevirtual 161, 3), (.ifCond .eq 18, 3), (.aload_n 0, 1), (.iload_n 1, 1), (.invokevirtual 179, 3), (.aload_n 0, 1), (.sipush 3008, 3), (.invokevirtual 149, 3), (.goto (-21), 3), (.return_, 1)]
theorem ocX12_readTruth_0 : chk (cX12_readTruth.data.toList.drop 0) tcX12_readTruth_0 = true := by decide +kernel
theorem dX12_readTruth_0 : decode cX12_readTruth 0 = .ok (.aload_n 0, 1) := chk_nth ocX12_readTruth_0 (k := 0) rfl
theorem dX12_readTruth_1 : decode cX12_readTruth 1 = .ok (.iload_n 1, 1) := chk_nth ocX12_readTruth_0 (k := 1) rfl
theorem dX12_readTruth_2 : decode cX12_readTruth 2 = .ok (.invokevirtual 179, 3) := chk_nth ocX12_readTruth_0 (k := 2) rfl
theorem dX12_readTruth_5 : decode cX12_readTruth 5 = .ok (.aload_n 0, 1) := chk_nth ocX12_readTruth_0 (k := 3) rfl
theorem dX12_readTruth_6 : decode cX12_readTruth 6 = .ok (.bipush 16, 2) := chk_nth ocX12_readTruth_0 (k := 4) rfl
theorem dX12_readTruth_8 : decode cX12_readTruth 8 = .ok (.invokevirtual 161, 3) := chk_nth ocX12_readTruth_0 (k := 5) rfl
theorem dX12_readTruth_11 : decode cX12_readTruth 11 = .ok (.ifCond .eq 18, 3) := chk_nth ocX12_readTruth_0 (k := 6) rfl
theorem dX12_readTruth_14 : decode cX12_readTruth 14 = .ok (.aload_n 0, 1) := chk_nth ocX12_readTruth_0 (k := 7) rfl
theorem dX12_readTruth_15 : decode cX12_readTruth 15 = .ok (.iload_n 1, 1) := chk_nth ocX12_readTruth_0 (k := 8) rfl
theorem dX12_readTruth_16 : decode cX12_readTruth 16 = .ok (.invokevirtual 179, 3) := chk_nth ocX12_readTruth_0 (k := 9) rfl
theorem dX12_readTruth_19 : decode cX12_readTruth 19 = .ok (.aload_n 0, 1) := chk_nth ocX12_readTruth_0 (k := 10) rfl
theorem dX12_readTruth_20 : decode cX12_readTruth 20 = .ok (.sipush 3008, 3) := chk_nth ocX12_readTruth_0 (k := 11) rfl
theorem dX12_readTruth_23 : decode cX12_readTruth 23 = .ok (.invokevirtual 149, 3) := chk_nth ocX12_readTruth_0 (k := 12) rfl
theorem dX12_readTruth_26 : decode cX12_readTruth 26 = .ok (.goto (-21), 3) := chk_nth ocX12_readTruth_0 (k := 13) rfl
theorem dX12_readTruth_29 : decode cX12_readTruth 29 = .ok (.return_, 1) := chk_nth ocX12_readTruth_0 (k := 14) rfl
def tcX12_readPart_0 : List (Instr × Nat) := [(.aload_n 0, 1), (.iconst 2, 1), (.invokevirtual 161, 3), (.ifCond .eq 22, 3), (.aload_n 0, 1), (.getfield 24, 3), (.bipush 26, 2), (.iload_n 1, 1), (.iadd, 1), (.aload_n 0, 1), (.iconst 0, 1), (.bipush 9, 2), (.invokevirtual 182, 3), (.iastore, 1), (.goto 59, 3), (.aload_n 0, 1), (.iconst 3, 1), (.invokevirtual 161, 3), (.ifCond .eq 23, 3), (.aload_n 0, 1), (.getfield 24, 3), (.bipush 26, 2), (.iload_n 1, 1), (.iadd, 1)]
theorem ocX12_readPart_0 : chk (cX12_readPart.data.toList.drop 0) tcX12_readPart_0 = true := by decide +kernel
theorem dX12_readPart_0 : decode cX12_readPart 0 = .ok (.aload_n 0, 1) := chk_nth ocX12_readPart_0 (k := 0) rfl
theorem dX12_readPart_1 : decode cX12_readPart 1 = .ok (.iconst 2, 1) := chk_nth ocX12_readPart_0 (k := 1) rfl
theorem dX12_readPart_2 : decode cX12_readPart 2 = .ok (.invokevirtual 161, 3) := chk_nth ocX12_readPart_0 (k := 2) rfl
theorem dX12_readPart_5 : decode cX12_readPart 5 = .ok (.ifCond .eq 22, 3) := chk_nth ocX12_readPart_0 (k := 3) rfl
theorem dX12_readPart_8 : decode cX12_readPart 8 = .ok (.aload_n 0, 1) := chk_nth ocX12_readPart_0 (k := 4) rfl
theorem dX12_readPart_9 : decode cX12_readPart 9 = .ok (.getfield 24, 3) := chk_nth ocX12_readPart_0 (k := 5) rfl
theorem dX12_readPart_12 : decode cX12_readPart 12 = .ok (.bipush 26, 2) := chk_nth ocX12_readPart_0 (k := 6) rfl
theorem dX12_readPart_14 : decode cX12_readPart 14 = .ok (.iload_n 1, 1) := chk_nth ocX12_readPart_0 (k := 7) rfl
theorem dX12_readPart_15 : decode cX12_readPart 15 = .ok (.iadd, 1) := chk_nth ocX12_readPart_0 (k := 8) rfl
theorem dX12_readPart_16 : decode cX12_readPart 16 = .ok (.aload_n 0, 1) := chk_nth ocX12_readPart_0 (k := 9) rfl
theorem dX12_readPart_17 : decode cX12_readPart 17 = .ok (.iconst 0, 1) := chk_nth ocX12_readPart_0 (k := 10) rfl
theorem dX12_readPart_18 : decode cX12_readPart 18 = .ok (.bipush 9, 2) := chk_nth ocX12_readPart_0 (k := 11) rfl
theorem dX12_readPart_20 : decode cX12_readPart 20 = .ok (.invokevirtual 182, 3) := chk_nth ocX12_readPart_0 (k := 12) rfl
theorem dX12_readPart_23 : decode cX12_readPart 23 = .ok (.iastore, 1) := chk_nth ocX12_readPart_0 (k := 13) rfl
theorem dX12_readPart_24 : decode cX12_readPart 24 = .ok (.goto 59, 3) := chk_nth ocX12_readPart_0 (k := 14) rfl
theorem dX12_readPart_27 : decode cX12_readPart 27 = .ok (.aload_n 0, 1) := chk_nth ocX12_readPart_0 (k := 15) rfl
theorem dX12_readPart_28 : decode cX12_readPart 28 = .ok (.iconst 3, 1) := chk_nth ocX12_readPart_0 (k := 16) rfl
theorem dX12_readPart_29 : decode cX12_readPart 29 = .ok (.invokevirtual 161, 3) := chk_nth ocX12_readPart_0 (k := 17) rfl
theorem dX12_readPart_32 : decode cX12_readPart 32 = .ok (.ifCond .eq 23, 3) := chk_nth ocX12_readPart_0 (k := 18) rfl
theorem dX12_readPart_35 : decode cX12_readPart 35 = .ok (.aload_n 0, 1) := chk_nth ocX12_readPart_0 (k := 19) rfl
theorem dX12_readPart_36 : decode cX12_readPart 36 = .ok (.getfield 24, 3) := chk_nth ocX12_readPart_0 (k := 20) rfl
theorem dX12_readPart_39 : decode cX12_readPart 39 = .ok (.bipush 26, 2) := chk_nth ocX12_readPart_0 (k := 21) rfl
theorem dX12_readPart_41 : decode cX12_readPart 41 = .ok (.iload_n 1, 1) := chk_nth ocX12_readPart_0 (k := 22) rfl
theorem dX12_readPart_42 : decode cX12_readPart 42 = .ok (.iadd, 1) := chk_nth ocX12_readPart_0 (k := 23) rfl
def tcX12_readPart_1 : List (Instr × Nat) := [(.aload_n 0, 1), (.iconst 0, 1), (.bipush 9, 2), (.invokevirtual 182, 3), (.ineg, 1), (.iastore, 1), (.goto 31, 3), (.aload_n 0, 1), (.iconst 4, 1), (.invokevirtual 161, 3), (.ifCond .eq 21, 3), (.aload_n 0, 1), (.getfield 24, 3), (.bipush 40, 2), (.iload_n 1, 1), (.iadd, 1), (.aload_n 0, 1), (.iconst 0, 1), (.iconst 3, 1), (.invokevirtual 182, 3), (.iastore, 1), (.goto 5, 3), (.iconst 0, 1), (.ireturn, 1)]
theorem ocX12_readPart_1 : chk (cX12_readPart.data.toList.drop 43) tcX12_readPart_1 = true := by decide +kernel
theorem dX12_readPart_43 : decode cX12_readPart 43 = .ok (.aload_n 0, 1) := chk_nth ocX12_readPart_1 (k := 0) rfl
theorem dX12_readPart_44 : decode cX12_readPart 44 = .ok (.iconst 0, 1) := chk_nth ocX12_readPart_1 (k := 1) rfl
theorem dX12_readPart_45 : decode cX12_readPart 45 = .ok (.bipush 9, 2) := chk_nth ocX12_readPart_1 (k := 2) rfl
theorem dX12_readPart_47 : decode cX12_readPart 47 = .ok (.invokevirtual 182, 3) := chk_nth ocX12_readPart_1 (k := 3) rfl
theorem dX12_readPart_50 : decode cX12_readPart 50 = .ok (.ineg, 1) := chk_nth ocX12_readPart_1 (k := 4) rfl
theorem dX12_readPart_51 : decode cX12_readPart 51 = .ok (.iastore, 1) := chk_nth ocX12_readPart_1 (k := 5) rfl
theorem dX12_readPart_52 : decode cX12_readPart 52 = .ok (.goto 31, 3) := chk_nth ocX12_readPart_1 (k := 6) rfl
theorem dX12_readPart_55 : decode cX12_readPart 55 = .ok (.aload_n 0, 1) := chk_nth ocX12_readPart_1 (k := 7) rfl
theorem dX12_readPart_56 : decode cX12_readPart 56 = .ok (.iconst 4, 1) := chk_nth ocX12_readPart_1 (k := 8) rfl
theorem dX12_readPart_57 : decode cX12_readPart 57 = .ok (.invokevirtual 161, 3) := chk_nth ocX12_readPart_1 (k := 9) rfl
theorem dX12_readPart_60 : decode cX12_readPart 60 = .ok (.ifCond .eq 21, 3) := chk_nth ocX12_readPart_1 (k := 10) rfl
theorem dX12_readPart_63 : decode cX12_readPart 63 = .ok (.aload_n 0, 1) := chk_nth ocX12_readPart_1 (k := 11) rfl
theorem dX12_readPart_64 : decode cX12_readPart 64 = .ok (.getfield 24, 3) := chk_nth ocX12_readPart_1 (k := 12) rfl
theorem dX12_readPart_67 : decode cX12_readPart 67 = .ok (.bipush 40, 2) := chk_nth ocX12_readPart_1 (k := 13) rfl
theorem dX12_readPart_69 : decode cX12_readPart 69 = .ok (.iload_n 1, 1) := chk_nth ocX12_readPart_1 (k := 14) rfl
theorem dX12_readPart_70 : decode cX12_readPart 70 = .ok (.iadd, 1) := chk_nth ocX12_readPart_1 (k := 15) rfl
theorem dX12_readPart_71 : decode cX12_readPart 71 = .ok (.aload_n 0, 1) := chk_nth ocX12_readPart_1 (k := 16) rfl
theorem dX12_readPart_72 : decode cX12_readPart 72 = .ok (.iconst 0, 1) := chk_nth ocX12_readPart_1 (k := 17) rfl
theorem dX12_readPart_73 : decode cX12_readPart 73 = .ok (.iconst 3, 1) := chk_nth ocX12_readPart_1 (k := 18) rfl
theorem dX12_readPart_74 : decode cX12_readPart 74 = .ok (.invokevirtual 182, 3) := chk_nth ocX12_readPart_1 (k := 19) rfl
theorem dX12_readPart_77 : decode cX12_readPart 77 = .ok (.iastore, 1) := chk_nth ocX12_readPart_1 (k := 20) rfl
theorem dX12_readPart_78 : decode cX12_readPart 78 = .ok (.goto 5, 3) := chk_nth ocX12_readPart_1 (k := 21) rfl
theorem dX12_readPart_81 : decode cX12_readPart 81 = .ok (.iconst 0, 1) := chk_nth ocX12_readPart_1 (k := 22) rfl
theorem dX12_readPart_82 : decode cX12_readPart 82 = .ok (.ireturn, 1) := chk_nth ocX12_readPart_1 (k := 23) rfl
def tcX12_readPart_2 : List (Instr × Nat) := [(.aload_n 0, 1), (.getfield 126, 3), (.ifCond .ne 7, 3), (.iconst 1, 1), (.goto 4, 3), (.iconst 0, 1), (.ireturn, 1)]
theorem ocX12_readPart_2 : chk (cX12_readPart.data.toList.drop 83) tcX12_readPart_2 = true := by decide +kernel
theorem dX12_readPart_83 : decode cX12_readPart 83 = .ok (.aload_n 0, 1) := chk_nth ocX12_readPart_2 (k := 0) rfl
theorem dX12_readPart_84 : decode cX12_readPart 84 = .ok (.getfield 126, 3) := chk_nth ocX12_readPart_2 (k := 1) rfl
theorem dX12_readPart_87 : decode cX12_readPart 87 = .ok (.ifCond .ne 7, 3) := chk_nth ocX12_readPart_2 (k := 2) rfl
theorem dX12_readPart_90 : decode cX12_readPart 90 = .ok (.iconst 1, 1) := chk_nth ocX12_readPart_2 (k := 3) rfl
theorem dX12_readPart_91 : decode cX12_readPart 91 = .ok (.goto 4, 3) := chk_nth ocX12_readPart_2 (k := 4) rfl
theorem dX12_readPart_94 : decode cX12_readPart 94 = .ok (.iconst 0, 1) := chk_nth ocX12_readPart_2 (k := 5) rfl
theorem dX12_readPart_95 : decode cX12_readPart 95 = .ok (.ireturn, 1) := chk_nth ocX12_readPart_2 (k := 6) rfl
def tcX12_readStreet_0 : List (Instr × Nat) := [(.aload_n 0, 1), (.getfield 24, 3), (.iconst 2, 1), (.iaload, 1), (.istore_n 1, 1), (.iload_n 1, 1), (.bipush 8, 2), (.if_icmp .ne 8, 3), (.aload_n 0, 1), (.iconst 4, 1), (.invokevirtual 138, 3), (.aload_n 0, 1), (.getfield 126, 3), (.ifCond .eq 4, 3), (.return_, 1), (.aload_n 0, 1), (.invokevirtual 135, 3), (.aload_n 0, 1), (.getfield 24, 3), (.bipush 10, 2), (.iload_n 1, 1), (.iadd, 1), (.aload_n 0, 1), (.iconst 0, 1)]
theorem ocX12_readStreet_0 : chk (cX12_readStreet.data.toList.drop 0) tcX12_readStreet_0 = true := by decide +kernel
theorem dX12_readStreet_0 : decode cX12_readStreet 0 = .ok (.aload_n 0, 1) := chk_nth ocX12_readStreet_0 (k := 0) rfl
theorem dX12_readStreet_1 : decode cX12_readStreet 1 = .ok (.getfield 24, 3) := chk_nth ocX12_readStreet_0 (k := 1) rfl
theorem dX12_readStreet_4 : decode cX12_readStreet 4 = .ok (.iconst 2, 1) := chk_nth ocX12_readStreet_0 (k := 2) rfl
theorem dX12_readStreet_5 : decode cX12_readStreet 5 = .ok (.iaload, 1) := chk_nth ocX12_readStreet_0 (k := 3) rfl
theorem dX12_readStreet_6 : decode cX12_readStreet 6 = .ok (.istore_n 1, 1) := chk_nth ocX12_readStreet_0 (k := 4) rfl
theorem dX12_readStreet_7 : decode cX12_readStreet 7 = .ok (.iload_n 1, 1) := chk_nth ocX12_readStreet_0 (k := 5) rfl
theorem dX12_readStreet_8 : decode cX12_readStreet 8 = .ok (.bipush 8, 2) := chk_nth ocX12_readStreet_0 (k := 6) rfl
theorem dX12_readStreet_10 : decode cX12_readStreet 10 = .ok (.if_icmp .ne 8, 3) := chk_nth ocX12_readStreet_0 (k := 7) rfl
theorem dX12_readStreet_13 : decode cX12_readStreet 13 = .ok (.aload_n 0, 1) := chk_nth ocX12_readStreet_0 (k := 8) rfl
theorem dX12_readStreet_14 : decode cX12_readStreet 14 = .ok (.iconst 4, 1) := chk_nth ocX12_readStreet_0 (k := 9) rfl
theorem dX12_readStreet_15 : decode cX12_readStreet 15 = .ok (.invokevirtual 138, 3) := chk_nth ocX12_readStreet_0 (k := 10) rfl
theorem dX12_readStreet_18 : decode cX12_readStreet 18 = .ok (.aload_n 0, 1) := chk_nth ocX12_readStreet_0 (k := 11) rfl
theorem dX12_readStreet_19 : decode cX12_readStreet 19 = .ok (.getfield 126, 3) := chk_nth ocX12_readStreet_0 (k := 12) rfl
theorem dX12_readStreet_22 : decode cX12_readStreet 22 = .ok (.ifCond .eq 4, 3) := chk_nth ocX12_readStreet_0 (k := 13) rfl
theorem dX12_readStreet_25 : decode cX12_readStreet 25 = .ok (.return_, 1) := chk_nth ocX12_readStreet_0 (k := 14) rfl
theorem dX12_readStreet_26 : decode cX12_readStreet 26 = .ok (.aload_n 0, 1) := chk_nth ocX12_readStreet_0 (k := 15) rfl
theorem dX12_readStreet_27 : decode cX12_readStreet 27 = .ok (.invokevirtual 135, 3) := chk_nth ocX12_readStreet_0 (k := 16) rfl
theorem dX12_readStreet_30 : decode cX12_readStreet 30 = .ok (.aload_n 0, 1) := chk_nth ocX12_readStreet_0 (k := 17) rfl
theorem dX12_readStreet_31 : decode cX12_readStreet 31 = .ok (.getfield 24, 3) := chk_nth ocX12_readStreet_0 (k := 18) rfl
theorem dX12_readStreet_34 : decode cX12_readStreet 34 = .ok (.bipush 10, 2) := chk_nth ocX12_readStreet_0 (k := 19) rfl
theorem dX12_readStreet_36 : decode cX12_readStreet 36 = .ok (.iload_n 1, 1) := chk_nth ocX12_readStreet_0 (k := 20) rfl
theorem dX12_readStreet_37 : decode cX12_readStreet 37 = .ok (.iadd, 1) := chk_nth ocX12_readStreet_0 (k := 21) rfl
theorem dX12_readStreet_38 : decode cX12_readStreet 38 = .ok (.aload_n 0, 1) := chk_nth ocX12_readStreet_0 (k := 22) rfl
theorem dX12_readStreet_39 : decode cX12_readStreet 39 = .ok (.iconst 0, 1) := chk_nth ocX12_readStreet_0 (k := 23) rfl
def tcX12_readStreet_1 : List (Instr × Nat) := [(.aload_n 0, 1), (.getfield 24, 3), (.iconst 1, 1), (.iaload, 1), (.iconst 1, 1), (.isub, 1), (.invokevirtual 182, 3), (.iastore, 1), (.aload_n 0, 1), (.bipush 23, 2), (.invokevirtual 132, 3), (.ifCond .eq 24, 3), (.aload_n 0, 1), (.getfield 121, 3), (.aload_n 0, 1), (.getfield 24, 3), (.bipush 10, 2), (.iload_n 1, 1), (.iadd, 1), (.iaload, 1), (.if_icmp .ne 8, 3), (.aload_n 0, 1), (.iconst 3, 1), (.invokevirtual 138, 3)]
theorem ocX12_readStreet_1 : chk (cX12_readStreet.data.toList.drop 40) tcX12_readStreet_1 = true := by decide +kernel
theorem dX12_readStreet_40 : decode cX12_readStreet 40 = .ok (.aload_n 0, 1) := chk_nth ocX12_readStreet_1 (k := 0) rfl
theorem dX12_readStreet_41 : decode cX12_readStreet 41 = .ok (.getfield 24, 3) := chk_nth ocX12_readStreet_1 (k := 1) rfl
theorem dX12_readStreet_44 : decode cX12_readStreet 44 = .ok (.iconst 1, 1) := chk_nth ocX12_readStreet_1 (k := 2) rfl
theorem dX12_readStreet_45 : decode cX12_readStreet 45 = .ok (.iaload, 1) := chk_nth ocX12_readStreet_1 (k := 3) rfl
theorem dX12_readStreet_46 : decode cX12_readStreet 46 = .ok (.iconst 1, 1) := chk_nth ocX12_readStreet_1 (k := 4) rfl
theorem dX12_readStreet_47 : decode cX12_readStreet 47 = .ok (.isub, 1) := chk_nth ocX12_readStreet_1 (k := 5) rfl
theorem dX12_readStreet_48 : decode cX12_readStreet 48 = .ok (.invokevirtual 182, 3) := chk_nth ocX12_readStreet_1 (k := 6) rfl
theorem dX12_readStreet_51 : decode cX12_readStreet 51 = .ok (.iastore, 1) := chk_nth ocX12_readStreet_1 (k := 7) rfl
theorem dX12_readStreet_52 : decode cX12_readStreet 52 = .ok (.aload_n 0, 1) := chk_nth ocX12_readStreet_1 (k := 8) rfl
theorem dX12_readStreet_53 : decode cX12_readStreet 53 = .ok (.bipush 23, 2) := chk_nth ocX12_readStreet_1 (k := 9) rfl
theorem dX12_readStreet_55 : decode cX12_readStreet 55 = .ok (.invokevirtual 132, 3) := chk_nth ocX12_readStreet_1 (k := 10) rfl
theorem dX12_readStreet_58 : decode cX12_readStreet 58 = .ok (.ifCond .eq 24, 3) := chk_nth ocX12_readStreet_1 (k := 11) rfl
theorem dX12_readStreet_61 : decode cX12_readStreet 61 = .ok (.aload_n 0, 1) := chk_nth ocX12_readStreet_1 (k := 12) rfl
theorem dX12_readStreet_62 : decode cX12_readStreet 62 = .ok (.getfield 121, 3) := chk_nth ocX12_readStreet_1 (k := 13) rfl
theorem dX12_readStreet_65 : decode cX12_readStreet 65 = .ok (.aload_n 0, 1) := chk_nth ocX12_readStreet_1 (k := 14) rfl
theorem dX12_readStreet_66 : decode cX12_readStreet 66 = .ok (.getfield 24, 3) := chk_nth ocX12_readStreet_1 (k := 15) rfl
theorem dX12_readStreet_69 : decode cX12_readStreet 69 = .ok (.bipush 10, 2) := chk_nth ocX12_readStreet_1 (k := 16) rfl
theorem dX12_readStreet_71 : decode cX12_readStreet 71 = .ok (.iload_n 1, 1) := chk_nth ocX12_readStreet_1 (k := 17) rfl
theorem dX12_readStreet_72 : decode cX12_readStreet 72 = .ok (.iadd, 1) := chk_nth ocX12_readStreet_1 (k := 18) rfl
theorem dX12_readStreet_73 : decode cX12_readStreet 73 = .ok (.iaload, 1) := chk_nth ocX12_readStreet_1 (k := 19) rfl
theorem dX12_readStreet_74 : decode cX12_readStreet 74 = .ok (.if_icmp .ne 8, 3) := chk_nth ocX12_readStreet_1 (k := 20) rfl
theorem dX12_readStreet_77 : decode cX12_readStreet 77 = .ok (.aload_n 0, 1) := chk_nth ocX12_readStreet_1 (k := 21) rfl
theorem dX12_readStreet_78 : decode cX12_readStreet 78 = .ok (.iconst 3, 1) := chk_nth ocX12_readStreet_1 (k := 22) rfl
theorem dX12_readStreet_79 : decode cX12_readStreet 79 = .ok (.invokevirtual 138, 3) := chk_nth ocX12_readStreet_1 (k := 23) rfl
def tcX12_readStreet_2 : List (Instr × Nat) := [(.aload_n 0, 1), (.getfield 24, 3), (.bipush 18, 2), (.iload_n 1, 1), (.iadd, 1), (.aload_n 0, 1), (.iconst 0, 1), (.aload_n 0, 1), (.getfield 24, 3), (.iconst 1, 1), (.iaload, 1), (.iconst 1, 1), (.isub, 1), (.invokevirtual 182, 3), (.iastore, 1), (.aload_n 0, 1), (.getfield 126, 3), (.ifCond .ne 14, 3), (.aload_n 0, 1), (.iload_n 1, 1), (.invokevirtual 186, 3), (.ifCond .eq 6, 3), (.goto (-15), 3), (.aload_n 0, 1)]
theorem ocX12_readStreet_2 : chk (cX12_readStreet.data.toList.drop 82) tcX12_readStreet_2 = true := by decide +kernel
theorem dX12_readStreet_82 : decode cX12_readStreet 82 = .ok (.aload_n 0, 1) := chk_nth ocX12_readStreet_2 (k := 0) rfl
theorem dX12_readStreet_83 : decode cX12_readStreet 83 = .ok (.getfield 24, 3) := chk_nth ocX12_readStreet_2 (k := 1) rfl
theorem dX12_readStreet_86 : decode cX12_readStreet 86 = .ok (.bipush 18, 2) := chk_nth ocX12_readStreet_2 (k := 2) rfl
theorem dX12_readStreet_88 : decode cX12_readStreet 88 = .ok (.iload_n 1, 1) := chk_nth ocX12_readStreet_2 (k := 3) rfl
theorem dX12_readStreet_89 : decode cX12_readStreet 89 = .ok (.iadd, 1) := chk_nth ocX12_readStreet_2 (k := 4) rfl
theorem dX12_readStreet_90 : decode cX12_readStreet 90 = .ok (.aload_n 0, 1) := chk_nth ocX12_readStreet_2 (k := 5) rfl
theorem dX12_readStreet_91 : decode cX12_readStreet 91 = .ok (.iconst 0, 1) := chk_nth ocX12_readStreet_2 (k := 6) rfl
theorem dX12_readStreet_92 : decode cX12_readStreet 92 = .ok (.aload_n 0, 1) := chk_nth ocX12_readStreet_2 (k := 7) rfl
theorem dX12_readStreet_93 : decode cX12_readStreet 93 = .ok (.getfield 24, 3) := chk_nth ocX12_readStreet_2 (k := 8) rfl
theorem dX12_readStreet_96 : decode cX12_readStreet 96 = .ok (.iconst 1, 1) := chk_nth ocX12_readStreet_2 (k := 9) rfl
theorem dX12_readStreet_97 : decode cX12_readStreet 97 = .ok (.iaload, 1) := chk_nth ocX12_readStreet_2 (k := 10) rfl
theorem dX12_readStreet_98 : decode cX12_readStreet 98 = .ok (.iconst 1, 1) := chk_nth ocX12_readStreet_2 (k := 11) rfl
theorem dX12_readStreet_99 : decode cX12_readStreet 99 = .ok (.isub, 1) := chk_nth ocX12_readStreet_2 (k := 12) rfl
theorem dX12_readStreet_100 : decode cX12_readStreet 100 = .ok (.invokevirtual 182, 3) := chk_nth ocX12_readStreet_2 (k := 13) rfl
theorem dX12_readStreet_103 : decode cX12_readStreet 103 = .ok (.iastore, 1) := chk_nth ocX12_readStreet_2 (k := 14) rfl
theorem dX12_readStreet_104 : decode cX12_readStreet 104 = .ok (.aload_n 0, 1) := chk_nth ocX12_readStreet_2 (k := 15) rfl
theorem dX12_readStreet_105 : decode cX12_readStreet 105 = .ok (.getfield 126, 3) := chk_nth ocX12_readStreet_2 (k := 16) rfl
theorem dX12_readStreet_108 : decode cX12_readStreet 108 = .ok (.ifCond .ne 14, 3) := chk_nth ocX12_readStreet_2 (k := 17) rfl
theorem dX12_readStreet_111 : decode cX12_readStreet 111 = .ok (.aload_n 0, 1) := chk_nth ocX12_readStreet_2 (k := 18) rfl
theorem dX12_readStreet_112 : decode cX12_readStreet 112 = .ok (.iload_n 1, 1) := chk_nth ocX12_readStreet_2 (k := 19) rfl
theorem dX12_readStreet_113 : decode cX12_readStreet 113 = .ok (.invokevirtual 186, 3) := chk_nth ocX12_readStreet_2 (k := 20) rfl
theorem dX12_readStreet_116 : decode cX12_readStreet 116 = .ok (.ifCond .eq 6, 3) := chk_nth ocX12_readStreet_2 (k := 21) rfl
theorem dX12_readStreet_119 : decode cX12_readStreet 119 = .ok (.goto (-15), 3) := chk_nth ocX12_readStreet_2 (k := 22) rfl
theorem dX12_readStreet_122 : decode cX12_readStreet 122 = .ok (.aload_n 0, 1) := chk_nth ocX12_readStreet_2 (k := 23) rfl
def tcX12_readStreet_3 : List (Instr × Nat) := [(.getfield 126, 3), (.ifCond .ne 13, 3), (.aload_n 0, 1), (.getfield 24, 3), (.iconst 2, 1), (.dup2, 1), (.iaload, 1), (.iconst 1, 1), (.iadd, 1), (.iastore, 1), (.return_, 1)]
theorem ocX12_readStreet_3 : chk (cX12_readStreet.data.toList.drop 123) tcX12_readStreet_3 = true := by decide +kernel
theorem dX12_readStreet_123 : decode cX12_readStreet 123 = .ok (.getfield 126, 3) := chk_nth ocX12_readStreet_3 (k := 0) rfl
theorem dX12_readStreet_126 : decode cX12_readStreet 126 = .ok (.ifCond .ne 13, 3) := chk_nth ocX12_readStreet_3 (k := 1) rfl
theorem dX12_readStreet_129 : decode cX12_readStreet 129 = .ok (.aload_n 0, 1) := chk_nth ocX12_readStreet_3 (k := 2) rfl
theorem dX12_readStreet_130 : decode cX12_readStreet 130 = .ok (.getfield 24, 3) := chk_nth ocX12_readStreet_3 (k := 3) rfl
theorem dX12_readStreet_133 : decode cX12_readStreet 133 = .ok (.iconst 2, 1) := chk_nth ocX12_readStreet_3 (k := 4) rfl
theorem dX12_readStreet_134 : decode cX12_readStreet 134 = .ok (.dup2, 1) := chk_nth ocX12_readStreet_3 (k := 5) rfl
theorem dX12_readStreet_135 : decode cX12_readStreet 135 = .ok (.iaload, 1) := chk_nth ocX12_readStreet_3 (k := 6) rfl
theorem dX12_readStreet_136 : decode cX12_readStreet 136 = .ok (.iconst 1, 1) := chk_nth ocX12_readStreet_3 (k := 7) rfl
theorem dX12_readStreet_137 : decode cX12_readStreet 137 = .ok (.iadd, 1) := chk_nth ocX12_readStreet_3 (k := 8) rfl
theorem dX12_readStreet_138 : decode cX12_readStreet 138 = .ok (.iastore, 1) := chk_nth ocX12_readStreet_3 (k := 9) rfl
theorem dX12_readStreet_139 : decode cX12_readStreet 139 = .ok (.return_, 1) := chk_nth ocX12_readStreet_3 (k := 10) rfl
def tcX12_readGoer_0 : List (Instr × Nat) := [(.aload_n 0, 1), (.getfield 24, 3), (.iconst 3, 1), (.iaload, 1), (.istore_n 1, 1), (.iload_n 1, 1), (.iconst 3, 1), (.if_icmp .ne 8, 3), (.aload_n 0, 1), (.iconst 4, 1), (.invokevirtual 138, 3), (.aload_n 0, 1), (.getfield 126, 3), (.ifCond .eq 4, 3), (.return_, 1), (.aload_n 0, 1), (.invokevirtual 135, 3), (.aload_n 0, 1), (.getfield 24, 3), (.bipush 34, 2), (.iload_n 1, 1), (.iadd, 1), (.aload_n 0, 1), (.iconst 0, 1)]
theorem ocX12_readGoer_0 : chk (cX12_readGoer.data.toList.drop 0) tcX12_readGoer_0 = true := by decide +kernel
theorem dX12_readGoer_0 : decode cX12_readGoer 0 = .ok (.aload_n 0, 1) := chk_nth ocX12_readGoer_0 (k := 0) rfl
theorem dX12_readGoer_1 : decode cX12_readGoer 1 = .ok (.getfield 24, 3) := chk_nth ocX12_readGoer_0 (k := 1) rfl
theorem dX12_readGoer_4 : decode cX12_readGoer 4 = .ok (.iconst 3, 1) := chk_nth ocX12_readGoer_0 (k := 2) rfl
theorem dX12_readGoer_5 : decode cX12_readGoer 5 = .ok (.iaload, 1) := chk_nth ocX12_readGoer_0 (k := 3) rfl
theorem dX12_readGoer_6 : decode cX12_readGoer 6 = .ok (.istore_n 1, 1) := chk_nth ocX12_readGoer_0 (k := 4) rfl
theorem dX12_readGoer_7 : decode cX12_readGoer 7 = .ok (.iload_n 1, 1) := chk_nth ocX12_readGoer_0 (k := 5) rfl
theorem dX12_readGoer_8 : decode cX12_readGoer 8 = .ok (.iconst 3, 1) := chk_nth ocX12_readGoer_0 (k := 6) rfl
theorem dX12_readGoer_9 : decode cX12_readGoer 9 = .ok (.if_icmp .ne 8, 3) := chk_nth ocX12_readGoer_0 (k := 7) rfl
theorem dX12_readGoer_12 : decode cX12_readGoer 12 = .ok (.aload_n 0, 1) := chk_nth ocX12_readGoer_0 (k := 8) rfl
theorem dX12_readGoer_13 : decode cX12_readGoer 13 = .ok (.iconst 4, 1) := chk_nth ocX12_readGoer_0 (k := 9) rfl
theorem dX12_readGoer_14 : decode cX12_readGoer 14 = .ok (.invokevirtual 138, 3) := chk_nth ocX12_readGoer_0 (k := 10) rfl
theorem dX12_readGoer_17 : decode cX12_readGoer 17 = .ok (.aload_n 0, 1) := chk_nth ocX12_readGoer_0 (k := 11) rfl
theorem dX12_readGoer_18 : decode cX12_readGoer 18 = .ok (.getfield 126, 3) := chk_nth ocX12_readGoer_0 (k := 12) rfl
theorem dX12_readGoer_21 : decode cX12_readGoer 21 = .ok (.ifCond .eq 4, 3) := chk_nth ocX12_readGoer_0 (k := 13) rfl
theorem dX12_readGoer_24 : decode cX12_readGoer 24 = .ok (.return_, 1) := chk_nth ocX12_readGoer_0 (k := 14) rfl
theorem dX12_readGoer_25 : decode cX12_readGoer 25 = .ok (.aload_n 0, 1) := chk_nth ocX12_readGoer_0 (k := 15) rfl
theorem dX12_readGoer_26 : decode cX12_readGoer 26 = .ok (.invokevirtual 135, 3) := chk_nth ocX12_readGoer_0 (k := 16) rfl
theorem dX12_readGoer_29 : decode cX12_readGoer 29 = .ok (.aload_n 0, 1) := chk_nth ocX12_readGoer_0 (k := 17) rfl
theorem dX12_readGoer_30 : decode cX12_readGoer 30 = .ok (.getfield 24, 3) := chk_nth ocX12_readGoer_0 (k := 18) rfl
theorem dX12_readGoer_33 : decode cX12_readGoer 33 = .ok (.bipush 34, 2) := chk_nth ocX12_readGoer_0 (k := 19) rfl
theorem dX12_readGoer_35 : decode cX12_readGoer 35 = .ok (.iload_n 1, 1) := chk_nth ocX12_readGoer_0 (k := 20) rfl
theorem dX12_readGoer_36 : decode cX12_readGoer 36 = .ok (.iadd, 1) := chk_nth ocX12_readGoer_0 (k := 21) rfl
theorem dX12_readGoer_37 : decode cX12_readGoer 37 = .ok (.aload_n 0, 1) := chk_nth ocX12_readGoer_0 (k := 22) rfl
theorem dX12_readGoer_38 : decode cX12_readGoer 38 = .ok (.iconst 0, 1) := chk_nth ocX12_readGoer_0 (k := 23) rfl
def tcX12_readGoer_1 : List (Instr × Nat) := [(.aload_n 0, 1), (.getfield 24, 3), (.iconst 1, 1), (.iaload, 1), (.iconst 1, 1), (.isub, 1), (.invokevirtual 182, 3), (.iastore, 1), (.aload_n 0, 1), (.bipush 6, 2), (.invokevirtual 161, 3), (.ifCond .ne 8, 3), (.aload_n 0, 1), (.iconst 2, 1), (.invokevirtual 138, 3), (.aload_n 0, 1), (.getfield 24, 3), (.bipush 37, 2), (.iload_n 1, 1), (.iadd, 1), (.aload_n 0, 1), (.iconst 0, 1), (.bipush 19, 2), (.invokevirtual 182, 3)]
theorem ocX12_readGoer_1 : chk (cX12_readGoer.data.toList.drop 39) tcX12_readGoer_1 = true := by decide +kernel
theorem dX12_readGoer_39 : decode cX12_readGoer 39 = .ok (.aload_n 0, 1) := chk_nth ocX12_readGoer_1 (k := 0) rfl
theorem dX12_readGoer_40 : decode cX12_readGoer 40 = .ok (.getfield 24, 3) := chk_nth ocX12_readGoer_1 (k := 1) rfl
theorem dX12_readGoer_43 : decode cX12_readGoer 43 = .ok (.iconst 1, 1) := chk_nth ocX12_readGoer_1 (k := 2) rfl
theorem dX12_readGoer_44 : decode cX12_readGoer 44 = .ok (.iaload, 1) := chk_nth ocX12_readGoer_1 (k := 3) rfl
theorem dX12_readGoer_45 : decode cX12_readGoer 45 = .ok (.iconst 1, 1) := chk_nth ocX12_readGoer_1 (k := 4) rfl
theorem dX12_readGoer_46 : decode cX12_readGoer 46 = .ok (.isub, 1) := chk_nth ocX12_readGoer_1 (k := 5) rfl
theorem dX12_readGoer_47 : decode cX12_readGoer 47 = .ok (.invokevirtual 182, 3) := chk_nth ocX12_readGoer_1 (k := 6) rfl
theorem dX12_readGoer_50 : decode cX12_readGoer 50 = .ok (.iastore, 1) := chk_nth ocX12_readGoer_1 (k := 7) rfl
theorem dX12_readGoer_51 : decode cX12_readGoer 51 = .ok (.aload_n 0, 1) := chk_nth ocX12_readGoer_1 (k := 8) rfl
theorem dX12_readGoer_52 : decode cX12_readGoer 52 = .ok (.bipush 6, 2) := chk_nth ocX12_readGoer_1 (k := 9) rfl
theorem dX12_readGoer_54 : decode cX12_readGoer 54 = .ok (.invokevirtual 161, 3) := chk_nth ocX12_readGoer_1 (k := 10) rfl
theorem dX12_readGoer_57 : decode cX12_readGoer 57 = .ok (.ifCond .ne 8, 3) := chk_nth ocX12_readGoer_1 (k := 11) rfl
theorem dX12_readGoer_60 : decode cX12_readGoer 60 = .ok (.aload_n 0, 1) := chk_nth ocX12_readGoer_1 (k := 12) rfl
theorem dX12_readGoer_61 : decode cX12_readGoer 61 = .ok (.iconst 2, 1) := chk_nth ocX12_readGoer_1 (k := 13) rfl
theorem dX12_readGoer_62 : decode cX12_readGoer 62 = .ok (.invokevirtual 138, 3) := chk_nth ocX12_readGoer_1 (k := 14) rfl
theorem dX12_readGoer_65 : decode cX12_readGoer 65 = .ok (.aload_n 0, 1) := chk_nth ocX12_readGoer_1 (k := 15) rfl
theorem dX12_readGoer_66 : decode cX12_readGoer 66 = .ok (.getfield 24, 3) := chk_nth ocX12_readGoer_1 (k := 16) rfl
theorem dX12_readGoer_69 : decode cX12_readGoer 69 = .ok (.bipush 37, 2) := chk_nth ocX12_readGoer_1 (k := 17) rfl
theorem dX12_readGoer_71 : decode cX12_readGoer 71 = .ok (.iload_n 1, 1) := chk_nth ocX12_readGoer_1 (k := 18) rfl
theorem dX12_readGoer_72 : decode cX12_readGoer 72 = .ok (.iadd, 1) := chk_nth ocX12_readGoer_1 (k := 19) rfl
theorem dX12_readGoer_73 : decode cX12_readGoer 73 = .ok (.aload_n 0, 1) := chk_nth ocX12_readGoer_1 (k := 20) rfl
theorem dX12_readGoer_74 : decode cX12_readGoer 74 = .ok (.iconst 0, 1) := chk_nth ocX12_readGoer_1 (k := 21) rfl
theorem dX12_readGoer_75 : decode cX12_readGoer 75 = .ok (.bipush 19, 2) := chk_nth ocX12_readGoer_1 (k := 22) rfl
theorem dX12_readGoer_77 : decode cX12_readGoer 77 = .ok (.invokevirtual 182, 3) := chk_nth ocX12_readGoer_1 (k := 23) rfl
def tcX12_readGoer_2 : List (Instr × Nat) := [(.iastore, 1), (.aload_n 0, 1), (.getfield 126, 3), (.ifCond .ne 13, 3), (.aload_n 0, 1), (.getfield 24, 3), (.iconst 3, 1), (.dup2, 1), (.iaload, 1), (.iconst 1, 1), (.iadd, 1), (.iastore, 1), (.return_, 1)]
theorem ocX12_readGoer_2 : chk (cX12_readGoer.data.toList.drop 80) tcX12_readGoer_2 = true := by decide +kernel
theorem dX12_readGoer_80 : decode cX12_readGoer 80 = .ok (.iastore, 1) := chk_nth ocX12_readGoer_2 (k := 0) rfl
theorem dX12_readGoer_81 : decode cX12_readGoer 81 = .ok (.aload_n 0, 1) := chk_nth ocX12_readGoer_2 (k := 1) rfl
theorem dX12_readGoer_82 : decode cX12_readGoer 82 = .ok (.getfield 126, 3) := chk_nth ocX12_readGoer_2 (k := 2) rfl
theorem dX12_readGoer_85 : decode cX12_readGoer 85 = .ok (.ifCond .ne 13, 3) := chk_nth ocX12_readGoer_2 (k := 3) rfl
theorem dX12_readGoer_88 : decode cX12_readGoer 88 = .ok (.aload_n 0, 1) := chk_nth ocX12_readGoer_2 (k := 4) rfl
theorem dX12_readGoer_89 : decode cX12_readGoer 89 = .ok (.getfield 24, 3) := chk_nth ocX12_readGoer_2 (k := 5) rfl
theorem dX12_readGoer_92 : decode cX12_readGoer 92 = .ok (.iconst 3, 1) := chk_nth ocX12_readGoer_2 (k := 6) rfl
theorem dX12_readGoer_93 : decode cX12_readGoer 93 = .ok (.dup2, 1) := chk_nth ocX12_readGoer_2 (k := 7) rfl
theorem dX12_readGoer_94 : decode cX12_readGoer 94 = .ok (.iaload, 1) := chk_nth ocX12_readGoer_2 (k := 8) rfl
theorem dX12_readGoer_95 : decode cX12_readGoer 95 = .ok (.iconst 1, 1) := chk_nth ocX12_readGoer_2 (k := 9) rfl
theorem dX12_readGoer_96 : decode cX12_readGoer 96 = .ok (.iadd, 1) := chk_nth ocX12_readGoer_2 (k := 10) rfl
theorem dX12_readGoer_97 : decode cX12_readGoer 97 = .ok (.iastore, 1) := chk_nth ocX12_readGoer_2 (k := 11) rfl
theorem dX12_readGoer_98 : decode cX12_readGoer 98 = .ok (.return_, 1) := chk_nth ocX12_readGoer_2 (k := 12) rfl
def tcX12_readLaw_0 : List (Instr × Nat) := [(.aload_n 0, 1), (.invokevirtual 135, 3), (.aload_n 0, 1), (.bipush 31, 2), (.invokevirtual 161, 3), (.ifCond .ne 8, 3), (.aload_n 0, 1), (.iconst 2, 1), (.invokevirtual 138, 3), (.aload_n 0, 1), (.getfield 24, 3), (.sipush 200, 3), (.iaload, 1), (.istore_n 2, 1), (.aload_n 0, 1), (.iload_n 1, 1), (.putfield 146, 3), (.iload_n 1, 1), (.ifCond .ne 11, 3), (.aload_n 0, 1), (.iconst 0, 1), (.invokevirtual 158, 3), (.goto 8, 3), (.aload_n 0, 1)]
theorem ocX12_readLaw_0 : chk (cX12_readLaw.data.toList.drop 0) tcX12_readLaw_0 = true := by decide +kernel
theorem dX12_readLaw_0 : decode cX12_readLaw 0 = .ok (.aload_n 0, 1) := chk_nth ocX12_readLaw_0 (k := 0) rfl
theorem dX12_readLaw_1 : decode cX12_readLaw 1 = .ok (.invokevirtual 135, 3) := chk_nth ocX12_readLaw_0 (k := 1) rfl
theorem dX12_readLaw_4 : decode cX12_readLaw 4 = .ok (.aload_n 0, 1) := chk_nth ocX12_readLaw_0 (k := 2) rfl
theorem dX12_readLaw_5 : decode cX12_readLaw 5 = .ok (.bipush 31, 2) := chk_nth ocX12_readLaw_0 (k := 3) rfl
theorem dX12_readLaw_7 : decode cX12_readLaw 7 = .ok (.invokevirtual 161, 3) := chk_nth ocX12_readLaw_0 (k := 4) rfl
theorem dX12_readLaw_10 : decode cX12_readLaw 10 = .ok (.ifCond .ne 8, 3) := chk_nth ocX12_readLaw_0 (k := 5) rfl
theorem dX12_readLaw_13 : decode cX12_readLaw 13 = .ok (.aload_n 0, 1) := chk_nth ocX12_readLaw_0 (k := 6) rfl
theorem dX12_readLaw_14 : decode cX12_readLaw 14 = .ok (.iconst 2, 1) := chk_nth ocX12_readLaw_0 (k := 7) rfl
theorem dX12_readLaw_15 : decode cX12_readLaw 15 = .ok (.invokevirtual 138, 3) := chk_nth ocX12_readLaw_0 (k := 8) rfl
theorem dX12_readLaw_18 : decode cX12_readLaw 18 = .ok (.aload_n 0, 1) := chk_nth ocX12_readLaw_0 (k := 9) rfl
theorem dX12_readLaw_19 : decode cX12_readLaw 19 = .ok (.getfield 24, 3) := chk_nth ocX12_readLaw_0 (k := 10) rfl
theorem dX12_readLaw_22 : decode cX12_readLaw 22 = .ok (.sipush 200, 3) := chk_nth ocX12_readLaw_0 (k := 11) rfl
theorem dX12_readLaw_25 : decode cX12_readLaw 25 = .ok (.iaload, 1) := chk_nth ocX12_readLaw_0 (k := 12) rfl
theorem dX12_readLaw_26 : decode cX12_readLaw 26 = .ok (.istore_n 2, 1) := chk_nth ocX12_readLaw_0 (k := 13) rfl
theorem dX12_readLaw_27 : decode cX12_readLaw 27 = .ok (.aload_n 0, 1) := chk_nth ocX12_readLaw_0 (k := 14) rfl
theorem dX12_readLaw_28 : decode cX12_readLaw 28 = .ok (.iload_n 1, 1) := chk_nth ocX12_readLaw_0 (k := 15) rfl
theorem dX12_readLaw_29 : decode cX12_readLaw 29 = .ok (.putfield 146, 3) := chk_nth ocX12_readLaw_0 (k := 16) rfl
theorem dX12_readLaw_32 : decode cX12_readLaw 32 = .ok (.iload_n 1, 1) := chk_nth ocX12_readLaw_0 (k := 17) rfl
theorem dX12_readLaw_33 : decode cX12_readLaw 33 = .ok (.ifCond .ne 11, 3) := chk_nth ocX12_readLaw_0 (k := 18) rfl
theorem dX12_readLaw_36 : decode cX12_readLaw 36 = .ok (.aload_n 0, 1) := chk_nth ocX12_readLaw_0 (k := 19) rfl
theorem dX12_readLaw_37 : decode cX12_readLaw 37 = .ok (.iconst 0, 1) := chk_nth ocX12_readLaw_0 (k := 20) rfl
theorem dX12_readLaw_38 : decode cX12_readLaw 38 = .ok (.invokevirtual 158, 3) := chk_nth ocX12_readLaw_0 (k := 21) rfl
theorem dX12_readLaw_41 : decode cX12_readLaw 41 = .ok (.goto 8, 3) := chk_nth ocX12_readLaw_0 (k := 22) rfl
theorem dX12_readLaw_44 : decode cX12_readLaw 44 = .ok (.aload_n 0, 1) := chk_nth ocX12_readLaw_0 (k := 23) rfl
def tcX12_readLaw_1 : List (Instr × Nat) := [(.iconst 0, 1), (.invokevirtual 167, 3), (.aload_n 0, 1), (.getfield 126, 3), (.ifCond .eq 4, 3), (.return_, 1), (.aload_n 0, 1), (.getfield 24, 3), (.iconst 4, 1), (.iload_n 1, 1), (.iadd, 1), (.iconst 1, 1), (.iastore, 1), (.aload_n 0, 1), (.getfield 24, 3), (.bipush 6, 2), (.iload_n 1, 1), (.iadd, 1), (.iload_n 2, 1), (.iastore, 1), (.aload_n 0, 1), (.getfield 24, 3), (.bipush 8, 2), (.iload_n 1, 1)]
theorem ocX12_readLaw_1 : chk (cX12_readLaw.data.toList.drop 45) tcX12_readLaw_1 = true := by decide +kernel
theorem dX12_readLaw_45 : decode cX12_readLaw 45 = .ok (.iconst 0, 1) := chk_nth ocX12_readLaw_1 (k := 0) rfl
theorem dX12_readLaw_46 : decode cX12_readLaw 46 = .ok (.invokevirtual 167, 3) := chk_nth ocX12_readLaw_1 (k := 1) rfl
theorem dX12_readLaw_49 : decode cX12_readLaw 49 = .ok (.aload_n 0, 1) := chk_nth ocX12_readLaw_1 (k := 2) rfl
theorem dX12_readLaw_50 : decode cX12_readLaw 50 = .ok (.getfield 126, 3) := chk_nth ocX12_readLaw_1 (k := 3) rfl
theorem dX12_readLaw_53 : decode cX12_readLaw 53 = .ok (.ifCond .eq 4, 3) := chk_nth ocX12_readLaw_1 (k := 4) rfl
theorem dX12_readLaw_56 : decode cX12_readLaw 56 = .ok (.return_, 1) := chk_nth ocX12_readLaw_1 (k := 5) rfl
theorem dX12_readLaw_57 : decode cX12_readLaw 57 = .ok (.aload_n 0, 1) := chk_nth ocX12_readLaw_1 (k := 6) rfl
theorem dX12_readLaw_58 : decode cX12_readLaw 58 = .ok (.getfield 24, 3) := chk_nth ocX12_readLaw_1 (k := 7) rfl
theorem dX12_readLaw_61 : decode cX12_readLaw 61 = .ok (.iconst 4, 1) := chk_nth ocX12_readLaw_1 (k := 8) rfl
theorem dX12_readLaw_62 : decode cX12_readLaw 62 = .ok (.iload_n 1, 1) := chk_nth ocX12_readLaw_1 (k := 9) rfl
theorem dX12_readLaw_63 : decode cX12_readLaw 63 = .ok (.iadd, 1) := chk_nth ocX12_readLaw_1 (k := 10) rfl
theorem dX12_readLaw_64 : decode cX12_readLaw 64 = .ok (.iconst 1, 1) := chk_nth ocX12_readLaw_1 (k := 11) rfl
theorem dX12_readLaw_65 : decode cX12_readLaw 65 = .ok (.iastore, 1) := chk_nth ocX12_readLaw_1 (k := 12) rfl
theorem dX12_readLaw_66 : decode cX12_readLaw 66 = .ok (.aload_n 0, 1) := chk_nth ocX12_readLaw_1 (k := 13) rfl
theorem dX12_readLaw_67 : decode cX12_readLaw 67 = .ok (.getfield 24, 3) := chk_nth ocX12_readLaw_1 (k := 14) rfl
theorem dX12_readLaw_70 : decode cX12_readLaw 70 = .ok (.bipush 6, 2) := chk_nth ocX12_readLaw_1 (k := 15) rfl
theorem dX12_readLaw_72 : decode cX12_readLaw 72 = .ok (.iload_n 1, 1) := chk_nth ocX12_readLaw_1 (k := 16) rfl
theorem dX12_readLaw_73 : decode cX12_readLaw 73 = .ok (.iadd, 1) := chk_nth ocX12_readLaw_1 (k := 17) rfl
theorem dX12_readLaw_74 : decode cX12_readLaw 74 = .ok (.iload_n 2, 1) := chk_nth ocX12_readLaw_1 (k := 18) rfl
theorem dX12_readLaw_75 : decode cX12_readLaw 75 = .ok (.iastore, 1) := chk_nth ocX12_readLaw_1 (k := 19) rfl
theorem dX12_readLaw_76 : decode cX12_readLaw 76 = .ok (.aload_n 0, 1) := chk_nth ocX12_readLaw_1 (k := 20) rfl
theorem dX12_readLaw_77 : decode cX12_readLaw 77 = .ok (.getfield 24, 3) := chk_nth ocX12_readLaw_1 (k := 21) rfl
theorem dX12_readLaw_80 : decode cX12_readLaw 80 = .ok (.bipush 8, 2) := chk_nth ocX12_readLaw_1 (k := 22) rfl
theorem dX12_readLaw_82 : decode cX12_readLaw 82 = .ok (.iload_n 1, 1) := chk_nth ocX12_readLaw_1 (k := 23) rfl
def tcX12_readLaw_2 : List (Instr × Nat) := [(.iadd, 1), (.aload_n 0, 1), (.getfield 24, 3), (.sipush 200, 3), (.iaload, 1), (.iload_n 2, 1), (.isub, 1), (.iastore, 1), (.return_, 1)]
theorem ocX12_readLaw_2 : chk (cX12_readLaw.data.toList.drop 83) tcX12_readLaw_2 = true := by decide +kernel
theorem dX12_readLaw_83 : decode cX12_readLaw 83 = .ok (.iadd, 1) := chk_nth ocX12_readLaw_2 (k := 0) rfl
theorem dX12_readLaw_84 : decode cX12_readLaw 84 = .ok (.aload_n 0, 1) := chk_nth ocX12_readLaw_2 (k := 1) rfl
theorem dX12_readLaw_85 : decode cX12_readLaw 85 = .ok (.getfield 24, 3) := chk_nth ocX12_readLaw_2 (k := 2) rfl
theorem dX12_readLaw_88 : decode cX12_readLaw 88 = .ok (.sipush 200, 3) := chk_nth ocX12_readLaw_2 (k := 3) rfl
theorem dX12_readLaw_91 : decode cX12_readLaw 91 = .ok (.iaload, 1) := chk_nth ocX12_readLaw_2 (k := 4) rfl
theorem dX12_readLaw_92 : decode cX12_readLaw 92 = .ok (.iload_n 2, 1) := chk_nth ocX12_readLaw_2 (k := 5) rfl
theorem dX12_readLaw_93 : decode cX12_readLaw 93 = .ok (.isub, 1) := chk_nth ocX12_readLaw_2 (k := 6) rfl
theorem dX12_readLaw_94 : decode cX12_readLaw 94 = .ok (.iastore, 1) := chk_nth ocX12_readLaw_2 (k := 7) rfl
theorem dX12_readLaw_95 : decode cX12_readLaw 95 = .ok (.return_, 1) := chk_nth ocX12_readLaw_2 (k := 8) rfl
def tcX12_readLine_0 : List (Instr × Nat) := [(.aload_n 0, 1), (.getfield 126, 3), (.ifCond .eq 4, 3), (.return_, 1), (.aload_n 0, 1), (.iconst 1, 1), (.invokevirtual 132, 3), (.ifCond .eq 10, 3), (.aload_n 0, 1), (.invokevirtual 189, 3), (.goto 81, 3), (.aload_n 0, 1), (.iconst 5, 1), (.invokevirtual 132, 3), (.ifCond .eq 10, 3), (.aload_n 0, 1), (.invokevirtual 192, 3), (.goto 66, 3), (.aload_n 0, 1), (.bipush 7, 2), (.invokevirtual 161, 3), (.ifCond .eq 20, 3), (.aload_n 0, 1), (.getfield 24, 3)]
theorem ocX12_readLine_0 : chk (cX12_readLine.data.toList.drop 0) tcX12_readLine_0 = true := by decide +kernel
theorem dX12_readLine_0 : decode cX12_readLine 0 = .ok (.aload_n 0, 1) := chk_nth ocX12_readLine_0 (k := 0) rfl
theorem dX12_readLine_1 : decode cX12_readLine 1 = .ok (.getfield 126, 3) := chk_nth ocX12_readLine_0 (k := 1) rfl
theorem dX12_readLine_4 : decode cX12_readLine 4 = .ok (.ifCond .eq 4, 3) := chk_nth ocX12_readLine_0 (k := 2) rfl
theorem dX12_readLine_7 : decode cX12_readLine 7 = .ok (.return_, 1) := chk_nth ocX12_readLine_0 (k := 3) rfl
theorem dX12_readLine_8 : decode cX12_readLine 8 = .ok (.aload_n 0, 1) := chk_nth ocX12_readLine_0 (k := 4) rfl
theorem dX12_readLine_9 : decode cX12_readLine 9 = .ok (.iconst 1, 1) := chk_nth ocX12_readLine_0 (k := 5) rfl
theorem dX12_readLine_10 : decode cX12_readLine 10 = .ok (.invokevirtual 132, 3) := chk_nth ocX12_readLine_0 (k := 6) rfl
theorem dX12_readLine_13 : decode cX12_readLine 13 = .ok (.ifCond .eq 10, 3) := chk_nth ocX12_readLine_0 (k := 7) rfl
theorem dX12_readLine_16 : decode cX12_readLine 16 = .ok (.aload_n 0, 1) := chk_nth ocX12_readLine_0 (k := 8) rfl
theorem dX12_readLine_17 : decode cX12_readLine 17 = .ok (.invokevirtual 189, 3) := chk_nth ocX12_readLine_0 (k := 9) rfl
theorem dX12_readLine_20 : decode cX12_readLine 20 = .ok (.goto 81, 3) := chk_nth ocX12_readLine_0 (k := 10) rfl
theorem dX12_readLine_23 : decode cX12_readLine 23 = .ok (.aload_n 0, 1) := chk_nth ocX12_readLine_0 (k := 11) rfl
theorem dX12_readLine_24 : decode cX12_readLine 24 = .ok (.iconst 5, 1) := chk_nth ocX12_readLine_0 (k := 12) rfl
theorem dX12_readLine_25 : decode cX12_readLine 25 = .ok (.invokevirtual 132, 3) := chk_nth ocX12_readLine_0 (k := 13) rfl
theorem dX12_readLine_28 : decode cX12_readLine 28 = .ok (.ifCond .eq 10, 3) := chk_nth ocX12_readLine_0 (k := 14) rfl
theorem dX12_readLine_31 : decode cX12_readLine 31 = .ok (.aload_n 0, 1) := chk_nth ocX12_readLine_0 (k := 15) rfl
theorem dX12_readLine_32 : decode cX12_readLine 32 = .ok (.invokevirtual 192, 3) := chk_nth ocX12_readLine_0 (k := 16) rfl
theorem dX12_readLine_35 : decode cX12_readLine 35 = .ok (.goto 66, 3) := chk_nth ocX12_readLine_0 (k := 17) rfl
theorem dX12_readLine_38 : decode cX12_readLine 38 = .ok (.aload_n 0, 1) := chk_nth ocX12_readLine_0 (k := 18) rfl
theorem dX12_readLine_39 : decode cX12_readLine 39 = .ok (.bipush 7, 2) := chk_nth ocX12_readLine_0 (k := 19) rfl
theorem dX12_readLine_41 : decode cX12_readLine 41 = .ok (.invokevirtual 161, 3) := chk_nth ocX12_readLine_0 (k := 20) rfl
theorem dX12_readLine_44 : decode cX12_readLine 44 = .ok (.ifCond .eq 20, 3) := chk_nth ocX12_readLine_0 (k := 21) rfl
theorem dX12_readLine_47 : decode cX12_readLine 47 = .ok (.aload_n 0, 1) := chk_nth ocX12_readLine_0 (k := 22) rfl
theorem dX12_readLine_48 : decode cX12_readLine 48 = .ok (.getfield 24, 3) := chk_nth ocX12_readLine_0 (k := 23) rfl
def tcX12_readLine_1 : List (Instr × Nat) := [(.bipush 48, 2), (.aload_n 0, 1), (.iconst 0, 1), (.bipush 9, 2), (.invokevirtual 182, 3), (.iastore, 1), (.goto 40, 3), (.aload_n 0, 1), (.bipush 8, 2), (.invokevirtual 132, 3), (.ifCond .ne 12, 3), (.aload_n 0, 1), (.bipush 9, 2), (.invokevirtual 132, 3), (.ifCond .eq 17, 3), (.aload_n 0, 1), (.aload_n 0, 1), (.getfield 108, 3), (.bipush 8, 2), (.isub, 1), (.invokevirtual 195, 3), (.goto 8, 3), (.aload_n 0, 1), (.iconst 2, 1)]
theorem ocX12_readLine_1 : chk (cX12_readLine.data.toList.drop 51) tcX12_readLine_1 = true := by decide +kernel
theorem dX12_readLine_51 : decode cX12_readLine 51 = .ok (.bipush 48, 2) := chk_nth ocX12_readLine_1 (k := 0) rfl
theorem dX12_readLine_53 : decode cX12_readLine 53 = .ok (.aload_n 0, 1) := chk_nth ocX12_readLine_1 (k := 1) rfl
theorem dX12_readLine_54 : decode cX12_readLine 54 = .ok (.iconst 0, 1) := chk_nth ocX12_readLine_1 (k := 2) rfl
theorem dX12_readLine_55 : decode cX12_readLine 55 = .ok (.bipush 9, 2) := chk_nth ocX12_readLine_1 (k := 3) rfl
theorem dX12_readLine_57 : decode cX12_readLine 57 = .ok (.invokevirtual 182, 3) := chk_nth ocX12_readLine_1 (k := 4) rfl
theorem dX12_readLine_60 : decode cX12_readLine 60 = .ok (.iastore, 1) := chk_nth ocX12_readLine_1 (k := 5) rfl
theorem dX12_readLine_61 : decode cX12_readLine 61 = .ok (.goto 40, 3) := chk_nth ocX12_readLine_1 (k := 6) rfl
theorem dX12_readLine_64 : decode cX12_readLine 64 = .ok (.aload_n 0, 1) := chk_nth ocX12_readLine_1 (k := 7) rfl
theorem dX12_readLine_65 : decode cX12_readLine 65 = .ok (.bipush 8, 2) := chk_nth ocX12_readLine_1 (k := 8) rfl
theorem dX12_readLine_67 : decode cX12_readLine 67 = .ok (.invokevirtual 132, 3) := chk_nth ocX12_readLine_1 (k := 9) rfl
theorem dX12_readLine_70 : decode cX12_readLine 70 = .ok (.ifCond .ne 12, 3) := chk_nth ocX12_readLine_1 (k := 10) rfl
theorem dX12_readLine_73 : decode cX12_readLine 73 = .ok (.aload_n 0, 1) := chk_nth ocX12_readLine_1 (k := 11) rfl
theorem dX12_readLine_74 : decode cX12_readLine 74 = .ok (.bipush 9, 2) := chk_nth ocX12_readLine_1 (k := 12) rfl
theorem dX12_readLine_76 : decode cX12_readLine 76 = .ok (.invokevirtual 132, 3) := chk_nth ocX12_readLine_1 (k := 13) rfl
theorem dX12_readLine_79 : decode cX12_readLine 79 = .ok (.ifCond .eq 17, 3) := chk_nth ocX12_readLine_1 (k := 14) rfl
theorem dX12_readLine_82 : decode cX12_readLine 82 = .ok (.aload_n 0, 1) := chk_nth ocX12_readLine_1 (k := 15) rfl
theorem dX12_readLine_83 : decode cX12_readLine 83 = .ok (.aload_n 0, 1) := chk_nth ocX12_readLine_1 (k := 16) rfl
theorem dX12_readLine_84 : decode cX12_readLine 84 = .ok (.getfield 108, 3) := chk_nth ocX12_readLine_1 (k := 17) rfl
theorem dX12_readLine_87 : decode cX12_readLine 87 = .ok (.bipush 8, 2) := chk_nth ocX12_readLine_1 (k := 18) rfl
theorem dX12_readLine_89 : decode cX12_readLine 89 = .ok (.isub, 1) := chk_nth ocX12_readLine_1 (k := 19) rfl
theorem dX12_readLine_90 : decode cX12_readLine 90 = .ok (.invokevirtual 195, 3) := chk_nth ocX12_readLine_1 (k := 20) rfl
theorem dX12_readLine_93 : decode cX12_readLine 93 = .ok (.goto 8, 3) := chk_nth ocX12_readLine_1 (k := 21) rfl
theorem dX12_readLine_96 : decode cX12_readLine 96 = .ok (.aload_n 0, 1) := chk_nth ocX12_readLine_1 (k := 22) rfl
theorem dX12_readLine_97 : decode cX12_readLine 97 = .ok (.iconst 2, 1) := chk_nth ocX12_readLine_1 (k := 23) rfl
def tcX12_readLine_2 : List (Instr × Nat) := [(.invokevirtual 138, 3), (.return_, 1)]
theorem ocX12_readLine_2 : chk (cX12_readLine.data.toList.drop 98) tcX12_readLine_2 = true := by decide +kernel
theorem dX12_readLine_98 : decode cX12_readLine 98 = .ok (.invokevirtual 138, 3) := chk_nth ocX12_readLine_2 (k := 0) rfl
theorem dX12_readLine_101 : decode cX12_readLine 101 = .ok (.return_, 1) := chk_nth ocX12_readLine_2 (k := 1) rfl
def tcX12_ends_0 : List (Instr × Nat) := [(.aload_n 0, 1), (.bipush 30, 2), (.invokevirtual 161, 3), (.ifCond .ne 8, 3), (.aload_n 0, 1), (.iconst 2, 1), (.invokevirtual 138, 3), (.aload_n 0, 1), (.getfield 24, 3), (.iconst 0, 1), (.dup2, 1), (.iaload, 1), (.iconst 1, 1), (.iadd, 1), (.iastore, 1), (.return_, 1)]
theorem ocX12_ends_0 : chk (cX12_ends.data.toList.drop 0) tcX12_ends_0 = true := by decide +kernel
theorem dX12_ends_0 : decode cX12_ends 0 = .ok (.aload_n 0, 1) := chk_nth ocX12_ends_0 (k := 0) rfl
theorem dX12_ends_1 : decode cX12_ends 1 = .ok (.bipush 30, 2) := chk_nth ocX12_ends_0 (k := 1) rfl
theorem dX12_ends_3 : decode cX12_ends 3 = .ok (.invokevirtual 161, 3) := chk_nth ocX12_ends_0 (k := 2) rfl
theorem dX12_ends_6 : decode cX12_ends 6 = .ok (.ifCond .ne 8, 3) := chk_nth ocX12_ends_0 (k := 3) rfl
theorem dX12_ends_9 : decode cX12_ends 9 = .ok (.aload_n 0, 1) := chk_nth ocX12_ends_0 (k := 4) rfl
theorem dX12_ends_10 : decode cX12_ends 10 = .ok (.iconst 2, 1) := chk_nth ocX12_ends_0 (k := 5) rfl
theorem dX12_ends_11 : decode cX12_ends 11 = .ok (.invokevirtual 138, 3) := chk_nth ocX12_ends_0 (k := 6) rfl
theorem dX12_ends_14 : decode cX12_ends 14 = .ok (.aload_n 0, 1) := chk_nth ocX12_ends_0 (k := 7) rfl
theorem dX12_ends_15 : decode cX12_ends 15 = .ok (.getfield 24, 3) := chk_nth ocX12_ends_0 (k := 8) rfl
theorem dX12_ends_18 : decode cX12_ends 18 = .ok (.iconst 0, 1) := chk_nth ocX12_ends_0 (k := 9) rfl
theorem dX12_ends_19 : decode cX12_ends 19 = .ok (.dup2, 1) := chk_nth ocX12_ends_0 (k := 10) rfl
theorem dX12_ends_20 : decode cX12_ends 20 = .ok (.iaload, 1) := chk_nth ocX12_ends_0 (k := 11) rfl
theorem dX12_ends_21 : decode cX12_ends 21 = .ok (.iconst 1, 1) := chk_nth ocX12_ends_0 (k := 12) rfl
theorem dX12_ends_22 : decode cX12_ends 22 = .ok (.iadd, 1) := chk_nth ocX12_ends_0 (k := 13) rfl
theorem dX12_ends_23 : decode cX12_ends 23 = .ok (.iastore, 1) := chk_nth ocX12_ends_0 (k := 14) rfl
theorem dX12_ends_24 : decode cX12_ends 24 = .ok (.return_, 1) := chk_nth ocX12_ends_0 (k := 15) rfl
def tcX12_town_0 : List (Instr × Nat) := [(.aload_n 0, 1), (.iconst 0, 1), (.putfield 1, 3), (.iload_n 1, 1), (.i2l, 1), (.lconst 0, 1), (.aload_n 0, 1), (.getfield 80, 3), (.i2l, 1), (.invokestatic 142, 3), (.ifCond .ne 6, 3), (.bipush (-3), 2), (.ireturn, 1), (.aload_n 0, 1), (.iload_n 1, 1), (.putfield 83, 3), (.aload_n 0, 1), (.iconst 0, 1), (.putfield 80, 3), (.aload_n 0, 1), (.iconst 0, 1), (.putfield 101, 3), (.aload_n 0, 1), (.iconst 0, 1)]
theorem ocX12_town_0 : chk (cX12_town.data.toList.drop 0) tcX12_town_0 = true := by decide +kernel
theorem dX12_town_0 : decode cX12_town 0 = .ok (.aload_n 0, 1) := chk_nth ocX12_town_0 (k := 0) rfl
theorem dX12_town_1 : decode cX12_town 1 = .ok (.iconst 0, 1) := chk_nth ocX12_town_0 (k := 1) rfl
theorem dX12_town_2 : decode cX12_town 2 = .ok (.putfield 1, 3) := chk_nth ocX12_town_0 (k := 2) rfl
theorem dX12_town_5 : decode cX12_town 5 = .ok (.iload_n 1, 1) := chk_nth ocX12_town_0 (k := 3) rfl
theorem dX12_town_6 : decode cX12_town 6 = .ok (.i2l, 1) := chk_nth ocX12_town_0 (k := 4) rfl
theorem dX12_town_7 : decode cX12_town 7 = .ok (.lconst 0, 1) := chk_nth ocX12_town_0 (k := 5) rfl
theorem dX12_town_8 : decode cX12_town 8 = .ok (.aload_n 0, 1) := chk_nth ocX12_town_0 (k := 6) rfl
theorem dX12_town_9 : decode cX12_town 9 = .ok (.getfield 80, 3) := chk_nth ocX12_town_0 (k := 7) rfl
theorem dX12_town_12 : decode cX12_town 12 = .ok (.i2l, 1) := chk_nth ocX12_town_0 (k := 8) rfl
theorem dX12_town_13 : decode cX12_town 13 = .ok (.invokestatic 142, 3) := chk_nth ocX12_town_0 (k := 9) rfl
theorem dX12_town_16 : decode cX12_town 16 = .ok (.ifCond .ne 6, 3) := chk_nth ocX12_town_0 (k := 10) rfl
theorem dX12_town_19 : decode cX12_town 19 = .ok (.bipush (-3), 2) := chk_nth ocX12_town_0 (k := 11) rfl
theorem dX12_town_21 : decode cX12_town 21 = .ok (.ireturn, 1) := chk_nth ocX12_town_0 (k := 12) rfl
theorem dX12_town_22 : decode cX12_town 22 = .ok (.aload_n 0, 1) := chk_nth ocX12_town_0 (k := 13) rfl
theorem dX12_town_23 : decode cX12_town 23 = .ok (.iload_n 1, 1) := chk_nth ocX12_town_0 (k := 14) rfl
theorem dX12_town_24 : decode cX12_town 24 = .ok (.putfield 83, 3) := chk_nth ocX12_town_0 (k := 15) rfl
theorem dX12_town_27 : decode cX12_town 27 = .ok (.aload_n 0, 1) := chk_nth ocX12_town_0 (k := 16) rfl
theorem dX12_town_28 : decode cX12_town 28 = .ok (.iconst 0, 1) := chk_nth ocX12_town_0 (k := 17) rfl
theorem dX12_town_29 : decode cX12_town 29 = .ok (.putfield 80, 3) := chk_nth ocX12_town_0 (k := 18) rfl
theorem dX12_town_32 : decode cX12_town 32 = .ok (.aload_n 0, 1) := chk_nth ocX12_town_0 (k := 19) rfl
theorem dX12_town_33 : decode cX12_town 33 = .ok (.iconst 0, 1) := chk_nth ocX12_town_0 (k := 20) rfl
theorem dX12_town_34 : decode cX12_town 34 = .ok (.putfield 101, 3) := chk_nth ocX12_town_0 (k := 21) rfl
theorem dX12_town_37 : decode cX12_town 37 = .ok (.aload_n 0, 1) := chk_nth ocX12_town_0 (k := 22) rfl
theorem dX12_town_38 : decode cX12_town 38 = .ok (.iconst 0, 1) := chk_nth ocX12_town_0 (k := 23) rfl
def tcX12_town_1 : List (Instr × Nat) := [(.putfield 126, 3), (.aload_n 0, 1), (.getfield 24, 3), (.invokestatic 76, 3), (.aload_n 0, 1), (.invokevirtual 135, 3), (.aload_n 0, 1), (.iconst 0, 1), (.invokevirtual 161, 3), (.ifCond .ne 8, 3), (.aload_n 0, 1), (.iconst 2, 1), (.invokevirtual 138, 3), (.aload_n 0, 1), (.getfield 24, 3), (.iconst 1, 1), (.aload_n 0, 1), (.iconst 1, 1), (.bipush 6, 2), (.invokevirtual 182, 3), (.iastore, 1), (.aload_n 0, 1), (.invokevirtual 198, 3), (.aload_n 0, 1)]
theorem ocX12_town_1 : chk (cX12_town.data.toList.drop 39) tcX12_town_1 = true := by decide +kernel
theorem dX12_town_39 : decode cX12_town 39 = .ok (.putfield 126, 3) := chk_nth ocX12_town_1 (k := 0) rfl
theorem dX12_town_42 : decode cX12_town 42 = .ok (.aload_n 0, 1) := chk_nth ocX12_town_1 (k := 1) rfl
theorem dX12_town_43 : decode cX12_town 43 = .ok (.getfield 24, 3) := chk_nth ocX12_town_1 (k := 2) rfl
theorem dX12_town_46 : decode cX12_town 46 = .ok (.invokestatic 76, 3) := chk_nth ocX12_town_1 (k := 3) rfl
theorem dX12_town_49 : decode cX12_town 49 = .ok (.aload_n 0, 1) := chk_nth ocX12_town_1 (k := 4) rfl
theorem dX12_town_50 : decode cX12_town 50 = .ok (.invokevirtual 135, 3) := chk_nth ocX12_town_1 (k := 5) rfl
theorem dX12_town_53 : decode cX12_town 53 = .ok (.aload_n 0, 1) := chk_nth ocX12_town_1 (k := 6) rfl
theorem dX12_town_54 : decode cX12_town 54 = .ok (.iconst 0, 1) := chk_nth ocX12_town_1 (k := 7) rfl
theorem dX12_town_55 : decode cX12_town 55 = .ok (.invokevirtual 161, 3) := chk_nth ocX12_town_1 (k := 8) rfl
theorem dX12_town_58 : decode cX12_town 58 = .ok (.ifCond .ne 8, 3) := chk_nth ocX12_town_1 (k := 9) rfl
theorem dX12_town_61 : decode cX12_town 61 = .ok (.aload_n 0, 1) := chk_nth ocX12_town_1 (k := 10) rfl
theorem dX12_town_62 : decode cX12_town 62 = .ok (.iconst 2, 1) := chk_nth ocX12_town_1 (k := 11) rfl
theorem dX12_town_63 : decode cX12_town 63 = .ok (.invokevirtual 138, 3) := chk_nth ocX12_town_1 (k := 12) rfl
theorem dX12_town_66 : decode cX12_town 66 = .ok (.aload_n 0, 1) := chk_nth ocX12_town_1 (k := 13) rfl
theorem dX12_town_67 : decode cX12_town 67 = .ok (.getfield 24, 3) := chk_nth ocX12_town_1 (k := 14) rfl
theorem dX12_town_70 : decode cX12_town 70 = .ok (.iconst 1, 1) := chk_nth ocX12_town_1 (k := 15) rfl
theorem dX12_town_71 : decode cX12_town 71 = .ok (.aload_n 0, 1) := chk_nth ocX12_town_1 (k := 16) rfl
theorem dX12_town_72 : decode cX12_town 72 = .ok (.iconst 1, 1) := chk_nth ocX12_town_1 (k := 17) rfl
theorem dX12_town_73 : decode cX12_town 73 = .ok (.bipush 6, 2) := chk_nth ocX12_town_1 (k := 18) rfl
theorem dX12_town_75 : decode cX12_town 75 = .ok (.invokevirtual 182, 3) := chk_nth ocX12_town_1 (k := 19) rfl
theorem dX12_town_78 : decode cX12_town 78 = .ok (.iastore, 1) := chk_nth ocX12_town_1 (k := 20) rfl
theorem dX12_town_79 : decode cX12_town 79 = .ok (.aload_n 0, 1) := chk_nth ocX12_town_1 (k := 21) rfl
theorem dX12_town_80 : decode cX12_town 80 = .ok (.invokevirtual 198, 3) := chk_nth ocX12_town_1 (k := 22) rfl
theorem dX12_town_83 : decode cX12_town 83 = .ok (.aload_n 0, 1) := chk_nth ocX12_town_1 (k := 23) rfl
def tcX12_town_2 : List (Instr × Nat) := [(.getfield 126, 3), (.ifCond .ne 23, 3), (.aload_n 0, 1), (.getfield 108, 3), (.bipush 24, 2), (.if_icmp .eq 14, 3), (.aload_n 0, 1), (.invokevirtual 201, 3), (.aload_n 0, 1), (.invokevirtual 198, 3), (.goto (-24), 3), (.aload_n 0, 1), (.aload_n 0, 1), (.getfield 126, 3), (.putfield 204, 3), (.aload_n 0, 1), (.aload_n 0, 1), (.getfield 126, 3), (.ifCond .ne 7, 3), (.iconst (-1), 1), (.goto 7, 3), (.aload_n 0, 1), (.getfield 129, 3), (.putfield 27, 3)]
theorem ocX12_town_2 : chk (cX12_town.data.toList.drop 84) tcX12_town_2 = true := by decide +kernel
theorem dX12_town_84 : decode cX12_town 84 = .ok (.getfield 126, 3) := chk_nth ocX12_town_2 (k := 0) rfl
theorem dX12_town_87 : decode cX12_town 87 = .ok (.ifCond .ne 23, 3) := chk_nth ocX12_town_2 (k := 1) rfl
theorem dX12_town_90 : decode cX12_town 90 = .ok (.aload_n 0, 1) := chk_nth ocX12_town_2 (k := 2) rfl
theorem dX12_town_91 : decode cX12_town 91 = .ok (.getfield 108, 3) := chk_nth ocX12_town_2 (k := 3) rfl
theorem dX12_town_94 : decode cX12_town 94 = .ok (.bipush 24, 2) := chk_nth ocX12_town_2 (k := 4) rfl
theorem dX12_town_96 : decode cX12_town 96 = .ok (.if_icmp .eq 14, 3) := chk_nth ocX12_town_2 (k := 5) rfl
theorem dX12_town_99 : decode cX12_town 99 = .ok (.aload_n 0, 1) := chk_nth ocX12_town_2 (k := 6) rfl
theorem dX12_town_100 : decode cX12_town 100 = .ok (.invokevirtual 201, 3) := chk_nth ocX12_town_2 (k := 7) rfl
theorem dX12_town_103 : decode cX12_town 103 = .ok (.aload_n 0, 1) := chk_nth ocX12_town_2 (k := 8) rfl
theorem dX12_town_104 : decode cX12_town 104 = .ok (.invokevirtual 198, 3) := chk_nth ocX12_town_2 (k := 9) rfl
theorem dX12_town_107 : decode cX12_town 107 = .ok (.goto (-24), 3) := chk_nth ocX12_town_2 (k := 10) rfl
theorem dX12_town_110 : decode cX12_town 110 = .ok (.aload_n 0, 1) := chk_nth ocX12_town_2 (k := 11) rfl
theorem dX12_town_111 : decode cX12_town 111 = .ok (.aload_n 0, 1) := chk_nth ocX12_town_2 (k := 12) rfl
theorem dX12_town_112 : decode cX12_town 112 = .ok (.getfield 126, 3) := chk_nth ocX12_town_2 (k := 13) rfl
theorem dX12_town_115 : decode cX12_town 115 = .ok (.putfield 204, 3) := chk_nth ocX12_town_2 (k := 14) rfl
theorem dX12_town_118 : decode cX12_town 118 = .ok (.aload_n 0, 1) := chk_nth ocX12_town_2 (k := 15) rfl
theorem dX12_town_119 : decode cX12_town 119 = .ok (.aload_n 0, 1) := chk_nth ocX12_town_2 (k := 16) rfl
theorem dX12_town_120 : decode cX12_town 120 = .ok (.getfield 126, 3) := chk_nth ocX12_town_2 (k := 17) rfl
theorem dX12_town_123 : decode cX12_town 123 = .ok (.ifCond .ne 7, 3) := chk_nth ocX12_town_2 (k := 18) rfl
theorem dX12_town_126 : decode cX12_town 126 = .ok (.iconst (-1), 1) := chk_nth ocX12_town_2 (k := 19) rfl
theorem dX12_town_127 : decode cX12_town 127 = .ok (.goto 7, 3) := chk_nth ocX12_town_2 (k := 20) rfl
theorem dX12_town_130 : decode cX12_town 130 = .ok (.aload_n 0, 1) := chk_nth ocX12_town_2 (k := 21) rfl
theorem dX12_town_131 : decode cX12_town 131 = .ok (.getfield 129, 3) := chk_nth ocX12_town_2 (k := 22) rfl
theorem dX12_town_134 : decode cX12_town 134 = .ok (.putfield 27, 3) := chk_nth ocX12_town_2 (k := 23) rfl
def tcX12_town_3 : List (Instr × Nat) := [(.aload_n 0, 1), (.getfield 126, 3), (.ifCond .eq 11, 3), (.bipush (-30), 2), (.aload_n 0, 1), (.getfield 126, 3), (.isub, 1), (.ireturn, 1), (.iconst 0, 1), (.istore_n 2, 1), (.iload_n 2, 1), (.sipush 1101, 3), (.if_icmp .ge 21, 3), (.aload_n 0, 1), (.getfield 13, 3), (.iload_n 2, 1), (.aload_n 0, 1), (.getfield 24, 3), (.iload_n 2, 1), (.iaload, 1), (.iastore, 1), (.iinc 2 1, 3), (.goto (-22), 3), (.aload_n 0, 1)]
theorem ocX12_town_3 : chk (cX12_town.data.toList.drop 137) tcX12_town_3 = true := by decide +kernel
theorem dX12_town_137 : decode cX12_town 137 = .ok (.aload_n 0, 1) := chk_nth ocX12_town_3 (k := 0) rfl
theorem dX12_town_138 : decode cX12_town 138 = .ok (.getfield 126, 3) := chk_nth ocX12_town_3 (k := 1) rfl
theorem dX12_town_141 : decode cX12_town 141 = .ok (.ifCond .eq 11, 3) := chk_nth ocX12_town_3 (k := 2) rfl
theorem dX12_town_144 : decode cX12_town 144 = .ok (.bipush (-30), 2) := chk_nth ocX12_town_3 (k := 3) rfl
theorem dX12_town_146 : decode cX12_town 146 = .ok (.aload_n 0, 1) := chk_nth ocX12_town_3 (k := 4) rfl
theorem dX12_town_147 : decode cX12_town 147 = .ok (.getfield 126, 3) := chk_nth ocX12_town_3 (k := 5) rfl
theorem dX12_town_150 : decode cX12_town 150 = .ok (.isub, 1) := chk_nth ocX12_town_3 (k := 6) rfl
theorem dX12_town_151 : decode cX12_town 151 = .ok (.ireturn, 1) := chk_nth ocX12_town_3 (k := 7) rfl
theorem dX12_town_152 : decode cX12_town 152 = .ok (.iconst 0, 1) := chk_nth ocX12_town_3 (k := 8) rfl
theorem dX12_town_153 : decode cX12_town 153 = .ok (.istore_n 2, 1) := chk_nth ocX12_town_3 (k := 9) rfl
theorem dX12_town_154 : decode cX12_town 154 = .ok (.iload_n 2, 1) := chk_nth ocX12_town_3 (k := 10) rfl
theorem dX12_town_155 : decode cX12_town 155 = .ok (.sipush 1101, 3) := chk_nth ocX12_town_3 (k := 11) rfl
theorem dX12_town_158 : decode cX12_town 158 = .ok (.if_icmp .ge 21, 3) := chk_nth ocX12_town_3 (k := 12) rfl
theorem dX12_town_161 : decode cX12_town 161 = .ok (.aload_n 0, 1) := chk_nth ocX12_town_3 (k := 13) rfl
theorem dX12_town_162 : decode cX12_town 162 = .ok (.getfield 13, 3) := chk_nth ocX12_town_3 (k := 14) rfl
theorem dX12_town_165 : decode cX12_town 165 = .ok (.iload_n 2, 1) := chk_nth ocX12_town_3 (k := 15) rfl
theorem dX12_town_166 : decode cX12_town 166 = .ok (.aload_n 0, 1) := chk_nth ocX12_town_3 (k := 16) rfl
theorem dX12_town_167 : decode cX12_town 167 = .ok (.getfield 24, 3) := chk_nth ocX12_town_3 (k := 17) rfl
theorem dX12_town_170 : decode cX12_town 170 = .ok (.iload_n 2, 1) := chk_nth ocX12_town_3 (k := 18) rfl
theorem dX12_town_171 : decode cX12_town 171 = .ok (.iaload, 1) := chk_nth ocX12_town_3 (k := 19) rfl
theorem dX12_town_172 : decode cX12_town 172 = .ok (.iastore, 1) := chk_nth ocX12_town_3 (k := 20) rfl
theorem dX12_town_173 : decode cX12_town 173 = .ok (.iinc 2 1, 3) := chk_nth ocX12_town_3 (k := 21) rfl
theorem dX12_town_176 : decode cX12_town 176 = .ok (.goto (-22), 3) := chk_nth ocX12_town_3 (k := 22) rfl
theorem dX12_town_179 : decode cX12_town 179 = .ok (.aload_n 0, 1) := chk_nth ocX12_town_3 (k := 23) rfl
def tcX12_town_4 : List (Instr × Nat) := [(.getfield 13, 3), (.iconst 0, 1), (.iaload, 1), (.ireturn, 1)]
theorem ocX12_town_4 : chk (cX12_town.data.toList.drop 180) tcX12_town_4 = true := by decide +kernel
theorem dX12_town_180 : decode cX12_town 180 = .ok (.getfield 13, 3) := chk_nth ocX12_town_4 (k := 0) rfl
theorem dX12_town_183 : decode cX12_town 183 = .ok (.iconst 0, 1) := chk_nth ocX12_town_4 (k := 1) rfl
theorem dX12_town_184 : decode cX12_town 184 = .ok (.iaload, 1) := chk_nth ocX12_town_4 (k := 2) rfl
theorem dX12_town_185 : decode cX12_town 185 = .ok (.ireturn, 1) := chk_nth ocX12_town_4 (k := 3) rfl
def tcX12_fault_0 : List (Instr × Nat) := [(.aload_n 0, 1), (.iconst 0, 1), (.putfield 1, 3), (.iload_n 1, 1), (.ifCond .ne 10, 3), (.aload_n 0, 1), (.getfield 204, 3), (.goto 16, 3), (.iload_n 1, 1), (.iconst 1, 1), (.if_icmp .ne 10, 3), (.aload_n 0, 1), (.getfield 27, 3), (.goto 4, 3), (.iconst (-1), 1), (.ireturn, 1)]
theorem ocX12_fault_0 : chk (cX12_fault.data.toList.drop 0) tcX12_fault_0 = true := by decide +kernel
theorem dX12_fault_0 : decode cX12_fault 0 = .ok (.aload_n 0, 1) := chk_nth ocX12_fault_0 (k := 0) rfl
theorem dX12_fault_1 : decode cX12_fault 1 = .ok (.iconst 0, 1) := chk_nth ocX12_fault_0 (k := 1) rfl
theorem dX12_fault_2 : decode cX12_fault 2 = .ok (.putfield 1, 3) := chk_nth ocX12_fault_0 (k := 2) rfl
theorem dX12_fault_5 : decode cX12_fault 5 = .ok (.iload_n 1, 1) := chk_nth ocX12_fault_0 (k := 3) rfl
theorem dX12_fault_6 : decode cX12_fault 6 = .ok (.ifCond .ne 10, 3) := chk_nth ocX12_fault_0 (k := 4) rfl
theorem dX12_fault_9 : decode cX12_fault 9 = .ok (.aload_n 0, 1) := chk_nth ocX12_fault_0 (k := 5) rfl
theorem dX12_fault_10 : decode cX12_fault 10 = .ok (.getfield 204, 3) := chk_nth ocX12_fault_0 (k := 6) rfl
theorem dX12_fault_13 : decode cX12_fault 13 = .ok (.goto 16, 3) := chk_nth ocX12_fault_0 (k := 7) rfl
theorem dX12_fault_16 : decode cX12_fault 16 = .ok (.iload_n 1, 1) := chk_nth ocX12_fault_0 (k := 8) rfl
theorem dX12_fault_17 : decode cX12_fault 17 = .ok (.iconst 1, 1) := chk_nth ocX12_fault_0 (k := 9) rfl
theorem dX12_fault_18 : decode cX12_fault 18 = .ok (.if_icmp .ne 10, 3) := chk_nth ocX12_fault_0 (k := 10) rfl
theorem dX12_fault_21 : decode cX12_fault 21 = .ok (.aload_n 0, 1) := chk_nth ocX12_fault_0 (k := 11) rfl
theorem dX12_fault_22 : decode cX12_fault 22 = .ok (.getfield 27, 3) := chk_nth ocX12_fault_0 (k := 12) rfl
theorem dX12_fault_25 : decode cX12_fault 25 = .ok (.goto 4, 3) := chk_nth ocX12_fault_0 (k := 13) rfl
theorem dX12_fault_28 : decode cX12_fault 28 = .ok (.iconst (-1), 1) := chk_nth ocX12_fault_0 (k := 14) rfl
theorem dX12_fault_29 : decode cX12_fault 29 = .ok (.ireturn, 1) := chk_nth ocX12_fault_0 (k := 15) rfl
def tcX12_isCorner_0 : List (Instr × Nat) := [(.lload_n 1, 1), (.lconst 0, 1), (.aload_n 0, 1), (.getfield 13, 3), (.iconst 1, 1), (.iaload, 1), (.iconst 1, 1), (.isub, 1), (.i2l, 1), (.invokestatic 142, 3), (.ireturn, 1)]
theorem ocX12_isCorner_0 : chk (cX12_isCorner.data.toList.drop 0) tcX12_isCorner_0 = true := by decide +kernel
theorem dX12_isCorner_0 : decode cX12_isCorner 0 = .ok (.lload_n 1, 1) := chk_nth ocX12_isCorner_0 (k := 0) rfl
theorem dX12_isCorner_1 : decode cX12_isCorner 1 = .ok (.lconst 0, 1) := chk_nth ocX12_isCorner_0 (k := 1) rfl
theorem dX12_isCorner_2 : decode cX12_isCorner 2 = .ok (.aload_n 0, 1) := chk_nth ocX12_isCorner_0 (k := 2) rfl
theorem dX12_isCorner_3 : decode cX12_isCorner 3 = .ok (.getfield 13, 3) := chk_nth ocX12_isCorner_0 (k := 3) rfl
theorem dX12_isCorner_6 : decode cX12_isCorner 6 = .ok (.iconst 1, 1) := chk_nth ocX12_isCorner_0 (k := 4) rfl
theorem dX12_isCorner_7 : decode cX12_isCorner 7 = .ok (.iaload, 1) := chk_nth ocX12_isCorner_0 (k := 5) rfl
theorem dX12_isCorner_8 : decode cX12_isCorner 8 = .ok (.iconst 1, 1) := chk_nth ocX12_isCorner_0 (k := 6) rfl
theorem dX12_isCorner_9 : decode cX12_isCorner 9 = .ok (.isub, 1) := chk_nth ocX12_isCorner_0 (k := 7) rfl
theorem dX12_isCorner_10 : decode cX12_isCorner 10 = .ok (.i2l, 1) := chk_nth ocX12_isCorner_0 (k := 8) rfl
theorem dX12_isCorner_11 : decode cX12_isCorner 11 = .ok (.invokestatic 142, 3) := chk_nth ocX12_isCorner_0 (k := 9) rfl
theorem dX12_isCorner_14 : decode cX12_isCorner 14 = .ok (.ireturn, 1) := chk_nth ocX12_isCorner_0 (k := 10) rfl
def tcX12_isStreet_0 : List (Instr × Nat) := [(.lload_n 1, 1), (.lconst 0, 1), (.aload_n 0, 1), (.getfield 13, 3), (.iconst 2, 1), (.iaload, 1), (.iconst 1, 1), (.isub, 1), (.i2l, 1), (.invokestatic 142, 3), (.ireturn, 1)]
theorem ocX12_isStreet_0 : chk (cX12_isStreet.data.toList.drop 0) tcX12_isStreet_0 = true := by decide +kernel
theorem dX12_isStreet_0 : decode cX12_isStreet 0 = .ok (.lload_n 1, 1) := chk_nth ocX12_isStreet_0 (k := 0) rfl
theorem dX12_isStreet_1 : decode cX12_isStreet 1 = .ok (.lconst 0, 1) := chk_nth ocX12_isStreet_0 (k := 1) rfl
theorem dX12_isStreet_2 : decode cX12_isStreet 2 = .ok (.aload_n 0, 1) := chk_nth ocX12_isStreet_0 (k := 2) rfl
theorem dX12_isStreet_3 : decode cX12_isStreet 3 = .ok (.getfield 13, 3) := chk_nth ocX12_isStreet_0 (k := 3) rfl
theorem dX12_isStreet_6 : decode cX12_isStreet 6 = .ok (.iconst 2, 1) := chk_nth ocX12_isStreet_0 (k := 4) rfl
theorem dX12_isStreet_7 : decode cX12_isStreet 7 = .ok (.iaload, 1) := chk_nth ocX12_isStreet_0 (k := 5) rfl
theorem dX12_isStreet_8 : decode cX12_isStreet 8 = .ok (.iconst 1, 1) := chk_nth ocX12_isStreet_0 (k := 6) rfl
theorem dX12_isStreet_9 : decode cX12_isStreet 9 = .ok (.isub, 1) := chk_nth ocX12_isStreet_0 (k := 7) rfl
theorem dX12_isStreet_10 : decode cX12_isStreet 10 = .ok (.i2l, 1) := chk_nth ocX12_isStreet_0 (k := 8) rfl
theorem dX12_isStreet_11 : decode cX12_isStreet 11 = .ok (.invokestatic 142, 3) := chk_nth ocX12_isStreet_0 (k := 9) rfl
theorem dX12_isStreet_14 : decode cX12_isStreet 14 = .ok (.ireturn, 1) := chk_nth ocX12_isStreet_0 (k := 10) rfl
def tcX12_isGoer_0 : List (Instr × Nat) := [(.lload_n 1, 1), (.lconst 0, 1), (.aload_n 0, 1), (.getfield 13, 3), (.iconst 3, 1), (.iaload, 1), (.iconst 1, 1), (.isub, 1), (.i2l, 1), (.invokestatic 142, 3), (.ireturn, 1)]
theorem ocX12_isGoer_0 : chk (cX12_isGoer.data.toList.drop 0) tcX12_isGoer_0 = true := by decide +kernel
theorem dX12_isGoer_0 : decode cX12_isGoer 0 = .ok (.lload_n 1, 1) := chk_nth ocX12_isGoer_0 (k := 0) rfl
theorem dX12_isGoer_1 : decode cX12_isGoer 1 = .ok (.lconst 0, 1) := chk_nth ocX12_isGoer_0 (k := 1) rfl
theorem dX12_isGoer_2 : decode cX12_isGoer 2 = .ok (.aload_n 0, 1) := chk_nth ocX12_isGoer_0 (k := 2) rfl
theorem dX12_isGoer_3 : decode cX12_isGoer 3 = .ok (.getfield 13, 3) := chk_nth ocX12_isGoer_0 (k := 3) rfl
theorem dX12_isGoer_6 : decode cX12_isGoer 6 = .ok (.iconst 3, 1) := chk_nth ocX12_isGoer_0 (k := 4) rfl
theorem dX12_isGoer_7 : decode cX12_isGoer 7 = .ok (.iaload, 1) := chk_nth ocX12_isGoer_0 (k := 5) rfl
theorem dX12_isGoer_8 : decode cX12_isGoer 8 = .ok (.iconst 1, 1) := chk_nth ocX12_isGoer_0 (k := 6) rfl
theorem dX12_isGoer_9 : decode cX12_isGoer 9 = .ok (.isub, 1) := chk_nth ocX12_isGoer_0 (k := 7) rfl
theorem dX12_isGoer_10 : decode cX12_isGoer 10 = .ok (.i2l, 1) := chk_nth ocX12_isGoer_0 (k := 8) rfl
theorem dX12_isGoer_11 : decode cX12_isGoer 11 = .ok (.invokestatic 142, 3) := chk_nth ocX12_isGoer_0 (k := 9) rfl
theorem dX12_isGoer_14 : decode cX12_isGoer 14 = .ok (.ireturn, 1) := chk_nth ocX12_isGoer_0 (k := 10) rfl
def tcX12_isYear_0 : List (Instr × Nat) := [(.lload_n 0, 1), (.lconst 0, 1), (.ldc2_w 207, 3), (.invokestatic 142, 3), (.ireturn, 1)]
theorem ocX12_isYear_0 : chk (cX12_isYear.data.toList.drop 0) tcX12_isYear_0 = true := by decide +kernel
theorem dX12_isYear_0 : decode cX12_isYear 0 = .ok (.lload_n 0, 1) := chk_nth ocX12_isYear_0 (k := 0) rfl
theorem dX12_isYear_1 : decode cX12_isYear 1 = .ok (.lconst 0, 1) := chk_nth ocX12_isYear_0 (k := 1) rfl
theorem dX12_isYear_2 : decode cX12_isYear 2 = .ok (.ldc2_w 207, 3) := chk_nth ocX12_isYear_0 (k := 2) rfl
theorem dX12_isYear_5 : decode cX12_isYear 5 = .ok (.invokestatic 142, 3) := chk_nth ocX12_isYear_0 (k := 3) rfl
theorem dX12_isYear_8 : decode cX12_isYear 8 = .ok (.ireturn, 1) := chk_nth ocX12_isYear_0 (k := 4) rfl
def tcX12_bitsOf_0 : List (Instr × Nat) := [(.iconst 0, 1), (.istore_n 1, 1), (.iconst 0, 1), (.istore_n 2, 1), (.iload_n 2, 1), (.bipush 20, 2), (.if_icmp .ge 17, 3), (.iload_n 1, 1), (.iload_n 0, 1), (.iload_n 2, 1), (.ishr, 1), (.iconst 1, 1), (.iand, 1), (.iadd, 1), (.istore_n 1, 1), (.iinc 2 1, 3), (.goto (-17), 3), (.iload_n 1, 1), (.ireturn, 1)]
theorem ocX12_bitsOf_0 : chk (cX12_bitsOf.data.toList.drop 0) tcX12_bitsOf_0 = true := by decide +kernel
theorem dX12_bitsOf_0 : decode cX12_bitsOf 0 = .ok (.iconst 0, 1) := chk_nth ocX12_bitsOf_0 (k := 0) rfl
theorem dX12_bitsOf_1 : decode cX12_bitsOf 1 = .ok (.istore_n 1, 1) := chk_nth ocX12_bitsOf_0 (k := 1) rfl
theorem dX12_bitsOf_2 : decode cX12_bitsOf 2 = .ok (.iconst 0, 1) := chk_nth ocX12_bitsOf_0 (k := 2) rfl
theorem dX12_bitsOf_3 : decode cX12_bitsOf 3 = .ok (.istore_n 2, 1) := chk_nth ocX12_bitsOf_0 (k := 3) rfl
theorem dX12_bitsOf_4 : decode cX12_bitsOf 4 = .ok (.iload_n 2, 1) := chk_nth ocX12_bitsOf_0 (k := 4) rfl
theorem dX12_bitsOf_5 : decode cX12_bitsOf 5 = .ok (.bipush 20, 2) := chk_nth ocX12_bitsOf_0 (k := 5) rfl
theorem dX12_bitsOf_7 : decode cX12_bitsOf 7 = .ok (.if_icmp .ge 17, 3) := chk_nth ocX12_bitsOf_0 (k := 6) rfl
theorem dX12_bitsOf_10 : decode cX12_bitsOf 10 = .ok (.iload_n 1, 1) := chk_nth ocX12_bitsOf_0 (k := 7) rfl
theorem dX12_bitsOf_11 : decode cX12_bitsOf 11 = .ok (.iload_n 0, 1) := chk_nth ocX12_bitsOf_0 (k := 8) rfl
theorem dX12_bitsOf_12 : decode cX12_bitsOf 12 = .ok (.iload_n 2, 1) := chk_nth ocX12_bitsOf_0 (k := 9) rfl
theorem dX12_bitsOf_13 : decode cX12_bitsOf 13 = .ok (.ishr, 1) := chk_nth ocX12_bitsOf_0 (k := 10) rfl
theorem dX12_bitsOf_14 : decode cX12_bitsOf 14 = .ok (.iconst 1, 1) := chk_nth ocX12_bitsOf_0 (k := 11) rfl
theorem dX12_bitsOf_15 : decode cX12_bitsOf 15 = .ok (.iand, 1) := chk_nth ocX12_bitsOf_0 (k := 12) rfl
theorem dX12_bitsOf_16 : decode cX12_bitsOf 16 = .ok (.iadd, 1) := chk_nth ocX12_bitsOf_0 (k := 13) rfl
theorem dX12_bitsOf_17 : decode cX12_bitsOf 17 = .ok (.istore_n 1, 1) := chk_nth ocX12_bitsOf_0 (k := 14) rfl
theorem dX12_bitsOf_18 : decode cX12_bitsOf 18 = .ok (.iinc 2 1, 3) := chk_nth ocX12_bitsOf_0 (k := 15) rfl
theorem dX12_bitsOf_21 : decode cX12_bitsOf 21 = .ok (.goto (-17), 3) := chk_nth ocX12_bitsOf_0 (k := 16) rfl
theorem dX12_bitsOf_24 : decode cX12_bitsOf 24 = .ok (.iload_n 1, 1) := chk_nth ocX12_bitsOf_0 (k := 17) rfl
theorem dX12_bitsOf_25 : decode cX12_bitsOf 25 = .ok (.ireturn, 1) := chk_nth ocX12_bitsOf_0 (k := 18) rfl
def tcX12_standOf_0 : List (Instr × Nat) := [(.bipush 20, 2), (.aload_n 0, 1), (.getfield 13, 3), (.bipush 34, 2), (.iload_n 1, 1), (.iadd, 1), (.iaload, 1), (.imul, 1), (.aload_n 0, 1), (.getfield 13, 3), (.bipush 37, 2), (.iload_n 1, 1), (.iadd, 1), (.iaload, 1), (.iadd, 1), (.ireturn, 1)]
theorem ocX12_standOf_0 : chk (cX12_standOf.data.toList.drop 0) tcX12_standOf_0 = true := by decide +kernel
theorem dX12_standOf_0 : decode cX12_standOf 0 = .ok (.bipush 20, 2) := chk_nth ocX12_standOf_0 (k := 0) rfl
theorem dX12_standOf_2 : decode cX12_standOf 2 = .ok (.aload_n 0, 1) := chk_nth ocX12_standOf_0 (k := 1) rfl
theorem dX12_standOf_3 : decode cX12_standOf 3 = .ok (.getfield 13, 3) := chk_nth ocX12_standOf_0 (k := 2) rfl
theorem dX12_standOf_6 : decode cX12_standOf 6 = .ok (.bipush 34, 2) := chk_nth ocX12_standOf_0 (k := 3) rfl
theorem dX12_standOf_8 : decode cX12_standOf 8 = .ok (.iload_n 1, 1) := chk_nth ocX12_standOf_0 (k := 4) rfl
theorem dX12_standOf_9 : decode cX12_standOf 9 = .ok (.iadd, 1) := chk_nth ocX12_standOf_0 (k := 5) rfl
theorem dX12_standOf_10 : decode cX12_standOf 10 = .ok (.iaload, 1) := chk_nth ocX12_standOf_0 (k := 6) rfl
theorem dX12_standOf_11 : decode cX12_standOf 11 = .ok (.imul, 1) := chk_nth ocX12_standOf_0 (k := 7) rfl
theorem dX12_standOf_12 : decode cX12_standOf 12 = .ok (.aload_n 0, 1) := chk_nth ocX12_standOf_0 (k := 8) rfl
theorem dX12_standOf_13 : decode cX12_standOf 13 = .ok (.getfield 13, 3) := chk_nth ocX12_standOf_0 (k := 9) rfl
theorem dX12_standOf_16 : decode cX12_standOf 16 = .ok (.bipush 37, 2) := chk_nth ocX12_standOf_0 (k := 10) rfl
theorem dX12_standOf_18 : decode cX12_standOf 18 = .ok (.iload_n 1, 1) := chk_nth ocX12_standOf_0 (k := 11) rfl
theorem dX12_standOf_19 : decode cX12_standOf 19 = .ok (.iadd, 1) := chk_nth ocX12_standOf_0 (k := 12) rfl
theorem dX12_standOf_20 : decode cX12_standOf 20 = .ok (.iaload, 1) := chk_nth ocX12_standOf_0 (k := 13) rfl
theorem dX12_standOf_21 : decode cX12_standOf 21 = .ok (.iadd, 1) := chk_nth ocX12_standOf_0 (k := 14) rfl
theorem dX12_standOf_22 : decode cX12_standOf 22 = .ok (.ireturn, 1) := chk_nth ocX12_standOf_0 (k := 15) rfl
def tcX12_between_0 : List (Instr × Nat) := [(.iload_n 0, 1)]
theorem ocX12_between_0 : chk (cX12_between.data.toList.drop 0) tcX12_between_0 = true := by decide +kernel
theorem dX12_between_0 : decode cX12_between 0 = .ok (.iload_n 0, 1) := chk_nth ocX12_between_0 (k := 0) rfl
theorem dX12_between_1 : decode cX12_between 1 = .ok (.tableswitch 80 3003 3008 #[39, 50, 61, 80, 72, 76], 39) := by decide +kernel
def tcX12_between_1 : List (Instr × Nat) := [(.iload_n 1, 1), (.iload_n 2, 1), (.if_icmp .ne 7, 3), (.iconst 1, 1), (.goto 4, 3), (.iconst 0, 1), (.ireturn, 1), (.iload_n 1, 1), (.iload_n 2, 1), (.if_icmp .ge 7, 3), (.iconst 1, 1), (.goto 4, 3), (.iconst 0, 1), (.ireturn, 1), (.iload_n 1, 1), (.iload_n 2, 1), (.if_icmp .le 7, 3), (.iconst 1, 1), (.goto 4, 3), (.iconst 0, 1), (.ireturn, 1), (.iload_n 1, 1), (.iload_n 2, 1), (.iand, 1)]
theorem ocX12_between_1 : chk (cX12_between.data.toList.drop 40) tcX12_between_1 = true := by decide +kernel
theorem dX12_between_40 : decode cX12_between 40 = .ok (.iload_n 1, 1) := chk_nth ocX12_between_1 (k := 0) rfl
theorem dX12_between_41 : decode cX12_between 41 = .ok (.iload_n 2, 1) := chk_nth ocX12_between_1 (k := 1) rfl
theorem dX12_between_42 : decode cX12_between 42 = .ok (.if_icmp .ne 7, 3) := chk_nth ocX12_between_1 (k := 2) rfl
theorem dX12_between_45 : decode cX12_between 45 = .ok (.iconst 1, 1) := chk_nth ocX12_between_1 (k := 3) rfl
theorem dX12_between_46 : decode cX12_between 46 = .ok (.goto 4, 3) := chk_nth ocX12_between_1 (k := 4) rfl
theorem dX12_between_49 : decode cX12_between 49 = .ok (.iconst 0, 1) := chk_nth ocX12_between_1 (k := 5) rfl
theorem dX12_between_50 : decode cX12_between 50 = .ok (.ireturn, 1) := chk_nth ocX12_between_1 (k := 6) rfl
theorem dX12_between_51 : decode cX12_between 51 = .ok (.iload_n 1, 1) := chk_nth ocX12_between_1 (k := 7) rfl
theorem dX12_between_52 : decode cX12_between 52 = .ok (.iload_n 2, 1) := chk_nth ocX12_between_1 (k := 8) rfl
theorem dX12_between_53 : decode cX12_between 53 = .ok (.if_icmp .ge 7, 3) := chk_nth ocX12_between_1 (k := 9) rfl
theorem dX12_between_56 : decode cX12_between 56 = .ok (.iconst 1, 1) := chk_nth ocX12_between_1 (k := 10) rfl
theorem dX12_between_57 : decode cX12_between 57 = .ok (.goto 4, 3) := chk_nth ocX12_between_1 (k := 11) rfl
theorem dX12_between_60 : decode cX12_between 60 = .ok (.iconst 0, 1) := chk_nth ocX12_between_1 (k := 12) rfl
theorem dX12_between_61 : decode cX12_between 61 = .ok (.ireturn, 1) := chk_nth ocX12_between_1 (k := 13) rfl
theorem dX12_between_62 : decode cX12_between 62 = .ok (.iload_n 1, 1) := chk_nth ocX12_between_1 (k := 14) rfl
theorem dX12_between_63 : decode cX12_between 63 = .ok (.iload_n 2, 1) := chk_nth ocX12_between_1 (k := 15) rfl
theorem dX12_between_64 : decode cX12_between 64 = .ok (.if_icmp .le 7, 3) := chk_nth ocX12_between_1 (k := 16) rfl
theorem dX12_between_67 : decode cX12_between 67 = .ok (.iconst 1, 1) := chk_nth ocX12_between_1 (k := 17) rfl
theorem dX12_between_68 : decode cX12_between 68 = .ok (.goto 4, 3) := chk_nth ocX12_between_1 (k := 18) rfl
theorem dX12_between_71 : decode cX12_between 71 = .ok (.iconst 0, 1) := chk_nth ocX12_between_1 (k := 19) rfl
theorem dX12_between_72 : decode cX12_between 72 = .ok (.ireturn, 1) := chk_nth ocX12_between_1 (k := 20) rfl
theorem dX12_between_73 : decode cX12_between 73 = .ok (.iload_n 1, 1) := chk_nth ocX12_between_1 (k := 21) rfl
theorem dX12_between_74 : decode cX12_between 74 = .ok (.iload_n 2, 1) := chk_nth ocX12_between_1 (k := 22) rfl
theorem dX12_between_75 : decode cX12_between 75 = .ok (.iand, 1) := chk_nth ocX12_between_1 (k := 23) rfl
def tcX12_between_2 : List (Instr × Nat) := [(.ireturn, 1), (.iload_n 1, 1), (.iload_n 2, 1), (.ior, 1), (.ireturn, 1), (.iload_n 0, 1), (.sipush 3000, 3), (.if_icmp .ne 11, 3), (.iload_n 1, 1), (.i2l, 1), (.iload_n 2, 1), (.i2l, 1), (.ladd, 1), (.goto 23, 3), (.iload_n 0, 1), (.sipush 3001, 3), (.if_icmp .ne 11, 3), (.iload_n 1, 1), (.i2l, 1), (.iload_n 2, 1), (.i2l, 1), (.lsub, 1), (.goto 8, 3), (.iload_n 1, 1)]
theorem ocX12_between_2 : chk (cX12_between.data.toList.drop 76) tcX12_between_2 = true := by decide +kernel
theorem dX12_between_76 : decode cX12_between 76 = .ok (.ireturn, 1) := chk_nth ocX12_between_2 (k := 0) rfl
theorem dX12_between_77 : decode cX12_between 77 = .ok (.iload_n 1, 1) := chk_nth ocX12_between_2 (k := 1) rfl
theorem dX12_between_78 : decode cX12_between 78 = .ok (.iload_n 2, 1) := chk_nth ocX12_between_2 (k := 2) rfl
theorem dX12_between_79 : decode cX12_between 79 = .ok (.ior, 1) := chk_nth ocX12_between_2 (k := 3) rfl
theorem dX12_between_80 : decode cX12_between 80 = .ok (.ireturn, 1) := chk_nth ocX12_between_2 (k := 4) rfl
theorem dX12_between_81 : decode cX12_between 81 = .ok (.iload_n 0, 1) := chk_nth ocX12_between_2 (k := 5) rfl
theorem dX12_between_82 : decode cX12_between 82 = .ok (.sipush 3000, 3) := chk_nth ocX12_between_2 (k := 6) rfl
theorem dX12_between_85 : decode cX12_between 85 = .ok (.if_icmp .ne 11, 3) := chk_nth ocX12_between_2 (k := 7) rfl
theorem dX12_between_88 : decode cX12_between 88 = .ok (.iload_n 1, 1) := chk_nth ocX12_between_2 (k := 8) rfl
theorem dX12_between_89 : decode cX12_between 89 = .ok (.i2l, 1) := chk_nth ocX12_between_2 (k := 9) rfl
theorem dX12_between_90 : decode cX12_between 90 = .ok (.iload_n 2, 1) := chk_nth ocX12_between_2 (k := 10) rfl
theorem dX12_between_91 : decode cX12_between 91 = .ok (.i2l, 1) := chk_nth ocX12_between_2 (k := 11) rfl
theorem dX12_between_92 : decode cX12_between 92 = .ok (.ladd, 1) := chk_nth ocX12_between_2 (k := 12) rfl
theorem dX12_between_93 : decode cX12_between 93 = .ok (.goto 23, 3) := chk_nth ocX12_between_2 (k := 13) rfl
theorem dX12_between_96 : decode cX12_between 96 = .ok (.iload_n 0, 1) := chk_nth ocX12_between_2 (k := 14) rfl
theorem dX12_between_97 : decode cX12_between 97 = .ok (.sipush 3001, 3) := chk_nth ocX12_between_2 (k := 15) rfl
theorem dX12_between_100 : decode cX12_between 100 = .ok (.if_icmp .ne 11, 3) := chk_nth ocX12_between_2 (k := 16) rfl
theorem dX12_between_103 : decode cX12_between 103 = .ok (.iload_n 1, 1) := chk_nth ocX12_between_2 (k := 17) rfl
theorem dX12_between_104 : decode cX12_between 104 = .ok (.i2l, 1) := chk_nth ocX12_between_2 (k := 18) rfl
theorem dX12_between_105 : decode cX12_between 105 = .ok (.iload_n 2, 1) := chk_nth ocX12_between_2 (k := 19) rfl
theorem dX12_between_106 : decode cX12_between 106 = .ok (.i2l, 1) := chk_nth ocX12_between_2 (k := 20) rfl
theorem dX12_between_107 : decode cX12_between 107 = .ok (.lsub, 1) := chk_nth ocX12_between_2 (k := 21) rfl
theorem dX12_between_108 : decode cX12_between 108 = .ok (.goto 8, 3) := chk_nth ocX12_between_2 (k := 22) rfl
theorem dX12_between_111 : decode cX12_between 111 = .ok (.iload_n 1, 1) := chk_nth ocX12_between_2 (k := 23) rfl
def tcX12_between_3 : List (Instr × Nat) := [(.i2l, 1), (.iload_n 2, 1), (.i2l, 1), (.lmul, 1), (.lstore_n 3, 1), (.lload_n 3, 1), (.ldc2_w 209, 3), (.lcmp, 1), (.ifCond .le 9, 3), (.ldc2_w 209, 3), (.goto 18, 3), (.lload_n 3, 1), (.ldc2_w 211, 3), (.lcmp, 1), (.ifCond .ge 9, 3), (.ldc2_w 211, 3), (.goto 4, 3), (.lload_n 3, 1), (.l2i, 1), (.ireturn, 1)]
theorem ocX12_between_3 : chk (cX12_between.data.toList.drop 112) tcX12_between_3 = true := by decide +kernel
theorem dX12_between_112 : decode cX12_between 112 = .ok (.i2l, 1) := chk_nth ocX12_between_3 (k := 0) rfl
theorem dX12_between_113 : decode cX12_between 113 = .ok (.iload_n 2, 1) := chk_nth ocX12_between_3 (k := 1) rfl
theorem dX12_between_114 : decode cX12_between 114 = .ok (.i2l, 1) := chk_nth ocX12_between_3 (k := 2) rfl
theorem dX12_between_115 : decode cX12_between 115 = .ok (.lmul, 1) := chk_nth ocX12_between_3 (k := 3) rfl
theorem dX12_between_116 : decode cX12_between 116 = .ok (.lstore_n 3, 1) := chk_nth ocX12_between_3 (k := 4) rfl
theorem dX12_between_117 : decode cX12_between 117 = .ok (.lload_n 3, 1) := chk_nth ocX12_between_3 (k := 5) rfl
theorem dX12_between_118 : decode cX12_between 118 = .ok (.ldc2_w 209, 3) := chk_nth ocX12_between_3 (k := 6) rfl
theorem dX12_between_121 : decode cX12_between 121 = .ok (.lcmp, 1) := chk_nth ocX12_between_3 (k := 7) rfl
theorem dX12_between_122 : decode cX12_between 122 = .ok (.ifCond .le 9, 3) := chk_nth ocX12_between_3 (k := 8) rfl
theorem dX12_between_125 : decode cX12_between 125 = .ok (.ldc2_w 209, 3) := chk_nth ocX12_between_3 (k := 9) rfl
theorem dX12_between_128 : decode cX12_between 128 = .ok (.goto 18, 3) := chk_nth ocX12_between_3 (k := 10) rfl
theorem dX12_between_131 : decode cX12_between 131 = .ok (.lload_n 3, 1) := chk_nth ocX12_between_3 (k := 11) rfl
theorem dX12_between_132 : decode cX12_between 132 = .ok (.ldc2_w 211, 3) := chk_nth ocX12_between_3 (k := 12) rfl
theorem dX12_between_135 : decode cX12_between 135 = .ok (.lcmp, 1) := chk_nth ocX12_between_3 (k := 13) rfl
theorem dX12_between_136 : decode cX12_between 136 = .ok (.ifCond .ge 9, 3) := chk_nth ocX12_between_3 (k := 14) rfl
theorem dX12_between_139 : decode cX12_between 139 = .ok (.ldc2_w 211, 3) := chk_nth ocX12_between_3 (k := 15) rfl
theorem dX12_between_142 : decode cX12_between 142 = .ok (.goto 4, 3) := chk_nth ocX12_between_3 (k := 16) rfl
theorem dX12_between_145 : decode cX12_between 145 = .ok (.lload_n 3, 1) := chk_nth ocX12_between_3 (k := 17) rfl
theorem dX12_between_146 : decode cX12_between 146 = .ok (.l2i, 1) := chk_nth ocX12_between_3 (k := 18) rfl
theorem dX12_between_147 : decode cX12_between 147 = .ok (.ireturn, 1) := chk_nth ocX12_between_3 (k := 19) rfl
def tcX12_reckons_0 : List (Instr × Nat) := [(.aload_n 0, 1), (.getfield 33, 3), (.iconst 0, 1), (.iload_n 3, 1), (.iastore, 1), (.aload_n 0, 1), (.getfield 33, 3), (.iconst 1, 1), (.aload_n 0, 1), (.getfield 13, 3), (.bipush 26, 2), (.iload_n 3, 1), (.iadd, 1), (.iaload, 1), (.iastore, 1), (.aload_n 0, 1), (.getfield 33, 3), (.iconst 2, 1), (.iload 4, 2), (.iastore, 1), (.aload_n 0, 1), (.getfield 33, 3), (.iconst 3, 1), (.iload 5, 2)]
theorem ocX12_reckons_0 : chk (cX12_reckons.data.toList.drop 0) tcX12_reckons_0 = true := by decide +kernel
theorem dX12_reckons_0 : decode cX12_reckons 0 = .ok (.aload_n 0, 1) := chk_nth ocX12_reckons_0 (k := 0) rfl
theorem dX12_reckons_1 : decode cX12_reckons 1 = .ok (.getfield 33, 3) := chk_nth ocX12_reckons_0 (k := 1) rfl
theorem dX12_reckons_4 : decode cX12_reckons 4 = .ok (.iconst 0, 1) := chk_nth ocX12_reckons_0 (k := 2) rfl
theorem dX12_reckons_5 : decode cX12_reckons 5 = .ok (.iload_n 3, 1) := chk_nth ocX12_reckons_0 (k := 3) rfl
theorem dX12_reckons_6 : decode cX12_reckons 6 = .ok (.iastore, 1) := chk_nth ocX12_reckons_0 (k := 4) rfl
theorem dX12_reckons_7 : decode cX12_reckons 7 = .ok (.aload_n 0, 1) := chk_nth ocX12_reckons_0 (k := 5) rfl
theorem dX12_reckons_8 : decode cX12_reckons 8 = .ok (.getfield 33, 3) := chk_nth ocX12_reckons_0 (k := 6) rfl
theorem dX12_reckons_11 : decode cX12_reckons 11 = .ok (.iconst 1, 1) := chk_nth ocX12_reckons_0 (k := 7) rfl
theorem dX12_reckons_12 : decode cX12_reckons 12 = .ok (.aload_n 0, 1) := chk_nth ocX12_reckons_0 (k := 8) rfl
theorem dX12_reckons_13 : decode cX12_reckons 13 = .ok (.getfield 13, 3) := chk_nth ocX12_reckons_0 (k := 9) rfl
theorem dX12_reckons_16 : decode cX12_reckons 16 = .ok (.bipush 26, 2) := chk_nth ocX12_reckons_0 (k := 10) rfl
theorem dX12_reckons_18 : decode cX12_reckons 18 = .ok (.iload_n 3, 1) := chk_nth ocX12_reckons_0 (k := 11) rfl
theorem dX12_reckons_19 : decode cX12_reckons 19 = .ok (.iadd, 1) := chk_nth ocX12_reckons_0 (k := 12) rfl
theorem dX12_reckons_20 : decode cX12_reckons 20 = .ok (.iaload, 1) := chk_nth ocX12_reckons_0 (k := 13) rfl
theorem dX12_reckons_21 : decode cX12_reckons 21 = .ok (.iastore, 1) := chk_nth ocX12_reckons_0 (k := 14) rfl
theorem dX12_reckons_22 : decode cX12_reckons 22 = .ok (.aload_n 0, 1) := chk_nth ocX12_reckons_0 (k := 15) rfl
theorem dX12_reckons_23 : decode cX12_reckons 23 = .ok (.getfield 33, 3) := chk_nth ocX12_reckons_0 (k := 16) rfl
theorem dX12_reckons_26 : decode cX12_reckons 26 = .ok (.iconst 2, 1) := chk_nth ocX12_reckons_0 (k := 17) rfl
theorem dX12_reckons_27 : decode cX12_reckons 27 = .ok (.iload 4, 2) := chk_nth ocX12_reckons_0 (k := 18) rfl
theorem dX12_reckons_29 : decode cX12_reckons 29 = .ok (.iastore, 1) := chk_nth ocX12_reckons_0 (k := 19) rfl
theorem dX12_reckons_30 : decode cX12_reckons 30 = .ok (.aload_n 0, 1) := chk_nth ocX12_reckons_0 (k := 20) rfl
theorem dX12_reckons_31 : decode cX12_reckons 31 = .ok (.getfield 33, 3) := chk_nth ocX12_reckons_0 (k := 21) rfl
theorem dX12_reckons_34 : decode cX12_reckons 34 = .ok (.iconst 3, 1) := chk_nth ocX12_reckons_0 (k := 22) rfl
theorem dX12_reckons_35 : decode cX12_reckons 35 = .ok (.iload 5, 2) := chk_nth ocX12_reckons_0 (k := 23) rfl
def tcX12_reckons_1 : List (Instr × Nat) := [(.iastore, 1), (.aload_n 0, 1), (.getfield 33, 3), (.iconst 4, 1), (.aload_n 0, 1), (.getfield 13, 3), (.bipush 48, 2), (.iaload, 1), (.iastore, 1), (.aload_n 0, 1), (.getfield 33, 3), (.iconst 5, 1), (.iload_n 2, 1), (.iastore, 1), (.iconst 0, 1), (.istore 6, 2), (.iconst 0, 1), (.istore 7, 2), (.iload 7, 2), (.aload_n 0, 1), (.getfield 13, 3), (.bipush 8, 2), (.iload_n 1, 1), (.iadd, 1)]
theorem ocX12_reckons_1 : chk (cX12_reckons.data.toList.drop 37) tcX12_reckons_1 = true := by decide +kernel
theorem dX12_reckons_37 : decode cX12_reckons 37 = .ok (.iastore, 1) := chk_nth ocX12_reckons_1 (k := 0) rfl
theorem dX12_reckons_38 : decode cX12_reckons 38 = .ok (.aload_n 0, 1) := chk_nth ocX12_reckons_1 (k := 1) rfl
theorem dX12_reckons_39 : decode cX12_reckons 39 = .ok (.getfield 33, 3) := chk_nth ocX12_reckons_1 (k := 2) rfl
theorem dX12_reckons_42 : decode cX12_reckons 42 = .ok (.iconst 4, 1) := chk_nth ocX12_reckons_1 (k := 3) rfl
theorem dX12_reckons_43 : decode cX12_reckons 43 = .ok (.aload_n 0, 1) := chk_nth ocX12_reckons_1 (k := 4) rfl
theorem dX12_reckons_44 : decode cX12_reckons 44 = .ok (.getfield 13, 3) := chk_nth ocX12_reckons_1 (k := 5) rfl
theorem dX12_reckons_47 : decode cX12_reckons 47 = .ok (.bipush 48, 2) := chk_nth ocX12_reckons_1 (k := 6) rfl
theorem dX12_reckons_49 : decode cX12_reckons 49 = .ok (.iaload, 1) := chk_nth ocX12_reckons_1 (k := 7) rfl
theorem dX12_reckons_50 : decode cX12_reckons 50 = .ok (.iastore, 1) := chk_nth ocX12_reckons_1 (k := 8) rfl
theorem dX12_reckons_51 : decode cX12_reckons 51 = .ok (.aload_n 0, 1) := chk_nth ocX12_reckons_1 (k := 9) rfl
theorem dX12_reckons_52 : decode cX12_reckons 52 = .ok (.getfield 33, 3) := chk_nth ocX12_reckons_1 (k := 10) rfl
theorem dX12_reckons_55 : decode cX12_reckons 55 = .ok (.iconst 5, 1) := chk_nth ocX12_reckons_1 (k := 11) rfl
theorem dX12_reckons_56 : decode cX12_reckons 56 = .ok (.iload_n 2, 1) := chk_nth ocX12_reckons_1 (k := 12) rfl
theorem dX12_reckons_57 : decode cX12_reckons 57 = .ok (.iastore, 1) := chk_nth ocX12_reckons_1 (k := 13) rfl
theorem dX12_reckons_58 : decode cX12_reckons 58 = .ok (.iconst 0, 1) := chk_nth ocX12_reckons_1 (k := 14) rfl
theorem dX12_reckons_59 : decode cX12_reckons 59 = .ok (.istore 6, 2) := chk_nth ocX12_reckons_1 (k := 15) rfl
theorem dX12_reckons_61 : decode cX12_reckons 61 = .ok (.iconst 0, 1) := chk_nth ocX12_reckons_1 (k := 16) rfl
theorem dX12_reckons_62 : decode cX12_reckons 62 = .ok (.istore 7, 2) := chk_nth ocX12_reckons_1 (k := 17) rfl
theorem dX12_reckons_64 : decode cX12_reckons 64 = .ok (.iload 7, 2) := chk_nth ocX12_reckons_1 (k := 18) rfl
theorem dX12_reckons_66 : decode cX12_reckons 66 = .ok (.aload_n 0, 1) := chk_nth ocX12_reckons_1 (k := 19) rfl
theorem dX12_reckons_67 : decode cX12_reckons 67 = .ok (.getfield 13, 3) := chk_nth ocX12_reckons_1 (k := 20) rfl
theorem dX12_reckons_70 : decode cX12_reckons 70 = .ok (.bipush 8, 2) := chk_nth ocX12_reckons_1 (k := 21) rfl
theorem dX12_reckons_72 : decode cX12_reckons 72 = .ok (.iload_n 1, 1) := chk_nth ocX12_reckons_1 (k := 22) rfl
theorem dX12_reckons_73 : decode cX12_reckons 73 = .ok (.iadd, 1) := chk_nth ocX12_reckons_1 (k := 23) rfl
def tcX12_reckons_2 : List (Instr × Nat) := [(.iaload, 1), (.if_icmp .ge 196, 3), (.aload_n 0, 1), (.getfield 13, 3), (.sipush 201, 3), (.aload_n 0, 1), (.getfield 13, 3), (.bipush 6, 2), (.iload_n 1, 1), (.iadd, 1), (.iaload, 1), (.iadd, 1), (.iload 7, 2), (.iadd, 1), (.iaload, 1), (.istore 8, 2), (.iload 8, 2), (.sipush 3000, 3), (.if_icmp .ge 40, 3), (.aload_n 0, 1), (.getfield 30, 3), (.iload 6, 2), (.iload 8, 2), (.sipush 1000, 3)]
theorem ocX12_reckons_2 : chk (cX12_reckons.data.toList.drop 74) tcX12_reckons_2 = true := by decide +kernel
theorem dX12_reckons_74 : decode cX12_reckons 74 = .ok (.iaload, 1) := chk_nth ocX12_reckons_2 (k := 0) rfl
theorem dX12_reckons_75 : decode cX12_reckons 75 = .ok (.if_icmp .ge 196, 3) := chk_nth ocX12_reckons_2 (k := 1) rfl
theorem dX12_reckons_78 : decode cX12_reckons 78 = .ok (.aload_n 0, 1) := chk_nth ocX12_reckons_2 (k := 2) rfl
theorem dX12_reckons_79 : decode cX12_reckons 79 = .ok (.getfield 13, 3) := chk_nth ocX12_reckons_2 (k := 3) rfl
theorem dX12_reckons_82 : decode cX12_reckons 82 = .ok (.sipush 201, 3) := chk_nth ocX12_reckons_2 (k := 4) rfl
theorem dX12_reckons_85 : decode cX12_reckons 85 = .ok (.aload_n 0, 1) := chk_nth ocX12_reckons_2 (k := 5) rfl
theorem dX12_reckons_86 : decode cX12_reckons 86 = .ok (.getfield 13, 3) := chk_nth ocX12_reckons_2 (k := 6) rfl
theorem dX12_reckons_89 : decode cX12_reckons 89 = .ok (.bipush 6, 2) := chk_nth ocX12_reckons_2 (k := 7) rfl
theorem dX12_reckons_91 : decode cX12_reckons 91 = .ok (.iload_n 1, 1) := chk_nth ocX12_reckons_2 (k := 8) rfl
theorem dX12_reckons_92 : decode cX12_reckons 92 = .ok (.iadd, 1) := chk_nth ocX12_reckons_2 (k := 9) rfl
theorem dX12_reckons_93 : decode cX12_reckons 93 = .ok (.iaload, 1) := chk_nth ocX12_reckons_2 (k := 10) rfl
theorem dX12_reckons_94 : decode cX12_reckons 94 = .ok (.iadd, 1) := chk_nth ocX12_reckons_2 (k := 11) rfl
theorem dX12_reckons_95 : decode cX12_reckons 95 = .ok (.iload 7, 2) := chk_nth ocX12_reckons_2 (k := 12) rfl
theorem dX12_reckons_97 : decode cX12_reckons 97 = .ok (.iadd, 1) := chk_nth ocX12_reckons_2 (k := 13) rfl
theorem dX12_reckons_98 : decode cX12_reckons 98 = .ok (.iaload, 1) := chk_nth ocX12_reckons_2 (k := 14) rfl
theorem dX12_reckons_99 : decode cX12_reckons 99 = .ok (.istore 8, 2) := chk_nth ocX12_reckons_2 (k := 15) rfl
theorem dX12_reckons_101 : decode cX12_reckons 101 = .ok (.iload 8, 2) := chk_nth ocX12_reckons_2 (k := 16) rfl
theorem dX12_reckons_103 : decode cX12_reckons 103 = .ok (.sipush 3000, 3) := chk_nth ocX12_reckons_2 (k := 17) rfl
theorem dX12_reckons_106 : decode cX12_reckons 106 = .ok (.if_icmp .ge 40, 3) := chk_nth ocX12_reckons_2 (k := 18) rfl
theorem dX12_reckons_109 : decode cX12_reckons 109 = .ok (.aload_n 0, 1) := chk_nth ocX12_reckons_2 (k := 19) rfl
theorem dX12_reckons_110 : decode cX12_reckons 110 = .ok (.getfield 30, 3) := chk_nth ocX12_reckons_2 (k := 20) rfl
theorem dX12_reckons_113 : decode cX12_reckons 113 = .ok (.iload 6, 2) := chk_nth ocX12_reckons_2 (k := 21) rfl
theorem dX12_reckons_115 : decode cX12_reckons 115 = .ok (.iload 8, 2) := chk_nth ocX12_reckons_2 (k := 22) rfl
theorem dX12_reckons_117 : decode cX12_reckons 117 = .ok (.sipush 1000, 3) := chk_nth ocX12_reckons_2 (k := 23) rfl
def tcX12_reckons_3 : List (Instr × Nat) := [(.if_icmp .ge 8, 3), (.iload 8, 2), (.goto 14, 3), (.aload_n 0, 1), (.getfield 33, 3), (.iload 8, 2), (.sipush 1000, 3), (.isub, 1), (.iaload, 1), (.iastore, 1), (.iinc 6 1, 3), (.goto 122, 3), (.iload 8, 2), (.sipush 3006, 3), (.if_icmp .ne 26, 3), (.aload_n 0, 1), (.getfield 30, 3), (.iload 6, 2), (.iconst 1, 1), (.isub, 1), (.iconst 1, 1), (.aload_n 0, 1), (.getfield 30, 3), (.iload 6, 2)]
theorem ocX12_reckons_3 : chk (cX12_reckons.data.toList.drop 120) tcX12_reckons_3 = true := by decide +kernel
theorem dX12_reckons_120 : decode cX12_reckons 120 = .ok (.if_icmp .ge 8, 3) := chk_nth ocX12_reckons_3 (k := 0) rfl
theorem dX12_reckons_123 : decode cX12_reckons 123 = .ok (.iload 8, 2) := chk_nth ocX12_reckons_3 (k := 1) rfl
theorem dX12_reckons_125 : decode cX12_reckons 125 = .ok (.goto 14, 3) := chk_nth ocX12_reckons_3 (k := 2) rfl
theorem dX12_reckons_128 : decode cX12_reckons 128 = .ok (.aload_n 0, 1) := chk_nth ocX12_reckons_3 (k := 3) rfl
theorem dX12_reckons_129 : decode cX12_reckons 129 = .ok (.getfield 33, 3) := chk_nth ocX12_reckons_3 (k := 4) rfl
theorem dX12_reckons_132 : decode cX12_reckons 132 = .ok (.iload 8, 2) := chk_nth ocX12_reckons_3 (k := 5) rfl
theorem dX12_reckons_134 : decode cX12_reckons 134 = .ok (.sipush 1000, 3) := chk_nth ocX12_reckons_3 (k := 6) rfl
theorem dX12_reckons_137 : decode cX12_reckons 137 = .ok (.isub, 1) := chk_nth ocX12_reckons_3 (k := 7) rfl
theorem dX12_reckons_138 : decode cX12_reckons 138 = .ok (.iaload, 1) := chk_nth ocX12_reckons_3 (k := 8) rfl
theorem dX12_reckons_139 : decode cX12_reckons 139 = .ok (.iastore, 1) := chk_nth ocX12_reckons_3 (k := 9) rfl
theorem dX12_reckons_140 : decode cX12_reckons 140 = .ok (.iinc 6 1, 3) := chk_nth ocX12_reckons_3 (k := 10) rfl
theorem dX12_reckons_143 : decode cX12_reckons 143 = .ok (.goto 122, 3) := chk_nth ocX12_reckons_3 (k := 11) rfl
theorem dX12_reckons_146 : decode cX12_reckons 146 = .ok (.iload 8, 2) := chk_nth ocX12_reckons_3 (k := 12) rfl
theorem dX12_reckons_148 : decode cX12_reckons 148 = .ok (.sipush 3006, 3) := chk_nth ocX12_reckons_3 (k := 13) rfl
theorem dX12_reckons_151 : decode cX12_reckons 151 = .ok (.if_icmp .ne 26, 3) := chk_nth ocX12_reckons_3 (k := 14) rfl
theorem dX12_reckons_154 : decode cX12_reckons 154 = .ok (.aload_n 0, 1) := chk_nth ocX12_reckons_3 (k := 15) rfl
theorem dX12_reckons_155 : decode cX12_reckons 155 = .ok (.getfield 30, 3) := chk_nth ocX12_reckons_3 (k := 16) rfl
theorem dX12_reckons_158 : decode cX12_reckons 158 = .ok (.iload 6, 2) := chk_nth ocX12_reckons_3 (k := 17) rfl
theorem dX12_reckons_160 : decode cX12_reckons 160 = .ok (.iconst 1, 1) := chk_nth ocX12_reckons_3 (k := 18) rfl
theorem dX12_reckons_161 : decode cX12_reckons 161 = .ok (.isub, 1) := chk_nth ocX12_reckons_3 (k := 19) rfl
theorem dX12_reckons_162 : decode cX12_reckons 162 = .ok (.iconst 1, 1) := chk_nth ocX12_reckons_3 (k := 20) rfl
theorem dX12_reckons_163 : decode cX12_reckons 163 = .ok (.aload_n 0, 1) := chk_nth ocX12_reckons_3 (k := 21) rfl
theorem dX12_reckons_164 : decode cX12_reckons 164 = .ok (.getfield 30, 3) := chk_nth ocX12_reckons_3 (k := 22) rfl
theorem dX12_reckons_167 : decode cX12_reckons 167 = .ok (.iload 6, 2) := chk_nth ocX12_reckons_3 (k := 23) rfl
def tcX12_reckons_4 : List (Instr × Nat) := [(.iconst 1, 1), (.isub, 1), (.iaload, 1), (.isub, 1), (.iastore, 1), (.goto 91, 3), (.iload 8, 2), (.sipush 3009, 3), (.if_icmp .ne 50, 3), (.iinc 6 (-2), 3), (.aload_n 0, 1), (.getfield 30, 3), (.iload 6, 2), (.iconst 1, 1), (.isub, 1), (.aload_n 0, 1), (.getfield 30, 3), (.iload 6, 2), (.iconst 1, 1), (.isub, 1), (.iaload, 1), (.iconst 1, 1), (.if_icmp .ne 13, 3), (.aload_n 0, 1)]
theorem ocX12_reckons_4 : chk (cX12_reckons.data.toList.drop 169) tcX12_reckons_4 = true := by decide +kernel
theorem dX12_reckons_169 : decode cX12_reckons 169 = .ok (.iconst 1, 1) := chk_nth ocX12_reckons_4 (k := 0) rfl
theorem dX12_reckons_170 : decode cX12_reckons 170 = .ok (.isub, 1) := chk_nth ocX12_reckons_4 (k := 1) rfl
theorem dX12_reckons_171 : decode cX12_reckons 171 = .ok (.iaload, 1) := chk_nth ocX12_reckons_4 (k := 2) rfl
theorem dX12_reckons_172 : decode cX12_reckons 172 = .ok (.isub, 1) := chk_nth ocX12_reckons_4 (k := 3) rfl
theorem dX12_reckons_173 : decode cX12_reckons 173 = .ok (.iastore, 1) := chk_nth ocX12_reckons_4 (k := 4) rfl
theorem dX12_reckons_174 : decode cX12_reckons 174 = .ok (.goto 91, 3) := chk_nth ocX12_reckons_4 (k := 5) rfl
theorem dX12_reckons_177 : decode cX12_reckons 177 = .ok (.iload 8, 2) := chk_nth ocX12_reckons_4 (k := 6) rfl
theorem dX12_reckons_179 : decode cX12_reckons 179 = .ok (.sipush 3009, 3) := chk_nth ocX12_reckons_4 (k := 7) rfl
theorem dX12_reckons_182 : decode cX12_reckons 182 = .ok (.if_icmp .ne 50, 3) := chk_nth ocX12_reckons_4 (k := 8) rfl
theorem dX12_reckons_185 : decode cX12_reckons 185 = .ok (.iinc 6 (-2), 3) := chk_nth ocX12_reckons_4 (k := 9) rfl
theorem dX12_reckons_188 : decode cX12_reckons 188 = .ok (.aload_n 0, 1) := chk_nth ocX12_reckons_4 (k := 10) rfl
theorem dX12_reckons_189 : decode cX12_reckons 189 = .ok (.getfield 30, 3) := chk_nth ocX12_reckons_4 (k := 11) rfl
theorem dX12_reckons_192 : decode cX12_reckons 192 = .ok (.iload 6, 2) := chk_nth ocX12_reckons_4 (k := 12) rfl
theorem dX12_reckons_194 : decode cX12_reckons 194 = .ok (.iconst 1, 1) := chk_nth ocX12_reckons_4 (k := 13) rfl
theorem dX12_reckons_195 : decode cX12_reckons 195 = .ok (.isub, 1) := chk_nth ocX12_reckons_4 (k := 14) rfl
theorem dX12_reckons_196 : decode cX12_reckons 196 = .ok (.aload_n 0, 1) := chk_nth ocX12_reckons_4 (k := 15) rfl
theorem dX12_reckons_197 : decode cX12_reckons 197 = .ok (.getfield 30, 3) := chk_nth ocX12_reckons_4 (k := 16) rfl
theorem dX12_reckons_200 : decode cX12_reckons 200 = .ok (.iload 6, 2) := chk_nth ocX12_reckons_4 (k := 17) rfl
theorem dX12_reckons_202 : decode cX12_reckons 202 = .ok (.iconst 1, 1) := chk_nth ocX12_reckons_4 (k := 18) rfl
theorem dX12_reckons_203 : decode cX12_reckons 203 = .ok (.isub, 1) := chk_nth ocX12_reckons_4 (k := 19) rfl
theorem dX12_reckons_204 : decode cX12_reckons 204 = .ok (.iaload, 1) := chk_nth ocX12_reckons_4 (k := 20) rfl
theorem dX12_reckons_205 : decode cX12_reckons 205 = .ok (.iconst 1, 1) := chk_nth ocX12_reckons_4 (k := 21) rfl
theorem dX12_reckons_206 : decode cX12_reckons 206 = .ok (.if_icmp .ne 13, 3) := chk_nth ocX12_reckons_4 (k := 22) rfl
theorem dX12_reckons_209 : decode cX12_reckons 209 = .ok (.aload_n 0, 1) := chk_nth ocX12_reckons_4 (k := 23) rfl
def tcX12_reckons_5 : List (Instr × Nat) := [(.getfield 30, 3), (.iload 6, 2), (.iaload, 1), (.goto 12, 3), (.aload_n 0, 1), (.getfield 30, 3), (.iload 6, 2), (.iconst 1, 1), (.iadd, 1), (.iaload, 1), (.iastore, 1), (.goto 36, 3), (.iinc 6 (-1), 3), (.aload_n 0, 1), (.getfield 30, 3), (.iload 6, 2), (.iconst 1, 1), (.isub, 1), (.iload 8, 2), (.aload_n 0, 1), (.getfield 30, 3), (.iload 6, 2), (.iconst 1, 1), (.isub, 1)]
theorem ocX12_reckons_5 : chk (cX12_reckons.data.toList.drop 210) tcX12_reckons_5 = true := by decide +kernel
theorem dX12_reckons_210 : decode cX12_reckons 210 = .ok (.getfield 30, 3) := chk_nth ocX12_reckons_5 (k := 0) rfl
theorem dX12_reckons_213 : decode cX12_reckons 213 = .ok (.iload 6, 2) := chk_nth ocX12_reckons_5 (k := 1) rfl
theorem dX12_reckons_215 : decode cX12_reckons 215 = .ok (.iaload, 1) := chk_nth ocX12_reckons_5 (k := 2) rfl
theorem dX12_reckons_216 : decode cX12_reckons 216 = .ok (.goto 12, 3) := chk_nth ocX12_reckons_5 (k := 3) rfl
theorem dX12_reckons_219 : decode cX12_reckons 219 = .ok (.aload_n 0, 1) := chk_nth ocX12_reckons_5 (k := 4) rfl
theorem dX12_reckons_220 : decode cX12_reckons 220 = .ok (.getfield 30, 3) := chk_nth ocX12_reckons_5 (k := 5) rfl
theorem dX12_reckons_223 : decode cX12_reckons 223 = .ok (.iload 6, 2) := chk_nth ocX12_reckons_5 (k := 6) rfl
theorem dX12_reckons_225 : decode cX12_reckons 225 = .ok (.iconst 1, 1) := chk_nth ocX12_reckons_5 (k := 7) rfl
theorem dX12_reckons_226 : decode cX12_reckons 226 = .ok (.iadd, 1) := chk_nth ocX12_reckons_5 (k := 8) rfl
theorem dX12_reckons_227 : decode cX12_reckons 227 = .ok (.iaload, 1) := chk_nth ocX12_reckons_5 (k := 9) rfl
theorem dX12_reckons_228 : decode cX12_reckons 228 = .ok (.iastore, 1) := chk_nth ocX12_reckons_5 (k := 10) rfl
theorem dX12_reckons_229 : decode cX12_reckons 229 = .ok (.goto 36, 3) := chk_nth ocX12_reckons_5 (k := 11) rfl
theorem dX12_reckons_232 : decode cX12_reckons 232 = .ok (.iinc 6 (-1), 3) := chk_nth ocX12_reckons_5 (k := 12) rfl
theorem dX12_reckons_235 : decode cX12_reckons 235 = .ok (.aload_n 0, 1) := chk_nth ocX12_reckons_5 (k := 13) rfl
theorem dX12_reckons_236 : decode cX12_reckons 236 = .ok (.getfield 30, 3) := chk_nth ocX12_reckons_5 (k := 14) rfl
theorem dX12_reckons_239 : decode cX12_reckons 239 = .ok (.iload 6, 2) := chk_nth ocX12_reckons_5 (k := 15) rfl
theorem dX12_reckons_241 : decode cX12_reckons 241 = .ok (.iconst 1, 1) := chk_nth ocX12_reckons_5 (k := 16) rfl
theorem dX12_reckons_242 : decode cX12_reckons 242 = .ok (.isub, 1) := chk_nth ocX12_reckons_5 (k := 17) rfl
theorem dX12_reckons_243 : decode cX12_reckons 243 = .ok (.iload 8, 2) := chk_nth ocX12_reckons_5 (k := 18) rfl
theorem dX12_reckons_245 : decode cX12_reckons 245 = .ok (.aload_n 0, 1) := chk_nth ocX12_reckons_5 (k := 19) rfl
theorem dX12_reckons_246 : decode cX12_reckons 246 = .ok (.getfield 30, 3) := chk_nth ocX12_reckons_5 (k := 20) rfl
theorem dX12_reckons_249 : decode cX12_reckons 249 = .ok (.iload 6, 2) := chk_nth ocX12_reckons_5 (k := 21) rfl
theorem dX12_reckons_251 : decode cX12_reckons 251 = .ok (.iconst 1, 1) := chk_nth ocX12_reckons_5 (k := 22) rfl
theorem dX12_reckons_252 : decode cX12_reckons 252 = .ok (.isub, 1) := chk_nth ocX12_reckons_5 (k := 23) rfl
def tcX12_reckons_6 : List (Instr × Nat) := [(.iaload, 1), (.aload_n 0, 1), (.getfield 30, 3), (.iload 6, 2), (.iaload, 1), (.invokestatic 213, 3), (.iastore, 1), (.iinc 7 1, 3), (.goto (-204), 3), (.aload_n 0, 1), (.getfield 30, 3), (.iconst 0, 1), (.iaload, 1), (.ireturn, 1)]
theorem ocX12_reckons_6 : chk (cX12_reckons.data.toList.drop 253) tcX12_reckons_6 = true := by decide +kernel
theorem dX12_reckons_253 : decode cX12_reckons 253 = .ok (.iaload, 1) := chk_nth ocX12_reckons_6 (k := 0) rfl
theorem dX12_reckons_254 : decode cX12_reckons 254 = .ok (.aload_n 0, 1) := chk_nth ocX12_reckons_6 (k := 1) rfl
theorem dX12_reckons_255 : decode cX12_reckons 255 = .ok (.getfield 30, 3) := chk_nth ocX12_reckons_6 (k := 2) rfl
theorem dX12_reckons_258 : decode cX12_reckons 258 = .ok (.iload 6, 2) := chk_nth ocX12_reckons_6 (k := 3) rfl
theorem dX12_reckons_260 : decode cX12_reckons 260 = .ok (.iaload, 1) := chk_nth ocX12_reckons_6 (k := 4) rfl
theorem dX12_reckons_261 : decode cX12_reckons 261 = .ok (.invokestatic 213, 3) := chk_nth ocX12_reckons_6 (k := 5) rfl
theorem dX12_reckons_264 : decode cX12_reckons 264 = .ok (.iastore, 1) := chk_nth ocX12_reckons_6 (k := 6) rfl
theorem dX12_reckons_265 : decode cX12_reckons 265 = .ok (.iinc 7 1, 3) := chk_nth ocX12_reckons_6 (k := 7) rfl
theorem dX12_reckons_268 : decode cX12_reckons 268 = .ok (.goto (-204), 3) := chk_nth ocX12_reckons_6 (k := 8) rfl
theorem dX12_reckons_271 : decode cX12_reckons 271 = .ok (.aload_n 0, 1) := chk_nth ocX12_reckons_6 (k := 9) rfl
theorem dX12_reckons_272 : decode cX12_reckons 272 = .ok (.getfield 30, 3) := chk_nth ocX12_reckons_6 (k := 10) rfl
theorem dX12_reckons_275 : decode cX12_reckons 275 = .ok (.iconst 0, 1) := chk_nth ocX12_reckons_6 (k := 11) rfl
theorem dX12_reckons_276 : decode cX12_reckons 276 = .ok (.iaload, 1) := chk_nth ocX12_reckons_6 (k := 12) rfl
theorem dX12_reckons_277 : decode cX12_reckons 277 = .ok (.ireturn, 1) := chk_nth ocX12_reckons_6 (k := 13) rfl
def tcX12_lets_0 : List (Instr × Nat) := [(.iload_n 0, 1), (.iconst 2, 1), (.if_icmp .eq 8, 3), (.iload_n 0, 1), (.iload_n 1, 1), (.if_icmp .ne 7, 3), (.iconst 1, 1), (.goto 4, 3), (.iconst 0, 1), (.ireturn, 1)]
theorem ocX12_lets_0 : chk (cX12_lets.data.toList.drop 0) tcX12_lets_0 = true := by decide +kernel
theorem dX12_lets_0 : decode cX12_lets 0 = .ok (.iload_n 0, 1) := chk_nth ocX12_lets_0 (k := 0) rfl
theorem dX12_lets_1 : decode cX12_lets 1 = .ok (.iconst 2, 1) := chk_nth ocX12_lets_0 (k := 1) rfl
theorem dX12_lets_2 : decode cX12_lets 2 = .ok (.if_icmp .eq 8, 3) := chk_nth ocX12_lets_0 (k := 2) rfl
theorem dX12_lets_5 : decode cX12_lets 5 = .ok (.iload_n 0, 1) := chk_nth ocX12_lets_0 (k := 3) rfl
theorem dX12_lets_6 : decode cX12_lets 6 = .ok (.iload_n 1, 1) := chk_nth ocX12_lets_0 (k := 4) rfl
theorem dX12_lets_7 : decode cX12_lets 7 = .ok (.if_icmp .ne 7, 3) := chk_nth ocX12_lets_0 (k := 5) rfl
theorem dX12_lets_10 : decode cX12_lets 10 = .ok (.iconst 1, 1) := chk_nth ocX12_lets_0 (k := 6) rfl
theorem dX12_lets_11 : decode cX12_lets 11 = .ok (.goto 4, 3) := chk_nth ocX12_lets_0 (k := 7) rfl
theorem dX12_lets_14 : decode cX12_lets 14 = .ok (.iconst 0, 1) := chk_nth ocX12_lets_0 (k := 8) rfl
theorem dX12_lets_15 : decode cX12_lets 15 = .ok (.ireturn, 1) := chk_nth ocX12_lets_0 (k := 9) rfl
def tcX12_yearBy_0 : List (Instr × Nat) := [(.aload_n 0, 1), (.getfield 13, 3), (.iconst 4, 1), (.iaload, 1), (.iconst 1, 1), (.if_icmp .ne 16, 3), (.aload_n 0, 1), (.iconst 0, 1), (.iload_n 1, 1), (.iload_n 2, 1), (.iload_n 3, 1), (.iload 4, 2), (.invokevirtual 217, 3), (.goto 31, 3), (.iload 4, 2), (.iconst 1, 1), (.if_icmp .ne 16, 3), (.aload_n 0, 1), (.getfield 13, 3), (.bipush 26, 2), (.iload_n 2, 1), (.iadd, 1), (.iaload, 1), (.ineg, 1)]
theorem ocX12_yearBy_0 : chk (cX12_yearBy.data.toList.drop 0) tcX12_yearBy_0 = true := by decide +kernel
theorem dX12_yearBy_0 : decode cX12_yearBy 0 = .ok (.aload_n 0, 1) := chk_nth ocX12_yearBy_0 (k := 0) rfl
theorem dX12_yearBy_1 : decode cX12_yearBy 1 = .ok (.getfield 13, 3) := chk_nth ocX12_yearBy_0 (k := 1) rfl
theorem dX12_yearBy_4 : decode cX12_yearBy 4 = .ok (.iconst 4, 1) := chk_nth ocX12_yearBy_0 (k := 2) rfl
theorem dX12_yearBy_5 : decode cX12_yearBy 5 = .ok (.iaload, 1) := chk_nth ocX12_yearBy_0 (k := 3) rfl
theorem dX12_yearBy_6 : decode cX12_yearBy 6 = .ok (.iconst 1, 1) := chk_nth ocX12_yearBy_0 (k := 4) rfl
theorem dX12_yearBy_7 : decode cX12_yearBy 7 = .ok (.if_icmp .ne 16, 3) := chk_nth ocX12_yearBy_0 (k := 5) rfl
theorem dX12_yearBy_10 : decode cX12_yearBy 10 = .ok (.aload_n 0, 1) := chk_nth ocX12_yearBy_0 (k := 6) rfl
theorem dX12_yearBy_11 : decode cX12_yearBy 11 = .ok (.iconst 0, 1) := chk_nth ocX12_yearBy_0 (k := 7) rfl
theorem dX12_yearBy_12 : decode cX12_yearBy 12 = .ok (.iload_n 1, 1) := chk_nth ocX12_yearBy_0 (k := 8) rfl
theorem dX12_yearBy_13 : decode cX12_yearBy 13 = .ok (.iload_n 2, 1) := chk_nth ocX12_yearBy_0 (k := 9) rfl
theorem dX12_yearBy_14 : decode cX12_yearBy 14 = .ok (.iload_n 3, 1) := chk_nth ocX12_yearBy_0 (k := 10) rfl
theorem dX12_yearBy_15 : decode cX12_yearBy 15 = .ok (.iload 4, 2) := chk_nth ocX12_yearBy_0 (k := 11) rfl
theorem dX12_yearBy_17 : decode cX12_yearBy 17 = .ok (.invokevirtual 217, 3) := chk_nth ocX12_yearBy_0 (k := 12) rfl
theorem dX12_yearBy_20 : decode cX12_yearBy 20 = .ok (.goto 31, 3) := chk_nth ocX12_yearBy_0 (k := 13) rfl
theorem dX12_yearBy_23 : decode cX12_yearBy 23 = .ok (.iload 4, 2) := chk_nth ocX12_yearBy_0 (k := 14) rfl
theorem dX12_yearBy_25 : decode cX12_yearBy 25 = .ok (.iconst 1, 1) := chk_nth ocX12_yearBy_0 (k := 15) rfl
theorem dX12_yearBy_26 : decode cX12_yearBy 26 = .ok (.if_icmp .ne 16, 3) := chk_nth ocX12_yearBy_0 (k := 16) rfl
theorem dX12_yearBy_29 : decode cX12_yearBy 29 = .ok (.aload_n 0, 1) := chk_nth ocX12_yearBy_0 (k := 17) rfl
theorem dX12_yearBy_30 : decode cX12_yearBy 30 = .ok (.getfield 13, 3) := chk_nth ocX12_yearBy_0 (k := 18) rfl
theorem dX12_yearBy_33 : decode cX12_yearBy 33 = .ok (.bipush 26, 2) := chk_nth ocX12_yearBy_0 (k := 19) rfl
theorem dX12_yearBy_35 : decode cX12_yearBy 35 = .ok (.iload_n 2, 1) := chk_nth ocX12_yearBy_0 (k := 20) rfl
theorem dX12_yearBy_36 : decode cX12_yearBy 36 = .ok (.iadd, 1) := chk_nth ocX12_yearBy_0 (k := 21) rfl
theorem dX12_yearBy_37 : decode cX12_yearBy 37 = .ok (.iaload, 1) := chk_nth ocX12_yearBy_0 (k := 22) rfl
theorem dX12_yearBy_38 : decode cX12_yearBy 38 = .ok (.ineg, 1) := chk_nth ocX12_yearBy_0 (k := 23) rfl
def tcX12_yearBy_1 : List (Instr × Nat) := [(.goto 12, 3), (.aload_n 0, 1), (.getfield 13, 3), (.bipush 26, 2), (.iload_n 2, 1), (.iadd, 1), (.iaload, 1), (.istore 5, 2), (.iload_n 3, 1), (.iload 5, 2), (.iadd, 1), (.ireturn, 1)]
theorem ocX12_yearBy_1 : chk (cX12_yearBy.data.toList.drop 39) tcX12_yearBy_1 = true := by decide +kernel
theorem dX12_yearBy_39 : decode cX12_yearBy 39 = .ok (.goto 12, 3) := chk_nth ocX12_yearBy_1 (k := 0) rfl
theorem dX12_yearBy_42 : decode cX12_yearBy 42 = .ok (.aload_n 0, 1) := chk_nth ocX12_yearBy_1 (k := 1) rfl
theorem dX12_yearBy_43 : decode cX12_yearBy 43 = .ok (.getfield 13, 3) := chk_nth ocX12_yearBy_1 (k := 2) rfl
theorem dX12_yearBy_46 : decode cX12_yearBy 46 = .ok (.bipush 26, 2) := chk_nth ocX12_yearBy_1 (k := 3) rfl
theorem dX12_yearBy_48 : decode cX12_yearBy 48 = .ok (.iload_n 2, 1) := chk_nth ocX12_yearBy_1 (k := 4) rfl
theorem dX12_yearBy_49 : decode cX12_yearBy 49 = .ok (.iadd, 1) := chk_nth ocX12_yearBy_1 (k := 5) rfl
theorem dX12_yearBy_50 : decode cX12_yearBy 50 = .ok (.iaload, 1) := chk_nth ocX12_yearBy_1 (k := 6) rfl
theorem dX12_yearBy_51 : decode cX12_yearBy 51 = .ok (.istore 5, 2) := chk_nth ocX12_yearBy_1 (k := 7) rfl
theorem dX12_yearBy_53 : decode cX12_yearBy 53 = .ok (.iload_n 3, 1) := chk_nth ocX12_yearBy_1 (k := 8) rfl
theorem dX12_yearBy_54 : decode cX12_yearBy 54 = .ok (.iload 5, 2) := chk_nth ocX12_yearBy_1 (k := 9) rfl
theorem dX12_yearBy_56 : decode cX12_yearBy 56 = .ok (.iadd, 1) := chk_nth ocX12_yearBy_1 (k := 10) rfl
theorem dX12_yearBy_57 : decode cX12_yearBy 57 = .ok (.ireturn, 1) := chk_nth ocX12_yearBy_1 (k := 11) rfl
def tcX12_whyBy_0 : List (Instr × Nat) := [(.iload_n 2, 1), (.bipush 20, 2), (.idiv, 1), (.istore 5, 2), (.iload 5, 2), (.aload_n 0, 1), (.getfield 13, 3), (.bipush 10, 2), (.iload_n 3, 1), (.iadd, 1), (.iaload, 1), (.if_icmp .eq 19, 3), (.iload 5, 2), (.aload_n 0, 1), (.getfield 13, 3), (.bipush 18, 2), (.iload_n 3, 1), (.iadd, 1), (.iaload, 1), (.if_icmp .eq 5, 3), (.iconst 2, 1), (.ireturn, 1), (.iload 5, 2), (.aload_n 0, 1)]
theorem ocX12_whyBy_0 : chk (cX12_whyBy.data.toList.drop 0) tcX12_whyBy_0 = true := by decide +kernel
theorem dX12_whyBy_0 : decode cX12_whyBy 0 = .ok (.iload_n 2, 1) := chk_nth ocX12_whyBy_0 (k := 0) rfl
theorem dX12_whyBy_1 : decode cX12_whyBy 1 = .ok (.bipush 20, 2) := chk_nth ocX12_whyBy_0 (k := 1) rfl
theorem dX12_whyBy_3 : decode cX12_whyBy 3 = .ok (.idiv, 1) := chk_nth ocX12_whyBy_0 (k := 2) rfl
theorem dX12_whyBy_4 : decode cX12_whyBy 4 = .ok (.istore 5, 2) := chk_nth ocX12_whyBy_0 (k := 3) rfl
theorem dX12_whyBy_6 : decode cX12_whyBy 6 = .ok (.iload 5, 2) := chk_nth ocX12_whyBy_0 (k := 4) rfl
theorem dX12_whyBy_8 : decode cX12_whyBy 8 = .ok (.aload_n 0, 1) := chk_nth ocX12_whyBy_0 (k := 5) rfl
theorem dX12_whyBy_9 : decode cX12_whyBy 9 = .ok (.getfield 13, 3) := chk_nth ocX12_whyBy_0 (k := 6) rfl
theorem dX12_whyBy_12 : decode cX12_whyBy 12 = .ok (.bipush 10, 2) := chk_nth ocX12_whyBy_0 (k := 7) rfl
theorem dX12_whyBy_14 : decode cX12_whyBy 14 = .ok (.iload_n 3, 1) := chk_nth ocX12_whyBy_0 (k := 8) rfl
theorem dX12_whyBy_15 : decode cX12_whyBy 15 = .ok (.iadd, 1) := chk_nth ocX12_whyBy_0 (k := 9) rfl
theorem dX12_whyBy_16 : decode cX12_whyBy 16 = .ok (.iaload, 1) := chk_nth ocX12_whyBy_0 (k := 10) rfl
theorem dX12_whyBy_17 : decode cX12_whyBy 17 = .ok (.if_icmp .eq 19, 3) := chk_nth ocX12_whyBy_0 (k := 11) rfl
theorem dX12_whyBy_20 : decode cX12_whyBy 20 = .ok (.iload 5, 2) := chk_nth ocX12_whyBy_0 (k := 12) rfl
theorem dX12_whyBy_22 : decode cX12_whyBy 22 = .ok (.aload_n 0, 1) := chk_nth ocX12_whyBy_0 (k := 13) rfl
theorem dX12_whyBy_23 : decode cX12_whyBy 23 = .ok (.getfield 13, 3) := chk_nth ocX12_whyBy_0 (k := 14) rfl
theorem dX12_whyBy_26 : decode cX12_whyBy 26 = .ok (.bipush 18, 2) := chk_nth ocX12_whyBy_0 (k := 15) rfl
theorem dX12_whyBy_28 : decode cX12_whyBy 28 = .ok (.iload_n 3, 1) := chk_nth ocX12_whyBy_0 (k := 16) rfl
theorem dX12_whyBy_29 : decode cX12_whyBy 29 = .ok (.iadd, 1) := chk_nth ocX12_whyBy_0 (k := 17) rfl
theorem dX12_whyBy_30 : decode cX12_whyBy 30 = .ok (.iaload, 1) := chk_nth ocX12_whyBy_0 (k := 18) rfl
theorem dX12_whyBy_31 : decode cX12_whyBy 31 = .ok (.if_icmp .eq 5, 3) := chk_nth ocX12_whyBy_0 (k := 19) rfl
theorem dX12_whyBy_34 : decode cX12_whyBy 34 = .ok (.iconst 2, 1) := chk_nth ocX12_whyBy_0 (k := 20) rfl
theorem dX12_whyBy_35 : decode cX12_whyBy 35 = .ok (.ireturn, 1) := chk_nth ocX12_whyBy_0 (k := 21) rfl
theorem dX12_whyBy_36 : decode cX12_whyBy 36 = .ok (.iload 5, 2) := chk_nth ocX12_whyBy_0 (k := 22) rfl
theorem dX12_whyBy_38 : decode cX12_whyBy 38 = .ok (.aload_n 0, 1) := chk_nth ocX12_whyBy_0 (k := 23) rfl
def tcX12_whyBy_1 : List (Instr × Nat) := [(.getfield 13, 3), (.bipush 18, 2), (.iload_n 3, 1), (.iadd, 1), (.iaload, 1), (.if_icmp .ne 7, 3), (.iconst 1, 1), (.goto 4, 3), (.iconst 0, 1), (.istore 6, 2), (.iload 4, 2), (.iload 6, 2), (.invokestatic 221, 3), (.ifCond .ne 5, 3), (.iconst 2, 1), (.ireturn, 1), (.aload_n 0, 1), (.getfield 13, 3), (.iconst 5, 1), (.iaload, 1), (.iconst 1, 1), (.if_icmp .ne 21, 3), (.aload_n 0, 1), (.iconst 1, 1)]
theorem ocX12_whyBy_1 : chk (cX12_whyBy.data.toList.drop 39) tcX12_whyBy_1 = true := by decide +kernel
theorem dX12_whyBy_39 : decode cX12_whyBy 39 = .ok (.getfield 13, 3) := chk_nth ocX12_whyBy_1 (k := 0) rfl
theorem dX12_whyBy_42 : decode cX12_whyBy 42 = .ok (.bipush 18, 2) := chk_nth ocX12_whyBy_1 (k := 1) rfl
theorem dX12_whyBy_44 : decode cX12_whyBy 44 = .ok (.iload_n 3, 1) := chk_nth ocX12_whyBy_1 (k := 2) rfl
theorem dX12_whyBy_45 : decode cX12_whyBy 45 = .ok (.iadd, 1) := chk_nth ocX12_whyBy_1 (k := 3) rfl
theorem dX12_whyBy_46 : decode cX12_whyBy 46 = .ok (.iaload, 1) := chk_nth ocX12_whyBy_1 (k := 4) rfl
theorem dX12_whyBy_47 : decode cX12_whyBy 47 = .ok (.if_icmp .ne 7, 3) := chk_nth ocX12_whyBy_1 (k := 5) rfl
theorem dX12_whyBy_50 : decode cX12_whyBy 50 = .ok (.iconst 1, 1) := chk_nth ocX12_whyBy_1 (k := 6) rfl
theorem dX12_whyBy_51 : decode cX12_whyBy 51 = .ok (.goto 4, 3) := chk_nth ocX12_whyBy_1 (k := 7) rfl
theorem dX12_whyBy_54 : decode cX12_whyBy 54 = .ok (.iconst 0, 1) := chk_nth ocX12_whyBy_1 (k := 8) rfl
theorem dX12_whyBy_55 : decode cX12_whyBy 55 = .ok (.istore 6, 2) := chk_nth ocX12_whyBy_1 (k := 9) rfl
theorem dX12_whyBy_57 : decode cX12_whyBy 57 = .ok (.iload 4, 2) := chk_nth ocX12_whyBy_1 (k := 10) rfl
theorem dX12_whyBy_59 : decode cX12_whyBy 59 = .ok (.iload 6, 2) := chk_nth ocX12_whyBy_1 (k := 11) rfl
theorem dX12_whyBy_61 : decode cX12_whyBy 61 = .ok (.invokestatic 221, 3) := chk_nth ocX12_whyBy_1 (k := 12) rfl
theorem dX12_whyBy_64 : decode cX12_whyBy 64 = .ok (.ifCond .ne 5, 3) := chk_nth ocX12_whyBy_1 (k := 13) rfl
theorem dX12_whyBy_67 : decode cX12_whyBy 67 = .ok (.iconst 2, 1) := chk_nth ocX12_whyBy_1 (k := 14) rfl
theorem dX12_whyBy_68 : decode cX12_whyBy 68 = .ok (.ireturn, 1) := chk_nth ocX12_whyBy_1 (k := 15) rfl
theorem dX12_whyBy_69 : decode cX12_whyBy 69 = .ok (.aload_n 0, 1) := chk_nth ocX12_whyBy_1 (k := 16) rfl
theorem dX12_whyBy_70 : decode cX12_whyBy 70 = .ok (.getfield 13, 3) := chk_nth ocX12_whyBy_1 (k := 17) rfl
theorem dX12_whyBy_73 : decode cX12_whyBy 73 = .ok (.iconst 5, 1) := chk_nth ocX12_whyBy_1 (k := 18) rfl
theorem dX12_whyBy_74 : decode cX12_whyBy 74 = .ok (.iaload, 1) := chk_nth ocX12_whyBy_1 (k := 19) rfl
theorem dX12_whyBy_75 : decode cX12_whyBy 75 = .ok (.iconst 1, 1) := chk_nth ocX12_whyBy_1 (k := 20) rfl
theorem dX12_whyBy_76 : decode cX12_whyBy 76 = .ok (.if_icmp .ne 21, 3) := chk_nth ocX12_whyBy_1 (k := 21) rfl
theorem dX12_whyBy_79 : decode cX12_whyBy 79 = .ok (.aload_n 0, 1) := chk_nth ocX12_whyBy_1 (k := 22) rfl
theorem dX12_whyBy_80 : decode cX12_whyBy 80 = .ok (.iconst 1, 1) := chk_nth ocX12_whyBy_1 (k := 23) rfl
def tcX12_whyBy_2 : List (Instr × Nat) := [(.iload_n 1, 1), (.iload_n 3, 1), (.iload_n 2, 1), (.bipush 20, 2), (.irem, 1), (.iload 6, 2), (.invokevirtual 217, 3), (.ifCond .ne 5, 3), (.iconst 3, 1), (.ireturn, 1), (.aload_n 0, 1), (.iload_n 1, 1), (.iload_n 3, 1), (.iload_n 2, 1), (.bipush 20, 2), (.irem, 1), (.iload 6, 2), (.invokevirtual 225, 3), (.i2l, 1), (.invokestatic 229, 3), (.ifCond .eq 7, 3), (.iconst 0, 1), (.goto 4, 3), (.iconst 4, 1)]
theorem ocX12_whyBy_2 : chk (cX12_whyBy.data.toList.drop 81) tcX12_whyBy_2 = true := by decide +kernel
theorem dX12_whyBy_81 : decode cX12_whyBy 81 = .ok (.iload_n 1, 1) := chk_nth ocX12_whyBy_2 (k := 0) rfl
theorem dX12_whyBy_82 : decode cX12_whyBy 82 = .ok (.iload_n 3, 1) := chk_nth ocX12_whyBy_2 (k := 1) rfl
theorem dX12_whyBy_83 : decode cX12_whyBy 83 = .ok (.iload_n 2, 1) := chk_nth ocX12_whyBy_2 (k := 2) rfl
theorem dX12_whyBy_84 : decode cX12_whyBy 84 = .ok (.bipush 20, 2) := chk_nth ocX12_whyBy_2 (k := 3) rfl
theorem dX12_whyBy_86 : decode cX12_whyBy 86 = .ok (.irem, 1) := chk_nth ocX12_whyBy_2 (k := 4) rfl
theorem dX12_whyBy_87 : decode cX12_whyBy 87 = .ok (.iload 6, 2) := chk_nth ocX12_whyBy_2 (k := 5) rfl
theorem dX12_whyBy_89 : decode cX12_whyBy 89 = .ok (.invokevirtual 217, 3) := chk_nth ocX12_whyBy_2 (k := 6) rfl
theorem dX12_whyBy_92 : decode cX12_whyBy 92 = .ok (.ifCond .ne 5, 3) := chk_nth ocX12_whyBy_2 (k := 7) rfl
theorem dX12_whyBy_95 : decode cX12_whyBy 95 = .ok (.iconst 3, 1) := chk_nth ocX12_whyBy_2 (k := 8) rfl
theorem dX12_whyBy_96 : decode cX12_whyBy 96 = .ok (.ireturn, 1) := chk_nth ocX12_whyBy_2 (k := 9) rfl
theorem dX12_whyBy_97 : decode cX12_whyBy 97 = .ok (.aload_n 0, 1) := chk_nth ocX12_whyBy_2 (k := 10) rfl
theorem dX12_whyBy_98 : decode cX12_whyBy 98 = .ok (.iload_n 1, 1) := chk_nth ocX12_whyBy_2 (k := 11) rfl
theorem dX12_whyBy_99 : decode cX12_whyBy 99 = .ok (.iload_n 3, 1) := chk_nth ocX12_whyBy_2 (k := 12) rfl
theorem dX12_whyBy_100 : decode cX12_whyBy 100 = .ok (.iload_n 2, 1) := chk_nth ocX12_whyBy_2 (k := 13) rfl
theorem dX12_whyBy_101 : decode cX12_whyBy 101 = .ok (.bipush 20, 2) := chk_nth ocX12_whyBy_2 (k := 14) rfl
theorem dX12_whyBy_103 : decode cX12_whyBy 103 = .ok (.irem, 1) := chk_nth ocX12_whyBy_2 (k := 15) rfl
theorem dX12_whyBy_104 : decode cX12_whyBy 104 = .ok (.iload 6, 2) := chk_nth ocX12_whyBy_2 (k := 16) rfl
theorem dX12_whyBy_106 : decode cX12_whyBy 106 = .ok (.invokevirtual 225, 3) := chk_nth ocX12_whyBy_2 (k := 17) rfl
theorem dX12_whyBy_109 : decode cX12_whyBy 109 = .ok (.i2l, 1) := chk_nth ocX12_whyBy_2 (k := 18) rfl
theorem dX12_whyBy_110 : decode cX12_whyBy 110 = .ok (.invokestatic 229, 3) := chk_nth ocX12_whyBy_2 (k := 19) rfl
theorem dX12_whyBy_113 : decode cX12_whyBy 113 = .ok (.ifCond .eq 7, 3) := chk_nth ocX12_whyBy_2 (k := 20) rfl
theorem dX12_whyBy_116 : decode cX12_whyBy 116 = .ok (.iconst 0, 1) := chk_nth ocX12_whyBy_2 (k := 21) rfl
theorem dX12_whyBy_117 : decode cX12_whyBy 117 = .ok (.goto 4, 3) := chk_nth ocX12_whyBy_2 (k := 22) rfl
theorem dX12_whyBy_120 : decode cX12_whyBy 120 = .ok (.iconst 4, 1) := chk_nth ocX12_whyBy_2 (k := 23) rfl
def tcX12_whyBy_3 : List (Instr × Nat) := [(.ireturn, 1)]
theorem ocX12_whyBy_3 : chk (cX12_whyBy.data.toList.drop 121) tcX12_whyBy_3 = true := by decide +kernel
theorem dX12_whyBy_121 : decode cX12_whyBy 121 = .ok (.ireturn, 1) := chk_nth ocX12_whyBy_3 (k := 0) rfl
def tcX12_goneTo_0 : List (Instr × Nat) := [(.iload_n 2, 1), (.bipush 20, 2), (.idiv, 1), (.aload_n 0, 1), (.getfield 13, 3), (.bipush 18, 2), (.iload_n 3, 1), (.iadd, 1), (.iaload, 1), (.if_icmp .ne 7, 3), (.iconst 1, 1), (.goto 4, 3), (.iconst 0, 1), (.istore 4, 2), (.iload 4, 2), (.iconst 1, 1), (.if_icmp .ne 15, 3), (.aload_n 0, 1), (.getfield 13, 3), (.bipush 10, 2), (.iload_n 3, 1), (.iadd, 1), (.iaload, 1), (.goto 12, 3)]
theorem ocX12_goneTo_0 : chk (cX12_goneTo.data.toList.drop 0) tcX12_goneTo_0 = true := by decide +kernel
theorem dX12_goneTo_0 : decode cX12_goneTo 0 = .ok (.iload_n 2, 1) := chk_nth ocX12_goneTo_0 (k := 0) rfl
theorem dX12_goneTo_1 : decode cX12_goneTo 1 = .ok (.bipush 20, 2) := chk_nth ocX12_goneTo_0 (k := 1) rfl
theorem dX12_goneTo_3 : decode cX12_goneTo 3 = .ok (.idiv, 1) := chk_nth ocX12_goneTo_0 (k := 2) rfl
theorem dX12_goneTo_4 : decode cX12_goneTo 4 = .ok (.aload_n 0, 1) := chk_nth ocX12_goneTo_0 (k := 3) rfl
theorem dX12_goneTo_5 : decode cX12_goneTo 5 = .ok (.getfield 13, 3) := chk_nth ocX12_goneTo_0 (k := 4) rfl
theorem dX12_goneTo_8 : decode cX12_goneTo 8 = .ok (.bipush 18, 2) := chk_nth ocX12_goneTo_0 (k := 5) rfl
theorem dX12_goneTo_10 : decode cX12_goneTo 10 = .ok (.iload_n 3, 1) := chk_nth ocX12_goneTo_0 (k := 6) rfl
theorem dX12_goneTo_11 : decode cX12_goneTo 11 = .ok (.iadd, 1) := chk_nth ocX12_goneTo_0 (k := 7) rfl
theorem dX12_goneTo_12 : decode cX12_goneTo 12 = .ok (.iaload, 1) := chk_nth ocX12_goneTo_0 (k := 8) rfl
theorem dX12_goneTo_13 : decode cX12_goneTo 13 = .ok (.if_icmp .ne 7, 3) := chk_nth ocX12_goneTo_0 (k := 9) rfl
theorem dX12_goneTo_16 : decode cX12_goneTo 16 = .ok (.iconst 1, 1) := chk_nth ocX12_goneTo_0 (k := 10) rfl
theorem dX12_goneTo_17 : decode cX12_goneTo 17 = .ok (.goto 4, 3) := chk_nth ocX12_goneTo_0 (k := 11) rfl
theorem dX12_goneTo_20 : decode cX12_goneTo 20 = .ok (.iconst 0, 1) := chk_nth ocX12_goneTo_0 (k := 12) rfl
theorem dX12_goneTo_21 : decode cX12_goneTo 21 = .ok (.istore 4, 2) := chk_nth ocX12_goneTo_0 (k := 13) rfl
theorem dX12_goneTo_23 : decode cX12_goneTo 23 = .ok (.iload 4, 2) := chk_nth ocX12_goneTo_0 (k := 14) rfl
theorem dX12_goneTo_25 : decode cX12_goneTo 25 = .ok (.iconst 1, 1) := chk_nth ocX12_goneTo_0 (k := 15) rfl
theorem dX12_goneTo_26 : decode cX12_goneTo 26 = .ok (.if_icmp .ne 15, 3) := chk_nth ocX12_goneTo_0 (k := 16) rfl
theorem dX12_goneTo_29 : decode cX12_goneTo 29 = .ok (.aload_n 0, 1) := chk_nth ocX12_goneTo_0 (k := 17) rfl
theorem dX12_goneTo_30 : decode cX12_goneTo 30 = .ok (.getfield 13, 3) := chk_nth ocX12_goneTo_0 (k := 18) rfl
theorem dX12_goneTo_33 : decode cX12_goneTo 33 = .ok (.bipush 10, 2) := chk_nth ocX12_goneTo_0 (k := 19) rfl
theorem dX12_goneTo_35 : decode cX12_goneTo 35 = .ok (.iload_n 3, 1) := chk_nth ocX12_goneTo_0 (k := 20) rfl
theorem dX12_goneTo_36 : decode cX12_goneTo 36 = .ok (.iadd, 1) := chk_nth ocX12_goneTo_0 (k := 21) rfl
theorem dX12_goneTo_37 : decode cX12_goneTo 37 = .ok (.iaload, 1) := chk_nth ocX12_goneTo_0 (k := 22) rfl
theorem dX12_goneTo_38 : decode cX12_goneTo 38 = .ok (.goto 12, 3) := chk_nth ocX12_goneTo_0 (k := 23) rfl
def tcX12_goneTo_1 : List (Instr × Nat) := [(.aload_n 0, 1), (.getfield 13, 3), (.bipush 18, 2), (.iload_n 3, 1), (.iadd, 1), (.iaload, 1), (.istore 5, 2), (.bipush 20, 2), (.iload 5, 2), (.imul, 1), (.aload_n 0, 1), (.iload_n 1, 1), (.iload_n 3, 1), (.iload_n 2, 1), (.bipush 20, 2), (.irem, 1), (.iload 4, 2), (.invokevirtual 225, 3), (.iadd, 1), (.ireturn, 1)]
theorem ocX12_goneTo_1 : chk (cX12_goneTo.data.toList.drop 41) tcX12_goneTo_1 = true := by decide +kernel
theorem dX12_goneTo_41 : decode cX12_goneTo 41 = .ok (.aload_n 0, 1) := chk_nth ocX12_goneTo_1 (k := 0) rfl
theorem dX12_goneTo_42 : decode cX12_goneTo 42 = .ok (.getfield 13, 3) := chk_nth ocX12_goneTo_1 (k := 1) rfl
theorem dX12_goneTo_45 : decode cX12_goneTo 45 = .ok (.bipush 18, 2) := chk_nth ocX12_goneTo_1 (k := 2) rfl
theorem dX12_goneTo_47 : decode cX12_goneTo 47 = .ok (.iload_n 3, 1) := chk_nth ocX12_goneTo_1 (k := 3) rfl
theorem dX12_goneTo_48 : decode cX12_goneTo 48 = .ok (.iadd, 1) := chk_nth ocX12_goneTo_1 (k := 4) rfl
theorem dX12_goneTo_49 : decode cX12_goneTo 49 = .ok (.iaload, 1) := chk_nth ocX12_goneTo_1 (k := 5) rfl
theorem dX12_goneTo_50 : decode cX12_goneTo 50 = .ok (.istore 5, 2) := chk_nth ocX12_goneTo_1 (k := 6) rfl
theorem dX12_goneTo_52 : decode cX12_goneTo 52 = .ok (.bipush 20, 2) := chk_nth ocX12_goneTo_1 (k := 7) rfl
theorem dX12_goneTo_54 : decode cX12_goneTo 54 = .ok (.iload 5, 2) := chk_nth ocX12_goneTo_1 (k := 8) rfl
theorem dX12_goneTo_56 : decode cX12_goneTo 56 = .ok (.imul, 1) := chk_nth ocX12_goneTo_1 (k := 9) rfl
theorem dX12_goneTo_57 : decode cX12_goneTo 57 = .ok (.aload_n 0, 1) := chk_nth ocX12_goneTo_1 (k := 10) rfl
theorem dX12_goneTo_58 : decode cX12_goneTo 58 = .ok (.iload_n 1, 1) := chk_nth ocX12_goneTo_1 (k := 11) rfl
theorem dX12_goneTo_59 : decode cX12_goneTo 59 = .ok (.iload_n 3, 1) := chk_nth ocX12_goneTo_1 (k := 12) rfl
theorem dX12_goneTo_60 : decode cX12_goneTo 60 = .ok (.iload_n 2, 1) := chk_nth ocX12_goneTo_1 (k := 13) rfl
theorem dX12_goneTo_61 : decode cX12_goneTo 61 = .ok (.bipush 20, 2) := chk_nth ocX12_goneTo_1 (k := 14) rfl
theorem dX12_goneTo_63 : decode cX12_goneTo 63 = .ok (.irem, 1) := chk_nth ocX12_goneTo_1 (k := 15) rfl
theorem dX12_goneTo_64 : decode cX12_goneTo 64 = .ok (.iload 4, 2) := chk_nth ocX12_goneTo_1 (k := 16) rfl
theorem dX12_goneTo_66 : decode cX12_goneTo 66 = .ok (.invokevirtual 225, 3) := chk_nth ocX12_goneTo_1 (k := 17) rfl
theorem dX12_goneTo_69 : decode cX12_goneTo 69 = .ok (.iadd, 1) := chk_nth ocX12_goneTo_1 (k := 18) rfl
theorem dX12_goneTo_70 : decode cX12_goneTo 70 = .ok (.ireturn, 1) := chk_nth ocX12_goneTo_1 (k := 19) rfl
def tcX12_whyGo_0 : List (Instr × Nat) := [(.aload_n 0, 1), (.lload_n 1, 1), (.invokevirtual 233, 3), (.ifCond .eq 11, 3), (.aload_n 0, 1), (.lload_n 3, 1), (.invokevirtual 236, 3), (.ifCond .ne 5, 3), (.iconst 1, 1), (.ireturn, 1), (.aload_n 0, 1), (.lload_n 1, 1), (.l2i, 1), (.aload_n 0, 1), (.lload_n 1, 1), (.l2i, 1), (.invokevirtual 239, 3), (.lload_n 3, 1), (.l2i, 1), (.aload_n 0, 1), (.getfield 13, 3), (.bipush 40, 2), (.lload_n 3, 1), (.l2i, 1)]
theorem ocX12_whyGo_0 : chk (cX12_whyGo.data.toList.drop 0) tcX12_whyGo_0 = true := by decide +kernel
theorem dX12_whyGo_0 : decode cX12_whyGo 0 = .ok (.aload_n 0, 1) := chk_nth ocX12_whyGo_0 (k := 0) rfl
theorem dX12_whyGo_1 : decode cX12_whyGo 1 = .ok (.lload_n 1, 1) := chk_nth ocX12_whyGo_0 (k := 1) rfl
theorem dX12_whyGo_2 : decode cX12_whyGo 2 = .ok (.invokevirtual 233, 3) := chk_nth ocX12_whyGo_0 (k := 2) rfl
theorem dX12_whyGo_5 : decode cX12_whyGo 5 = .ok (.ifCond .eq 11, 3) := chk_nth ocX12_whyGo_0 (k := 3) rfl
theorem dX12_whyGo_8 : decode cX12_whyGo 8 = .ok (.aload_n 0, 1) := chk_nth ocX12_whyGo_0 (k := 4) rfl
theorem dX12_whyGo_9 : decode cX12_whyGo 9 = .ok (.lload_n 3, 1) := chk_nth ocX12_whyGo_0 (k := 5) rfl
theorem dX12_whyGo_10 : decode cX12_whyGo 10 = .ok (.invokevirtual 236, 3) := chk_nth ocX12_whyGo_0 (k := 6) rfl
theorem dX12_whyGo_13 : decode cX12_whyGo 13 = .ok (.ifCond .ne 5, 3) := chk_nth ocX12_whyGo_0 (k := 7) rfl
theorem dX12_whyGo_16 : decode cX12_whyGo 16 = .ok (.iconst 1, 1) := chk_nth ocX12_whyGo_0 (k := 8) rfl
theorem dX12_whyGo_17 : decode cX12_whyGo 17 = .ok (.ireturn, 1) := chk_nth ocX12_whyGo_0 (k := 9) rfl
theorem dX12_whyGo_18 : decode cX12_whyGo 18 = .ok (.aload_n 0, 1) := chk_nth ocX12_whyGo_0 (k := 10) rfl
theorem dX12_whyGo_19 : decode cX12_whyGo 19 = .ok (.lload_n 1, 1) := chk_nth ocX12_whyGo_0 (k := 11) rfl
theorem dX12_whyGo_20 : decode cX12_whyGo 20 = .ok (.l2i, 1) := chk_nth ocX12_whyGo_0 (k := 12) rfl
theorem dX12_whyGo_21 : decode cX12_whyGo 21 = .ok (.aload_n 0, 1) := chk_nth ocX12_whyGo_0 (k := 13) rfl
theorem dX12_whyGo_22 : decode cX12_whyGo 22 = .ok (.lload_n 1, 1) := chk_nth ocX12_whyGo_0 (k := 14) rfl
theorem dX12_whyGo_23 : decode cX12_whyGo 23 = .ok (.l2i, 1) := chk_nth ocX12_whyGo_0 (k := 15) rfl
theorem dX12_whyGo_24 : decode cX12_whyGo 24 = .ok (.invokevirtual 239, 3) := chk_nth ocX12_whyGo_0 (k := 16) rfl
theorem dX12_whyGo_27 : decode cX12_whyGo 27 = .ok (.lload_n 3, 1) := chk_nth ocX12_whyGo_0 (k := 17) rfl
theorem dX12_whyGo_28 : decode cX12_whyGo 28 = .ok (.l2i, 1) := chk_nth ocX12_whyGo_0 (k := 18) rfl
theorem dX12_whyGo_29 : decode cX12_whyGo 29 = .ok (.aload_n 0, 1) := chk_nth ocX12_whyGo_0 (k := 19) rfl
theorem dX12_whyGo_30 : decode cX12_whyGo 30 = .ok (.getfield 13, 3) := chk_nth ocX12_whyGo_0 (k := 20) rfl
theorem dX12_whyGo_33 : decode cX12_whyGo 33 = .ok (.bipush 40, 2) := chk_nth ocX12_whyGo_0 (k := 21) rfl
theorem dX12_whyGo_35 : decode cX12_whyGo 35 = .ok (.lload_n 3, 1) := chk_nth ocX12_whyGo_0 (k := 22) rfl
theorem dX12_whyGo_36 : decode cX12_whyGo 36 = .ok (.l2i, 1) := chk_nth ocX12_whyGo_0 (k := 23) rfl
def tcX12_whyGo_1 : List (Instr × Nat) := [(.iadd, 1), (.iaload, 1), (.invokevirtual 242, 3), (.ireturn, 1)]
theorem ocX12_whyGo_1 : chk (cX12_whyGo.data.toList.drop 37) tcX12_whyGo_1 = true := by decide +kernel
theorem dX12_whyGo_37 : decode cX12_whyGo 37 = .ok (.iadd, 1) := chk_nth ocX12_whyGo_1 (k := 0) rfl
theorem dX12_whyGo_38 : decode cX12_whyGo 38 = .ok (.iaload, 1) := chk_nth ocX12_whyGo_1 (k := 1) rfl
theorem dX12_whyGo_39 : decode cX12_whyGo 39 = .ok (.invokevirtual 242, 3) := chk_nth ocX12_whyGo_1 (k := 2) rfl
theorem dX12_whyGo_42 : decode cX12_whyGo 42 = .ok (.ireturn, 1) := chk_nth ocX12_whyGo_1 (k := 3) rfl
def tcX12_street_0 : List (Instr × Nat) := [(.aload_n 0, 1), (.iconst 0, 1), (.putfield 1, 3), (.aload_n 0, 1), (.iload_n 1, 1), (.i2l, 1), (.invokevirtual 236, 3), (.ifCond .ne 6, 3), (.bipush (-2), 2), (.ireturn, 1), (.iload_n 2, 1)]
theorem ocX12_street_0 : chk (cX12_street.data.toList.drop 0) tcX12_street_0 = true := by decide +kernel
theorem dX12_street_0 : decode cX12_street 0 = .ok (.aload_n 0, 1) := chk_nth ocX12_street_0 (k := 0) rfl
theorem dX12_street_1 : decode cX12_street 1 = .ok (.iconst 0, 1) := chk_nth ocX12_street_0 (k := 1) rfl
theorem dX12_street_2 : decode cX12_street 2 = .ok (.putfield 1, 3) := chk_nth ocX12_street_0 (k := 2) rfl
theorem dX12_street_5 : decode cX12_street 5 = .ok (.aload_n 0, 1) := chk_nth ocX12_street_0 (k := 3) rfl
theorem dX12_street_6 : decode cX12_street 6 = .ok (.iload_n 1, 1) := chk_nth ocX12_street_0 (k := 4) rfl
theorem dX12_street_7 : decode cX12_street 7 = .ok (.i2l, 1) := chk_nth ocX12_street_0 (k := 5) rfl
theorem dX12_street_8 : decode cX12_street 8 = .ok (.invokevirtual 236, 3) := chk_nth ocX12_street_0 (k := 6) rfl
theorem dX12_street_11 : decode cX12_street 11 = .ok (.ifCond .ne 6, 3) := chk_nth ocX12_street_0 (k := 7) rfl
theorem dX12_street_14 : decode cX12_street 14 = .ok (.bipush (-2), 2) := chk_nth ocX12_street_0 (k := 8) rfl
theorem dX12_street_16 : decode cX12_street 16 = .ok (.ireturn, 1) := chk_nth ocX12_street_0 (k := 9) rfl
theorem dX12_street_17 : decode cX12_street 17 = .ok (.iload_n 2, 1) := chk_nth ocX12_street_0 (k := 10) rfl
theorem dX12_street_18 : decode cX12_street 18 = .ok (.tableswitch 73 0 3 #[30, 40, 50, 60], 30) := by decide +kernel
def tcX12_street_1 : List (Instr × Nat) := [(.aload_n 0, 1), (.getfield 13, 3), (.bipush 10, 2), (.iload_n 1, 1), (.iadd, 1), (.iaload, 1), (.ireturn, 1), (.aload_n 0, 1), (.getfield 13, 3), (.bipush 18, 2), (.iload_n 1, 1), (.iadd, 1), (.iaload, 1), (.ireturn, 1), (.aload_n 0, 1), (.getfield 13, 3), (.bipush 40, 2), (.iload_n 1, 1), (.iadd, 1), (.iaload, 1), (.ireturn, 1), (.bipush 50, 2), (.aload_n 0, 1), (.getfield 13, 3)]
theorem ocX12_street_1 : chk (cX12_street.data.toList.drop 48) tcX12_street_1 = true := by decide +kernel
theorem dX12_street_48 : decode cX12_street 48 = .ok (.aload_n 0, 1) := chk_nth ocX12_street_1 (k := 0) rfl
theorem dX12_street_49 : decode cX12_street 49 = .ok (.getfield 13, 3) := chk_nth ocX12_street_1 (k := 1) rfl
theorem dX12_street_52 : decode cX12_street 52 = .ok (.bipush 10, 2) := chk_nth ocX12_street_1 (k := 2) rfl
theorem dX12_street_54 : decode cX12_street 54 = .ok (.iload_n 1, 1) := chk_nth ocX12_street_1 (k := 3) rfl
theorem dX12_street_55 : decode cX12_street 55 = .ok (.iadd, 1) := chk_nth ocX12_street_1 (k := 4) rfl
theorem dX12_street_56 : decode cX12_street 56 = .ok (.iaload, 1) := chk_nth ocX12_street_1 (k := 5) rfl
theorem dX12_street_57 : decode cX12_street 57 = .ok (.ireturn, 1) := chk_nth ocX12_street_1 (k := 6) rfl
theorem dX12_street_58 : decode cX12_street 58 = .ok (.aload_n 0, 1) := chk_nth ocX12_street_1 (k := 7) rfl
theorem dX12_street_59 : decode cX12_street 59 = .ok (.getfield 13, 3) := chk_nth ocX12_street_1 (k := 8) rfl
theorem dX12_street_62 : decode cX12_street 62 = .ok (.bipush 18, 2) := chk_nth ocX12_street_1 (k := 9) rfl
theorem dX12_street_64 : decode cX12_street 64 = .ok (.iload_n 1, 1) := chk_nth ocX12_street_1 (k := 10) rfl
theorem dX12_street_65 : decode cX12_street 65 = .ok (.iadd, 1) := chk_nth ocX12_street_1 (k := 11) rfl
theorem dX12_street_66 : decode cX12_street 66 = .ok (.iaload, 1) := chk_nth ocX12_street_1 (k := 12) rfl
theorem dX12_street_67 : decode cX12_street 67 = .ok (.ireturn, 1) := chk_nth ocX12_street_1 (k := 13) rfl
theorem dX12_street_68 : decode cX12_street 68 = .ok (.aload_n 0, 1) := chk_nth ocX12_street_1 (k := 14) rfl
theorem dX12_street_69 : decode cX12_street 69 = .ok (.getfield 13, 3) := chk_nth ocX12_street_1 (k := 15) rfl
theorem dX12_street_72 : decode cX12_street 72 = .ok (.bipush 40, 2) := chk_nth ocX12_street_1 (k := 16) rfl
theorem dX12_street_74 : decode cX12_street 74 = .ok (.iload_n 1, 1) := chk_nth ocX12_street_1 (k := 17) rfl
theorem dX12_street_75 : decode cX12_street 75 = .ok (.iadd, 1) := chk_nth ocX12_street_1 (k := 18) rfl
theorem dX12_street_76 : decode cX12_street 76 = .ok (.iaload, 1) := chk_nth ocX12_street_1 (k := 19) rfl
theorem dX12_street_77 : decode cX12_street 77 = .ok (.ireturn, 1) := chk_nth ocX12_street_1 (k := 20) rfl
theorem dX12_street_78 : decode cX12_street 78 = .ok (.bipush 50, 2) := chk_nth ocX12_street_1 (k := 21) rfl
theorem dX12_street_80 : decode cX12_street 80 = .ok (.aload_n 0, 1) := chk_nth ocX12_street_1 (k := 22) rfl
theorem dX12_street_81 : decode cX12_street 81 = .ok (.getfield 13, 3) := chk_nth ocX12_street_1 (k := 23) rfl
def tcX12_street_2 : List (Instr × Nat) := [(.bipush 26, 2), (.iload_n 1, 1), (.iadd, 1), (.iaload, 1), (.iadd, 1), (.ireturn, 1), (.bipush (-2), 2), (.ireturn, 1)]
theorem ocX12_street_2 : chk (cX12_street.data.toList.drop 84) tcX12_street_2 = true := by decide +kernel
theorem dX12_street_84 : decode cX12_street 84 = .ok (.bipush 26, 2) := chk_nth ocX12_street_2 (k := 0) rfl
theorem dX12_street_86 : decode cX12_street 86 = .ok (.iload_n 1, 1) := chk_nth ocX12_street_2 (k := 1) rfl
theorem dX12_street_87 : decode cX12_street 87 = .ok (.iadd, 1) := chk_nth ocX12_street_2 (k := 2) rfl
theorem dX12_street_88 : decode cX12_street 88 = .ok (.iaload, 1) := chk_nth ocX12_street_2 (k := 3) rfl
theorem dX12_street_89 : decode cX12_street 89 = .ok (.iadd, 1) := chk_nth ocX12_street_2 (k := 4) rfl
theorem dX12_street_90 : decode cX12_street 90 = .ok (.ireturn, 1) := chk_nth ocX12_street_2 (k := 5) rfl
theorem dX12_street_91 : decode cX12_street 91 = .ok (.bipush (-2), 2) := chk_nth ocX12_street_2 (k := 6) rfl
theorem dX12_street_93 : decode cX12_street 93 = .ok (.ireturn, 1) := chk_nth ocX12_street_2 (k := 7) rfl
def tcX12_goer_0 : List (Instr × Nat) := [(.aload_n 0, 1), (.iconst 0, 1), (.putfield 1, 3), (.aload_n 0, 1), (.iload_n 1, 1), (.i2l, 1), (.invokevirtual 233, 3), (.ifCond .eq 15, 3), (.iload_n 2, 1), (.i2l, 1), (.lconst 0, 1), (.ldc2_w 245, 3), (.invokestatic 142, 3), (.ifCond .ne 6, 3), (.bipush (-2), 2), (.ireturn, 1), (.iload_n 2, 1), (.ifCond .ne 13, 3), (.aload_n 0, 1), (.getfield 13, 3), (.bipush 34, 2), (.iload_n 1, 1), (.iadd, 1), (.iaload, 1)]
theorem ocX12_goer_0 : chk (cX12_goer.data.toList.drop 0) tcX12_goer_0 = true := by decide +kernel
theorem dX12_goer_0 : decode cX12_goer 0 = .ok (.aload_n 0, 1) := chk_nth ocX12_goer_0 (k := 0) rfl
theorem dX12_goer_1 : decode cX12_goer 1 = .ok (.iconst 0, 1) := chk_nth ocX12_goer_0 (k := 1) rfl
theorem dX12_goer_2 : decode cX12_goer 2 = .ok (.putfield 1, 3) := chk_nth ocX12_goer_0 (k := 2) rfl
theorem dX12_goer_5 : decode cX12_goer 5 = .ok (.aload_n 0, 1) := chk_nth ocX12_goer_0 (k := 3) rfl
theorem dX12_goer_6 : decode cX12_goer 6 = .ok (.iload_n 1, 1) := chk_nth ocX12_goer_0 (k := 4) rfl
theorem dX12_goer_7 : decode cX12_goer 7 = .ok (.i2l, 1) := chk_nth ocX12_goer_0 (k := 5) rfl
theorem dX12_goer_8 : decode cX12_goer 8 = .ok (.invokevirtual 233, 3) := chk_nth ocX12_goer_0 (k := 6) rfl
theorem dX12_goer_11 : decode cX12_goer 11 = .ok (.ifCond .eq 15, 3) := chk_nth ocX12_goer_0 (k := 7) rfl
theorem dX12_goer_14 : decode cX12_goer 14 = .ok (.iload_n 2, 1) := chk_nth ocX12_goer_0 (k := 8) rfl
theorem dX12_goer_15 : decode cX12_goer 15 = .ok (.i2l, 1) := chk_nth ocX12_goer_0 (k := 9) rfl
theorem dX12_goer_16 : decode cX12_goer 16 = .ok (.lconst 0, 1) := chk_nth ocX12_goer_0 (k := 10) rfl
theorem dX12_goer_17 : decode cX12_goer 17 = .ok (.ldc2_w 245, 3) := chk_nth ocX12_goer_0 (k := 11) rfl
theorem dX12_goer_20 : decode cX12_goer 20 = .ok (.invokestatic 142, 3) := chk_nth ocX12_goer_0 (k := 12) rfl
theorem dX12_goer_23 : decode cX12_goer 23 = .ok (.ifCond .ne 6, 3) := chk_nth ocX12_goer_0 (k := 13) rfl
theorem dX12_goer_26 : decode cX12_goer 26 = .ok (.bipush (-2), 2) := chk_nth ocX12_goer_0 (k := 14) rfl
theorem dX12_goer_28 : decode cX12_goer 28 = .ok (.ireturn, 1) := chk_nth ocX12_goer_0 (k := 15) rfl
theorem dX12_goer_29 : decode cX12_goer 29 = .ok (.iload_n 2, 1) := chk_nth ocX12_goer_0 (k := 16) rfl
theorem dX12_goer_30 : decode cX12_goer 30 = .ok (.ifCond .ne 13, 3) := chk_nth ocX12_goer_0 (k := 17) rfl
theorem dX12_goer_33 : decode cX12_goer 33 = .ok (.aload_n 0, 1) := chk_nth ocX12_goer_0 (k := 18) rfl
theorem dX12_goer_34 : decode cX12_goer 34 = .ok (.getfield 13, 3) := chk_nth ocX12_goer_0 (k := 19) rfl
theorem dX12_goer_37 : decode cX12_goer 37 = .ok (.bipush 34, 2) := chk_nth ocX12_goer_0 (k := 20) rfl
theorem dX12_goer_39 : decode cX12_goer 39 = .ok (.iload_n 1, 1) := chk_nth ocX12_goer_0 (k := 21) rfl
theorem dX12_goer_40 : decode cX12_goer 40 = .ok (.iadd, 1) := chk_nth ocX12_goer_0 (k := 22) rfl
theorem dX12_goer_41 : decode cX12_goer 41 = .ok (.iaload, 1) := chk_nth ocX12_goer_0 (k := 23) rfl
def tcX12_goer_1 : List (Instr × Nat) := [(.ireturn, 1), (.iload_n 2, 1), (.iconst 1, 1), (.if_icmp .ne 13, 3), (.aload_n 0, 1), (.getfield 13, 3), (.bipush 37, 2), (.iload_n 1, 1), (.iadd, 1), (.iaload, 1), (.ireturn, 1), (.iconst 0, 1), (.istore_n 3, 1), (.iconst 0, 1), (.istore 4, 2), (.iload 4, 2), (.aload_n 0, 1), (.getfield 13, 3), (.iconst 2, 1), (.iaload, 1), (.if_icmp .ge 32, 3), (.iload_n 3, 1), (.aload_n 0, 1), (.iload_n 1, 1)]
theorem ocX12_goer_1 : chk (cX12_goer.data.toList.drop 42) tcX12_goer_1 = true := by decide +kernel
theorem dX12_goer_42 : decode cX12_goer 42 = .ok (.ireturn, 1) := chk_nth ocX12_goer_1 (k := 0) rfl
theorem dX12_goer_43 : decode cX12_goer 43 = .ok (.iload_n 2, 1) := chk_nth ocX12_goer_1 (k := 1) rfl
theorem dX12_goer_44 : decode cX12_goer 44 = .ok (.iconst 1, 1) := chk_nth ocX12_goer_1 (k := 2) rfl
theorem dX12_goer_45 : decode cX12_goer 45 = .ok (.if_icmp .ne 13, 3) := chk_nth ocX12_goer_1 (k := 3) rfl
theorem dX12_goer_48 : decode cX12_goer 48 = .ok (.aload_n 0, 1) := chk_nth ocX12_goer_1 (k := 4) rfl
theorem dX12_goer_49 : decode cX12_goer 49 = .ok (.getfield 13, 3) := chk_nth ocX12_goer_1 (k := 5) rfl
theorem dX12_goer_52 : decode cX12_goer 52 = .ok (.bipush 37, 2) := chk_nth ocX12_goer_1 (k := 6) rfl
theorem dX12_goer_54 : decode cX12_goer 54 = .ok (.iload_n 1, 1) := chk_nth ocX12_goer_1 (k := 7) rfl
theorem dX12_goer_55 : decode cX12_goer 55 = .ok (.iadd, 1) := chk_nth ocX12_goer_1 (k := 8) rfl
theorem dX12_goer_56 : decode cX12_goer 56 = .ok (.iaload, 1) := chk_nth ocX12_goer_1 (k := 9) rfl
theorem dX12_goer_57 : decode cX12_goer 57 = .ok (.ireturn, 1) := chk_nth ocX12_goer_1 (k := 10) rfl
theorem dX12_goer_58 : decode cX12_goer 58 = .ok (.iconst 0, 1) := chk_nth ocX12_goer_1 (k := 11) rfl
theorem dX12_goer_59 : decode cX12_goer 59 = .ok (.istore_n 3, 1) := chk_nth ocX12_goer_1 (k := 12) rfl
theorem dX12_goer_60 : decode cX12_goer 60 = .ok (.iconst 0, 1) := chk_nth ocX12_goer_1 (k := 13) rfl
theorem dX12_goer_61 : decode cX12_goer 61 = .ok (.istore 4, 2) := chk_nth ocX12_goer_1 (k := 14) rfl
theorem dX12_goer_63 : decode cX12_goer 63 = .ok (.iload 4, 2) := chk_nth ocX12_goer_1 (k := 15) rfl
theorem dX12_goer_65 : decode cX12_goer 65 = .ok (.aload_n 0, 1) := chk_nth ocX12_goer_1 (k := 16) rfl
theorem dX12_goer_66 : decode cX12_goer 66 = .ok (.getfield 13, 3) := chk_nth ocX12_goer_1 (k := 17) rfl
theorem dX12_goer_69 : decode cX12_goer 69 = .ok (.iconst 2, 1) := chk_nth ocX12_goer_1 (k := 18) rfl
theorem dX12_goer_70 : decode cX12_goer 70 = .ok (.iaload, 1) := chk_nth ocX12_goer_1 (k := 19) rfl
theorem dX12_goer_71 : decode cX12_goer 71 = .ok (.if_icmp .ge 32, 3) := chk_nth ocX12_goer_1 (k := 20) rfl
theorem dX12_goer_74 : decode cX12_goer 74 = .ok (.iload_n 3, 1) := chk_nth ocX12_goer_1 (k := 21) rfl
theorem dX12_goer_75 : decode cX12_goer 75 = .ok (.aload_n 0, 1) := chk_nth ocX12_goer_1 (k := 22) rfl
theorem dX12_goer_76 : decode cX12_goer 76 = .ok (.iload_n 1, 1) := chk_nth ocX12_goer_1 (k := 23) rfl
def tcX12_goer_2 : List (Instr × Nat) := [(.i2l, 1), (.iload 4, 2), (.i2l, 1), (.invokevirtual 247, 3), (.ifCond .ne 10, 3), (.iconst 1, 1), (.iload 4, 2), (.ishl, 1), (.goto 4, 3), (.iconst 0, 1), (.ior, 1), (.istore_n 3, 1), (.iinc 4 1, 3), (.goto (-37), 3), (.iload_n 3, 1), (.ireturn, 1)]
theorem ocX12_goer_2 : chk (cX12_goer.data.toList.drop 77) tcX12_goer_2 = true := by decide +kernel
theorem dX12_goer_77 : decode cX12_goer 77 = .ok (.i2l, 1) := chk_nth ocX12_goer_2 (k := 0) rfl
theorem dX12_goer_78 : decode cX12_goer 78 = .ok (.iload 4, 2) := chk_nth ocX12_goer_2 (k := 1) rfl
theorem dX12_goer_80 : decode cX12_goer 80 = .ok (.i2l, 1) := chk_nth ocX12_goer_2 (k := 2) rfl
theorem dX12_goer_81 : decode cX12_goer 81 = .ok (.invokevirtual 247, 3) := chk_nth ocX12_goer_2 (k := 3) rfl
theorem dX12_goer_84 : decode cX12_goer 84 = .ok (.ifCond .ne 10, 3) := chk_nth ocX12_goer_2 (k := 4) rfl
theorem dX12_goer_87 : decode cX12_goer 87 = .ok (.iconst 1, 1) := chk_nth ocX12_goer_2 (k := 5) rfl
theorem dX12_goer_88 : decode cX12_goer 88 = .ok (.iload 4, 2) := chk_nth ocX12_goer_2 (k := 6) rfl
theorem dX12_goer_90 : decode cX12_goer 90 = .ok (.ishl, 1) := chk_nth ocX12_goer_2 (k := 7) rfl
theorem dX12_goer_91 : decode cX12_goer 91 = .ok (.goto 4, 3) := chk_nth ocX12_goer_2 (k := 8) rfl
theorem dX12_goer_94 : decode cX12_goer 94 = .ok (.iconst 0, 1) := chk_nth ocX12_goer_2 (k := 9) rfl
theorem dX12_goer_95 : decode cX12_goer 95 = .ok (.ior, 1) := chk_nth ocX12_goer_2 (k := 10) rfl
theorem dX12_goer_96 : decode cX12_goer 96 = .ok (.istore_n 3, 1) := chk_nth ocX12_goer_2 (k := 11) rfl
theorem dX12_goer_97 : decode cX12_goer 97 = .ok (.iinc 4 1, 3) := chk_nth ocX12_goer_2 (k := 12) rfl
theorem dX12_goer_100 : decode cX12_goer 100 = .ok (.goto (-37), 3) := chk_nth ocX12_goer_2 (k := 13) rfl
theorem dX12_goer_103 : decode cX12_goer 103 = .ok (.iload_n 3, 1) := chk_nth ocX12_goer_2 (k := 14) rfl
theorem dX12_goer_104 : decode cX12_goer 104 = .ok (.ireturn, 1) := chk_nth ocX12_goer_2 (k := 15) rfl
def tcX12_why_0 : List (Instr × Nat) := [(.aload_n 0, 1), (.iconst 0, 1), (.putfield 1, 3), (.aload_n 0, 1), (.iload_n 1, 1), (.i2l, 1), (.iload_n 2, 1), (.i2l, 1), (.invokevirtual 247, 3), (.ireturn, 1)]
theorem ocX12_why_0 : chk (cX12_why.data.toList.drop 0) tcX12_why_0 = true := by decide +kernel
theorem dX12_why_0 : decode cX12_why 0 = .ok (.aload_n 0, 1) := chk_nth ocX12_why_0 (k := 0) rfl
theorem dX12_why_1 : decode cX12_why 1 = .ok (.iconst 0, 1) := chk_nth ocX12_why_0 (k := 1) rfl
theorem dX12_why_2 : decode cX12_why 2 = .ok (.putfield 1, 3) := chk_nth ocX12_why_0 (k := 2) rfl
theorem dX12_why_5 : decode cX12_why 5 = .ok (.aload_n 0, 1) := chk_nth ocX12_why_0 (k := 3) rfl
theorem dX12_why_6 : decode cX12_why 6 = .ok (.iload_n 1, 1) := chk_nth ocX12_why_0 (k := 4) rfl
theorem dX12_why_7 : decode cX12_why 7 = .ok (.i2l, 1) := chk_nth ocX12_why_0 (k := 5) rfl
theorem dX12_why_8 : decode cX12_why 8 = .ok (.iload_n 2, 1) := chk_nth ocX12_why_0 (k := 6) rfl
theorem dX12_why_9 : decode cX12_why 9 = .ok (.i2l, 1) := chk_nth ocX12_why_0 (k := 7) rfl
theorem dX12_why_10 : decode cX12_why 10 = .ok (.invokevirtual 247, 3) := chk_nth ocX12_why_0 (k := 8) rfl
theorem dX12_why_13 : decode cX12_why 13 = .ok (.ireturn, 1) := chk_nth ocX12_why_0 (k := 9) rfl
def tcX12_by_0 : List (Instr × Nat) := [(.aload_n 0, 1), (.iconst 0, 1), (.putfield 1, 3), (.iload_n 3, 1), (.i2l, 1), (.lconst 0, 1), (.lconst 1, 1), (.invokestatic 142, 3), (.ifCond .ne 6, 3), (.bipush (-2), 2), (.ireturn, 1), (.aload_n 0, 1), (.iload_n 1, 1), (.i2l, 1), (.iload_n 2, 1), (.i2l, 1), (.invokevirtual 247, 3), (.ifCond .eq 6, 3), (.bipush (-5), 2), (.ireturn, 1), (.aload_n 0, 1), (.iload_n 1, 1), (.aload_n 0, 1), (.iload_n 1, 1)]
theorem ocX12_by_0 : chk (cX12_by.data.toList.drop 0) tcX12_by_0 = true := by decide +kernel
theorem dX12_by_0 : decode cX12_by 0 = .ok (.aload_n 0, 1) := chk_nth ocX12_by_0 (k := 0) rfl
theorem dX12_by_1 : decode cX12_by 1 = .ok (.iconst 0, 1) := chk_nth ocX12_by_0 (k := 1) rfl
theorem dX12_by_2 : decode cX12_by 2 = .ok (.putfield 1, 3) := chk_nth ocX12_by_0 (k := 2) rfl
theorem dX12_by_5 : decode cX12_by 5 = .ok (.iload_n 3, 1) := chk_nth ocX12_by_0 (k := 3) rfl
theorem dX12_by_6 : decode cX12_by 6 = .ok (.i2l, 1) := chk_nth ocX12_by_0 (k := 4) rfl
theorem dX12_by_7 : decode cX12_by 7 = .ok (.lconst 0, 1) := chk_nth ocX12_by_0 (k := 5) rfl
theorem dX12_by_8 : decode cX12_by 8 = .ok (.lconst 1, 1) := chk_nth ocX12_by_0 (k := 6) rfl
theorem dX12_by_9 : decode cX12_by 9 = .ok (.invokestatic 142, 3) := chk_nth ocX12_by_0 (k := 7) rfl
theorem dX12_by_12 : decode cX12_by 12 = .ok (.ifCond .ne 6, 3) := chk_nth ocX12_by_0 (k := 8) rfl
theorem dX12_by_15 : decode cX12_by 15 = .ok (.bipush (-2), 2) := chk_nth ocX12_by_0 (k := 9) rfl
theorem dX12_by_17 : decode cX12_by 17 = .ok (.ireturn, 1) := chk_nth ocX12_by_0 (k := 10) rfl
theorem dX12_by_18 : decode cX12_by 18 = .ok (.aload_n 0, 1) := chk_nth ocX12_by_0 (k := 11) rfl
theorem dX12_by_19 : decode cX12_by 19 = .ok (.iload_n 1, 1) := chk_nth ocX12_by_0 (k := 12) rfl
theorem dX12_by_20 : decode cX12_by 20 = .ok (.i2l, 1) := chk_nth ocX12_by_0 (k := 13) rfl
theorem dX12_by_21 : decode cX12_by 21 = .ok (.iload_n 2, 1) := chk_nth ocX12_by_0 (k := 14) rfl
theorem dX12_by_22 : decode cX12_by 22 = .ok (.i2l, 1) := chk_nth ocX12_by_0 (k := 15) rfl
theorem dX12_by_23 : decode cX12_by 23 = .ok (.invokevirtual 247, 3) := chk_nth ocX12_by_0 (k := 16) rfl
theorem dX12_by_26 : decode cX12_by 26 = .ok (.ifCond .eq 6, 3) := chk_nth ocX12_by_0 (k := 17) rfl
theorem dX12_by_29 : decode cX12_by 29 = .ok (.bipush (-5), 2) := chk_nth ocX12_by_0 (k := 18) rfl
theorem dX12_by_31 : decode cX12_by 31 = .ok (.ireturn, 1) := chk_nth ocX12_by_0 (k := 19) rfl
theorem dX12_by_32 : decode cX12_by 32 = .ok (.aload_n 0, 1) := chk_nth ocX12_by_0 (k := 20) rfl
theorem dX12_by_33 : decode cX12_by 33 = .ok (.iload_n 1, 1) := chk_nth ocX12_by_0 (k := 21) rfl
theorem dX12_by_34 : decode cX12_by 34 = .ok (.aload_n 0, 1) := chk_nth ocX12_by_0 (k := 22) rfl
theorem dX12_by_35 : decode cX12_by 35 = .ok (.iload_n 1, 1) := chk_nth ocX12_by_0 (k := 23) rfl
def tcX12_by_1 : List (Instr × Nat) := [(.invokevirtual 239, 3), (.iload_n 2, 1), (.invokevirtual 251, 3), (.istore 4, 2), (.iload_n 3, 1), (.ifCond .ne 11, 3), (.iload 4, 2), (.bipush 20, 2), (.idiv, 1), (.goto 8, 3), (.iload 4, 2), (.bipush 20, 2), (.irem, 1), (.ireturn, 1)]
theorem ocX12_by_1 : chk (cX12_by.data.toList.drop 36) tcX12_by_1 = true := by decide +kernel
theorem dX12_by_36 : decode cX12_by 36 = .ok (.invokevirtual 239, 3) := chk_nth ocX12_by_1 (k := 0) rfl
theorem dX12_by_39 : decode cX12_by 39 = .ok (.iload_n 2, 1) := chk_nth ocX12_by_1 (k := 1) rfl
theorem dX12_by_40 : decode cX12_by 40 = .ok (.invokevirtual 251, 3) := chk_nth ocX12_by_1 (k := 2) rfl
theorem dX12_by_43 : decode cX12_by 43 = .ok (.istore 4, 2) := chk_nth ocX12_by_1 (k := 3) rfl
theorem dX12_by_45 : decode cX12_by 45 = .ok (.iload_n 3, 1) := chk_nth ocX12_by_1 (k := 4) rfl
theorem dX12_by_46 : decode cX12_by 46 = .ok (.ifCond .ne 11, 3) := chk_nth ocX12_by_1 (k := 5) rfl
theorem dX12_by_49 : decode cX12_by 49 = .ok (.iload 4, 2) := chk_nth ocX12_by_1 (k := 6) rfl
theorem dX12_by_51 : decode cX12_by 51 = .ok (.bipush 20, 2) := chk_nth ocX12_by_1 (k := 7) rfl
theorem dX12_by_53 : decode cX12_by 53 = .ok (.idiv, 1) := chk_nth ocX12_by_1 (k := 8) rfl
theorem dX12_by_54 : decode cX12_by 54 = .ok (.goto 8, 3) := chk_nth ocX12_by_1 (k := 9) rfl
theorem dX12_by_57 : decode cX12_by 57 = .ok (.iload 4, 2) := chk_nth ocX12_by_1 (k := 10) rfl
theorem dX12_by_59 : decode cX12_by 59 = .ok (.bipush 20, 2) := chk_nth ocX12_by_1 (k := 11) rfl
theorem dX12_by_61 : decode cX12_by 61 = .ok (.irem, 1) := chk_nth ocX12_by_1 (k := 12) rfl
theorem dX12_by_62 : decode cX12_by 62 = .ok (.ireturn, 1) := chk_nth ocX12_by_1 (k := 13) rfl
def tcX12_keeps_0 : List (Instr × Nat) := [(.iconst 0, 1), (.istore_n 1, 1), (.iload_n 1, 1), (.bipush 15, 2), (.if_icmp .ge 24, 3), (.aload_n 0, 1), (.getfield 36, 3), (.iload_n 1, 1), (.aload_n 0, 1), (.getfield 13, 3), (.bipush 34, 2), (.iload_n 1, 1), (.iadd, 1), (.iaload, 1), (.iastore, 1), (.iinc 1 1, 3), (.goto (-24), 3), (.return_, 1)]
theorem ocX12_keeps_0 : chk (cX12_keeps.data.toList.drop 0) tcX12_keeps_0 = true := by decide +kernel
theorem dX12_keeps_0 : decode cX12_keeps 0 = .ok (.iconst 0, 1) := chk_nth ocX12_keeps_0 (k := 0) rfl
theorem dX12_keeps_1 : decode cX12_keeps 1 = .ok (.istore_n 1, 1) := chk_nth ocX12_keeps_0 (k := 1) rfl
theorem dX12_keeps_2 : decode cX12_keeps 2 = .ok (.iload_n 1, 1) := chk_nth ocX12_keeps_0 (k := 2) rfl
theorem dX12_keeps_3 : decode cX12_keeps 3 = .ok (.bipush 15, 2) := chk_nth ocX12_keeps_0 (k := 3) rfl
theorem dX12_keeps_5 : decode cX12_keeps 5 = .ok (.if_icmp .ge 24, 3) := chk_nth ocX12_keeps_0 (k := 4) rfl
theorem dX12_keeps_8 : decode cX12_keeps 8 = .ok (.aload_n 0, 1) := chk_nth ocX12_keeps_0 (k := 5) rfl
theorem dX12_keeps_9 : decode cX12_keeps 9 = .ok (.getfield 36, 3) := chk_nth ocX12_keeps_0 (k := 6) rfl
theorem dX12_keeps_12 : decode cX12_keeps 12 = .ok (.iload_n 1, 1) := chk_nth ocX12_keeps_0 (k := 7) rfl
theorem dX12_keeps_13 : decode cX12_keeps 13 = .ok (.aload_n 0, 1) := chk_nth ocX12_keeps_0 (k := 8) rfl
theorem dX12_keeps_14 : decode cX12_keeps 14 = .ok (.getfield 13, 3) := chk_nth ocX12_keeps_0 (k := 9) rfl
theorem dX12_keeps_17 : decode cX12_keeps 17 = .ok (.bipush 34, 2) := chk_nth ocX12_keeps_0 (k := 10) rfl
theorem dX12_keeps_19 : decode cX12_keeps 19 = .ok (.iload_n 1, 1) := chk_nth ocX12_keeps_0 (k := 11) rfl
theorem dX12_keeps_20 : decode cX12_keeps 20 = .ok (.iadd, 1) := chk_nth ocX12_keeps_0 (k := 12) rfl
theorem dX12_keeps_21 : decode cX12_keeps 21 = .ok (.iaload, 1) := chk_nth ocX12_keeps_0 (k := 13) rfl
theorem dX12_keeps_22 : decode cX12_keeps 22 = .ok (.iastore, 1) := chk_nth ocX12_keeps_0 (k := 14) rfl
theorem dX12_keeps_23 : decode cX12_keeps 23 = .ok (.iinc 1 1, 3) := chk_nth ocX12_keeps_0 (k := 15) rfl
theorem dX12_keeps_26 : decode cX12_keeps 26 = .ok (.goto (-24), 3) := chk_nth ocX12_keeps_0 (k := 16) rfl
theorem dX12_keeps_29 : decode cX12_keeps 29 = .ok (.return_, 1) := chk_nth ocX12_keeps_0 (k := 17) rfl
def tcX12_isAgain_0 : List (Instr × Nat) := [(.iconst 0, 1), (.istore_n 1, 1), (.iload_n 1, 1), (.bipush 15, 2), (.if_icmp .ge 24, 3), (.aload_n 0, 1), (.getfield 13, 3), (.bipush 34, 2), (.iload_n 1, 1), (.iadd, 1), (.aload_n 0, 1), (.getfield 36, 3), (.iload_n 1, 1), (.iaload, 1), (.iastore, 1), (.iinc 1 1, 3), (.goto (-24), 3), (.return_, 1)]
theorem ocX12_isAgain_0 : chk (cX12_isAgain.data.toList.drop 0) tcX12_isAgain_0 = true := by decide +kernel
theorem dX12_isAgain_0 : decode cX12_isAgain 0 = .ok (.iconst 0, 1) := chk_nth ocX12_isAgain_0 (k := 0) rfl
theorem dX12_isAgain_1 : decode cX12_isAgain 1 = .ok (.istore_n 1, 1) := chk_nth ocX12_isAgain_0 (k := 1) rfl
theorem dX12_isAgain_2 : decode cX12_isAgain 2 = .ok (.iload_n 1, 1) := chk_nth ocX12_isAgain_0 (k := 2) rfl
theorem dX12_isAgain_3 : decode cX12_isAgain 3 = .ok (.bipush 15, 2) := chk_nth ocX12_isAgain_0 (k := 3) rfl
theorem dX12_isAgain_5 : decode cX12_isAgain 5 = .ok (.if_icmp .ge 24, 3) := chk_nth ocX12_isAgain_0 (k := 4) rfl
theorem dX12_isAgain_8 : decode cX12_isAgain 8 = .ok (.aload_n 0, 1) := chk_nth ocX12_isAgain_0 (k := 5) rfl
theorem dX12_isAgain_9 : decode cX12_isAgain 9 = .ok (.getfield 13, 3) := chk_nth ocX12_isAgain_0 (k := 6) rfl
theorem dX12_isAgain_12 : decode cX12_isAgain 12 = .ok (.bipush 34, 2) := chk_nth ocX12_isAgain_0 (k := 7) rfl
theorem dX12_isAgain_14 : decode cX12_isAgain 14 = .ok (.iload_n 1, 1) := chk_nth ocX12_isAgain_0 (k := 8) rfl
theorem dX12_isAgain_15 : decode cX12_isAgain 15 = .ok (.iadd, 1) := chk_nth ocX12_isAgain_0 (k := 9) rfl
theorem dX12_isAgain_16 : decode cX12_isAgain 16 = .ok (.aload_n 0, 1) := chk_nth ocX12_isAgain_0 (k := 10) rfl
theorem dX12_isAgain_17 : decode cX12_isAgain 17 = .ok (.getfield 36, 3) := chk_nth ocX12_isAgain_0 (k := 11) rfl
theorem dX12_isAgain_20 : decode cX12_isAgain 20 = .ok (.iload_n 1, 1) := chk_nth ocX12_isAgain_0 (k := 12) rfl
theorem dX12_isAgain_21 : decode cX12_isAgain 21 = .ok (.iaload, 1) := chk_nth ocX12_isAgain_0 (k := 13) rfl
theorem dX12_isAgain_22 : decode cX12_isAgain 22 = .ok (.iastore, 1) := chk_nth ocX12_isAgain_0 (k := 14) rfl
theorem dX12_isAgain_23 : decode cX12_isAgain 23 = .ok (.iinc 1 1, 3) := chk_nth ocX12_isAgain_0 (k := 15) rfl
theorem dX12_isAgain_26 : decode cX12_isAgain 26 = .ok (.goto (-24), 3) := chk_nth ocX12_isAgain_0 (k := 16) rfl
theorem dX12_isAgain_29 : decode cX12_isAgain 29 = .ok (.return_, 1) := chk_nth ocX12_isAgain_0 (k := 17) rfl
def tcX12_notes_0 : List (Instr × Nat) := [(.aload_n 0, 1), (.getfield 13, 3), (.bipush 49, 2), (.iaload, 1), (.bipush 10, 2), (.if_icmp .ne 47, 3), (.iconst 0, 1), (.istore_n 1, 1), (.iload_n 1, 1), (.sipush 135, 3), (.if_icmp .ge 27, 3), (.aload_n 0, 1), (.getfield 13, 3), (.bipush 50, 2), (.iload_n 1, 1), (.iadd, 1), (.aload_n 0, 1), (.getfield 13, 3), (.bipush 65, 2), (.iload_n 1, 1), (.iadd, 1), (.iaload, 1), (.iastore, 1), (.iinc 1 1, 3)]
theorem ocX12_notes_0 : chk (cX12_notes.data.toList.drop 0) tcX12_notes_0 = true := by decide +kernel
theorem dX12_notes_0 : decode cX12_notes 0 = .ok (.aload_n 0, 1) := chk_nth ocX12_notes_0 (k := 0) rfl
theorem dX12_notes_1 : decode cX12_notes 1 = .ok (.getfield 13, 3) := chk_nth ocX12_notes_0 (k := 1) rfl
theorem dX12_notes_4 : decode cX12_notes 4 = .ok (.bipush 49, 2) := chk_nth ocX12_notes_0 (k := 2) rfl
theorem dX12_notes_6 : decode cX12_notes 6 = .ok (.iaload, 1) := chk_nth ocX12_notes_0 (k := 3) rfl
theorem dX12_notes_7 : decode cX12_notes 7 = .ok (.bipush 10, 2) := chk_nth ocX12_notes_0 (k := 4) rfl
theorem dX12_notes_9 : decode cX12_notes 9 = .ok (.if_icmp .ne 47, 3) := chk_nth ocX12_notes_0 (k := 5) rfl
theorem dX12_notes_12 : decode cX12_notes 12 = .ok (.iconst 0, 1) := chk_nth ocX12_notes_0 (k := 6) rfl
theorem dX12_notes_13 : decode cX12_notes 13 = .ok (.istore_n 1, 1) := chk_nth ocX12_notes_0 (k := 7) rfl
theorem dX12_notes_14 : decode cX12_notes 14 = .ok (.iload_n 1, 1) := chk_nth ocX12_notes_0 (k := 8) rfl
theorem dX12_notes_15 : decode cX12_notes 15 = .ok (.sipush 135, 3) := chk_nth ocX12_notes_0 (k := 9) rfl
theorem dX12_notes_18 : decode cX12_notes 18 = .ok (.if_icmp .ge 27, 3) := chk_nth ocX12_notes_0 (k := 10) rfl
theorem dX12_notes_21 : decode cX12_notes 21 = .ok (.aload_n 0, 1) := chk_nth ocX12_notes_0 (k := 11) rfl
theorem dX12_notes_22 : decode cX12_notes 22 = .ok (.getfield 13, 3) := chk_nth ocX12_notes_0 (k := 12) rfl
theorem dX12_notes_25 : decode cX12_notes 25 = .ok (.bipush 50, 2) := chk_nth ocX12_notes_0 (k := 13) rfl
theorem dX12_notes_27 : decode cX12_notes 27 = .ok (.iload_n 1, 1) := chk_nth ocX12_notes_0 (k := 14) rfl
theorem dX12_notes_28 : decode cX12_notes 28 = .ok (.iadd, 1) := chk_nth ocX12_notes_0 (k := 15) rfl
theorem dX12_notes_29 : decode cX12_notes 29 = .ok (.aload_n 0, 1) := chk_nth ocX12_notes_0 (k := 16) rfl
theorem dX12_notes_30 : decode cX12_notes 30 = .ok (.getfield 13, 3) := chk_nth ocX12_notes_0 (k := 17) rfl
theorem dX12_notes_33 : decode cX12_notes 33 = .ok (.bipush 65, 2) := chk_nth ocX12_notes_0 (k := 18) rfl
theorem dX12_notes_35 : decode cX12_notes 35 = .ok (.iload_n 1, 1) := chk_nth ocX12_notes_0 (k := 19) rfl
theorem dX12_notes_36 : decode cX12_notes 36 = .ok (.iadd, 1) := chk_nth ocX12_notes_0 (k := 20) rfl
theorem dX12_notes_37 : decode cX12_notes 37 = .ok (.iaload, 1) := chk_nth ocX12_notes_0 (k := 21) rfl
theorem dX12_notes_38 : decode cX12_notes 38 = .ok (.iastore, 1) := chk_nth ocX12_notes_0 (k := 22) rfl
theorem dX12_notes_39 : decode cX12_notes 39 = .ok (.iinc 1 1, 3) := chk_nth ocX12_notes_0 (k := 23) rfl
def tcX12_notes_1 : List (Instr × Nat) := [(.goto (-28), 3), (.aload_n 0, 1), (.getfield 13, 3), (.bipush 49, 2), (.dup2, 1), (.iaload, 1), (.iconst 1, 1), (.isub, 1), (.iastore, 1), (.iconst 0, 1), (.istore_n 1, 1), (.iload_n 1, 1), (.bipush 15, 2), (.if_icmp .ge 35, 3), (.aload_n 0, 1), (.getfield 13, 3), (.bipush 50, 2), (.bipush 15, 2), (.aload_n 0, 1), (.getfield 13, 3), (.bipush 49, 2), (.iaload, 1), (.imul, 1), (.iadd, 1)]
theorem ocX12_notes_1 : chk (cX12_notes.data.toList.drop 42) tcX12_notes_1 = true := by decide +kernel
theorem dX12_notes_42 : decode cX12_notes 42 = .ok (.goto (-28), 3) := chk_nth ocX12_notes_1 (k := 0) rfl
theorem dX12_notes_45 : decode cX12_notes 45 = .ok (.aload_n 0, 1) := chk_nth ocX12_notes_1 (k := 1) rfl
theorem dX12_notes_46 : decode cX12_notes 46 = .ok (.getfield 13, 3) := chk_nth ocX12_notes_1 (k := 2) rfl
theorem dX12_notes_49 : decode cX12_notes 49 = .ok (.bipush 49, 2) := chk_nth ocX12_notes_1 (k := 3) rfl
theorem dX12_notes_51 : decode cX12_notes 51 = .ok (.dup2, 1) := chk_nth ocX12_notes_1 (k := 4) rfl
theorem dX12_notes_52 : decode cX12_notes 52 = .ok (.iaload, 1) := chk_nth ocX12_notes_1 (k := 5) rfl
theorem dX12_notes_53 : decode cX12_notes 53 = .ok (.iconst 1, 1) := chk_nth ocX12_notes_1 (k := 6) rfl
theorem dX12_notes_54 : decode cX12_notes 54 = .ok (.isub, 1) := chk_nth ocX12_notes_1 (k := 7) rfl
theorem dX12_notes_55 : decode cX12_notes 55 = .ok (.iastore, 1) := chk_nth ocX12_notes_1 (k := 8) rfl
theorem dX12_notes_56 : decode cX12_notes 56 = .ok (.iconst 0, 1) := chk_nth ocX12_notes_1 (k := 9) rfl
theorem dX12_notes_57 : decode cX12_notes 57 = .ok (.istore_n 1, 1) := chk_nth ocX12_notes_1 (k := 10) rfl
theorem dX12_notes_58 : decode cX12_notes 58 = .ok (.iload_n 1, 1) := chk_nth ocX12_notes_1 (k := 11) rfl
theorem dX12_notes_59 : decode cX12_notes 59 = .ok (.bipush 15, 2) := chk_nth ocX12_notes_1 (k := 12) rfl
theorem dX12_notes_61 : decode cX12_notes 61 = .ok (.if_icmp .ge 35, 3) := chk_nth ocX12_notes_1 (k := 13) rfl
theorem dX12_notes_64 : decode cX12_notes 64 = .ok (.aload_n 0, 1) := chk_nth ocX12_notes_1 (k := 14) rfl
theorem dX12_notes_65 : decode cX12_notes 65 = .ok (.getfield 13, 3) := chk_nth ocX12_notes_1 (k := 15) rfl
theorem dX12_notes_68 : decode cX12_notes 68 = .ok (.bipush 50, 2) := chk_nth ocX12_notes_1 (k := 16) rfl
theorem dX12_notes_70 : decode cX12_notes 70 = .ok (.bipush 15, 2) := chk_nth ocX12_notes_1 (k := 17) rfl
theorem dX12_notes_72 : decode cX12_notes 72 = .ok (.aload_n 0, 1) := chk_nth ocX12_notes_1 (k := 18) rfl
theorem dX12_notes_73 : decode cX12_notes 73 = .ok (.getfield 13, 3) := chk_nth ocX12_notes_1 (k := 19) rfl
theorem dX12_notes_76 : decode cX12_notes 76 = .ok (.bipush 49, 2) := chk_nth ocX12_notes_1 (k := 20) rfl
theorem dX12_notes_78 : decode cX12_notes 78 = .ok (.iaload, 1) := chk_nth ocX12_notes_1 (k := 21) rfl
theorem dX12_notes_79 : decode cX12_notes 79 = .ok (.imul, 1) := chk_nth ocX12_notes_1 (k := 22) rfl
theorem dX12_notes_80 : decode cX12_notes 80 = .ok (.iadd, 1) := chk_nth ocX12_notes_1 (k := 23) rfl
def tcX12_notes_2 : List (Instr × Nat) := [(.iload_n 1, 1), (.iadd, 1), (.aload_n 0, 1), (.getfield 36, 3), (.iload_n 1, 1), (.iaload, 1), (.iastore, 1), (.iinc 1 1, 3), (.goto (-35), 3), (.aload_n 0, 1), (.getfield 13, 3), (.bipush 49, 2), (.dup2, 1), (.iaload, 1), (.iconst 1, 1), (.iadd, 1), (.iastore, 1), (.return_, 1)]
theorem ocX12_notes_2 : chk (cX12_notes.data.toList.drop 81) tcX12_notes_2 = true := by decide +kernel
theorem dX12_notes_81 : decode cX12_notes 81 = .ok (.iload_n 1, 1) := chk_nth ocX12_notes_2 (k := 0) rfl
theorem dX12_notes_82 : decode cX12_notes 82 = .ok (.iadd, 1) := chk_nth ocX12_notes_2 (k := 1) rfl
theorem dX12_notes_83 : decode cX12_notes 83 = .ok (.aload_n 0, 1) := chk_nth ocX12_notes_2 (k := 2) rfl
theorem dX12_notes_84 : decode cX12_notes 84 = .ok (.getfield 36, 3) := chk_nth ocX12_notes_2 (k := 3) rfl
theorem dX12_notes_87 : decode cX12_notes 87 = .ok (.iload_n 1, 1) := chk_nth ocX12_notes_2 (k := 4) rfl
theorem dX12_notes_88 : decode cX12_notes 88 = .ok (.iaload, 1) := chk_nth ocX12_notes_2 (k := 5) rfl
theorem dX12_notes_89 : decode cX12_notes 89 = .ok (.iastore, 1) := chk_nth ocX12_notes_2 (k := 6) rfl
theorem dX12_notes_90 : decode cX12_notes 90 = .ok (.iinc 1 1, 3) := chk_nth ocX12_notes_2 (k := 7) rfl
theorem dX12_notes_93 : decode cX12_notes 93 = .ok (.goto (-35), 3) := chk_nth ocX12_notes_2 (k := 8) rfl
theorem dX12_notes_96 : decode cX12_notes 96 = .ok (.aload_n 0, 1) := chk_nth ocX12_notes_2 (k := 9) rfl
theorem dX12_notes_97 : decode cX12_notes 97 = .ok (.getfield 13, 3) := chk_nth ocX12_notes_2 (k := 10) rfl
theorem dX12_notes_100 : decode cX12_notes 100 = .ok (.bipush 49, 2) := chk_nth ocX12_notes_2 (k := 11) rfl
theorem dX12_notes_102 : decode cX12_notes 102 = .ok (.dup2, 1) := chk_nth ocX12_notes_2 (k := 12) rfl
theorem dX12_notes_103 : decode cX12_notes 103 = .ok (.iaload, 1) := chk_nth ocX12_notes_2 (k := 13) rfl
theorem dX12_notes_104 : decode cX12_notes 104 = .ok (.iconst 1, 1) := chk_nth ocX12_notes_2 (k := 14) rfl
theorem dX12_notes_105 : decode cX12_notes 105 = .ok (.iadd, 1) := chk_nth ocX12_notes_2 (k := 15) rfl
theorem dX12_notes_106 : decode cX12_notes 106 = .ok (.iastore, 1) := chk_nth ocX12_notes_2 (k := 16) rfl
theorem dX12_notes_107 : decode cX12_notes 107 = .ok (.return_, 1) := chk_nth ocX12_notes_2 (k := 17) rfl
def tcX12_isAt_0 : List (Instr × Nat) := [(.aload_n 0, 1), (.getfield 13, 3), (.bipush 34, 2), (.iload_n 1, 1), (.iadd, 1), (.iload_n 2, 1), (.bipush 20, 2), (.idiv, 1), (.iastore, 1), (.aload_n 0, 1), (.getfield 13, 3), (.bipush 37, 2), (.iload_n 1, 1), (.iadd, 1), (.iload_n 2, 1), (.bipush 20, 2), (.irem, 1), (.iastore, 1), (.return_, 1)]
theorem ocX12_isAt_0 : chk (cX12_isAt.data.toList.drop 0) tcX12_isAt_0 = true := by decide +kernel
theorem dX12_isAt_0 : decode cX12_isAt 0 = .ok (.aload_n 0, 1) := chk_nth ocX12_isAt_0 (k := 0) rfl
theorem dX12_isAt_1 : decode cX12_isAt 1 = .ok (.getfield 13, 3) := chk_nth ocX12_isAt_0 (k := 1) rfl
theorem dX12_isAt_4 : decode cX12_isAt 4 = .ok (.bipush 34, 2) := chk_nth ocX12_isAt_0 (k := 2) rfl
theorem dX12_isAt_6 : decode cX12_isAt 6 = .ok (.iload_n 1, 1) := chk_nth ocX12_isAt_0 (k := 3) rfl
theorem dX12_isAt_7 : decode cX12_isAt 7 = .ok (.iadd, 1) := chk_nth ocX12_isAt_0 (k := 4) rfl
theorem dX12_isAt_8 : decode cX12_isAt 8 = .ok (.iload_n 2, 1) := chk_nth ocX12_isAt_0 (k := 5) rfl
theorem dX12_isAt_9 : decode cX12_isAt 9 = .ok (.bipush 20, 2) := chk_nth ocX12_isAt_0 (k := 6) rfl
theorem dX12_isAt_11 : decode cX12_isAt 11 = .ok (.idiv, 1) := chk_nth ocX12_isAt_0 (k := 7) rfl
theorem dX12_isAt_12 : decode cX12_isAt 12 = .ok (.iastore, 1) := chk_nth ocX12_isAt_0 (k := 8) rfl
theorem dX12_isAt_13 : decode cX12_isAt 13 = .ok (.aload_n 0, 1) := chk_nth ocX12_isAt_0 (k := 9) rfl
theorem dX12_isAt_14 : decode cX12_isAt 14 = .ok (.getfield 13, 3) := chk_nth ocX12_isAt_0 (k := 10) rfl
theorem dX12_isAt_17 : decode cX12_isAt 17 = .ok (.bipush 37, 2) := chk_nth ocX12_isAt_0 (k := 11) rfl
theorem dX12_isAt_19 : decode cX12_isAt 19 = .ok (.iload_n 1, 1) := chk_nth ocX12_isAt_0 (k := 12) rfl
theorem dX12_isAt_20 : decode cX12_isAt 20 = .ok (.iadd, 1) := chk_nth ocX12_isAt_0 (k := 13) rfl
theorem dX12_isAt_21 : decode cX12_isAt 21 = .ok (.iload_n 2, 1) := chk_nth ocX12_isAt_0 (k := 14) rfl
theorem dX12_isAt_22 : decode cX12_isAt 22 = .ok (.bipush 20, 2) := chk_nth ocX12_isAt_0 (k := 15) rfl
theorem dX12_isAt_24 : decode cX12_isAt 24 = .ok (.irem, 1) := chk_nth ocX12_isAt_0 (k := 16) rfl
theorem dX12_isAt_25 : decode cX12_isAt 25 = .ok (.iastore, 1) := chk_nth ocX12_isAt_0 (k := 17) rfl
theorem dX12_isAt_26 : decode cX12_isAt 26 = .ok (.return_, 1) := chk_nth ocX12_isAt_0 (k := 18) rfl
def tcX12_go_0 : List (Instr × Nat) := [(.aload_n 0, 1), (.iconst 0, 1), (.putfield 1, 3), (.aload_n 0, 1), (.iload_n 1, 1), (.i2l, 1), (.iload_n 2, 1), (.i2l, 1), (.invokevirtual 247, 3), (.istore_n 3, 1), (.iload_n 3, 1), (.ifCond .eq 8, 3), (.bipush (-10), 2), (.iload_n 3, 1), (.isub, 1), (.ireturn, 1), (.aload_n 0, 1), (.invokevirtual 254, 3), (.aload_n 0, 1), (.iload_n 1, 1), (.aload_n 0, 1), (.iload_n 1, 1), (.aload_n 0, 1), (.iload_n 1, 1)]
theorem ocX12_go_0 : chk (cX12_go.data.toList.drop 0) tcX12_go_0 = true := by decide +kernel
theorem dX12_go_0 : decode cX12_go 0 = .ok (.aload_n 0, 1) := chk_nth ocX12_go_0 (k := 0) rfl
theorem dX12_go_1 : decode cX12_go 1 = .ok (.iconst 0, 1) := chk_nth ocX12_go_0 (k := 1) rfl
theorem dX12_go_2 : decode cX12_go 2 = .ok (.putfield 1, 3) := chk_nth ocX12_go_0 (k := 2) rfl
theorem dX12_go_5 : decode cX12_go 5 = .ok (.aload_n 0, 1) := chk_nth ocX12_go_0 (k := 3) rfl
theorem dX12_go_6 : decode cX12_go 6 = .ok (.iload_n 1, 1) := chk_nth ocX12_go_0 (k := 4) rfl
theorem dX12_go_7 : decode cX12_go 7 = .ok (.i2l, 1) := chk_nth ocX12_go_0 (k := 5) rfl
theorem dX12_go_8 : decode cX12_go 8 = .ok (.iload_n 2, 1) := chk_nth ocX12_go_0 (k := 6) rfl
theorem dX12_go_9 : decode cX12_go 9 = .ok (.i2l, 1) := chk_nth ocX12_go_0 (k := 7) rfl
theorem dX12_go_10 : decode cX12_go 10 = .ok (.invokevirtual 247, 3) := chk_nth ocX12_go_0 (k := 8) rfl
theorem dX12_go_13 : decode cX12_go 13 = .ok (.istore_n 3, 1) := chk_nth ocX12_go_0 (k := 9) rfl
theorem dX12_go_14 : decode cX12_go 14 = .ok (.iload_n 3, 1) := chk_nth ocX12_go_0 (k := 10) rfl
theorem dX12_go_15 : decode cX12_go 15 = .ok (.ifCond .eq 8, 3) := chk_nth ocX12_go_0 (k := 11) rfl
theorem dX12_go_18 : decode cX12_go 18 = .ok (.bipush (-10), 2) := chk_nth ocX12_go_0 (k := 12) rfl
theorem dX12_go_20 : decode cX12_go 20 = .ok (.iload_n 3, 1) := chk_nth ocX12_go_0 (k := 13) rfl
theorem dX12_go_21 : decode cX12_go 21 = .ok (.isub, 1) := chk_nth ocX12_go_0 (k := 14) rfl
theorem dX12_go_22 : decode cX12_go 22 = .ok (.ireturn, 1) := chk_nth ocX12_go_0 (k := 15) rfl
theorem dX12_go_23 : decode cX12_go 23 = .ok (.aload_n 0, 1) := chk_nth ocX12_go_0 (k := 16) rfl
theorem dX12_go_24 : decode cX12_go 24 = .ok (.invokevirtual 254, 3) := chk_nth ocX12_go_0 (k := 17) rfl
theorem dX12_go_27 : decode cX12_go 27 = .ok (.aload_n 0, 1) := chk_nth ocX12_go_0 (k := 18) rfl
theorem dX12_go_28 : decode cX12_go 28 = .ok (.iload_n 1, 1) := chk_nth ocX12_go_0 (k := 19) rfl
theorem dX12_go_29 : decode cX12_go 29 = .ok (.aload_n 0, 1) := chk_nth ocX12_go_0 (k := 20) rfl
theorem dX12_go_30 : decode cX12_go 30 = .ok (.iload_n 1, 1) := chk_nth ocX12_go_0 (k := 21) rfl
theorem dX12_go_31 : decode cX12_go 31 = .ok (.aload_n 0, 1) := chk_nth ocX12_go_0 (k := 22) rfl
theorem dX12_go_32 : decode cX12_go 32 = .ok (.iload_n 1, 1) := chk_nth ocX12_go_0 (k := 23) rfl
def tcX12_go_1 : List (Instr × Nat) := [(.invokevirtual 239, 3), (.iload_n 2, 1), (.invokevirtual 251, 3), (.invokevirtual 257, 3), (.aload_n 0, 1), (.invokevirtual 261, 3), (.aload_n 0, 1), (.getfield 13, 3), (.bipush 37, 2), (.iload_n 1, 1), (.iadd, 1), (.iaload, 1), (.ireturn, 1)]
theorem ocX12_go_1 : chk (cX12_go.data.toList.drop 33) tcX12_go_1 = true := by decide +kernel
theorem dX12_go_33 : decode cX12_go 33 = .ok (.invokevirtual 239, 3) := chk_nth ocX12_go_1 (k := 0) rfl
theorem dX12_go_36 : decode cX12_go 36 = .ok (.iload_n 2, 1) := chk_nth ocX12_go_1 (k := 1) rfl
theorem dX12_go_37 : decode cX12_go 37 = .ok (.invokevirtual 251, 3) := chk_nth ocX12_go_1 (k := 2) rfl
theorem dX12_go_40 : decode cX12_go 40 = .ok (.invokevirtual 257, 3) := chk_nth ocX12_go_1 (k := 3) rfl
theorem dX12_go_43 : decode cX12_go 43 = .ok (.aload_n 0, 1) := chk_nth ocX12_go_1 (k := 4) rfl
theorem dX12_go_44 : decode cX12_go 44 = .ok (.invokevirtual 261, 3) := chk_nth ocX12_go_1 (k := 5) rfl
theorem dX12_go_47 : decode cX12_go 47 = .ok (.aload_n 0, 1) := chk_nth ocX12_go_1 (k := 6) rfl
theorem dX12_go_48 : decode cX12_go 48 = .ok (.getfield 13, 3) := chk_nth ocX12_go_1 (k := 7) rfl
theorem dX12_go_51 : decode cX12_go 51 = .ok (.bipush 37, 2) := chk_nth ocX12_go_1 (k := 8) rfl
theorem dX12_go_53 : decode cX12_go 53 = .ok (.iload_n 1, 1) := chk_nth ocX12_go_1 (k := 9) rfl
theorem dX12_go_54 : decode cX12_go 54 = .ok (.iadd, 1) := chk_nth ocX12_go_1 (k := 10) rfl
theorem dX12_go_55 : decode cX12_go 55 = .ok (.iaload, 1) := chk_nth ocX12_go_1 (k := 11) rfl
theorem dX12_go_56 : decode cX12_go 56 = .ok (.ireturn, 1) := chk_nth ocX12_go_1 (k := 12) rfl
def tcX12_sign_0 : List (Instr × Nat) := [(.aload_n 0, 1), (.iconst 0, 1), (.putfield 1, 3), (.aload_n 0, 1), (.iload_n 1, 1), (.i2l, 1), (.invokevirtual 236, 3), (.ifCond .eq 15, 3), (.iload_n 2, 1), (.i2l, 1), (.lconst 0, 1), (.ldc2_w 264, 3), (.invokestatic 142, 3), (.ifCond .ne 6, 3), (.bipush (-11), 2), (.ireturn, 1), (.aload_n 0, 1), (.invokevirtual 254, 3), (.aload_n 0, 1), (.getfield 13, 3), (.bipush 40, 2), (.iload_n 1, 1), (.iadd, 1), (.iload_n 2, 1)]
theorem ocX12_sign_0 : chk (cX12_sign.data.toList.drop 0) tcX12_sign_0 = true := by decide +kernel
theorem dX12_sign_0 : decode cX12_sign 0 = .ok (.aload_n 0, 1) := chk_nth ocX12_sign_0 (k := 0) rfl
theorem dX12_sign_1 : decode cX12_sign 1 = .ok (.iconst 0, 1) := chk_nth ocX12_sign_0 (k := 1) rfl
theorem dX12_sign_2 : decode cX12_sign 2 = .ok (.putfield 1, 3) := chk_nth ocX12_sign_0 (k := 2) rfl
theorem dX12_sign_5 : decode cX12_sign 5 = .ok (.aload_n 0, 1) := chk_nth ocX12_sign_0 (k := 3) rfl
theorem dX12_sign_6 : decode cX12_sign 6 = .ok (.iload_n 1, 1) := chk_nth ocX12_sign_0 (k := 4) rfl
theorem dX12_sign_7 : decode cX12_sign 7 = .ok (.i2l, 1) := chk_nth ocX12_sign_0 (k := 5) rfl
theorem dX12_sign_8 : decode cX12_sign 8 = .ok (.invokevirtual 236, 3) := chk_nth ocX12_sign_0 (k := 6) rfl
theorem dX12_sign_11 : decode cX12_sign 11 = .ok (.ifCond .eq 15, 3) := chk_nth ocX12_sign_0 (k := 7) rfl
theorem dX12_sign_14 : decode cX12_sign 14 = .ok (.iload_n 2, 1) := chk_nth ocX12_sign_0 (k := 8) rfl
theorem dX12_sign_15 : decode cX12_sign 15 = .ok (.i2l, 1) := chk_nth ocX12_sign_0 (k := 9) rfl
theorem dX12_sign_16 : decode cX12_sign 16 = .ok (.lconst 0, 1) := chk_nth ocX12_sign_0 (k := 10) rfl
theorem dX12_sign_17 : decode cX12_sign 17 = .ok (.ldc2_w 264, 3) := chk_nth ocX12_sign_0 (k := 11) rfl
theorem dX12_sign_20 : decode cX12_sign 20 = .ok (.invokestatic 142, 3) := chk_nth ocX12_sign_0 (k := 12) rfl
theorem dX12_sign_23 : decode cX12_sign 23 = .ok (.ifCond .ne 6, 3) := chk_nth ocX12_sign_0 (k := 13) rfl
theorem dX12_sign_26 : decode cX12_sign 26 = .ok (.bipush (-11), 2) := chk_nth ocX12_sign_0 (k := 14) rfl
theorem dX12_sign_28 : decode cX12_sign 28 = .ok (.ireturn, 1) := chk_nth ocX12_sign_0 (k := 15) rfl
theorem dX12_sign_29 : decode cX12_sign 29 = .ok (.aload_n 0, 1) := chk_nth ocX12_sign_0 (k := 16) rfl
theorem dX12_sign_30 : decode cX12_sign 30 = .ok (.invokevirtual 254, 3) := chk_nth ocX12_sign_0 (k := 17) rfl
theorem dX12_sign_33 : decode cX12_sign 33 = .ok (.aload_n 0, 1) := chk_nth ocX12_sign_0 (k := 18) rfl
theorem dX12_sign_34 : decode cX12_sign 34 = .ok (.getfield 13, 3) := chk_nth ocX12_sign_0 (k := 19) rfl
theorem dX12_sign_37 : decode cX12_sign 37 = .ok (.bipush 40, 2) := chk_nth ocX12_sign_0 (k := 20) rfl
theorem dX12_sign_39 : decode cX12_sign 39 = .ok (.iload_n 1, 1) := chk_nth ocX12_sign_0 (k := 21) rfl
theorem dX12_sign_40 : decode cX12_sign 40 = .ok (.iadd, 1) := chk_nth ocX12_sign_0 (k := 22) rfl
theorem dX12_sign_41 : decode cX12_sign 41 = .ok (.iload_n 2, 1) := chk_nth ocX12_sign_0 (k := 23) rfl
def tcX12_sign_1 : List (Instr × Nat) := [(.iastore, 1), (.aload_n 0, 1), (.invokevirtual 261, 3), (.aload_n 0, 1), (.getfield 36, 3), (.bipush 6, 2), (.iload_n 1, 1), (.iadd, 1), (.iaload, 1), (.ireturn, 1)]
theorem ocX12_sign_1 : chk (cX12_sign.data.toList.drop 42) tcX12_sign_1 = true := by decide +kernel
theorem dX12_sign_42 : decode cX12_sign 42 = .ok (.iastore, 1) := chk_nth ocX12_sign_1 (k := 0) rfl
theorem dX12_sign_43 : decode cX12_sign 43 = .ok (.aload_n 0, 1) := chk_nth ocX12_sign_1 (k := 1) rfl
theorem dX12_sign_44 : decode cX12_sign 44 = .ok (.invokevirtual 261, 3) := chk_nth ocX12_sign_1 (k := 2) rfl
theorem dX12_sign_47 : decode cX12_sign 47 = .ok (.aload_n 0, 1) := chk_nth ocX12_sign_1 (k := 3) rfl
theorem dX12_sign_48 : decode cX12_sign 48 = .ok (.getfield 36, 3) := chk_nth ocX12_sign_1 (k := 4) rfl
theorem dX12_sign_51 : decode cX12_sign 51 = .ok (.bipush 6, 2) := chk_nth ocX12_sign_1 (k := 5) rfl
theorem dX12_sign_53 : decode cX12_sign 53 = .ok (.iload_n 1, 1) := chk_nth ocX12_sign_1 (k := 6) rfl
theorem dX12_sign_54 : decode cX12_sign 54 = .ok (.iadd, 1) := chk_nth ocX12_sign_1 (k := 7) rfl
theorem dX12_sign_55 : decode cX12_sign 55 = .ok (.iaload, 1) := chk_nth ocX12_sign_1 (k := 8) rfl
theorem dX12_sign_56 : decode cX12_sign 56 = .ok (.ireturn, 1) := chk_nth ocX12_sign_1 (k := 9) rfl
def tcX12_bollards_0 : List (Instr × Nat) := [(.aload_n 0, 1), (.iconst 0, 1), (.putfield 1, 3), (.iload_n 1, 1), (.i2l, 1), (.lconst 0, 1), (.ldc2_w 266, 3), (.invokestatic 142, 3), (.ifCond .ne 6, 3), (.bipush (-11), 2), (.ireturn, 1), (.aload_n 0, 1), (.invokevirtual 254, 3), (.aload_n 0, 1), (.getfield 13, 3), (.bipush 48, 2), (.iload_n 1, 1), (.iastore, 1), (.aload_n 0, 1), (.invokevirtual 261, 3), (.aload_n 0, 1), (.getfield 36, 3), (.bipush 14, 2), (.iaload, 1)]
theorem ocX12_bollards_0 : chk (cX12_bollards.data.toList.drop 0) tcX12_bollards_0 = true := by decide +kernel
theorem dX12_bollards_0 : decode cX12_bollards 0 = .ok (.aload_n 0, 1) := chk_nth ocX12_bollards_0 (k := 0) rfl
theorem dX12_bollards_1 : decode cX12_bollards 1 = .ok (.iconst 0, 1) := chk_nth ocX12_bollards_0 (k := 1) rfl
theorem dX12_bollards_2 : decode cX12_bollards 2 = .ok (.putfield 1, 3) := chk_nth ocX12_bollards_0 (k := 2) rfl
theorem dX12_bollards_5 : decode cX12_bollards 5 = .ok (.iload_n 1, 1) := chk_nth ocX12_bollards_0 (k := 3) rfl
theorem dX12_bollards_6 : decode cX12_bollards 6 = .ok (.i2l, 1) := chk_nth ocX12_bollards_0 (k := 4) rfl
theorem dX12_bollards_7 : decode cX12_bollards 7 = .ok (.lconst 0, 1) := chk_nth ocX12_bollards_0 (k := 5) rfl
theorem dX12_bollards_8 : decode cX12_bollards 8 = .ok (.ldc2_w 266, 3) := chk_nth ocX12_bollards_0 (k := 6) rfl
theorem dX12_bollards_11 : decode cX12_bollards 11 = .ok (.invokestatic 142, 3) := chk_nth ocX12_bollards_0 (k := 7) rfl
theorem dX12_bollards_14 : decode cX12_bollards 14 = .ok (.ifCond .ne 6, 3) := chk_nth ocX12_bollards_0 (k := 8) rfl
theorem dX12_bollards_17 : decode cX12_bollards 17 = .ok (.bipush (-11), 2) := chk_nth ocX12_bollards_0 (k := 9) rfl
theorem dX12_bollards_19 : decode cX12_bollards 19 = .ok (.ireturn, 1) := chk_nth ocX12_bollards_0 (k := 10) rfl
theorem dX12_bollards_20 : decode cX12_bollards 20 = .ok (.aload_n 0, 1) := chk_nth ocX12_bollards_0 (k := 11) rfl
theorem dX12_bollards_21 : decode cX12_bollards 21 = .ok (.invokevirtual 254, 3) := chk_nth ocX12_bollards_0 (k := 12) rfl
theorem dX12_bollards_24 : decode cX12_bollards 24 = .ok (.aload_n 0, 1) := chk_nth ocX12_bollards_0 (k := 13) rfl
theorem dX12_bollards_25 : decode cX12_bollards 25 = .ok (.getfield 13, 3) := chk_nth ocX12_bollards_0 (k := 14) rfl
theorem dX12_bollards_28 : decode cX12_bollards 28 = .ok (.bipush 48, 2) := chk_nth ocX12_bollards_0 (k := 15) rfl
theorem dX12_bollards_30 : decode cX12_bollards 30 = .ok (.iload_n 1, 1) := chk_nth ocX12_bollards_0 (k := 16) rfl
theorem dX12_bollards_31 : decode cX12_bollards 31 = .ok (.iastore, 1) := chk_nth ocX12_bollards_0 (k := 17) rfl
theorem dX12_bollards_32 : decode cX12_bollards 32 = .ok (.aload_n 0, 1) := chk_nth ocX12_bollards_0 (k := 18) rfl
theorem dX12_bollards_33 : decode cX12_bollards 33 = .ok (.invokevirtual 261, 3) := chk_nth ocX12_bollards_0 (k := 19) rfl
theorem dX12_bollards_36 : decode cX12_bollards 36 = .ok (.aload_n 0, 1) := chk_nth ocX12_bollards_0 (k := 20) rfl
theorem dX12_bollards_37 : decode cX12_bollards 37 = .ok (.getfield 36, 3) := chk_nth ocX12_bollards_0 (k := 21) rfl
theorem dX12_bollards_40 : decode cX12_bollards 40 = .ok (.bipush 14, 2) := chk_nth ocX12_bollards_0 (k := 22) rfl
theorem dX12_bollards_42 : decode cX12_bollards 42 = .ok (.iaload, 1) := chk_nth ocX12_bollards_0 (k := 23) rfl
def tcX12_bollards_1 : List (Instr × Nat) := [(.ireturn, 1)]
theorem ocX12_bollards_1 : chk (cX12_bollards.data.toList.drop 43) tcX12_bollards_1 = true := by decide +kernel
theorem dX12_bollards_43 : decode cX12_bollards 43 = .ok (.ireturn, 1) := chk_nth ocX12_bollards_1 (k := 0) rfl
def tcX12_put_0 : List (Instr × Nat) := [(.aload_n 0, 1), (.iconst 0, 1), (.putfield 1, 3), (.aload_n 0, 1), (.iload_n 1, 1), (.i2l, 1), (.invokevirtual 233, 3), (.ifCond .eq 20, 3), (.aload_n 0, 1), (.iload_n 2, 1), (.i2l, 1), (.invokevirtual 268, 3), (.ifCond .eq 11, 3), (.iload_n 3, 1), (.i2l, 1), (.invokestatic 229, 3), (.ifCond .ne 6, 3), (.bipush (-11), 2), (.ireturn, 1), (.aload_n 0, 1), (.invokevirtual 254, 3), (.aload_n 0, 1), (.getfield 13, 3), (.bipush 34, 2)]
theorem ocX12_put_0 : chk (cX12_put.data.toList.drop 0) tcX12_put_0 = true := by decide +kernel
theorem dX12_put_0 : decode cX12_put 0 = .ok (.aload_n 0, 1) := chk_nth ocX12_put_0 (k := 0) rfl
theorem dX12_put_1 : decode cX12_put 1 = .ok (.iconst 0, 1) := chk_nth ocX12_put_0 (k := 1) rfl
theorem dX12_put_2 : decode cX12_put 2 = .ok (.putfield 1, 3) := chk_nth ocX12_put_0 (k := 2) rfl
theorem dX12_put_5 : decode cX12_put 5 = .ok (.aload_n 0, 1) := chk_nth ocX12_put_0 (k := 3) rfl
theorem dX12_put_6 : decode cX12_put 6 = .ok (.iload_n 1, 1) := chk_nth ocX12_put_0 (k := 4) rfl
theorem dX12_put_7 : decode cX12_put 7 = .ok (.i2l, 1) := chk_nth ocX12_put_0 (k := 5) rfl
theorem dX12_put_8 : decode cX12_put 8 = .ok (.invokevirtual 233, 3) := chk_nth ocX12_put_0 (k := 6) rfl
theorem dX12_put_11 : decode cX12_put 11 = .ok (.ifCond .eq 20, 3) := chk_nth ocX12_put_0 (k := 7) rfl
theorem dX12_put_14 : decode cX12_put 14 = .ok (.aload_n 0, 1) := chk_nth ocX12_put_0 (k := 8) rfl
theorem dX12_put_15 : decode cX12_put 15 = .ok (.iload_n 2, 1) := chk_nth ocX12_put_0 (k := 9) rfl
theorem dX12_put_16 : decode cX12_put 16 = .ok (.i2l, 1) := chk_nth ocX12_put_0 (k := 10) rfl
theorem dX12_put_17 : decode cX12_put 17 = .ok (.invokevirtual 268, 3) := chk_nth ocX12_put_0 (k := 11) rfl
theorem dX12_put_20 : decode cX12_put 20 = .ok (.ifCond .eq 11, 3) := chk_nth ocX12_put_0 (k := 12) rfl
theorem dX12_put_23 : decode cX12_put 23 = .ok (.iload_n 3, 1) := chk_nth ocX12_put_0 (k := 13) rfl
theorem dX12_put_24 : decode cX12_put 24 = .ok (.i2l, 1) := chk_nth ocX12_put_0 (k := 14) rfl
theorem dX12_put_25 : decode cX12_put 25 = .ok (.invokestatic 229, 3) := chk_nth ocX12_put_0 (k := 15) rfl
theorem dX12_put_28 : decode cX12_put 28 = .ok (.ifCond .ne 6, 3) := chk_nth ocX12_put_0 (k := 16) rfl
theorem dX12_put_31 : decode cX12_put 31 = .ok (.bipush (-11), 2) := chk_nth ocX12_put_0 (k := 17) rfl
theorem dX12_put_33 : decode cX12_put 33 = .ok (.ireturn, 1) := chk_nth ocX12_put_0 (k := 18) rfl
theorem dX12_put_34 : decode cX12_put 34 = .ok (.aload_n 0, 1) := chk_nth ocX12_put_0 (k := 19) rfl
theorem dX12_put_35 : decode cX12_put 35 = .ok (.invokevirtual 254, 3) := chk_nth ocX12_put_0 (k := 20) rfl
theorem dX12_put_38 : decode cX12_put 38 = .ok (.aload_n 0, 1) := chk_nth ocX12_put_0 (k := 21) rfl
theorem dX12_put_39 : decode cX12_put 39 = .ok (.getfield 13, 3) := chk_nth ocX12_put_0 (k := 22) rfl
theorem dX12_put_42 : decode cX12_put 42 = .ok (.bipush 34, 2) := chk_nth ocX12_put_0 (k := 23) rfl
def tcX12_put_1 : List (Instr × Nat) := [(.iload_n 1, 1), (.iadd, 1), (.iload_n 2, 1), (.iastore, 1), (.aload_n 0, 1), (.getfield 13, 3), (.bipush 37, 2), (.iload_n 1, 1), (.iadd, 1), (.iload_n 3, 1), (.iastore, 1), (.aload_n 0, 1), (.invokevirtual 261, 3), (.bipush 100, 2), (.aload_n 0, 1), (.getfield 36, 3), (.iload_n 1, 1), (.iaload, 1), (.imul, 1), (.aload_n 0, 1), (.getfield 36, 3), (.iconst 3, 1), (.iload_n 1, 1), (.iadd, 1)]
theorem ocX12_put_1 : chk (cX12_put.data.toList.drop 44) tcX12_put_1 = true := by decide +kernel
theorem dX12_put_44 : decode cX12_put 44 = .ok (.iload_n 1, 1) := chk_nth ocX12_put_1 (k := 0) rfl
theorem dX12_put_45 : decode cX12_put 45 = .ok (.iadd, 1) := chk_nth ocX12_put_1 (k := 1) rfl
theorem dX12_put_46 : decode cX12_put 46 = .ok (.iload_n 2, 1) := chk_nth ocX12_put_1 (k := 2) rfl
theorem dX12_put_47 : decode cX12_put 47 = .ok (.iastore, 1) := chk_nth ocX12_put_1 (k := 3) rfl
theorem dX12_put_48 : decode cX12_put 48 = .ok (.aload_n 0, 1) := chk_nth ocX12_put_1 (k := 4) rfl
theorem dX12_put_49 : decode cX12_put 49 = .ok (.getfield 13, 3) := chk_nth ocX12_put_1 (k := 5) rfl
theorem dX12_put_52 : decode cX12_put 52 = .ok (.bipush 37, 2) := chk_nth ocX12_put_1 (k := 6) rfl
theorem dX12_put_54 : decode cX12_put 54 = .ok (.iload_n 1, 1) := chk_nth ocX12_put_1 (k := 7) rfl
theorem dX12_put_55 : decode cX12_put 55 = .ok (.iadd, 1) := chk_nth ocX12_put_1 (k := 8) rfl
theorem dX12_put_56 : decode cX12_put 56 = .ok (.iload_n 3, 1) := chk_nth ocX12_put_1 (k := 9) rfl
theorem dX12_put_57 : decode cX12_put 57 = .ok (.iastore, 1) := chk_nth ocX12_put_1 (k := 10) rfl
theorem dX12_put_58 : decode cX12_put 58 = .ok (.aload_n 0, 1) := chk_nth ocX12_put_1 (k := 11) rfl
theorem dX12_put_59 : decode cX12_put 59 = .ok (.invokevirtual 261, 3) := chk_nth ocX12_put_1 (k := 12) rfl
theorem dX12_put_62 : decode cX12_put 62 = .ok (.bipush 100, 2) := chk_nth ocX12_put_1 (k := 13) rfl
theorem dX12_put_64 : decode cX12_put 64 = .ok (.aload_n 0, 1) := chk_nth ocX12_put_1 (k := 14) rfl
theorem dX12_put_65 : decode cX12_put 65 = .ok (.getfield 36, 3) := chk_nth ocX12_put_1 (k := 15) rfl
theorem dX12_put_68 : decode cX12_put 68 = .ok (.iload_n 1, 1) := chk_nth ocX12_put_1 (k := 16) rfl
theorem dX12_put_69 : decode cX12_put 69 = .ok (.iaload, 1) := chk_nth ocX12_put_1 (k := 17) rfl
theorem dX12_put_70 : decode cX12_put 70 = .ok (.imul, 1) := chk_nth ocX12_put_1 (k := 18) rfl
theorem dX12_put_71 : decode cX12_put 71 = .ok (.aload_n 0, 1) := chk_nth ocX12_put_1 (k := 19) rfl
theorem dX12_put_72 : decode cX12_put 72 = .ok (.getfield 36, 3) := chk_nth ocX12_put_1 (k := 20) rfl
theorem dX12_put_75 : decode cX12_put 75 = .ok (.iconst 3, 1) := chk_nth ocX12_put_1 (k := 21) rfl
theorem dX12_put_76 : decode cX12_put 76 = .ok (.iload_n 1, 1) := chk_nth ocX12_put_1 (k := 22) rfl
theorem dX12_put_77 : decode cX12_put 77 = .ok (.iadd, 1) := chk_nth ocX12_put_1 (k := 23) rfl
def tcX12_put_2 : List (Instr × Nat) := [(.iaload, 1), (.iadd, 1), (.ireturn, 1)]
theorem ocX12_put_2 : chk (cX12_put.data.toList.drop 78) tcX12_put_2 = true := by decide +kernel
theorem dX12_put_78 : decode cX12_put 78 = .ok (.iaload, 1) := chk_nth ocX12_put_2 (k := 0) rfl
theorem dX12_put_79 : decode cX12_put 79 = .ok (.iadd, 1) := chk_nth ocX12_put_2 (k := 1) rfl
theorem dX12_put_80 : decode cX12_put 80 = .ok (.ireturn, 1) := chk_nth ocX12_put_2 (k := 2) rfl
def tcX12_undo_0 : List (Instr × Nat) := [(.aload_n 0, 1), (.iconst 0, 1), (.putfield 1, 3), (.iload_n 1, 1), (.i2l, 1), (.lconst 1, 1), (.ldc2_w 271, 3), (.invokestatic 142, 3), (.ifCond .eq 14, 3), (.iload_n 1, 1), (.aload_n 0, 1), (.getfield 13, 3), (.bipush 49, 2), (.iaload, 1), (.if_icmp .le 6, 3), (.bipush (-3), 2), (.ireturn, 1), (.aload_n 0, 1), (.getfield 13, 3), (.bipush 49, 2), (.dup2, 1), (.iaload, 1), (.iload_n 1, 1), (.isub, 1)]
theorem ocX12_undo_0 : chk (cX12_undo.data.toList.drop 0) tcX12_undo_0 = true := by decide +kernel
theorem dX12_undo_0 : decode cX12_undo 0 = .ok (.aload_n 0, 1) := chk_nth ocX12_undo_0 (k := 0) rfl
theorem dX12_undo_1 : decode cX12_undo 1 = .ok (.iconst 0, 1) := chk_nth ocX12_undo_0 (k := 1) rfl
theorem dX12_undo_2 : decode cX12_undo 2 = .ok (.putfield 1, 3) := chk_nth ocX12_undo_0 (k := 2) rfl
theorem dX12_undo_5 : decode cX12_undo 5 = .ok (.iload_n 1, 1) := chk_nth ocX12_undo_0 (k := 3) rfl
theorem dX12_undo_6 : decode cX12_undo 6 = .ok (.i2l, 1) := chk_nth ocX12_undo_0 (k := 4) rfl
theorem dX12_undo_7 : decode cX12_undo 7 = .ok (.lconst 1, 1) := chk_nth ocX12_undo_0 (k := 5) rfl
theorem dX12_undo_8 : decode cX12_undo 8 = .ok (.ldc2_w 271, 3) := chk_nth ocX12_undo_0 (k := 6) rfl
theorem dX12_undo_11 : decode cX12_undo 11 = .ok (.invokestatic 142, 3) := chk_nth ocX12_undo_0 (k := 7) rfl
theorem dX12_undo_14 : decode cX12_undo 14 = .ok (.ifCond .eq 14, 3) := chk_nth ocX12_undo_0 (k := 8) rfl
theorem dX12_undo_17 : decode cX12_undo 17 = .ok (.iload_n 1, 1) := chk_nth ocX12_undo_0 (k := 9) rfl
theorem dX12_undo_18 : decode cX12_undo 18 = .ok (.aload_n 0, 1) := chk_nth ocX12_undo_0 (k := 10) rfl
theorem dX12_undo_19 : decode cX12_undo 19 = .ok (.getfield 13, 3) := chk_nth ocX12_undo_0 (k := 11) rfl
theorem dX12_undo_22 : decode cX12_undo 22 = .ok (.bipush 49, 2) := chk_nth ocX12_undo_0 (k := 12) rfl
theorem dX12_undo_24 : decode cX12_undo 24 = .ok (.iaload, 1) := chk_nth ocX12_undo_0 (k := 13) rfl
theorem dX12_undo_25 : decode cX12_undo 25 = .ok (.if_icmp .le 6, 3) := chk_nth ocX12_undo_0 (k := 14) rfl
theorem dX12_undo_28 : decode cX12_undo 28 = .ok (.bipush (-3), 2) := chk_nth ocX12_undo_0 (k := 15) rfl
theorem dX12_undo_30 : decode cX12_undo 30 = .ok (.ireturn, 1) := chk_nth ocX12_undo_0 (k := 16) rfl
theorem dX12_undo_31 : decode cX12_undo 31 = .ok (.aload_n 0, 1) := chk_nth ocX12_undo_0 (k := 17) rfl
theorem dX12_undo_32 : decode cX12_undo 32 = .ok (.getfield 13, 3) := chk_nth ocX12_undo_0 (k := 18) rfl
theorem dX12_undo_35 : decode cX12_undo 35 = .ok (.bipush 49, 2) := chk_nth ocX12_undo_0 (k := 19) rfl
theorem dX12_undo_37 : decode cX12_undo 37 = .ok (.dup2, 1) := chk_nth ocX12_undo_0 (k := 20) rfl
theorem dX12_undo_38 : decode cX12_undo 38 = .ok (.iaload, 1) := chk_nth ocX12_undo_0 (k := 21) rfl
theorem dX12_undo_39 : decode cX12_undo 39 = .ok (.iload_n 1, 1) := chk_nth ocX12_undo_0 (k := 22) rfl
theorem dX12_undo_40 : decode cX12_undo 40 = .ok (.isub, 1) := chk_nth ocX12_undo_0 (k := 23) rfl
def tcX12_undo_1 : List (Instr × Nat) := [(.iastore, 1), (.iconst 0, 1), (.istore_n 2, 1), (.iload_n 2, 1), (.bipush 15, 2), (.if_icmp .ge 38, 3), (.aload_n 0, 1), (.getfield 13, 3), (.bipush 34, 2), (.iload_n 2, 1), (.iadd, 1), (.aload_n 0, 1), (.getfield 13, 3), (.bipush 50, 2), (.bipush 15, 2), (.aload_n 0, 1), (.getfield 13, 3), (.bipush 49, 2), (.iaload, 1), (.imul, 1), (.iadd, 1), (.iload_n 2, 1), (.iadd, 1), (.iaload, 1)]
theorem ocX12_undo_1 : chk (cX12_undo.data.toList.drop 41) tcX12_undo_1 = true := by decide +kernel
theorem dX12_undo_41 : decode cX12_undo 41 = .ok (.iastore, 1) := chk_nth ocX12_undo_1 (k := 0) rfl
theorem dX12_undo_42 : decode cX12_undo 42 = .ok (.iconst 0, 1) := chk_nth ocX12_undo_1 (k := 1) rfl
theorem dX12_undo_43 : decode cX12_undo 43 = .ok (.istore_n 2, 1) := chk_nth ocX12_undo_1 (k := 2) rfl
theorem dX12_undo_44 : decode cX12_undo 44 = .ok (.iload_n 2, 1) := chk_nth ocX12_undo_1 (k := 3) rfl
theorem dX12_undo_45 : decode cX12_undo 45 = .ok (.bipush 15, 2) := chk_nth ocX12_undo_1 (k := 4) rfl
theorem dX12_undo_47 : decode cX12_undo 47 = .ok (.if_icmp .ge 38, 3) := chk_nth ocX12_undo_1 (k := 5) rfl
theorem dX12_undo_50 : decode cX12_undo 50 = .ok (.aload_n 0, 1) := chk_nth ocX12_undo_1 (k := 6) rfl
theorem dX12_undo_51 : decode cX12_undo 51 = .ok (.getfield 13, 3) := chk_nth ocX12_undo_1 (k := 7) rfl
theorem dX12_undo_54 : decode cX12_undo 54 = .ok (.bipush 34, 2) := chk_nth ocX12_undo_1 (k := 8) rfl
theorem dX12_undo_56 : decode cX12_undo 56 = .ok (.iload_n 2, 1) := chk_nth ocX12_undo_1 (k := 9) rfl
theorem dX12_undo_57 : decode cX12_undo 57 = .ok (.iadd, 1) := chk_nth ocX12_undo_1 (k := 10) rfl
theorem dX12_undo_58 : decode cX12_undo 58 = .ok (.aload_n 0, 1) := chk_nth ocX12_undo_1 (k := 11) rfl
theorem dX12_undo_59 : decode cX12_undo 59 = .ok (.getfield 13, 3) := chk_nth ocX12_undo_1 (k := 12) rfl
theorem dX12_undo_62 : decode cX12_undo 62 = .ok (.bipush 50, 2) := chk_nth ocX12_undo_1 (k := 13) rfl
theorem dX12_undo_64 : decode cX12_undo 64 = .ok (.bipush 15, 2) := chk_nth ocX12_undo_1 (k := 14) rfl
theorem dX12_undo_66 : decode cX12_undo 66 = .ok (.aload_n 0, 1) := chk_nth ocX12_undo_1 (k := 15) rfl
theorem dX12_undo_67 : decode cX12_undo 67 = .ok (.getfield 13, 3) := chk_nth ocX12_undo_1 (k := 16) rfl
theorem dX12_undo_70 : decode cX12_undo 70 = .ok (.bipush 49, 2) := chk_nth ocX12_undo_1 (k := 17) rfl
theorem dX12_undo_72 : decode cX12_undo 72 = .ok (.iaload, 1) := chk_nth ocX12_undo_1 (k := 18) rfl
theorem dX12_undo_73 : decode cX12_undo 73 = .ok (.imul, 1) := chk_nth ocX12_undo_1 (k := 19) rfl
theorem dX12_undo_74 : decode cX12_undo 74 = .ok (.iadd, 1) := chk_nth ocX12_undo_1 (k := 20) rfl
theorem dX12_undo_75 : decode cX12_undo 75 = .ok (.iload_n 2, 1) := chk_nth ocX12_undo_1 (k := 21) rfl
theorem dX12_undo_76 : decode cX12_undo 76 = .ok (.iadd, 1) := chk_nth ocX12_undo_1 (k := 22) rfl
theorem dX12_undo_77 : decode cX12_undo 77 = .ok (.iaload, 1) := chk_nth ocX12_undo_1 (k := 23) rfl
def tcX12_undo_2 : List (Instr × Nat) := [(.iastore, 1), (.iinc 2 1, 3), (.goto (-38), 3), (.aload_n 0, 1), (.getfield 13, 3), (.bipush 49, 2), (.iaload, 1), (.ireturn, 1)]
theorem ocX12_undo_2 : chk (cX12_undo.data.toList.drop 78) tcX12_undo_2 = true := by decide +kernel
theorem dX12_undo_78 : decode cX12_undo 78 = .ok (.iastore, 1) := chk_nth ocX12_undo_2 (k := 0) rfl
theorem dX12_undo_79 : decode cX12_undo 79 = .ok (.iinc 2 1, 3) := chk_nth ocX12_undo_2 (k := 1) rfl
theorem dX12_undo_82 : decode cX12_undo 82 = .ok (.goto (-38), 3) := chk_nth ocX12_undo_2 (k := 2) rfl
theorem dX12_undo_85 : decode cX12_undo 85 = .ok (.aload_n 0, 1) := chk_nth ocX12_undo_2 (k := 3) rfl
theorem dX12_undo_86 : decode cX12_undo 86 = .ok (.getfield 13, 3) := chk_nth ocX12_undo_2 (k := 4) rfl
theorem dX12_undo_89 : decode cX12_undo 89 = .ok (.bipush 49, 2) := chk_nth ocX12_undo_2 (k := 5) rfl
theorem dX12_undo_91 : decode cX12_undo 91 = .ok (.iaload, 1) := chk_nth ocX12_undo_2 (k := 6) rfl
theorem dX12_undo_92 : decode cX12_undo 92 = .ok (.ireturn, 1) := chk_nth ocX12_undo_2 (k := 7) rfl
def tcX12_whyNot_0 : List (Instr × Nat) := [(.lload_n 1, 1), (.lconst 0, 1), (.ldc2_w 273, 3), (.invokestatic 142, 3), (.ifCond .eq 18, 3), (.aload_n 0, 1), (.lload_n 1, 1), (.ldc2_w 271, 3), (.ldiv, 1), (.lload_n 1, 1), (.ldc2_w 271, 3), (.lrem, 1), (.invokevirtual 247, 3), (.ireturn, 1), (.lload_n 1, 1), (.ldc2_w 275, 3), (.ldc2_w 277, 3), (.invokestatic 142, 3), (.ifCond .eq 37, 3), (.aload_n 0, 1), (.lload_n 1, 1), (.ldc2_w 275, 3), (.lsub, 1), (.ldc2_w 271, 3)]
theorem ocX12_whyNot_0 : chk (cX12_whyNot.data.toList.drop 0) tcX12_whyNot_0 = true := by decide +kernel
theorem dX12_whyNot_0 : decode cX12_whyNot 0 = .ok (.lload_n 1, 1) := chk_nth ocX12_whyNot_0 (k := 0) rfl
theorem dX12_whyNot_1 : decode cX12_whyNot 1 = .ok (.lconst 0, 1) := chk_nth ocX12_whyNot_0 (k := 1) rfl
theorem dX12_whyNot_2 : decode cX12_whyNot 2 = .ok (.ldc2_w 273, 3) := chk_nth ocX12_whyNot_0 (k := 2) rfl
theorem dX12_whyNot_5 : decode cX12_whyNot 5 = .ok (.invokestatic 142, 3) := chk_nth ocX12_whyNot_0 (k := 3) rfl
theorem dX12_whyNot_8 : decode cX12_whyNot 8 = .ok (.ifCond .eq 18, 3) := chk_nth ocX12_whyNot_0 (k := 4) rfl
theorem dX12_whyNot_11 : decode cX12_whyNot 11 = .ok (.aload_n 0, 1) := chk_nth ocX12_whyNot_0 (k := 5) rfl
theorem dX12_whyNot_12 : decode cX12_whyNot 12 = .ok (.lload_n 1, 1) := chk_nth ocX12_whyNot_0 (k := 6) rfl
theorem dX12_whyNot_13 : decode cX12_whyNot 13 = .ok (.ldc2_w 271, 3) := chk_nth ocX12_whyNot_0 (k := 7) rfl
theorem dX12_whyNot_16 : decode cX12_whyNot 16 = .ok (.ldiv, 1) := chk_nth ocX12_whyNot_0 (k := 8) rfl
theorem dX12_whyNot_17 : decode cX12_whyNot 17 = .ok (.lload_n 1, 1) := chk_nth ocX12_whyNot_0 (k := 9) rfl
theorem dX12_whyNot_18 : decode cX12_whyNot 18 = .ok (.ldc2_w 271, 3) := chk_nth ocX12_whyNot_0 (k := 10) rfl
theorem dX12_whyNot_21 : decode cX12_whyNot 21 = .ok (.lrem, 1) := chk_nth ocX12_whyNot_0 (k := 11) rfl
theorem dX12_whyNot_22 : decode cX12_whyNot 22 = .ok (.invokevirtual 247, 3) := chk_nth ocX12_whyNot_0 (k := 12) rfl
theorem dX12_whyNot_25 : decode cX12_whyNot 25 = .ok (.ireturn, 1) := chk_nth ocX12_whyNot_0 (k := 13) rfl
theorem dX12_whyNot_26 : decode cX12_whyNot 26 = .ok (.lload_n 1, 1) := chk_nth ocX12_whyNot_0 (k := 14) rfl
theorem dX12_whyNot_27 : decode cX12_whyNot 27 = .ok (.ldc2_w 275, 3) := chk_nth ocX12_whyNot_0 (k := 15) rfl
theorem dX12_whyNot_30 : decode cX12_whyNot 30 = .ok (.ldc2_w 277, 3) := chk_nth ocX12_whyNot_0 (k := 16) rfl
theorem dX12_whyNot_33 : decode cX12_whyNot 33 = .ok (.invokestatic 142, 3) := chk_nth ocX12_whyNot_0 (k := 17) rfl
theorem dX12_whyNot_36 : decode cX12_whyNot 36 = .ok (.ifCond .eq 37, 3) := chk_nth ocX12_whyNot_0 (k := 18) rfl
theorem dX12_whyNot_39 : decode cX12_whyNot 39 = .ok (.aload_n 0, 1) := chk_nth ocX12_whyNot_0 (k := 19) rfl
theorem dX12_whyNot_40 : decode cX12_whyNot 40 = .ok (.lload_n 1, 1) := chk_nth ocX12_whyNot_0 (k := 20) rfl
theorem dX12_whyNot_41 : decode cX12_whyNot 41 = .ok (.ldc2_w 275, 3) := chk_nth ocX12_whyNot_0 (k := 21) rfl
theorem dX12_whyNot_44 : decode cX12_whyNot 44 = .ok (.lsub, 1) := chk_nth ocX12_whyNot_0 (k := 22) rfl
theorem dX12_whyNot_45 : decode cX12_whyNot 45 = .ok (.ldc2_w 271, 3) := chk_nth ocX12_whyNot_0 (k := 23) rfl
def tcX12_whyNot_1 : List (Instr × Nat) := [(.ldiv, 1), (.invokevirtual 236, 3), (.ifCond .eq 19, 3), (.lload_n 1, 1), (.ldc2_w 271, 3), (.lrem, 1), (.ldc2_w 264, 3), (.lcmp, 1), (.ifCond .gt 7, 3), (.iconst 0, 1), (.goto 4, 3), (.iconst 1, 1), (.ireturn, 1), (.lload_n 1, 1), (.ldc2_w 279, 3), (.ldc2_w 281, 3), (.invokestatic 142, 3), (.ifCond .eq 5, 3), (.iconst 0, 1), (.ireturn, 1), (.lload_n 1, 1), (.ldc2_w 283, 3), (.ldc2_w 285, 3), (.invokestatic 142, 3)]
theorem ocX12_whyNot_1 : chk (cX12_whyNot.data.toList.drop 48) tcX12_whyNot_1 = true := by decide +kernel
theorem dX12_whyNot_48 : decode cX12_whyNot 48 = .ok (.ldiv, 1) := chk_nth ocX12_whyNot_1 (k := 0) rfl
theorem dX12_whyNot_49 : decode cX12_whyNot 49 = .ok (.invokevirtual 236, 3) := chk_nth ocX12_whyNot_1 (k := 1) rfl
theorem dX12_whyNot_52 : decode cX12_whyNot 52 = .ok (.ifCond .eq 19, 3) := chk_nth ocX12_whyNot_1 (k := 2) rfl
theorem dX12_whyNot_55 : decode cX12_whyNot 55 = .ok (.lload_n 1, 1) := chk_nth ocX12_whyNot_1 (k := 3) rfl
theorem dX12_whyNot_56 : decode cX12_whyNot 56 = .ok (.ldc2_w 271, 3) := chk_nth ocX12_whyNot_1 (k := 4) rfl
theorem dX12_whyNot_59 : decode cX12_whyNot 59 = .ok (.lrem, 1) := chk_nth ocX12_whyNot_1 (k := 5) rfl
theorem dX12_whyNot_60 : decode cX12_whyNot 60 = .ok (.ldc2_w 264, 3) := chk_nth ocX12_whyNot_1 (k := 6) rfl
theorem dX12_whyNot_63 : decode cX12_whyNot 63 = .ok (.lcmp, 1) := chk_nth ocX12_whyNot_1 (k := 7) rfl
theorem dX12_whyNot_64 : decode cX12_whyNot 64 = .ok (.ifCond .gt 7, 3) := chk_nth ocX12_whyNot_1 (k := 8) rfl
theorem dX12_whyNot_67 : decode cX12_whyNot 67 = .ok (.iconst 0, 1) := chk_nth ocX12_whyNot_1 (k := 9) rfl
theorem dX12_whyNot_68 : decode cX12_whyNot 68 = .ok (.goto 4, 3) := chk_nth ocX12_whyNot_1 (k := 10) rfl
theorem dX12_whyNot_71 : decode cX12_whyNot 71 = .ok (.iconst 1, 1) := chk_nth ocX12_whyNot_1 (k := 11) rfl
theorem dX12_whyNot_72 : decode cX12_whyNot 72 = .ok (.ireturn, 1) := chk_nth ocX12_whyNot_1 (k := 12) rfl
theorem dX12_whyNot_73 : decode cX12_whyNot 73 = .ok (.lload_n 1, 1) := chk_nth ocX12_whyNot_1 (k := 13) rfl
theorem dX12_whyNot_74 : decode cX12_whyNot 74 = .ok (.ldc2_w 279, 3) := chk_nth ocX12_whyNot_1 (k := 14) rfl
theorem dX12_whyNot_77 : decode cX12_whyNot 77 = .ok (.ldc2_w 281, 3) := chk_nth ocX12_whyNot_1 (k := 15) rfl
theorem dX12_whyNot_80 : decode cX12_whyNot 80 = .ok (.invokestatic 142, 3) := chk_nth ocX12_whyNot_1 (k := 16) rfl
theorem dX12_whyNot_83 : decode cX12_whyNot 83 = .ok (.ifCond .eq 5, 3) := chk_nth ocX12_whyNot_1 (k := 17) rfl
theorem dX12_whyNot_86 : decode cX12_whyNot 86 = .ok (.iconst 0, 1) := chk_nth ocX12_whyNot_1 (k := 18) rfl
theorem dX12_whyNot_87 : decode cX12_whyNot 87 = .ok (.ireturn, 1) := chk_nth ocX12_whyNot_1 (k := 19) rfl
theorem dX12_whyNot_88 : decode cX12_whyNot 88 = .ok (.lload_n 1, 1) := chk_nth ocX12_whyNot_1 (k := 20) rfl
theorem dX12_whyNot_89 : decode cX12_whyNot 89 = .ok (.ldc2_w 283, 3) := chk_nth ocX12_whyNot_1 (k := 21) rfl
theorem dX12_whyNot_92 : decode cX12_whyNot 92 = .ok (.ldc2_w 285, 3) := chk_nth ocX12_whyNot_1 (k := 22) rfl
theorem dX12_whyNot_95 : decode cX12_whyNot 95 = .ok (.invokestatic 142, 3) := chk_nth ocX12_whyNot_1 (k := 23) rfl
def tcX12_whyNot_2 : List (Instr × Nat) := [(.ifCond .eq 50, 3), (.aload_n 0, 1), (.lload_n 1, 1), (.ldc2_w 283, 3), (.lsub, 1), (.ldc2_w 283, 3), (.ldiv, 1), (.invokevirtual 233, 3), (.ifCond .eq 34, 3), (.aload_n 0, 1), (.lload_n 1, 1), (.ldc2_w 283, 3), (.lrem, 1), (.ldc2_w 275, 3), (.ldiv, 1), (.invokevirtual 268, 3), (.ifCond .eq 18, 3), (.lload_n 1, 1), (.ldc2_w 275, 3), (.lrem, 1), (.invokestatic 229, 3), (.ifCond .eq 7, 3), (.iconst 0, 1), (.goto 4, 3)]
theorem ocX12_whyNot_2 : chk (cX12_whyNot.data.toList.drop 98) tcX12_whyNot_2 = true := by decide +kernel
theorem dX12_whyNot_98 : decode cX12_whyNot 98 = .ok (.ifCond .eq 50, 3) := chk_nth ocX12_whyNot_2 (k := 0) rfl
theorem dX12_whyNot_101 : decode cX12_whyNot 101 = .ok (.aload_n 0, 1) := chk_nth ocX12_whyNot_2 (k := 1) rfl
theorem dX12_whyNot_102 : decode cX12_whyNot 102 = .ok (.lload_n 1, 1) := chk_nth ocX12_whyNot_2 (k := 2) rfl
theorem dX12_whyNot_103 : decode cX12_whyNot 103 = .ok (.ldc2_w 283, 3) := chk_nth ocX12_whyNot_2 (k := 3) rfl
theorem dX12_whyNot_106 : decode cX12_whyNot 106 = .ok (.lsub, 1) := chk_nth ocX12_whyNot_2 (k := 4) rfl
theorem dX12_whyNot_107 : decode cX12_whyNot 107 = .ok (.ldc2_w 283, 3) := chk_nth ocX12_whyNot_2 (k := 5) rfl
theorem dX12_whyNot_110 : decode cX12_whyNot 110 = .ok (.ldiv, 1) := chk_nth ocX12_whyNot_2 (k := 6) rfl
theorem dX12_whyNot_111 : decode cX12_whyNot 111 = .ok (.invokevirtual 233, 3) := chk_nth ocX12_whyNot_2 (k := 7) rfl
theorem dX12_whyNot_114 : decode cX12_whyNot 114 = .ok (.ifCond .eq 34, 3) := chk_nth ocX12_whyNot_2 (k := 8) rfl
theorem dX12_whyNot_117 : decode cX12_whyNot 117 = .ok (.aload_n 0, 1) := chk_nth ocX12_whyNot_2 (k := 9) rfl
theorem dX12_whyNot_118 : decode cX12_whyNot 118 = .ok (.lload_n 1, 1) := chk_nth ocX12_whyNot_2 (k := 10) rfl
theorem dX12_whyNot_119 : decode cX12_whyNot 119 = .ok (.ldc2_w 283, 3) := chk_nth ocX12_whyNot_2 (k := 11) rfl
theorem dX12_whyNot_122 : decode cX12_whyNot 122 = .ok (.lrem, 1) := chk_nth ocX12_whyNot_2 (k := 12) rfl
theorem dX12_whyNot_123 : decode cX12_whyNot 123 = .ok (.ldc2_w 275, 3) := chk_nth ocX12_whyNot_2 (k := 13) rfl
theorem dX12_whyNot_126 : decode cX12_whyNot 126 = .ok (.ldiv, 1) := chk_nth ocX12_whyNot_2 (k := 14) rfl
theorem dX12_whyNot_127 : decode cX12_whyNot 127 = .ok (.invokevirtual 268, 3) := chk_nth ocX12_whyNot_2 (k := 15) rfl
theorem dX12_whyNot_130 : decode cX12_whyNot 130 = .ok (.ifCond .eq 18, 3) := chk_nth ocX12_whyNot_2 (k := 16) rfl
theorem dX12_whyNot_133 : decode cX12_whyNot 133 = .ok (.lload_n 1, 1) := chk_nth ocX12_whyNot_2 (k := 17) rfl
theorem dX12_whyNot_134 : decode cX12_whyNot 134 = .ok (.ldc2_w 275, 3) := chk_nth ocX12_whyNot_2 (k := 18) rfl
theorem dX12_whyNot_137 : decode cX12_whyNot 137 = .ok (.lrem, 1) := chk_nth ocX12_whyNot_2 (k := 19) rfl
theorem dX12_whyNot_138 : decode cX12_whyNot 138 = .ok (.invokestatic 229, 3) := chk_nth ocX12_whyNot_2 (k := 20) rfl
theorem dX12_whyNot_141 : decode cX12_whyNot 141 = .ok (.ifCond .eq 7, 3) := chk_nth ocX12_whyNot_2 (k := 21) rfl
theorem dX12_whyNot_144 : decode cX12_whyNot 144 = .ok (.iconst 0, 1) := chk_nth ocX12_whyNot_2 (k := 22) rfl
theorem dX12_whyNot_145 : decode cX12_whyNot 145 = .ok (.goto 4, 3) := chk_nth ocX12_whyNot_2 (k := 23) rfl
def tcX12_whyNot_3 : List (Instr × Nat) := [(.iconst 1, 1), (.ireturn, 1)]
theorem ocX12_whyNot_3 : chk (cX12_whyNot.data.toList.drop 148) tcX12_whyNot_3 = true := by decide +kernel
theorem dX12_whyNot_148 : decode cX12_whyNot 148 = .ok (.iconst 1, 1) := chk_nth ocX12_whyNot_3 (k := 0) rfl
theorem dX12_whyNot_149 : decode cX12_whyNot 149 = .ok (.ireturn, 1) := chk_nth ocX12_whyNot_3 (k := 1) rfl
def tcX12_does_0 : List (Instr × Nat) := [(.iload_n 1, 1), (.bipush 100, 2), (.if_icmp .ge 34, 3), (.aload_n 0, 1), (.iload_n 1, 1), (.bipush 10, 2), (.idiv, 1), (.aload_n 0, 1), (.iload_n 1, 1), (.bipush 10, 2), (.idiv, 1), (.aload_n 0, 1), (.iload_n 1, 1), (.bipush 10, 2), (.idiv, 1), (.invokevirtual 239, 3), (.iload_n 1, 1), (.bipush 10, 2), (.irem, 1), (.invokevirtual 251, 3), (.invokevirtual 257, 3), (.goto 83, 3), (.iload_n 1, 1), (.sipush 200, 3)]
theorem ocX12_does_0 : chk (cX12_does.data.toList.drop 0) tcX12_does_0 = true := by decide +kernel
theorem dX12_does_0 : decode cX12_does 0 = .ok (.iload_n 1, 1) := chk_nth ocX12_does_0 (k := 0) rfl
theorem dX12_does_1 : decode cX12_does 1 = .ok (.bipush 100, 2) := chk_nth ocX12_does_0 (k := 1) rfl
theorem dX12_does_3 : decode cX12_does 3 = .ok (.if_icmp .ge 34, 3) := chk_nth ocX12_does_0 (k := 2) rfl
theorem dX12_does_6 : decode cX12_does 6 = .ok (.aload_n 0, 1) := chk_nth ocX12_does_0 (k := 3) rfl
theorem dX12_does_7 : decode cX12_does 7 = .ok (.iload_n 1, 1) := chk_nth ocX12_does_0 (k := 4) rfl
theorem dX12_does_8 : decode cX12_does 8 = .ok (.bipush 10, 2) := chk_nth ocX12_does_0 (k := 5) rfl
theorem dX12_does_10 : decode cX12_does 10 = .ok (.idiv, 1) := chk_nth ocX12_does_0 (k := 6) rfl
theorem dX12_does_11 : decode cX12_does 11 = .ok (.aload_n 0, 1) := chk_nth ocX12_does_0 (k := 7) rfl
theorem dX12_does_12 : decode cX12_does 12 = .ok (.iload_n 1, 1) := chk_nth ocX12_does_0 (k := 8) rfl
theorem dX12_does_13 : decode cX12_does 13 = .ok (.bipush 10, 2) := chk_nth ocX12_does_0 (k := 9) rfl
theorem dX12_does_15 : decode cX12_does 15 = .ok (.idiv, 1) := chk_nth ocX12_does_0 (k := 10) rfl
theorem dX12_does_16 : decode cX12_does 16 = .ok (.aload_n 0, 1) := chk_nth ocX12_does_0 (k := 11) rfl
theorem dX12_does_17 : decode cX12_does 17 = .ok (.iload_n 1, 1) := chk_nth ocX12_does_0 (k := 12) rfl
theorem dX12_does_18 : decode cX12_does 18 = .ok (.bipush 10, 2) := chk_nth ocX12_does_0 (k := 13) rfl
theorem dX12_does_20 : decode cX12_does 20 = .ok (.idiv, 1) := chk_nth ocX12_does_0 (k := 14) rfl
theorem dX12_does_21 : decode cX12_does 21 = .ok (.invokevirtual 239, 3) := chk_nth ocX12_does_0 (k := 15) rfl
theorem dX12_does_24 : decode cX12_does 24 = .ok (.iload_n 1, 1) := chk_nth ocX12_does_0 (k := 16) rfl
theorem dX12_does_25 : decode cX12_does 25 = .ok (.bipush 10, 2) := chk_nth ocX12_does_0 (k := 17) rfl
theorem dX12_does_27 : decode cX12_does 27 = .ok (.irem, 1) := chk_nth ocX12_does_0 (k := 18) rfl
theorem dX12_does_28 : decode cX12_does 28 = .ok (.invokevirtual 251, 3) := chk_nth ocX12_does_0 (k := 19) rfl
theorem dX12_does_31 : decode cX12_does 31 = .ok (.invokevirtual 257, 3) := chk_nth ocX12_does_0 (k := 20) rfl
theorem dX12_does_34 : decode cX12_does 34 = .ok (.goto 83, 3) := chk_nth ocX12_does_0 (k := 21) rfl
theorem dX12_does_37 : decode cX12_does 37 = .ok (.iload_n 1, 1) := chk_nth ocX12_does_0 (k := 22) rfl
theorem dX12_does_38 : decode cX12_does 38 = .ok (.sipush 200, 3) := chk_nth ocX12_does_0 (k := 23) rfl
def tcX12_does_1 : List (Instr × Nat) := [(.if_icmp .ge 25, 3), (.aload_n 0, 1), (.getfield 13, 3), (.bipush 40, 2), (.iload_n 1, 1), (.bipush 100, 2), (.isub, 1), (.bipush 10, 2), (.idiv, 1), (.iadd, 1), (.iload_n 1, 1), (.bipush 10, 2), (.irem, 1), (.iastore, 1), (.goto 54, 3), (.iload_n 1, 1), (.sipush 210, 3), (.if_icmp .ge 18, 3), (.aload_n 0, 1), (.getfield 13, 3), (.bipush 48, 2), (.iload_n 1, 1), (.sipush 200, 3), (.isub, 1)]
theorem ocX12_does_1 : chk (cX12_does.data.toList.drop 41) tcX12_does_1 = true := by decide +kernel
theorem dX12_does_41 : decode cX12_does 41 = .ok (.if_icmp .ge 25, 3) := chk_nth ocX12_does_1 (k := 0) rfl
theorem dX12_does_44 : decode cX12_does 44 = .ok (.aload_n 0, 1) := chk_nth ocX12_does_1 (k := 1) rfl
theorem dX12_does_45 : decode cX12_does 45 = .ok (.getfield 13, 3) := chk_nth ocX12_does_1 (k := 2) rfl
theorem dX12_does_48 : decode cX12_does 48 = .ok (.bipush 40, 2) := chk_nth ocX12_does_1 (k := 3) rfl
theorem dX12_does_50 : decode cX12_does 50 = .ok (.iload_n 1, 1) := chk_nth ocX12_does_1 (k := 4) rfl
theorem dX12_does_51 : decode cX12_does 51 = .ok (.bipush 100, 2) := chk_nth ocX12_does_1 (k := 5) rfl
theorem dX12_does_53 : decode cX12_does 53 = .ok (.isub, 1) := chk_nth ocX12_does_1 (k := 6) rfl
theorem dX12_does_54 : decode cX12_does 54 = .ok (.bipush 10, 2) := chk_nth ocX12_does_1 (k := 7) rfl
theorem dX12_does_56 : decode cX12_does 56 = .ok (.idiv, 1) := chk_nth ocX12_does_1 (k := 8) rfl
theorem dX12_does_57 : decode cX12_does 57 = .ok (.iadd, 1) := chk_nth ocX12_does_1 (k := 9) rfl
theorem dX12_does_58 : decode cX12_does 58 = .ok (.iload_n 1, 1) := chk_nth ocX12_does_1 (k := 10) rfl
theorem dX12_does_59 : decode cX12_does 59 = .ok (.bipush 10, 2) := chk_nth ocX12_does_1 (k := 11) rfl
theorem dX12_does_61 : decode cX12_does 61 = .ok (.irem, 1) := chk_nth ocX12_does_1 (k := 12) rfl
theorem dX12_does_62 : decode cX12_does 62 = .ok (.iastore, 1) := chk_nth ocX12_does_1 (k := 13) rfl
theorem dX12_does_63 : decode cX12_does 63 = .ok (.goto 54, 3) := chk_nth ocX12_does_1 (k := 14) rfl
theorem dX12_does_66 : decode cX12_does 66 = .ok (.iload_n 1, 1) := chk_nth ocX12_does_1 (k := 15) rfl
theorem dX12_does_67 : decode cX12_does 67 = .ok (.sipush 210, 3) := chk_nth ocX12_does_1 (k := 16) rfl
theorem dX12_does_70 : decode cX12_does 70 = .ok (.if_icmp .ge 18, 3) := chk_nth ocX12_does_1 (k := 17) rfl
theorem dX12_does_73 : decode cX12_does 73 = .ok (.aload_n 0, 1) := chk_nth ocX12_does_1 (k := 18) rfl
theorem dX12_does_74 : decode cX12_does 74 = .ok (.getfield 13, 3) := chk_nth ocX12_does_1 (k := 19) rfl
theorem dX12_does_77 : decode cX12_does 77 = .ok (.bipush 48, 2) := chk_nth ocX12_does_1 (k := 20) rfl
theorem dX12_does_79 : decode cX12_does 79 = .ok (.iload_n 1, 1) := chk_nth ocX12_does_1 (k := 21) rfl
theorem dX12_does_80 : decode cX12_does 80 = .ok (.sipush 200, 3) := chk_nth ocX12_does_1 (k := 22) rfl
theorem dX12_does_83 : decode cX12_does 83 = .ok (.isub, 1) := chk_nth ocX12_does_1 (k := 23) rfl
def tcX12_does_2 : List (Instr × Nat) := [(.iastore, 1), (.goto 32, 3), (.aload_n 0, 1), (.iload_n 1, 1), (.sipush 1000, 3), (.isub, 1), (.sipush 1000, 3), (.idiv, 1), (.bipush 20, 2), (.iload_n 1, 1), (.sipush 1000, 3), (.irem, 1), (.bipush 100, 2), (.idiv, 1), (.imul, 1), (.iload_n 1, 1), (.bipush 100, 2), (.irem, 1), (.iadd, 1), (.invokevirtual 257, 3), (.return_, 1)]
theorem ocX12_does_2 : chk (cX12_does.data.toList.drop 84) tcX12_does_2 = true := by decide +kernel
theorem dX12_does_84 : decode cX12_does 84 = .ok (.iastore, 1) := chk_nth ocX12_does_2 (k := 0) rfl
theorem dX12_does_85 : decode cX12_does 85 = .ok (.goto 32, 3) := chk_nth ocX12_does_2 (k := 1) rfl
theorem dX12_does_88 : decode cX12_does 88 = .ok (.aload_n 0, 1) := chk_nth ocX12_does_2 (k := 2) rfl
theorem dX12_does_89 : decode cX12_does 89 = .ok (.iload_n 1, 1) := chk_nth ocX12_does_2 (k := 3) rfl
theorem dX12_does_90 : decode cX12_does 90 = .ok (.sipush 1000, 3) := chk_nth ocX12_does_2 (k := 4) rfl
theorem dX12_does_93 : decode cX12_does 93 = .ok (.isub, 1) := chk_nth ocX12_does_2 (k := 5) rfl
theorem dX12_does_94 : decode cX12_does 94 = .ok (.sipush 1000, 3) := chk_nth ocX12_does_2 (k := 6) rfl
theorem dX12_does_97 : decode cX12_does 97 = .ok (.idiv, 1) := chk_nth ocX12_does_2 (k := 7) rfl
theorem dX12_does_98 : decode cX12_does 98 = .ok (.bipush 20, 2) := chk_nth ocX12_does_2 (k := 8) rfl
theorem dX12_does_100 : decode cX12_does 100 = .ok (.iload_n 1, 1) := chk_nth ocX12_does_2 (k := 9) rfl
theorem dX12_does_101 : decode cX12_does 101 = .ok (.sipush 1000, 3) := chk_nth ocX12_does_2 (k := 10) rfl
theorem dX12_does_104 : decode cX12_does 104 = .ok (.irem, 1) := chk_nth ocX12_does_2 (k := 11) rfl
theorem dX12_does_105 : decode cX12_does 105 = .ok (.bipush 100, 2) := chk_nth ocX12_does_2 (k := 12) rfl
theorem dX12_does_107 : decode cX12_does 107 = .ok (.idiv, 1) := chk_nth ocX12_does_2 (k := 13) rfl
theorem dX12_does_108 : decode cX12_does 108 = .ok (.imul, 1) := chk_nth ocX12_does_2 (k := 14) rfl
theorem dX12_does_109 : decode cX12_does 109 = .ok (.iload_n 1, 1) := chk_nth ocX12_does_2 (k := 15) rfl
theorem dX12_does_110 : decode cX12_does 110 = .ok (.bipush 100, 2) := chk_nth ocX12_does_2 (k := 16) rfl
theorem dX12_does_112 : decode cX12_does 112 = .ok (.irem, 1) := chk_nth ocX12_does_2 (k := 17) rfl
theorem dX12_does_113 : decode cX12_does 113 = .ok (.iadd, 1) := chk_nth ocX12_does_2 (k := 18) rfl
theorem dX12_does_114 : decode cX12_does 114 = .ok (.invokevirtual 257, 3) := chk_nth ocX12_does_2 (k := 19) rfl
theorem dX12_does_117 : decode cX12_does 117 = .ok (.return_, 1) := chk_nth ocX12_does_2 (k := 20) rfl
def tcX12_tells_0 : List (Instr × Nat) := [(.aload_n 0, 1), (.iconst 0, 1), (.putfield 287, 3), (.iconst 0, 1), (.istore_n 2, 1), (.iload_n 2, 1), (.aload_n 0, 1), (.getfield 70, 3), (.iload_n 1, 1), (.iaload, 1), (.if_icmp .ge 53, 3), (.aload_n 0, 1), (.aload_n 0, 1), (.aload_n 0, 1), (.getfield 73, 3), (.bipush 40, 2), (.iload_n 1, 1), (.imul, 1), (.iload_n 2, 1), (.iadd, 1), (.laload, 1), (.invokevirtual 290, 3), (.putfield 287, 3), (.aload_n 0, 1)]
theorem ocX12_tells_0 : chk (cX12_tells.data.toList.drop 0) tcX12_tells_0 = true := by decide +kernel
theorem dX12_tells_0 : decode cX12_tells 0 = .ok (.aload_n 0, 1) := chk_nth ocX12_tells_0 (k := 0) rfl
theorem dX12_tells_1 : decode cX12_tells 1 = .ok (.iconst 0, 1) := chk_nth ocX12_tells_0 (k := 1) rfl
theorem dX12_tells_2 : decode cX12_tells 2 = .ok (.putfield 287, 3) := chk_nth ocX12_tells_0 (k := 2) rfl
theorem dX12_tells_5 : decode cX12_tells 5 = .ok (.iconst 0, 1) := chk_nth ocX12_tells_0 (k := 3) rfl
theorem dX12_tells_6 : decode cX12_tells 6 = .ok (.istore_n 2, 1) := chk_nth ocX12_tells_0 (k := 4) rfl
theorem dX12_tells_7 : decode cX12_tells 7 = .ok (.iload_n 2, 1) := chk_nth ocX12_tells_0 (k := 5) rfl
theorem dX12_tells_8 : decode cX12_tells 8 = .ok (.aload_n 0, 1) := chk_nth ocX12_tells_0 (k := 6) rfl
theorem dX12_tells_9 : decode cX12_tells 9 = .ok (.getfield 70, 3) := chk_nth ocX12_tells_0 (k := 7) rfl
theorem dX12_tells_12 : decode cX12_tells 12 = .ok (.iload_n 1, 1) := chk_nth ocX12_tells_0 (k := 8) rfl
theorem dX12_tells_13 : decode cX12_tells 13 = .ok (.iaload, 1) := chk_nth ocX12_tells_0 (k := 9) rfl
theorem dX12_tells_14 : decode cX12_tells 14 = .ok (.if_icmp .ge 53, 3) := chk_nth ocX12_tells_0 (k := 10) rfl
theorem dX12_tells_17 : decode cX12_tells 17 = .ok (.aload_n 0, 1) := chk_nth ocX12_tells_0 (k := 11) rfl
theorem dX12_tells_18 : decode cX12_tells 18 = .ok (.aload_n 0, 1) := chk_nth ocX12_tells_0 (k := 12) rfl
theorem dX12_tells_19 : decode cX12_tells 19 = .ok (.aload_n 0, 1) := chk_nth ocX12_tells_0 (k := 13) rfl
theorem dX12_tells_20 : decode cX12_tells 20 = .ok (.getfield 73, 3) := chk_nth ocX12_tells_0 (k := 14) rfl
theorem dX12_tells_23 : decode cX12_tells 23 = .ok (.bipush 40, 2) := chk_nth ocX12_tells_0 (k := 15) rfl
theorem dX12_tells_25 : decode cX12_tells 25 = .ok (.iload_n 1, 1) := chk_nth ocX12_tells_0 (k := 16) rfl
theorem dX12_tells_26 : decode cX12_tells 26 = .ok (.imul, 1) := chk_nth ocX12_tells_0 (k := 17) rfl
theorem dX12_tells_27 : decode cX12_tells 27 = .ok (.iload_n 2, 1) := chk_nth ocX12_tells_0 (k := 18) rfl
theorem dX12_tells_28 : decode cX12_tells 28 = .ok (.iadd, 1) := chk_nth ocX12_tells_0 (k := 19) rfl
theorem dX12_tells_29 : decode cX12_tells 29 = .ok (.laload, 1) := chk_nth ocX12_tells_0 (k := 20) rfl
theorem dX12_tells_30 : decode cX12_tells 30 = .ok (.invokevirtual 290, 3) := chk_nth ocX12_tells_0 (k := 21) rfl
theorem dX12_tells_33 : decode cX12_tells 33 = .ok (.putfield 287, 3) := chk_nth ocX12_tells_0 (k := 22) rfl
theorem dX12_tells_36 : decode cX12_tells 36 = .ok (.aload_n 0, 1) := chk_nth ocX12_tells_0 (k := 23) rfl
def tcX12_tells_1 : List (Instr × Nat) := [(.getfield 287, 3), (.ifCond .eq 5, 3), (.iload_n 2, 1), (.ireturn, 1), (.aload_n 0, 1), (.aload_n 0, 1), (.getfield 73, 3), (.bipush 40, 2), (.iload_n 1, 1), (.imul, 1), (.iload_n 2, 1), (.iadd, 1), (.laload, 1), (.l2i, 1), (.invokevirtual 294, 3), (.iinc 2 1, 3), (.goto (-57), 3), (.aload_n 0, 1), (.getfield 70, 3), (.iload_n 1, 1), (.iaload, 1), (.ireturn, 1)]
theorem ocX12_tells_1 : chk (cX12_tells.data.toList.drop 37) tcX12_tells_1 = true := by decide +kernel
theorem dX12_tells_37 : decode cX12_tells 37 = .ok (.getfield 287, 3) := chk_nth ocX12_tells_1 (k := 0) rfl
theorem dX12_tells_40 : decode cX12_tells 40 = .ok (.ifCond .eq 5, 3) := chk_nth ocX12_tells_1 (k := 1) rfl
theorem dX12_tells_43 : decode cX12_tells 43 = .ok (.iload_n 2, 1) := chk_nth ocX12_tells_1 (k := 2) rfl
theorem dX12_tells_44 : decode cX12_tells 44 = .ok (.ireturn, 1) := chk_nth ocX12_tells_1 (k := 3) rfl
theorem dX12_tells_45 : decode cX12_tells 45 = .ok (.aload_n 0, 1) := chk_nth ocX12_tells_1 (k := 4) rfl
theorem dX12_tells_46 : decode cX12_tells 46 = .ok (.aload_n 0, 1) := chk_nth ocX12_tells_1 (k := 5) rfl
theorem dX12_tells_47 : decode cX12_tells 47 = .ok (.getfield 73, 3) := chk_nth ocX12_tells_1 (k := 6) rfl
theorem dX12_tells_50 : decode cX12_tells 50 = .ok (.bipush 40, 2) := chk_nth ocX12_tells_1 (k := 7) rfl
theorem dX12_tells_52 : decode cX12_tells 52 = .ok (.iload_n 1, 1) := chk_nth ocX12_tells_1 (k := 8) rfl
theorem dX12_tells_53 : decode cX12_tells 53 = .ok (.imul, 1) := chk_nth ocX12_tells_1 (k := 9) rfl
theorem dX12_tells_54 : decode cX12_tells 54 = .ok (.iload_n 2, 1) := chk_nth ocX12_tells_1 (k := 10) rfl
theorem dX12_tells_55 : decode cX12_tells 55 = .ok (.iadd, 1) := chk_nth ocX12_tells_1 (k := 11) rfl
theorem dX12_tells_56 : decode cX12_tells 56 = .ok (.laload, 1) := chk_nth ocX12_tells_1 (k := 12) rfl
theorem dX12_tells_57 : decode cX12_tells 57 = .ok (.l2i, 1) := chk_nth ocX12_tells_1 (k := 13) rfl
theorem dX12_tells_58 : decode cX12_tells 58 = .ok (.invokevirtual 294, 3) := chk_nth ocX12_tells_1 (k := 14) rfl
theorem dX12_tells_61 : decode cX12_tells 61 = .ok (.iinc 2 1, 3) := chk_nth ocX12_tells_1 (k := 15) rfl
theorem dX12_tells_64 : decode cX12_tells 64 = .ok (.goto (-57), 3) := chk_nth ocX12_tells_1 (k := 16) rfl
theorem dX12_tells_67 : decode cX12_tells 67 = .ok (.aload_n 0, 1) := chk_nth ocX12_tells_1 (k := 17) rfl
theorem dX12_tells_68 : decode cX12_tells 68 = .ok (.getfield 70, 3) := chk_nth ocX12_tells_1 (k := 18) rfl
theorem dX12_tells_71 : decode cX12_tells 71 = .ok (.iload_n 1, 1) := chk_nth ocX12_tells_1 (k := 19) rfl
theorem dX12_tells_72 : decode cX12_tells 72 = .ok (.iaload, 1) := chk_nth ocX12_tells_1 (k := 20) rfl
theorem dX12_tells_73 : decode cX12_tells 73 = .ok (.ireturn, 1) := chk_nth ocX12_tells_1 (k := 21) rfl
def tcX12_noTray_0 : List (Instr × Nat) := [(.iload_n 1, 1), (.i2l, 1), (.lconst 0, 1), (.ldc2_w 264, 3), (.invokestatic 142, 3), (.ifCond .ne 8, 3), (.bipush (-2), 2), (.goto 19, 3), (.aload_n 0, 1), (.getfield 67, 3), (.iload_n 1, 1), (.iaload, 1), (.iconst (-1), 1), (.if_icmp .ne 8, 3), (.bipush (-6), 2), (.goto 4, 3), (.iconst 0, 1), (.ireturn, 1)]
theorem ocX12_noTray_0 : chk (cX12_noTray.data.toList.drop 0) tcX12_noTray_0 = true := by decide +kernel
theorem dX12_noTray_0 : decode cX12_noTray 0 = .ok (.iload_n 1, 1) := chk_nth ocX12_noTray_0 (k := 0) rfl
theorem dX12_noTray_1 : decode cX12_noTray 1 = .ok (.i2l, 1) := chk_nth ocX12_noTray_0 (k := 1) rfl
theorem dX12_noTray_2 : decode cX12_noTray 2 = .ok (.lconst 0, 1) := chk_nth ocX12_noTray_0 (k := 2) rfl
theorem dX12_noTray_3 : decode cX12_noTray 3 = .ok (.ldc2_w 264, 3) := chk_nth ocX12_noTray_0 (k := 3) rfl
theorem dX12_noTray_6 : decode cX12_noTray 6 = .ok (.invokestatic 142, 3) := chk_nth ocX12_noTray_0 (k := 4) rfl
theorem dX12_noTray_9 : decode cX12_noTray 9 = .ok (.ifCond .ne 8, 3) := chk_nth ocX12_noTray_0 (k := 5) rfl
theorem dX12_noTray_12 : decode cX12_noTray 12 = .ok (.bipush (-2), 2) := chk_nth ocX12_noTray_0 (k := 6) rfl
theorem dX12_noTray_14 : decode cX12_noTray 14 = .ok (.goto 19, 3) := chk_nth ocX12_noTray_0 (k := 7) rfl
theorem dX12_noTray_17 : decode cX12_noTray 17 = .ok (.aload_n 0, 1) := chk_nth ocX12_noTray_0 (k := 8) rfl
theorem dX12_noTray_18 : decode cX12_noTray 18 = .ok (.getfield 67, 3) := chk_nth ocX12_noTray_0 (k := 9) rfl
theorem dX12_noTray_21 : decode cX12_noTray 21 = .ok (.iload_n 1, 1) := chk_nth ocX12_noTray_0 (k := 10) rfl
theorem dX12_noTray_22 : decode cX12_noTray 22 = .ok (.iaload, 1) := chk_nth ocX12_noTray_0 (k := 11) rfl
theorem dX12_noTray_23 : decode cX12_noTray 23 = .ok (.iconst (-1), 1) := chk_nth ocX12_noTray_0 (k := 12) rfl
theorem dX12_noTray_24 : decode cX12_noTray 24 = .ok (.if_icmp .ne 8, 3) := chk_nth ocX12_noTray_0 (k := 13) rfl
theorem dX12_noTray_27 : decode cX12_noTray 27 = .ok (.bipush (-6), 2) := chk_nth ocX12_noTray_0 (k := 14) rfl
theorem dX12_noTray_29 : decode cX12_noTray 29 = .ok (.goto 4, 3) := chk_nth ocX12_noTray_0 (k := 15) rfl
theorem dX12_noTray_32 : decode cX12_noTray 32 = .ok (.iconst 0, 1) := chk_nth ocX12_noTray_0 (k := 16) rfl
theorem dX12_noTray_33 : decode cX12_noTray 33 = .ok (.ireturn, 1) := chk_nth ocX12_noTray_0 (k := 17) rfl
def tcX12_yearsAll_0 : List (Instr × Nat) := [(.iconst 0, 1), (.istore_n 1, 1), (.iconst 0, 1), (.istore_n 2, 1), (.iload_n 2, 1), (.aload_n 0, 1), (.getfield 13, 3), (.iconst 3, 1), (.iaload, 1), (.if_icmp .ge 21, 3), (.iload_n 1, 1), (.aload_n 0, 1), (.getfield 13, 3), (.bipush 37, 2), (.iload_n 2, 1), (.iadd, 1), (.iaload, 1), (.iadd, 1), (.istore_n 1, 1), (.iinc 2 1, 3), (.goto (-25), 3), (.iload_n 1, 1), (.ireturn, 1)]
theorem ocX12_yearsAll_0 : chk (cX12_yearsAll.data.toList.drop 0) tcX12_yearsAll_0 = true := by decide +kernel
theorem dX12_yearsAll_0 : decode cX12_yearsAll 0 = .ok (.iconst 0, 1) := chk_nth ocX12_yearsAll_0 (k := 0) rfl
theorem dX12_yearsAll_1 : decode cX12_yearsAll 1 = .ok (.istore_n 1, 1) := chk_nth ocX12_yearsAll_0 (k := 1) rfl
theorem dX12_yearsAll_2 : decode cX12_yearsAll 2 = .ok (.iconst 0, 1) := chk_nth ocX12_yearsAll_0 (k := 2) rfl
theorem dX12_yearsAll_3 : decode cX12_yearsAll 3 = .ok (.istore_n 2, 1) := chk_nth ocX12_yearsAll_0 (k := 3) rfl
theorem dX12_yearsAll_4 : decode cX12_yearsAll 4 = .ok (.iload_n 2, 1) := chk_nth ocX12_yearsAll_0 (k := 4) rfl
theorem dX12_yearsAll_5 : decode cX12_yearsAll 5 = .ok (.aload_n 0, 1) := chk_nth ocX12_yearsAll_0 (k := 5) rfl
theorem dX12_yearsAll_6 : decode cX12_yearsAll 6 = .ok (.getfield 13, 3) := chk_nth ocX12_yearsAll_0 (k := 6) rfl
theorem dX12_yearsAll_9 : decode cX12_yearsAll 9 = .ok (.iconst 3, 1) := chk_nth ocX12_yearsAll_0 (k := 7) rfl
theorem dX12_yearsAll_10 : decode cX12_yearsAll 10 = .ok (.iaload, 1) := chk_nth ocX12_yearsAll_0 (k := 8) rfl
theorem dX12_yearsAll_11 : decode cX12_yearsAll 11 = .ok (.if_icmp .ge 21, 3) := chk_nth ocX12_yearsAll_0 (k := 9) rfl
theorem dX12_yearsAll_14 : decode cX12_yearsAll 14 = .ok (.iload_n 1, 1) := chk_nth ocX12_yearsAll_0 (k := 10) rfl
theorem dX12_yearsAll_15 : decode cX12_yearsAll 15 = .ok (.aload_n 0, 1) := chk_nth ocX12_yearsAll_0 (k := 11) rfl
theorem dX12_yearsAll_16 : decode cX12_yearsAll 16 = .ok (.getfield 13, 3) := chk_nth ocX12_yearsAll_0 (k := 12) rfl
theorem dX12_yearsAll_19 : decode cX12_yearsAll 19 = .ok (.bipush 37, 2) := chk_nth ocX12_yearsAll_0 (k := 13) rfl
theorem dX12_yearsAll_21 : decode cX12_yearsAll 21 = .ok (.iload_n 2, 1) := chk_nth ocX12_yearsAll_0 (k := 14) rfl
theorem dX12_yearsAll_22 : decode cX12_yearsAll 22 = .ok (.iadd, 1) := chk_nth ocX12_yearsAll_0 (k := 15) rfl
theorem dX12_yearsAll_23 : decode cX12_yearsAll 23 = .ok (.iaload, 1) := chk_nth ocX12_yearsAll_0 (k := 16) rfl
theorem dX12_yearsAll_24 : decode cX12_yearsAll 24 = .ok (.iadd, 1) := chk_nth ocX12_yearsAll_0 (k := 17) rfl
theorem dX12_yearsAll_25 : decode cX12_yearsAll 25 = .ok (.istore_n 1, 1) := chk_nth ocX12_yearsAll_0 (k := 18) rfl
theorem dX12_yearsAll_26 : decode cX12_yearsAll 26 = .ok (.iinc 2 1, 3) := chk_nth ocX12_yearsAll_0 (k := 19) rfl
theorem dX12_yearsAll_29 : decode cX12_yearsAll 29 = .ok (.goto (-25), 3) := chk_nth ocX12_yearsAll_0 (k := 20) rfl
theorem dX12_yearsAll_32 : decode cX12_yearsAll 32 = .ok (.iload_n 1, 1) := chk_nth ocX12_yearsAll_0 (k := 21) rfl
theorem dX12_yearsAll_33 : decode cX12_yearsAll 33 = .ok (.ireturn, 1) := chk_nth ocX12_yearsAll_0 (k := 22) rfl
def tcX12_cornersAll_0 : List (Instr × Nat) := [(.iconst 0, 1), (.istore_n 1, 1), (.iconst 0, 1), (.istore_n 2, 1), (.iload_n 2, 1), (.aload_n 0, 1), (.getfield 13, 3), (.iconst 3, 1), (.iaload, 1), (.if_icmp .ge 23, 3), (.iload_n 1, 1), (.iconst 1, 1), (.aload_n 0, 1), (.getfield 13, 3), (.bipush 34, 2), (.iload_n 2, 1), (.iadd, 1), (.iaload, 1), (.ishl, 1), (.ior, 1), (.istore_n 1, 1), (.iinc 2 1, 3), (.goto (-27), 3), (.iload_n 1, 1)]
theorem ocX12_cornersAll_0 : chk (cX12_cornersAll.data.toList.drop 0) tcX12_cornersAll_0 = true := by decide +kernel
theorem dX12_cornersAll_0 : decode cX12_cornersAll 0 = .ok (.iconst 0, 1) := chk_nth ocX12_cornersAll_0 (k := 0) rfl
theorem dX12_cornersAll_1 : decode cX12_cornersAll 1 = .ok (.istore_n 1, 1) := chk_nth ocX12_cornersAll_0 (k := 1) rfl
theorem dX12_cornersAll_2 : decode cX12_cornersAll 2 = .ok (.iconst 0, 1) := chk_nth ocX12_cornersAll_0 (k := 2) rfl
theorem dX12_cornersAll_3 : decode cX12_cornersAll 3 = .ok (.istore_n 2, 1) := chk_nth ocX12_cornersAll_0 (k := 3) rfl
theorem dX12_cornersAll_4 : decode cX12_cornersAll 4 = .ok (.iload_n 2, 1) := chk_nth ocX12_cornersAll_0 (k := 4) rfl
theorem dX12_cornersAll_5 : decode cX12_cornersAll 5 = .ok (.aload_n 0, 1) := chk_nth ocX12_cornersAll_0 (k := 5) rfl
theorem dX12_cornersAll_6 : decode cX12_cornersAll 6 = .ok (.getfield 13, 3) := chk_nth ocX12_cornersAll_0 (k := 6) rfl
theorem dX12_cornersAll_9 : decode cX12_cornersAll 9 = .ok (.iconst 3, 1) := chk_nth ocX12_cornersAll_0 (k := 7) rfl
theorem dX12_cornersAll_10 : decode cX12_cornersAll 10 = .ok (.iaload, 1) := chk_nth ocX12_cornersAll_0 (k := 8) rfl
theorem dX12_cornersAll_11 : decode cX12_cornersAll 11 = .ok (.if_icmp .ge 23, 3) := chk_nth ocX12_cornersAll_0 (k := 9) rfl
theorem dX12_cornersAll_14 : decode cX12_cornersAll 14 = .ok (.iload_n 1, 1) := chk_nth ocX12_cornersAll_0 (k := 10) rfl
theorem dX12_cornersAll_15 : decode cX12_cornersAll 15 = .ok (.iconst 1, 1) := chk_nth ocX12_cornersAll_0 (k := 11) rfl
theorem dX12_cornersAll_16 : decode cX12_cornersAll 16 = .ok (.aload_n 0, 1) := chk_nth ocX12_cornersAll_0 (k := 12) rfl
theorem dX12_cornersAll_17 : decode cX12_cornersAll 17 = .ok (.getfield 13, 3) := chk_nth ocX12_cornersAll_0 (k := 13) rfl
theorem dX12_cornersAll_20 : decode cX12_cornersAll 20 = .ok (.bipush 34, 2) := chk_nth ocX12_cornersAll_0 (k := 14) rfl
theorem dX12_cornersAll_22 : decode cX12_cornersAll 22 = .ok (.iload_n 2, 1) := chk_nth ocX12_cornersAll_0 (k := 15) rfl
theorem dX12_cornersAll_23 : decode cX12_cornersAll 23 = .ok (.iadd, 1) := chk_nth ocX12_cornersAll_0 (k := 16) rfl
theorem dX12_cornersAll_24 : decode cX12_cornersAll 24 = .ok (.iaload, 1) := chk_nth ocX12_cornersAll_0 (k := 17) rfl
theorem dX12_cornersAll_25 : decode cX12_cornersAll 25 = .ok (.ishl, 1) := chk_nth ocX12_cornersAll_0 (k := 18) rfl
theorem dX12_cornersAll_26 : decode cX12_cornersAll 26 = .ok (.ior, 1) := chk_nth ocX12_cornersAll_0 (k := 19) rfl
theorem dX12_cornersAll_27 : decode cX12_cornersAll 27 = .ok (.istore_n 1, 1) := chk_nth ocX12_cornersAll_0 (k := 20) rfl
theorem dX12_cornersAll_28 : decode cX12_cornersAll 28 = .ok (.iinc 2 1, 3) := chk_nth ocX12_cornersAll_0 (k := 21) rfl
theorem dX12_cornersAll_31 : decode cX12_cornersAll 31 = .ok (.goto (-27), 3) := chk_nth ocX12_cornersAll_0 (k := 22) rfl
theorem dX12_cornersAll_34 : decode cX12_cornersAll 34 = .ok (.iload_n 1, 1) := chk_nth ocX12_cornersAll_0 (k := 23) rfl
def tcX12_cornersAll_1 : List (Instr × Nat) := [(.ireturn, 1)]
theorem ocX12_cornersAll_1 : chk (cX12_cornersAll.data.toList.drop 35) tcX12_cornersAll_1 = true := by decide +kernel
theorem dX12_cornersAll_35 : decode cX12_cornersAll 35 = .ok (.ireturn, 1) := chk_nth ocX12_cornersAll_1 (k := 0) rfl
def tcX12_judge_0 : List (Instr × Nat) := [(.aload_n 0, 1), (.iconst 0, 1), (.putfield 1, 3), (.iload_n 2, 1), (.i2l, 1), (.lconst 0, 1), (.ldc2_w 264, 3), (.invokestatic 142, 3), (.ifCond .ne 6, 3), (.bipush (-2), 2), (.ireturn, 1), (.aload_n 0, 1), (.iload_n 1, 1), (.invokevirtual 297, 3), (.istore_n 3, 1), (.iload_n 3, 1), (.ifCond .eq 5, 3), (.iload_n 3, 1), (.ireturn, 1), (.aload_n 0, 1), (.invokevirtual 254, 3), (.aload_n 0, 1), (.iload_n 1, 1), (.invokevirtual 300, 3)]
theorem ocX12_judge_0 : chk (cX12_judge.data.toList.drop 0) tcX12_judge_0 = true := by decide +kernel
theorem dX12_judge_0 : decode cX12_judge 0 = .ok (.aload_n 0, 1) := chk_nth ocX12_judge_0 (k := 0) rfl
theorem dX12_judge_1 : decode cX12_judge 1 = .ok (.iconst 0, 1) := chk_nth ocX12_judge_0 (k := 1) rfl
theorem dX12_judge_2 : decode cX12_judge 2 = .ok (.putfield 1, 3) := chk_nth ocX12_judge_0 (k := 2) rfl
theorem dX12_judge_5 : decode cX12_judge 5 = .ok (.iload_n 2, 1) := chk_nth ocX12_judge_0 (k := 3) rfl
theorem dX12_judge_6 : decode cX12_judge 6 = .ok (.i2l, 1) := chk_nth ocX12_judge_0 (k := 4) rfl
theorem dX12_judge_7 : decode cX12_judge 7 = .ok (.lconst 0, 1) := chk_nth ocX12_judge_0 (k := 5) rfl
theorem dX12_judge_8 : decode cX12_judge 8 = .ok (.ldc2_w 264, 3) := chk_nth ocX12_judge_0 (k := 6) rfl
theorem dX12_judge_11 : decode cX12_judge 11 = .ok (.invokestatic 142, 3) := chk_nth ocX12_judge_0 (k := 7) rfl
theorem dX12_judge_14 : decode cX12_judge 14 = .ok (.ifCond .ne 6, 3) := chk_nth ocX12_judge_0 (k := 8) rfl
theorem dX12_judge_17 : decode cX12_judge 17 = .ok (.bipush (-2), 2) := chk_nth ocX12_judge_0 (k := 9) rfl
theorem dX12_judge_19 : decode cX12_judge 19 = .ok (.ireturn, 1) := chk_nth ocX12_judge_0 (k := 10) rfl
theorem dX12_judge_20 : decode cX12_judge 20 = .ok (.aload_n 0, 1) := chk_nth ocX12_judge_0 (k := 11) rfl
theorem dX12_judge_21 : decode cX12_judge 21 = .ok (.iload_n 1, 1) := chk_nth ocX12_judge_0 (k := 12) rfl
theorem dX12_judge_22 : decode cX12_judge 22 = .ok (.invokevirtual 297, 3) := chk_nth ocX12_judge_0 (k := 13) rfl
theorem dX12_judge_25 : decode cX12_judge 25 = .ok (.istore_n 3, 1) := chk_nth ocX12_judge_0 (k := 14) rfl
theorem dX12_judge_26 : decode cX12_judge 26 = .ok (.iload_n 3, 1) := chk_nth ocX12_judge_0 (k := 15) rfl
theorem dX12_judge_27 : decode cX12_judge 27 = .ok (.ifCond .eq 5, 3) := chk_nth ocX12_judge_0 (k := 16) rfl
theorem dX12_judge_30 : decode cX12_judge 30 = .ok (.iload_n 3, 1) := chk_nth ocX12_judge_0 (k := 17) rfl
theorem dX12_judge_31 : decode cX12_judge 31 = .ok (.ireturn, 1) := chk_nth ocX12_judge_0 (k := 18) rfl
theorem dX12_judge_32 : decode cX12_judge 32 = .ok (.aload_n 0, 1) := chk_nth ocX12_judge_0 (k := 19) rfl
theorem dX12_judge_33 : decode cX12_judge 33 = .ok (.invokevirtual 254, 3) := chk_nth ocX12_judge_0 (k := 20) rfl
theorem dX12_judge_36 : decode cX12_judge 36 = .ok (.aload_n 0, 1) := chk_nth ocX12_judge_0 (k := 21) rfl
theorem dX12_judge_37 : decode cX12_judge 37 = .ok (.iload_n 1, 1) := chk_nth ocX12_judge_0 (k := 22) rfl
theorem dX12_judge_38 : decode cX12_judge 38 = .ok (.invokevirtual 300, 3) := chk_nth ocX12_judge_0 (k := 23) rfl
def tcX12_judge_1 : List (Instr × Nat) := [(.istore 4, 2), (.aload_n 0, 1), (.invokevirtual 303, 3), (.istore 5, 2), (.aload_n 0, 1), (.invokevirtual 306, 3), (.istore 6, 2), (.aload_n 0, 1), (.invokevirtual 309, 3), (.iload_n 2, 1), (.ifCond .ne 19, 3), (.aload_n 0, 1), (.getfield 287, 3), (.ifCond .ne 7, 3), (.iconst (-1), 1), (.goto 32, 3), (.iload 4, 2), (.goto 27, 3), (.iload_n 2, 1), (.iconst 1, 1), (.if_icmp .ne 10, 3), (.aload_n 0, 1), (.getfield 287, 3), (.goto 15, 3)]
theorem ocX12_judge_1 : chk (cX12_judge.data.toList.drop 41) tcX12_judge_1 = true := by decide +kernel
theorem dX12_judge_41 : decode cX12_judge 41 = .ok (.istore 4, 2) := chk_nth ocX12_judge_1 (k := 0) rfl
theorem dX12_judge_43 : decode cX12_judge 43 = .ok (.aload_n 0, 1) := chk_nth ocX12_judge_1 (k := 1) rfl
theorem dX12_judge_44 : decode cX12_judge 44 = .ok (.invokevirtual 303, 3) := chk_nth ocX12_judge_1 (k := 2) rfl
theorem dX12_judge_47 : decode cX12_judge 47 = .ok (.istore 5, 2) := chk_nth ocX12_judge_1 (k := 3) rfl
theorem dX12_judge_49 : decode cX12_judge 49 = .ok (.aload_n 0, 1) := chk_nth ocX12_judge_1 (k := 4) rfl
theorem dX12_judge_50 : decode cX12_judge 50 = .ok (.invokevirtual 306, 3) := chk_nth ocX12_judge_1 (k := 5) rfl
theorem dX12_judge_53 : decode cX12_judge 53 = .ok (.istore 6, 2) := chk_nth ocX12_judge_1 (k := 6) rfl
theorem dX12_judge_55 : decode cX12_judge 55 = .ok (.aload_n 0, 1) := chk_nth ocX12_judge_1 (k := 7) rfl
theorem dX12_judge_56 : decode cX12_judge 56 = .ok (.invokevirtual 309, 3) := chk_nth ocX12_judge_1 (k := 8) rfl
theorem dX12_judge_59 : decode cX12_judge 59 = .ok (.iload_n 2, 1) := chk_nth ocX12_judge_1 (k := 9) rfl
theorem dX12_judge_60 : decode cX12_judge 60 = .ok (.ifCond .ne 19, 3) := chk_nth ocX12_judge_1 (k := 10) rfl
theorem dX12_judge_63 : decode cX12_judge 63 = .ok (.aload_n 0, 1) := chk_nth ocX12_judge_1 (k := 11) rfl
theorem dX12_judge_64 : decode cX12_judge 64 = .ok (.getfield 287, 3) := chk_nth ocX12_judge_1 (k := 12) rfl
theorem dX12_judge_67 : decode cX12_judge 67 = .ok (.ifCond .ne 7, 3) := chk_nth ocX12_judge_1 (k := 13) rfl
theorem dX12_judge_70 : decode cX12_judge 70 = .ok (.iconst (-1), 1) := chk_nth ocX12_judge_1 (k := 14) rfl
theorem dX12_judge_71 : decode cX12_judge 71 = .ok (.goto 32, 3) := chk_nth ocX12_judge_1 (k := 15) rfl
theorem dX12_judge_74 : decode cX12_judge 74 = .ok (.iload 4, 2) := chk_nth ocX12_judge_1 (k := 16) rfl
theorem dX12_judge_76 : decode cX12_judge 76 = .ok (.goto 27, 3) := chk_nth ocX12_judge_1 (k := 17) rfl
theorem dX12_judge_79 : decode cX12_judge 79 = .ok (.iload_n 2, 1) := chk_nth ocX12_judge_1 (k := 18) rfl
theorem dX12_judge_80 : decode cX12_judge 80 = .ok (.iconst 1, 1) := chk_nth ocX12_judge_1 (k := 19) rfl
theorem dX12_judge_81 : decode cX12_judge 81 = .ok (.if_icmp .ne 10, 3) := chk_nth ocX12_judge_1 (k := 20) rfl
theorem dX12_judge_84 : decode cX12_judge 84 = .ok (.aload_n 0, 1) := chk_nth ocX12_judge_1 (k := 21) rfl
theorem dX12_judge_85 : decode cX12_judge 85 = .ok (.getfield 287, 3) := chk_nth ocX12_judge_1 (k := 22) rfl
theorem dX12_judge_88 : decode cX12_judge 88 = .ok (.goto 15, 3) := chk_nth ocX12_judge_1 (k := 23) rfl
def tcX12_judge_2 : List (Instr × Nat) := [(.iload_n 2, 1), (.iconst 2, 1), (.if_icmp .ne 8, 3), (.iload 5, 2), (.goto 5, 3), (.iload 6, 2), (.ireturn, 1)]
theorem ocX12_judge_2 : chk (cX12_judge.data.toList.drop 91) tcX12_judge_2 = true := by decide +kernel
theorem dX12_judge_91 : decode cX12_judge 91 = .ok (.iload_n 2, 1) := chk_nth ocX12_judge_2 (k := 0) rfl
theorem dX12_judge_92 : decode cX12_judge 92 = .ok (.iconst 2, 1) := chk_nth ocX12_judge_2 (k := 1) rfl
theorem dX12_judge_93 : decode cX12_judge 93 = .ok (.if_icmp .ne 8, 3) := chk_nth ocX12_judge_2 (k := 2) rfl
theorem dX12_judge_96 : decode cX12_judge 96 = .ok (.iload 5, 2) := chk_nth ocX12_judge_2 (k := 3) rfl
theorem dX12_judge_98 : decode cX12_judge 98 = .ok (.goto 5, 3) := chk_nth ocX12_judge_2 (k := 4) rfl
theorem dX12_judge_101 : decode cX12_judge 101 = .ok (.iload 6, 2) := chk_nth ocX12_judge_2 (k := 5) rfl
theorem dX12_judge_103 : decode cX12_judge 103 = .ok (.ireturn, 1) := chk_nth ocX12_judge_2 (k := 6) rfl
def tcX12_perform_0 : List (Instr × Nat) := [(.aload_n 0, 1), (.iconst 0, 1), (.putfield 1, 3), (.aload_n 0, 1), (.iload_n 1, 1), (.invokevirtual 297, 3), (.istore_n 2, 1), (.iload_n 2, 1), (.ifCond .eq 5, 3), (.iload_n 2, 1), (.ireturn, 1), (.aload_n 0, 1), (.invokevirtual 254, 3), (.aload_n 0, 1), (.iload_n 1, 1), (.invokevirtual 300, 3), (.istore_n 3, 1), (.iload_n 3, 1), (.ifCond .le 7, 3), (.aload_n 0, 1), (.invokevirtual 261, 3), (.iload_n 3, 1), (.ireturn, 1)]
theorem ocX12_perform_0 : chk (cX12_perform.data.toList.drop 0) tcX12_perform_0 = true := by decide +kernel
theorem dX12_perform_0 : decode cX12_perform 0 = .ok (.aload_n 0, 1) := chk_nth ocX12_perform_0 (k := 0) rfl
theorem dX12_perform_1 : decode cX12_perform 1 = .ok (.iconst 0, 1) := chk_nth ocX12_perform_0 (k := 1) rfl
theorem dX12_perform_2 : decode cX12_perform 2 = .ok (.putfield 1, 3) := chk_nth ocX12_perform_0 (k := 2) rfl
theorem dX12_perform_5 : decode cX12_perform 5 = .ok (.aload_n 0, 1) := chk_nth ocX12_perform_0 (k := 3) rfl
theorem dX12_perform_6 : decode cX12_perform 6 = .ok (.iload_n 1, 1) := chk_nth ocX12_perform_0 (k := 4) rfl
theorem dX12_perform_7 : decode cX12_perform 7 = .ok (.invokevirtual 297, 3) := chk_nth ocX12_perform_0 (k := 5) rfl
theorem dX12_perform_10 : decode cX12_perform 10 = .ok (.istore_n 2, 1) := chk_nth ocX12_perform_0 (k := 6) rfl
theorem dX12_perform_11 : decode cX12_perform 11 = .ok (.iload_n 2, 1) := chk_nth ocX12_perform_0 (k := 7) rfl
theorem dX12_perform_12 : decode cX12_perform 12 = .ok (.ifCond .eq 5, 3) := chk_nth ocX12_perform_0 (k := 8) rfl
theorem dX12_perform_15 : decode cX12_perform 15 = .ok (.iload_n 2, 1) := chk_nth ocX12_perform_0 (k := 9) rfl
theorem dX12_perform_16 : decode cX12_perform 16 = .ok (.ireturn, 1) := chk_nth ocX12_perform_0 (k := 10) rfl
theorem dX12_perform_17 : decode cX12_perform 17 = .ok (.aload_n 0, 1) := chk_nth ocX12_perform_0 (k := 11) rfl
theorem dX12_perform_18 : decode cX12_perform 18 = .ok (.invokevirtual 254, 3) := chk_nth ocX12_perform_0 (k := 12) rfl
theorem dX12_perform_21 : decode cX12_perform 21 = .ok (.aload_n 0, 1) := chk_nth ocX12_perform_0 (k := 13) rfl
theorem dX12_perform_22 : decode cX12_perform 22 = .ok (.iload_n 1, 1) := chk_nth ocX12_perform_0 (k := 14) rfl
theorem dX12_perform_23 : decode cX12_perform 23 = .ok (.invokevirtual 300, 3) := chk_nth ocX12_perform_0 (k := 15) rfl
theorem dX12_perform_26 : decode cX12_perform 26 = .ok (.istore_n 3, 1) := chk_nth ocX12_perform_0 (k := 16) rfl
theorem dX12_perform_27 : decode cX12_perform 27 = .ok (.iload_n 3, 1) := chk_nth ocX12_perform_0 (k := 17) rfl
theorem dX12_perform_28 : decode cX12_perform 28 = .ok (.ifCond .le 7, 3) := chk_nth ocX12_perform_0 (k := 18) rfl
theorem dX12_perform_31 : decode cX12_perform 31 = .ok (.aload_n 0, 1) := chk_nth ocX12_perform_0 (k := 19) rfl
theorem dX12_perform_32 : decode cX12_perform 32 = .ok (.invokevirtual 261, 3) := chk_nth ocX12_perform_0 (k := 20) rfl
theorem dX12_perform_35 : decode cX12_perform 35 = .ok (.iload_n 3, 1) := chk_nth ocX12_perform_0 (k := 21) rfl
theorem dX12_perform_36 : decode cX12_perform 36 = .ok (.ireturn, 1) := chk_nth ocX12_perform_0 (k := 22) rfl
def tcX12_draw_0 : List (Instr × Nat) := [(.aload_n 0, 1), (.ldc_w 312, 3), (.aload_n 0, 1), (.getfield 313, 3), (.imul, 1), (.sipush 12345, 3), (.iadd, 1), (.putfield 313, 3), (.aload_n 0, 1), (.getfield 313, 3), (.bipush 16, 2), (.iushr, 1), (.iload_n 1, 1), (.irem, 1), (.ireturn, 1)]
theorem ocX12_draw_0 : chk (cX12_draw.data.toList.drop 0) tcX12_draw_0 = true := by decide +kernel
theorem dX12_draw_0 : decode cX12_draw 0 = .ok (.aload_n 0, 1) := chk_nth ocX12_draw_0 (k := 0) rfl
theorem dX12_draw_1 : decode cX12_draw 1 = .ok (.ldc_w 312, 3) := chk_nth ocX12_draw_0 (k := 1) rfl
theorem dX12_draw_4 : decode cX12_draw 4 = .ok (.aload_n 0, 1) := chk_nth ocX12_draw_0 (k := 2) rfl
theorem dX12_draw_5 : decode cX12_draw 5 = .ok (.getfield 313, 3) := chk_nth ocX12_draw_0 (k := 3) rfl
theorem dX12_draw_8 : decode cX12_draw 8 = .ok (.imul, 1) := chk_nth ocX12_draw_0 (k := 4) rfl
theorem dX12_draw_9 : decode cX12_draw 9 = .ok (.sipush 12345, 3) := chk_nth ocX12_draw_0 (k := 5) rfl
theorem dX12_draw_12 : decode cX12_draw 12 = .ok (.iadd, 1) := chk_nth ocX12_draw_0 (k := 6) rfl
theorem dX12_draw_13 : decode cX12_draw 13 = .ok (.putfield 313, 3) := chk_nth ocX12_draw_0 (k := 7) rfl
theorem dX12_draw_16 : decode cX12_draw 16 = .ok (.aload_n 0, 1) := chk_nth ocX12_draw_0 (k := 8) rfl
theorem dX12_draw_17 : decode cX12_draw 17 = .ok (.getfield 313, 3) := chk_nth ocX12_draw_0 (k := 9) rfl
theorem dX12_draw_20 : decode cX12_draw 20 = .ok (.bipush 16, 2) := chk_nth ocX12_draw_0 (k := 10) rfl
theorem dX12_draw_22 : decode cX12_draw 22 = .ok (.iushr, 1) := chk_nth ocX12_draw_0 (k := 11) rfl
theorem dX12_draw_23 : decode cX12_draw 23 = .ok (.iload_n 1, 1) := chk_nth ocX12_draw_0 (k := 12) rfl
theorem dX12_draw_24 : decode cX12_draw 24 = .ok (.irem, 1) := chk_nth ocX12_draw_0 (k := 13) rfl
theorem dX12_draw_25 : decode cX12_draw 25 = .ok (.ireturn, 1) := chk_nth ocX12_draw_0 (k := 14) rfl
def tcX12_drawn_0 : List (Instr × Nat) := [(.aload_n 0, 1), (.bipush 6, 2), (.invokevirtual 316, 3), (.istore_n 1, 1), (.iload_n 1, 1), (.iconst 5, 1), (.if_icmp .ne 14, 3), (.sipush 200, 3), (.aload_n 0, 1), (.bipush 10, 2), (.invokevirtual 316, 3), (.iadd, 1), (.ireturn, 1), (.iload_n 1, 1), (.iconst 4, 1), (.if_icmp .ne 24, 3), (.aload_n 0, 1), (.bipush 8, 2), (.invokevirtual 316, 3), (.istore_n 2, 1), (.bipush 100, 2), (.bipush 10, 2), (.iload_n 2, 1), (.imul, 1)]
theorem ocX12_drawn_0 : chk (cX12_drawn.data.toList.drop 0) tcX12_drawn_0 = true := by decide +kernel
theorem dX12_drawn_0 : decode cX12_drawn 0 = .ok (.aload_n 0, 1) := chk_nth ocX12_drawn_0 (k := 0) rfl
theorem dX12_drawn_1 : decode cX12_drawn 1 = .ok (.bipush 6, 2) := chk_nth ocX12_drawn_0 (k := 1) rfl
theorem dX12_drawn_3 : decode cX12_drawn 3 = .ok (.invokevirtual 316, 3) := chk_nth ocX12_drawn_0 (k := 2) rfl
theorem dX12_drawn_6 : decode cX12_drawn 6 = .ok (.istore_n 1, 1) := chk_nth ocX12_drawn_0 (k := 3) rfl
theorem dX12_drawn_7 : decode cX12_drawn 7 = .ok (.iload_n 1, 1) := chk_nth ocX12_drawn_0 (k := 4) rfl
theorem dX12_drawn_8 : decode cX12_drawn 8 = .ok (.iconst 5, 1) := chk_nth ocX12_drawn_0 (k := 5) rfl
theorem dX12_drawn_9 : decode cX12_drawn 9 = .ok (.if_icmp .ne 14, 3) := chk_nth ocX12_drawn_0 (k := 6) rfl
theorem dX12_drawn_12 : decode cX12_drawn 12 = .ok (.sipush 200, 3) := chk_nth ocX12_drawn_0 (k := 7) rfl
theorem dX12_drawn_15 : decode cX12_drawn 15 = .ok (.aload_n 0, 1) := chk_nth ocX12_drawn_0 (k := 8) rfl
theorem dX12_drawn_16 : decode cX12_drawn 16 = .ok (.bipush 10, 2) := chk_nth ocX12_drawn_0 (k := 9) rfl
theorem dX12_drawn_18 : decode cX12_drawn 18 = .ok (.invokevirtual 316, 3) := chk_nth ocX12_drawn_0 (k := 10) rfl
theorem dX12_drawn_21 : decode cX12_drawn 21 = .ok (.iadd, 1) := chk_nth ocX12_drawn_0 (k := 11) rfl
theorem dX12_drawn_22 : decode cX12_drawn 22 = .ok (.ireturn, 1) := chk_nth ocX12_drawn_0 (k := 12) rfl
theorem dX12_drawn_23 : decode cX12_drawn 23 = .ok (.iload_n 1, 1) := chk_nth ocX12_drawn_0 (k := 13) rfl
theorem dX12_drawn_24 : decode cX12_drawn 24 = .ok (.iconst 4, 1) := chk_nth ocX12_drawn_0 (k := 14) rfl
theorem dX12_drawn_25 : decode cX12_drawn 25 = .ok (.if_icmp .ne 24, 3) := chk_nth ocX12_drawn_0 (k := 15) rfl
theorem dX12_drawn_28 : decode cX12_drawn 28 = .ok (.aload_n 0, 1) := chk_nth ocX12_drawn_0 (k := 16) rfl
theorem dX12_drawn_29 : decode cX12_drawn 29 = .ok (.bipush 8, 2) := chk_nth ocX12_drawn_0 (k := 17) rfl
theorem dX12_drawn_31 : decode cX12_drawn 31 = .ok (.invokevirtual 316, 3) := chk_nth ocX12_drawn_0 (k := 18) rfl
theorem dX12_drawn_34 : decode cX12_drawn 34 = .ok (.istore_n 2, 1) := chk_nth ocX12_drawn_0 (k := 19) rfl
theorem dX12_drawn_35 : decode cX12_drawn 35 = .ok (.bipush 100, 2) := chk_nth ocX12_drawn_0 (k := 20) rfl
theorem dX12_drawn_37 : decode cX12_drawn 37 = .ok (.bipush 10, 2) := chk_nth ocX12_drawn_0 (k := 21) rfl
theorem dX12_drawn_39 : decode cX12_drawn 39 = .ok (.iload_n 2, 1) := chk_nth ocX12_drawn_0 (k := 22) rfl
theorem dX12_drawn_40 : decode cX12_drawn 40 = .ok (.imul, 1) := chk_nth ocX12_drawn_0 (k := 23) rfl
def tcX12_drawn_1 : List (Instr × Nat) := [(.iadd, 1), (.aload_n 0, 1), (.iconst 4, 1), (.invokevirtual 316, 3), (.iadd, 1), (.ireturn, 1), (.aload_n 0, 1), (.iconst 3, 1), (.invokevirtual 316, 3), (.istore_n 2, 1), (.bipush 10, 2), (.iload_n 2, 1), (.imul, 1), (.aload_n 0, 1), (.bipush 8, 2), (.invokevirtual 316, 3), (.iadd, 1), (.ireturn, 1)]
theorem ocX12_drawn_1 : chk (cX12_drawn.data.toList.drop 41) tcX12_drawn_1 = true := by decide +kernel
theorem dX12_drawn_41 : decode cX12_drawn 41 = .ok (.iadd, 1) := chk_nth ocX12_drawn_1 (k := 0) rfl
theorem dX12_drawn_42 : decode cX12_drawn 42 = .ok (.aload_n 0, 1) := chk_nth ocX12_drawn_1 (k := 1) rfl
theorem dX12_drawn_43 : decode cX12_drawn 43 = .ok (.iconst 4, 1) := chk_nth ocX12_drawn_1 (k := 2) rfl
theorem dX12_drawn_44 : decode cX12_drawn 44 = .ok (.invokevirtual 316, 3) := chk_nth ocX12_drawn_1 (k := 3) rfl
theorem dX12_drawn_47 : decode cX12_drawn 47 = .ok (.iadd, 1) := chk_nth ocX12_drawn_1 (k := 4) rfl
theorem dX12_drawn_48 : decode cX12_drawn 48 = .ok (.ireturn, 1) := chk_nth ocX12_drawn_1 (k := 5) rfl
theorem dX12_drawn_49 : decode cX12_drawn 49 = .ok (.aload_n 0, 1) := chk_nth ocX12_drawn_1 (k := 6) rfl
theorem dX12_drawn_50 : decode cX12_drawn 50 = .ok (.iconst 3, 1) := chk_nth ocX12_drawn_1 (k := 7) rfl
theorem dX12_drawn_51 : decode cX12_drawn 51 = .ok (.invokevirtual 316, 3) := chk_nth ocX12_drawn_1 (k := 8) rfl
theorem dX12_drawn_54 : decode cX12_drawn 54 = .ok (.istore_n 2, 1) := chk_nth ocX12_drawn_1 (k := 9) rfl
theorem dX12_drawn_55 : decode cX12_drawn 55 = .ok (.bipush 10, 2) := chk_nth ocX12_drawn_1 (k := 10) rfl
theorem dX12_drawn_57 : decode cX12_drawn 57 = .ok (.iload_n 2, 1) := chk_nth ocX12_drawn_1 (k := 11) rfl
theorem dX12_drawn_58 : decode cX12_drawn 58 = .ok (.imul, 1) := chk_nth ocX12_drawn_1 (k := 12) rfl
theorem dX12_drawn_59 : decode cX12_drawn 59 = .ok (.aload_n 0, 1) := chk_nth ocX12_drawn_1 (k := 13) rfl
theorem dX12_drawn_60 : decode cX12_drawn 60 = .ok (.bipush 8, 2) := chk_nth ocX12_drawn_1 (k := 14) rfl
theorem dX12_drawn_62 : decode cX12_drawn 62 = .ok (.invokevirtual 316, 3) := chk_nth ocX12_drawn_1 (k := 15) rfl
theorem dX12_drawn_65 : decode cX12_drawn 65 = .ok (.iadd, 1) := chk_nth ocX12_drawn_1 (k := 16) rfl
theorem dX12_drawn_66 : decode cX12_drawn 66 = .ok (.ireturn, 1) := chk_nth ocX12_drawn_1 (k := 17) rfl
def tcX12_day_0 : List (Instr × Nat) := [(.aload_n 0, 1), (.iconst 0, 1), (.putfield 1, 3), (.iload_n 2, 1), (.i2l, 1), (.lconst 1, 1), (.ldc2_w 319, 3), (.invokestatic 142, 3), (.ifCond .ne 6, 3), (.bipush (-3), 2), (.ireturn, 1), (.aload_n 0, 1), (.invokevirtual 254, 3), (.aload_n 0, 1), (.iload_n 1, 1), (.putfield 313, 3), (.iconst 0, 1), (.istore_n 3, 1), (.iconst 0, 1), (.istore 4, 2), (.iload 4, 2), (.iload_n 2, 1), (.if_icmp .ge 37, 3), (.aload_n 0, 1)]
theorem ocX12_day_0 : chk (cX12_day.data.toList.drop 0) tcX12_day_0 = true := by decide +kernel
theorem dX12_day_0 : decode cX12_day 0 = .ok (.aload_n 0, 1) := chk_nth ocX12_day_0 (k := 0) rfl
theorem dX12_day_1 : decode cX12_day 1 = .ok (.iconst 0, 1) := chk_nth ocX12_day_0 (k := 1) rfl
theorem dX12_day_2 : decode cX12_day 2 = .ok (.putfield 1, 3) := chk_nth ocX12_day_0 (k := 2) rfl
theorem dX12_day_5 : decode cX12_day 5 = .ok (.iload_n 2, 1) := chk_nth ocX12_day_0 (k := 3) rfl
theorem dX12_day_6 : decode cX12_day 6 = .ok (.i2l, 1) := chk_nth ocX12_day_0 (k := 4) rfl
theorem dX12_day_7 : decode cX12_day 7 = .ok (.lconst 1, 1) := chk_nth ocX12_day_0 (k := 5) rfl
theorem dX12_day_8 : decode cX12_day 8 = .ok (.ldc2_w 319, 3) := chk_nth ocX12_day_0 (k := 6) rfl
theorem dX12_day_11 : decode cX12_day 11 = .ok (.invokestatic 142, 3) := chk_nth ocX12_day_0 (k := 7) rfl
theorem dX12_day_14 : decode cX12_day 14 = .ok (.ifCond .ne 6, 3) := chk_nth ocX12_day_0 (k := 8) rfl
theorem dX12_day_17 : decode cX12_day 17 = .ok (.bipush (-3), 2) := chk_nth ocX12_day_0 (k := 9) rfl
theorem dX12_day_19 : decode cX12_day 19 = .ok (.ireturn, 1) := chk_nth ocX12_day_0 (k := 10) rfl
theorem dX12_day_20 : decode cX12_day 20 = .ok (.aload_n 0, 1) := chk_nth ocX12_day_0 (k := 11) rfl
theorem dX12_day_21 : decode cX12_day 21 = .ok (.invokevirtual 254, 3) := chk_nth ocX12_day_0 (k := 12) rfl
theorem dX12_day_24 : decode cX12_day 24 = .ok (.aload_n 0, 1) := chk_nth ocX12_day_0 (k := 13) rfl
theorem dX12_day_25 : decode cX12_day 25 = .ok (.iload_n 1, 1) := chk_nth ocX12_day_0 (k := 14) rfl
theorem dX12_day_26 : decode cX12_day 26 = .ok (.putfield 313, 3) := chk_nth ocX12_day_0 (k := 15) rfl
theorem dX12_day_29 : decode cX12_day 29 = .ok (.iconst 0, 1) := chk_nth ocX12_day_0 (k := 16) rfl
theorem dX12_day_30 : decode cX12_day 30 = .ok (.istore_n 3, 1) := chk_nth ocX12_day_0 (k := 17) rfl
theorem dX12_day_31 : decode cX12_day 31 = .ok (.iconst 0, 1) := chk_nth ocX12_day_0 (k := 18) rfl
theorem dX12_day_32 : decode cX12_day 32 = .ok (.istore 4, 2) := chk_nth ocX12_day_0 (k := 19) rfl
theorem dX12_day_34 : decode cX12_day 34 = .ok (.iload 4, 2) := chk_nth ocX12_day_0 (k := 20) rfl
theorem dX12_day_36 : decode cX12_day 36 = .ok (.iload_n 2, 1) := chk_nth ocX12_day_0 (k := 21) rfl
theorem dX12_day_37 : decode cX12_day 37 = .ok (.if_icmp .ge 37, 3) := chk_nth ocX12_day_0 (k := 22) rfl
theorem dX12_day_40 : decode cX12_day 40 = .ok (.aload_n 0, 1) := chk_nth ocX12_day_0 (k := 23) rfl
def tcX12_day_1 : List (Instr × Nat) := [(.invokevirtual 321, 3), (.istore 5, 2), (.aload_n 0, 1), (.iload 5, 2), (.i2l, 1), (.invokevirtual 290, 3), (.ifCond .eq 6, 3), (.goto 12, 3), (.aload_n 0, 1), (.iload 5, 2), (.invokevirtual 294, 3), (.iinc 3 1, 3), (.iinc 4 1, 3), (.goto (-37), 3), (.iload_n 3, 1), (.ifCond .le 7, 3), (.aload_n 0, 1), (.invokevirtual 261, 3), (.iload_n 3, 1), (.ireturn, 1)]
theorem ocX12_day_1 : chk (cX12_day.data.toList.drop 41) tcX12_day_1 = true := by decide +kernel
theorem dX12_day_41 : decode cX12_day 41 = .ok (.invokevirtual 321, 3) := chk_nth ocX12_day_1 (k := 0) rfl
theorem dX12_day_44 : decode cX12_day 44 = .ok (.istore 5, 2) := chk_nth ocX12_day_1 (k := 1) rfl
theorem dX12_day_46 : decode cX12_day 46 = .ok (.aload_n 0, 1) := chk_nth ocX12_day_1 (k := 2) rfl
theorem dX12_day_47 : decode cX12_day 47 = .ok (.iload 5, 2) := chk_nth ocX12_day_1 (k := 3) rfl
theorem dX12_day_49 : decode cX12_day 49 = .ok (.i2l, 1) := chk_nth ocX12_day_1 (k := 4) rfl
theorem dX12_day_50 : decode cX12_day 50 = .ok (.invokevirtual 290, 3) := chk_nth ocX12_day_1 (k := 5) rfl
theorem dX12_day_53 : decode cX12_day 53 = .ok (.ifCond .eq 6, 3) := chk_nth ocX12_day_1 (k := 6) rfl
theorem dX12_day_56 : decode cX12_day 56 = .ok (.goto 12, 3) := chk_nth ocX12_day_1 (k := 7) rfl
theorem dX12_day_59 : decode cX12_day 59 = .ok (.aload_n 0, 1) := chk_nth ocX12_day_1 (k := 8) rfl
theorem dX12_day_60 : decode cX12_day 60 = .ok (.iload 5, 2) := chk_nth ocX12_day_1 (k := 9) rfl
theorem dX12_day_62 : decode cX12_day 62 = .ok (.invokevirtual 294, 3) := chk_nth ocX12_day_1 (k := 10) rfl
theorem dX12_day_65 : decode cX12_day 65 = .ok (.iinc 3 1, 3) := chk_nth ocX12_day_1 (k := 11) rfl
theorem dX12_day_68 : decode cX12_day 68 = .ok (.iinc 4 1, 3) := chk_nth ocX12_day_1 (k := 12) rfl
theorem dX12_day_71 : decode cX12_day 71 = .ok (.goto (-37), 3) := chk_nth ocX12_day_1 (k := 13) rfl
theorem dX12_day_74 : decode cX12_day 74 = .ok (.iload_n 3, 1) := chk_nth ocX12_day_1 (k := 14) rfl
theorem dX12_day_75 : decode cX12_day 75 = .ok (.ifCond .le 7, 3) := chk_nth ocX12_day_1 (k := 15) rfl
theorem dX12_day_78 : decode cX12_day 78 = .ok (.aload_n 0, 1) := chk_nth ocX12_day_1 (k := 16) rfl
theorem dX12_day_79 : decode cX12_day 79 = .ok (.invokevirtual 261, 3) := chk_nth ocX12_day_1 (k := 17) rfl
theorem dX12_day_82 : decode cX12_day 82 = .ok (.iload_n 3, 1) := chk_nth ocX12_day_1 (k := 18) rfl
theorem dX12_day_83 : decode cX12_day 83 = .ok (.ireturn, 1) := chk_nth ocX12_day_1 (k := 19) rfl
def tcX12_laysThen_0 : List (Instr × Nat) := [(.iconst 0, 1), (.istore_n 3, 1), (.iload_n 3, 1), (.bipush 20, 2), (.aload_n 0, 1), (.getfield 13, 3), (.iconst 1, 1), (.iaload, 1), (.imul, 1), (.if_icmp .ge 91, 3), (.iconst 0, 1), (.istore 4, 2), (.iload 4, 2), (.bipush 8, 2), (.if_icmp .ge 75, 3), (.aload_n 0, 1), (.getfield 39, 3), (.bipush 8, 2), (.iload_n 3, 1), (.imul, 1), (.iload 4, 2), (.iadd, 1), (.iload 4, 2), (.aload_n 0, 1)]
theorem ocX12_laysThen_0 : chk (cX12_laysThen.data.toList.drop 0) tcX12_laysThen_0 = true := by decide +kernel
theorem dX12_laysThen_0 : decode cX12_laysThen 0 = .ok (.iconst 0, 1) := chk_nth ocX12_laysThen_0 (k := 0) rfl
theorem dX12_laysThen_1 : decode cX12_laysThen 1 = .ok (.istore_n 3, 1) := chk_nth ocX12_laysThen_0 (k := 1) rfl
theorem dX12_laysThen_2 : decode cX12_laysThen 2 = .ok (.iload_n 3, 1) := chk_nth ocX12_laysThen_0 (k := 2) rfl
theorem dX12_laysThen_3 : decode cX12_laysThen 3 = .ok (.bipush 20, 2) := chk_nth ocX12_laysThen_0 (k := 3) rfl
theorem dX12_laysThen_5 : decode cX12_laysThen 5 = .ok (.aload_n 0, 1) := chk_nth ocX12_laysThen_0 (k := 4) rfl
theorem dX12_laysThen_6 : decode cX12_laysThen 6 = .ok (.getfield 13, 3) := chk_nth ocX12_laysThen_0 (k := 5) rfl
theorem dX12_laysThen_9 : decode cX12_laysThen 9 = .ok (.iconst 1, 1) := chk_nth ocX12_laysThen_0 (k := 6) rfl
theorem dX12_laysThen_10 : decode cX12_laysThen 10 = .ok (.iaload, 1) := chk_nth ocX12_laysThen_0 (k := 7) rfl
theorem dX12_laysThen_11 : decode cX12_laysThen 11 = .ok (.imul, 1) := chk_nth ocX12_laysThen_0 (k := 8) rfl
theorem dX12_laysThen_12 : decode cX12_laysThen 12 = .ok (.if_icmp .ge 91, 3) := chk_nth ocX12_laysThen_0 (k := 9) rfl
theorem dX12_laysThen_15 : decode cX12_laysThen 15 = .ok (.iconst 0, 1) := chk_nth ocX12_laysThen_0 (k := 10) rfl
theorem dX12_laysThen_16 : decode cX12_laysThen 16 = .ok (.istore 4, 2) := chk_nth ocX12_laysThen_0 (k := 11) rfl
theorem dX12_laysThen_18 : decode cX12_laysThen 18 = .ok (.iload 4, 2) := chk_nth ocX12_laysThen_0 (k := 12) rfl
theorem dX12_laysThen_20 : decode cX12_laysThen 20 = .ok (.bipush 8, 2) := chk_nth ocX12_laysThen_0 (k := 13) rfl
theorem dX12_laysThen_22 : decode cX12_laysThen 22 = .ok (.if_icmp .ge 75, 3) := chk_nth ocX12_laysThen_0 (k := 14) rfl
theorem dX12_laysThen_25 : decode cX12_laysThen 25 = .ok (.aload_n 0, 1) := chk_nth ocX12_laysThen_0 (k := 15) rfl
theorem dX12_laysThen_26 : decode cX12_laysThen 26 = .ok (.getfield 39, 3) := chk_nth ocX12_laysThen_0 (k := 16) rfl
theorem dX12_laysThen_29 : decode cX12_laysThen 29 = .ok (.bipush 8, 2) := chk_nth ocX12_laysThen_0 (k := 17) rfl
theorem dX12_laysThen_31 : decode cX12_laysThen 31 = .ok (.iload_n 3, 1) := chk_nth ocX12_laysThen_0 (k := 18) rfl
theorem dX12_laysThen_32 : decode cX12_laysThen 32 = .ok (.imul, 1) := chk_nth ocX12_laysThen_0 (k := 19) rfl
theorem dX12_laysThen_33 : decode cX12_laysThen 33 = .ok (.iload 4, 2) := chk_nth ocX12_laysThen_0 (k := 20) rfl
theorem dX12_laysThen_35 : decode cX12_laysThen 35 = .ok (.iadd, 1) := chk_nth ocX12_laysThen_0 (k := 21) rfl
theorem dX12_laysThen_36 : decode cX12_laysThen 36 = .ok (.iload 4, 2) := chk_nth ocX12_laysThen_0 (k := 22) rfl
theorem dX12_laysThen_38 : decode cX12_laysThen 38 = .ok (.aload_n 0, 1) := chk_nth ocX12_laysThen_0 (k := 23) rfl
def tcX12_laysThen_1 : List (Instr × Nat) := [(.getfield 13, 3), (.iconst 2, 1), (.iaload, 1), (.if_icmp .ge 45, 3), (.iload_n 2, 1), (.i2l, 1), (.iload 4, 2), (.invokestatic 324, 3), (.ifCond .ne 35, 3), (.aload_n 0, 1), (.iload_n 1, 1), (.iload_n 3, 1), (.iload 4, 2), (.aload_n 0, 1), (.getfield 13, 3), (.bipush 40, 2), (.iload 4, 2), (.iadd, 1), (.iaload, 1), (.invokevirtual 242, 3), (.ifCond .ne 14, 3), (.aload_n 0, 1), (.iload_n 1, 1), (.iload_n 3, 1)]
theorem ocX12_laysThen_1 : chk (cX12_laysThen.data.toList.drop 39) tcX12_laysThen_1 = true := by decide +kernel
theorem dX12_laysThen_39 : decode cX12_laysThen 39 = .ok (.getfield 13, 3) := chk_nth ocX12_laysThen_1 (k := 0) rfl
theorem dX12_laysThen_42 : decode cX12_laysThen 42 = .ok (.iconst 2, 1) := chk_nth ocX12_laysThen_1 (k := 1) rfl
theorem dX12_laysThen_43 : decode cX12_laysThen 43 = .ok (.iaload, 1) := chk_nth ocX12_laysThen_1 (k := 2) rfl
theorem dX12_laysThen_44 : decode cX12_laysThen 44 = .ok (.if_icmp .ge 45, 3) := chk_nth ocX12_laysThen_1 (k := 3) rfl
theorem dX12_laysThen_47 : decode cX12_laysThen 47 = .ok (.iload_n 2, 1) := chk_nth ocX12_laysThen_1 (k := 4) rfl
theorem dX12_laysThen_48 : decode cX12_laysThen 48 = .ok (.i2l, 1) := chk_nth ocX12_laysThen_1 (k := 5) rfl
theorem dX12_laysThen_49 : decode cX12_laysThen 49 = .ok (.iload 4, 2) := chk_nth ocX12_laysThen_1 (k := 6) rfl
theorem dX12_laysThen_51 : decode cX12_laysThen 51 = .ok (.invokestatic 324, 3) := chk_nth ocX12_laysThen_1 (k := 7) rfl
theorem dX12_laysThen_54 : decode cX12_laysThen 54 = .ok (.ifCond .ne 35, 3) := chk_nth ocX12_laysThen_1 (k := 8) rfl
theorem dX12_laysThen_57 : decode cX12_laysThen 57 = .ok (.aload_n 0, 1) := chk_nth ocX12_laysThen_1 (k := 9) rfl
theorem dX12_laysThen_58 : decode cX12_laysThen 58 = .ok (.iload_n 1, 1) := chk_nth ocX12_laysThen_1 (k := 10) rfl
theorem dX12_laysThen_59 : decode cX12_laysThen 59 = .ok (.iload_n 3, 1) := chk_nth ocX12_laysThen_1 (k := 11) rfl
theorem dX12_laysThen_60 : decode cX12_laysThen 60 = .ok (.iload 4, 2) := chk_nth ocX12_laysThen_1 (k := 12) rfl
theorem dX12_laysThen_62 : decode cX12_laysThen 62 = .ok (.aload_n 0, 1) := chk_nth ocX12_laysThen_1 (k := 13) rfl
theorem dX12_laysThen_63 : decode cX12_laysThen 63 = .ok (.getfield 13, 3) := chk_nth ocX12_laysThen_1 (k := 14) rfl
theorem dX12_laysThen_66 : decode cX12_laysThen 66 = .ok (.bipush 40, 2) := chk_nth ocX12_laysThen_1 (k := 15) rfl
theorem dX12_laysThen_68 : decode cX12_laysThen 68 = .ok (.iload 4, 2) := chk_nth ocX12_laysThen_1 (k := 16) rfl
theorem dX12_laysThen_70 : decode cX12_laysThen 70 = .ok (.iadd, 1) := chk_nth ocX12_laysThen_1 (k := 17) rfl
theorem dX12_laysThen_71 : decode cX12_laysThen 71 = .ok (.iaload, 1) := chk_nth ocX12_laysThen_1 (k := 18) rfl
theorem dX12_laysThen_72 : decode cX12_laysThen 72 = .ok (.invokevirtual 242, 3) := chk_nth ocX12_laysThen_1 (k := 19) rfl
theorem dX12_laysThen_75 : decode cX12_laysThen 75 = .ok (.ifCond .ne 14, 3) := chk_nth ocX12_laysThen_1 (k := 20) rfl
theorem dX12_laysThen_78 : decode cX12_laysThen 78 = .ok (.aload_n 0, 1) := chk_nth ocX12_laysThen_1 (k := 21) rfl
theorem dX12_laysThen_79 : decode cX12_laysThen 79 = .ok (.iload_n 1, 1) := chk_nth ocX12_laysThen_1 (k := 22) rfl
theorem dX12_laysThen_80 : decode cX12_laysThen 80 = .ok (.iload_n 3, 1) := chk_nth ocX12_laysThen_1 (k := 23) rfl
def tcX12_laysThen_2 : List (Instr × Nat) := [(.iload 4, 2), (.invokevirtual 251, 3), (.goto 4, 3), (.iconst (-1), 1), (.iastore, 1), (.iinc 4 1, 3), (.goto (-76), 3), (.iinc 3 1, 3), (.goto (-98), 3), (.return_, 1)]
theorem ocX12_laysThen_2 : chk (cX12_laysThen.data.toList.drop 81) tcX12_laysThen_2 = true := by decide +kernel
theorem dX12_laysThen_81 : decode cX12_laysThen 81 = .ok (.iload 4, 2) := chk_nth ocX12_laysThen_2 (k := 0) rfl
theorem dX12_laysThen_83 : decode cX12_laysThen 83 = .ok (.invokevirtual 251, 3) := chk_nth ocX12_laysThen_2 (k := 1) rfl
theorem dX12_laysThen_86 : decode cX12_laysThen 86 = .ok (.goto 4, 3) := chk_nth ocX12_laysThen_2 (k := 2) rfl
theorem dX12_laysThen_89 : decode cX12_laysThen 89 = .ok (.iconst (-1), 1) := chk_nth ocX12_laysThen_2 (k := 3) rfl
theorem dX12_laysThen_90 : decode cX12_laysThen 90 = .ok (.iastore, 1) := chk_nth ocX12_laysThen_2 (k := 4) rfl
theorem dX12_laysThen_91 : decode cX12_laysThen 91 = .ok (.iinc 4 1, 3) := chk_nth ocX12_laysThen_2 (k := 5) rfl
theorem dX12_laysThen_94 : decode cX12_laysThen 94 = .ok (.goto (-76), 3) := chk_nth ocX12_laysThen_2 (k := 6) rfl
theorem dX12_laysThen_97 : decode cX12_laysThen 97 = .ok (.iinc 3 1, 3) := chk_nth ocX12_laysThen_2 (k := 7) rfl
theorem dX12_laysThen_100 : decode cX12_laysThen 100 = .ok (.goto (-98), 3) := chk_nth ocX12_laysThen_2 (k := 8) rfl
theorem dX12_laysThen_103 : decode cX12_laysThen 103 = .ok (.return_, 1) := chk_nth ocX12_laysThen_2 (k := 9) rfl
def tcX12_stands_0 : List (Instr × Nat) := [(.bipush 20, 2), (.aload_n 0, 1), (.getfield 13, 3), (.iconst 1, 1), (.iaload, 1), (.imul, 1), (.ireturn, 1)]
theorem ocX12_stands_0 : chk (cX12_stands.data.toList.drop 0) tcX12_stands_0 = true := by decide +kernel
theorem dX12_stands_0 : decode cX12_stands 0 = .ok (.bipush 20, 2) := chk_nth ocX12_stands_0 (k := 0) rfl
theorem dX12_stands_2 : decode cX12_stands 2 = .ok (.aload_n 0, 1) := chk_nth ocX12_stands_0 (k := 1) rfl
theorem dX12_stands_3 : decode cX12_stands 3 = .ok (.getfield 13, 3) := chk_nth ocX12_stands_0 (k := 2) rfl
theorem dX12_stands_6 : decode cX12_stands 6 = .ok (.iconst 1, 1) := chk_nth ocX12_stands_0 (k := 3) rfl
theorem dX12_stands_7 : decode cX12_stands 7 = .ok (.iaload, 1) := chk_nth ocX12_stands_0 (k := 4) rfl
theorem dX12_stands_8 : decode cX12_stands 8 = .ok (.imul, 1) := chk_nth ocX12_stands_0 (k := 5) rfl
theorem dX12_stands_9 : decode cX12_stands 9 = .ok (.ireturn, 1) := chk_nth ocX12_stands_0 (k := 6) rfl
def tcX12_laysGone_0 : List (Instr × Nat) := [(.iconst 0, 1), (.istore_n 3, 1), (.iload_n 3, 1), (.bipush 120, 2), (.if_icmp .ge 24, 3), (.aload_n 2, 1), (.iload_n 3, 1), (.iload_n 3, 1), (.iload_n 1, 1), (.if_icmp .ne 7, 3), (.iconst 0, 1), (.goto 6, 3), (.ldc_w 328, 3), (.iastore, 1), (.iinc 3 1, 3), (.goto (-24), 3), (.iconst 0, 1), (.istore_n 3, 1), (.iload_n 3, 1), (.bipush 120, 2), (.if_icmp .ge 89, 3), (.iconst 0, 1), (.istore 4, 2), (.iload 4, 2)]
theorem ocX12_laysGone_0 : chk (cX12_laysGone.data.toList.drop 0) tcX12_laysGone_0 = true := by decide +kernel
theorem dX12_laysGone_0 : decode cX12_laysGone 0 = .ok (.iconst 0, 1) := chk_nth ocX12_laysGone_0 (k := 0) rfl
theorem dX12_laysGone_1 : decode cX12_laysGone 1 = .ok (.istore_n 3, 1) := chk_nth ocX12_laysGone_0 (k := 1) rfl
theorem dX12_laysGone_2 : decode cX12_laysGone 2 = .ok (.iload_n 3, 1) := chk_nth ocX12_laysGone_0 (k := 2) rfl
theorem dX12_laysGone_3 : decode cX12_laysGone 3 = .ok (.bipush 120, 2) := chk_nth ocX12_laysGone_0 (k := 3) rfl
theorem dX12_laysGone_5 : decode cX12_laysGone 5 = .ok (.if_icmp .ge 24, 3) := chk_nth ocX12_laysGone_0 (k := 4) rfl
theorem dX12_laysGone_8 : decode cX12_laysGone 8 = .ok (.aload_n 2, 1) := chk_nth ocX12_laysGone_0 (k := 5) rfl
theorem dX12_laysGone_9 : decode cX12_laysGone 9 = .ok (.iload_n 3, 1) := chk_nth ocX12_laysGone_0 (k := 6) rfl
theorem dX12_laysGone_10 : decode cX12_laysGone 10 = .ok (.iload_n 3, 1) := chk_nth ocX12_laysGone_0 (k := 7) rfl
theorem dX12_laysGone_11 : decode cX12_laysGone 11 = .ok (.iload_n 1, 1) := chk_nth ocX12_laysGone_0 (k := 8) rfl
theorem dX12_laysGone_12 : decode cX12_laysGone 12 = .ok (.if_icmp .ne 7, 3) := chk_nth ocX12_laysGone_0 (k := 9) rfl
theorem dX12_laysGone_15 : decode cX12_laysGone 15 = .ok (.iconst 0, 1) := chk_nth ocX12_laysGone_0 (k := 10) rfl
theorem dX12_laysGone_16 : decode cX12_laysGone 16 = .ok (.goto 6, 3) := chk_nth ocX12_laysGone_0 (k := 11) rfl
theorem dX12_laysGone_19 : decode cX12_laysGone 19 = .ok (.ldc_w 328, 3) := chk_nth ocX12_laysGone_0 (k := 12) rfl
theorem dX12_laysGone_22 : decode cX12_laysGone 22 = .ok (.iastore, 1) := chk_nth ocX12_laysGone_0 (k := 13) rfl
theorem dX12_laysGone_23 : decode cX12_laysGone 23 = .ok (.iinc 3 1, 3) := chk_nth ocX12_laysGone_0 (k := 14) rfl
theorem dX12_laysGone_26 : decode cX12_laysGone 26 = .ok (.goto (-24), 3) := chk_nth ocX12_laysGone_0 (k := 15) rfl
theorem dX12_laysGone_29 : decode cX12_laysGone 29 = .ok (.iconst 0, 1) := chk_nth ocX12_laysGone_0 (k := 16) rfl
theorem dX12_laysGone_30 : decode cX12_laysGone 30 = .ok (.istore_n 3, 1) := chk_nth ocX12_laysGone_0 (k := 17) rfl
theorem dX12_laysGone_31 : decode cX12_laysGone 31 = .ok (.iload_n 3, 1) := chk_nth ocX12_laysGone_0 (k := 18) rfl
theorem dX12_laysGone_32 : decode cX12_laysGone 32 = .ok (.bipush 120, 2) := chk_nth ocX12_laysGone_0 (k := 19) rfl
theorem dX12_laysGone_34 : decode cX12_laysGone 34 = .ok (.if_icmp .ge 89, 3) := chk_nth ocX12_laysGone_0 (k := 20) rfl
theorem dX12_laysGone_37 : decode cX12_laysGone 37 = .ok (.iconst 0, 1) := chk_nth ocX12_laysGone_0 (k := 21) rfl
theorem dX12_laysGone_38 : decode cX12_laysGone 38 = .ok (.istore 4, 2) := chk_nth ocX12_laysGone_0 (k := 22) rfl
theorem dX12_laysGone_40 : decode cX12_laysGone 40 = .ok (.iload 4, 2) := chk_nth ocX12_laysGone_0 (k := 23) rfl
def tcX12_laysGone_1 : List (Instr × Nat) := [(.aload_n 0, 1), (.invokevirtual 329, 3), (.if_icmp .ge 71, 3), (.iconst 0, 1), (.istore 5, 2), (.iload 5, 2), (.bipush 8, 2), (.if_icmp .ge 55, 3), (.aload_n 2, 1), (.iload 4, 2), (.iaload, 1), (.iload_n 3, 1), (.if_icmp .ne 47, 3), (.aload_n 0, 1), (.getfield 39, 3), (.bipush 8, 2), (.iload 4, 2), (.imul, 1), (.iload 5, 2), (.iadd, 1), (.iaload, 1), (.istore 6, 2), (.iload 6, 2), (.iconst (-1), 1)]
theorem ocX12_laysGone_1 : chk (cX12_laysGone.data.toList.drop 42) tcX12_laysGone_1 = true := by decide +kernel
theorem dX12_laysGone_42 : decode cX12_laysGone 42 = .ok (.aload_n 0, 1) := chk_nth ocX12_laysGone_1 (k := 0) rfl
theorem dX12_laysGone_43 : decode cX12_laysGone 43 = .ok (.invokevirtual 329, 3) := chk_nth ocX12_laysGone_1 (k := 1) rfl
theorem dX12_laysGone_46 : decode cX12_laysGone 46 = .ok (.if_icmp .ge 71, 3) := chk_nth ocX12_laysGone_1 (k := 2) rfl
theorem dX12_laysGone_49 : decode cX12_laysGone 49 = .ok (.iconst 0, 1) := chk_nth ocX12_laysGone_1 (k := 3) rfl
theorem dX12_laysGone_50 : decode cX12_laysGone 50 = .ok (.istore 5, 2) := chk_nth ocX12_laysGone_1 (k := 4) rfl
theorem dX12_laysGone_52 : decode cX12_laysGone 52 = .ok (.iload 5, 2) := chk_nth ocX12_laysGone_1 (k := 5) rfl
theorem dX12_laysGone_54 : decode cX12_laysGone 54 = .ok (.bipush 8, 2) := chk_nth ocX12_laysGone_1 (k := 6) rfl
theorem dX12_laysGone_56 : decode cX12_laysGone 56 = .ok (.if_icmp .ge 55, 3) := chk_nth ocX12_laysGone_1 (k := 7) rfl
theorem dX12_laysGone_59 : decode cX12_laysGone 59 = .ok (.aload_n 2, 1) := chk_nth ocX12_laysGone_1 (k := 8) rfl
theorem dX12_laysGone_60 : decode cX12_laysGone 60 = .ok (.iload 4, 2) := chk_nth ocX12_laysGone_1 (k := 9) rfl
theorem dX12_laysGone_62 : decode cX12_laysGone 62 = .ok (.iaload, 1) := chk_nth ocX12_laysGone_1 (k := 10) rfl
theorem dX12_laysGone_63 : decode cX12_laysGone 63 = .ok (.iload_n 3, 1) := chk_nth ocX12_laysGone_1 (k := 11) rfl
theorem dX12_laysGone_64 : decode cX12_laysGone 64 = .ok (.if_icmp .ne 47, 3) := chk_nth ocX12_laysGone_1 (k := 12) rfl
theorem dX12_laysGone_67 : decode cX12_laysGone 67 = .ok (.aload_n 0, 1) := chk_nth ocX12_laysGone_1 (k := 13) rfl
theorem dX12_laysGone_68 : decode cX12_laysGone 68 = .ok (.getfield 39, 3) := chk_nth ocX12_laysGone_1 (k := 14) rfl
theorem dX12_laysGone_71 : decode cX12_laysGone 71 = .ok (.bipush 8, 2) := chk_nth ocX12_laysGone_1 (k := 15) rfl
theorem dX12_laysGone_73 : decode cX12_laysGone 73 = .ok (.iload 4, 2) := chk_nth ocX12_laysGone_1 (k := 16) rfl
theorem dX12_laysGone_75 : decode cX12_laysGone 75 = .ok (.imul, 1) := chk_nth ocX12_laysGone_1 (k := 17) rfl
theorem dX12_laysGone_76 : decode cX12_laysGone 76 = .ok (.iload 5, 2) := chk_nth ocX12_laysGone_1 (k := 18) rfl
theorem dX12_laysGone_78 : decode cX12_laysGone 78 = .ok (.iadd, 1) := chk_nth ocX12_laysGone_1 (k := 19) rfl
theorem dX12_laysGone_79 : decode cX12_laysGone 79 = .ok (.iaload, 1) := chk_nth ocX12_laysGone_1 (k := 20) rfl
theorem dX12_laysGone_80 : decode cX12_laysGone 80 = .ok (.istore 6, 2) := chk_nth ocX12_laysGone_1 (k := 21) rfl
theorem dX12_laysGone_82 : decode cX12_laysGone 82 = .ok (.iload 6, 2) := chk_nth ocX12_laysGone_1 (k := 22) rfl
theorem dX12_laysGone_84 : decode cX12_laysGone 84 = .ok (.iconst (-1), 1) := chk_nth ocX12_laysGone_1 (k := 23) rfl
def tcX12_laysGone_2 : List (Instr × Nat) := [(.if_icmp .eq 20, 3), (.aload_n 2, 1), (.iload 6, 2), (.iaload, 1), (.ldc_w 328, 3), (.if_icmp .ne 10, 3), (.aload_n 2, 1), (.iload 6, 2), (.iload_n 3, 1), (.iconst 1, 1), (.iadd, 1), (.iastore, 1), (.iinc 5 1, 3), (.goto (-56), 3), (.iinc 4 1, 3), (.goto (-74), 3), (.iinc 3 1, 3), (.goto (-89), 3), (.return_, 1)]
theorem ocX12_laysGone_2 : chk (cX12_laysGone.data.toList.drop 85) tcX12_laysGone_2 = true := by decide +kernel
theorem dX12_laysGone_85 : decode cX12_laysGone 85 = .ok (.if_icmp .eq 20, 3) := chk_nth ocX12_laysGone_2 (k := 0) rfl
theorem dX12_laysGone_88 : decode cX12_laysGone 88 = .ok (.aload_n 2, 1) := chk_nth ocX12_laysGone_2 (k := 1) rfl
theorem dX12_laysGone_89 : decode cX12_laysGone 89 = .ok (.iload 6, 2) := chk_nth ocX12_laysGone_2 (k := 2) rfl
theorem dX12_laysGone_91 : decode cX12_laysGone 91 = .ok (.iaload, 1) := chk_nth ocX12_laysGone_2 (k := 3) rfl
theorem dX12_laysGone_92 : decode cX12_laysGone 92 = .ok (.ldc_w 328, 3) := chk_nth ocX12_laysGone_2 (k := 4) rfl
theorem dX12_laysGone_95 : decode cX12_laysGone 95 = .ok (.if_icmp .ne 10, 3) := chk_nth ocX12_laysGone_2 (k := 5) rfl
theorem dX12_laysGone_98 : decode cX12_laysGone 98 = .ok (.aload_n 2, 1) := chk_nth ocX12_laysGone_2 (k := 6) rfl
theorem dX12_laysGone_99 : decode cX12_laysGone 99 = .ok (.iload 6, 2) := chk_nth ocX12_laysGone_2 (k := 7) rfl
theorem dX12_laysGone_101 : decode cX12_laysGone 101 = .ok (.iload_n 3, 1) := chk_nth ocX12_laysGone_2 (k := 8) rfl
theorem dX12_laysGone_102 : decode cX12_laysGone 102 = .ok (.iconst 1, 1) := chk_nth ocX12_laysGone_2 (k := 9) rfl
theorem dX12_laysGone_103 : decode cX12_laysGone 103 = .ok (.iadd, 1) := chk_nth ocX12_laysGone_2 (k := 10) rfl
theorem dX12_laysGone_104 : decode cX12_laysGone 104 = .ok (.iastore, 1) := chk_nth ocX12_laysGone_2 (k := 11) rfl
theorem dX12_laysGone_105 : decode cX12_laysGone 105 = .ok (.iinc 5 1, 3) := chk_nth ocX12_laysGone_2 (k := 12) rfl
theorem dX12_laysGone_108 : decode cX12_laysGone 108 = .ok (.goto (-56), 3) := chk_nth ocX12_laysGone_2 (k := 13) rfl
theorem dX12_laysGone_111 : decode cX12_laysGone 111 = .ok (.iinc 4 1, 3) := chk_nth ocX12_laysGone_2 (k := 14) rfl
theorem dX12_laysGone_114 : decode cX12_laysGone 114 = .ok (.goto (-74), 3) := chk_nth ocX12_laysGone_2 (k := 15) rfl
theorem dX12_laysGone_117 : decode cX12_laysGone 117 = .ok (.iinc 3 1, 3) := chk_nth ocX12_laysGone_2 (k := 16) rfl
theorem dX12_laysGone_120 : decode cX12_laysGone 120 = .ok (.goto (-89), 3) := chk_nth ocX12_laysGone_2 (k := 17) rfl
theorem dX12_laysGone_123 : decode cX12_laysGone 123 = .ok (.return_, 1) := chk_nth ocX12_laysGone_2 (k := 18) rfl
def tcX12_isGoal_0 : List (Instr × Nat) := [(.iload_n 0, 1), (.bipush 20, 2), (.idiv, 1), (.iload_n 1, 1), (.if_icmp .ne 20, 3), (.iload_n 2, 1), (.iconst (-1), 1), (.if_icmp .eq 11, 3), (.iload_n 0, 1), (.bipush 20, 2), (.irem, 1), (.iload_n 2, 1), (.if_icmp .ne 7, 3), (.iconst 1, 1), (.goto 4, 3), (.iconst 0, 1), (.ireturn, 1)]
theorem ocX12_isGoal_0 : chk (cX12_isGoal.data.toList.drop 0) tcX12_isGoal_0 = true := by decide +kernel
theorem dX12_isGoal_0 : decode cX12_isGoal 0 = .ok (.iload_n 0, 1) := chk_nth ocX12_isGoal_0 (k := 0) rfl
theorem dX12_isGoal_1 : decode cX12_isGoal 1 = .ok (.bipush 20, 2) := chk_nth ocX12_isGoal_0 (k := 1) rfl
theorem dX12_isGoal_3 : decode cX12_isGoal 3 = .ok (.idiv, 1) := chk_nth ocX12_isGoal_0 (k := 2) rfl
theorem dX12_isGoal_4 : decode cX12_isGoal 4 = .ok (.iload_n 1, 1) := chk_nth ocX12_isGoal_0 (k := 3) rfl
theorem dX12_isGoal_5 : decode cX12_isGoal 5 = .ok (.if_icmp .ne 20, 3) := chk_nth ocX12_isGoal_0 (k := 4) rfl
theorem dX12_isGoal_8 : decode cX12_isGoal 8 = .ok (.iload_n 2, 1) := chk_nth ocX12_isGoal_0 (k := 5) rfl
theorem dX12_isGoal_9 : decode cX12_isGoal 9 = .ok (.iconst (-1), 1) := chk_nth ocX12_isGoal_0 (k := 6) rfl
theorem dX12_isGoal_10 : decode cX12_isGoal 10 = .ok (.if_icmp .eq 11, 3) := chk_nth ocX12_isGoal_0 (k := 7) rfl
theorem dX12_isGoal_13 : decode cX12_isGoal 13 = .ok (.iload_n 0, 1) := chk_nth ocX12_isGoal_0 (k := 8) rfl
theorem dX12_isGoal_14 : decode cX12_isGoal 14 = .ok (.bipush 20, 2) := chk_nth ocX12_isGoal_0 (k := 9) rfl
theorem dX12_isGoal_16 : decode cX12_isGoal 16 = .ok (.irem, 1) := chk_nth ocX12_isGoal_0 (k := 10) rfl
theorem dX12_isGoal_17 : decode cX12_isGoal 17 = .ok (.iload_n 2, 1) := chk_nth ocX12_isGoal_0 (k := 11) rfl
theorem dX12_isGoal_18 : decode cX12_isGoal 18 = .ok (.if_icmp .ne 7, 3) := chk_nth ocX12_isGoal_0 (k := 12) rfl
theorem dX12_isGoal_21 : decode cX12_isGoal 21 = .ok (.iconst 1, 1) := chk_nth ocX12_isGoal_0 (k := 13) rfl
theorem dX12_isGoal_22 : decode cX12_isGoal 22 = .ok (.goto 4, 3) := chk_nth ocX12_isGoal_0 (k := 14) rfl
theorem dX12_isGoal_25 : decode cX12_isGoal 25 = .ok (.iconst 0, 1) := chk_nth ocX12_isGoal_0 (k := 15) rfl
theorem dX12_isGoal_26 : decode cX12_isGoal 26 = .ok (.ireturn, 1) := chk_nth ocX12_isGoal_0 (k := 16) rfl
def tcX12_farBy_0 : List (Instr × Nat) := [(.aload_n 0, 1), (.getfield 39, 3), (.bipush 8, 2), (.iload_n 1, 1), (.imul, 1), (.iload_n 2, 1), (.iadd, 1), (.iaload, 1), (.istore_n 3, 1), (.iload_n 3, 1), (.iconst (-1), 1), (.if_icmp .eq 15, 3), (.aload_n 0, 1), (.getfield 42, 3), (.iload_n 3, 1), (.iaload, 1), (.ldc_w 328, 3), (.if_icmp .ne 9, 3), (.ldc_w 328, 3), (.goto 11, 3), (.aload_n 0, 1), (.getfield 42, 3), (.iload_n 3, 1), (.iaload, 1)]
theorem ocX12_farBy_0 : chk (cX12_farBy.data.toList.drop 0) tcX12_farBy_0 = true := by decide +kernel
theorem dX12_farBy_0 : decode cX12_farBy 0 = .ok (.aload_n 0, 1) := chk_nth ocX12_farBy_0 (k := 0) rfl
theorem dX12_farBy_1 : decode cX12_farBy 1 = .ok (.getfield 39, 3) := chk_nth ocX12_farBy_0 (k := 1) rfl
theorem dX12_farBy_4 : decode cX12_farBy 4 = .ok (.bipush 8, 2) := chk_nth ocX12_farBy_0 (k := 2) rfl
theorem dX12_farBy_6 : decode cX12_farBy 6 = .ok (.iload_n 1, 1) := chk_nth ocX12_farBy_0 (k := 3) rfl
theorem dX12_farBy_7 : decode cX12_farBy 7 = .ok (.imul, 1) := chk_nth ocX12_farBy_0 (k := 4) rfl
theorem dX12_farBy_8 : decode cX12_farBy 8 = .ok (.iload_n 2, 1) := chk_nth ocX12_farBy_0 (k := 5) rfl
theorem dX12_farBy_9 : decode cX12_farBy 9 = .ok (.iadd, 1) := chk_nth ocX12_farBy_0 (k := 6) rfl
theorem dX12_farBy_10 : decode cX12_farBy 10 = .ok (.iaload, 1) := chk_nth ocX12_farBy_0 (k := 7) rfl
theorem dX12_farBy_11 : decode cX12_farBy 11 = .ok (.istore_n 3, 1) := chk_nth ocX12_farBy_0 (k := 8) rfl
theorem dX12_farBy_12 : decode cX12_farBy 12 = .ok (.iload_n 3, 1) := chk_nth ocX12_farBy_0 (k := 9) rfl
theorem dX12_farBy_13 : decode cX12_farBy 13 = .ok (.iconst (-1), 1) := chk_nth ocX12_farBy_0 (k := 10) rfl
theorem dX12_farBy_14 : decode cX12_farBy 14 = .ok (.if_icmp .eq 15, 3) := chk_nth ocX12_farBy_0 (k := 11) rfl
theorem dX12_farBy_17 : decode cX12_farBy 17 = .ok (.aload_n 0, 1) := chk_nth ocX12_farBy_0 (k := 12) rfl
theorem dX12_farBy_18 : decode cX12_farBy 18 = .ok (.getfield 42, 3) := chk_nth ocX12_farBy_0 (k := 13) rfl
theorem dX12_farBy_21 : decode cX12_farBy 21 = .ok (.iload_n 3, 1) := chk_nth ocX12_farBy_0 (k := 14) rfl
theorem dX12_farBy_22 : decode cX12_farBy 22 = .ok (.iaload, 1) := chk_nth ocX12_farBy_0 (k := 15) rfl
theorem dX12_farBy_23 : decode cX12_farBy 23 = .ok (.ldc_w 328, 3) := chk_nth ocX12_farBy_0 (k := 16) rfl
theorem dX12_farBy_26 : decode cX12_farBy 26 = .ok (.if_icmp .ne 9, 3) := chk_nth ocX12_farBy_0 (k := 17) rfl
theorem dX12_farBy_29 : decode cX12_farBy 29 = .ok (.ldc_w 328, 3) := chk_nth ocX12_farBy_0 (k := 18) rfl
theorem dX12_farBy_32 : decode cX12_farBy 32 = .ok (.goto 11, 3) := chk_nth ocX12_farBy_0 (k := 19) rfl
theorem dX12_farBy_35 : decode cX12_farBy 35 = .ok (.aload_n 0, 1) := chk_nth ocX12_farBy_0 (k := 20) rfl
theorem dX12_farBy_36 : decode cX12_farBy 36 = .ok (.getfield 42, 3) := chk_nth ocX12_farBy_0 (k := 21) rfl
theorem dX12_farBy_39 : decode cX12_farBy 39 = .ok (.iload_n 3, 1) := chk_nth ocX12_farBy_0 (k := 22) rfl
theorem dX12_farBy_40 : decode cX12_farBy 40 = .ok (.iaload, 1) := chk_nth ocX12_farBy_0 (k := 23) rfl
def tcX12_farBy_1 : List (Instr × Nat) := [(.iconst 1, 1), (.iadd, 1), (.ireturn, 1)]
theorem ocX12_farBy_1 : chk (cX12_farBy.data.toList.drop 41) tcX12_farBy_1 = true := by decide +kernel
theorem dX12_farBy_41 : decode cX12_farBy 41 = .ok (.iconst 1, 1) := chk_nth ocX12_farBy_1 (k := 0) rfl
theorem dX12_farBy_42 : decode cX12_farBy 42 = .ok (.iadd, 1) := chk_nth ocX12_farBy_1 (k := 1) rfl
theorem dX12_farBy_43 : decode cX12_farBy 43 = .ok (.ireturn, 1) := chk_nth ocX12_farBy_1 (k := 2) rfl
def tcX12_laysFar_0 : List (Instr × Nat) := [(.aload_n 0, 1), (.iload_n 1, 1), (.iconst 0, 1), (.invokevirtual 332, 3), (.iconst 0, 1), (.istore 4, 2), (.iload 4, 2), (.bipush 120, 2), (.if_icmp .ge 33, 3), (.aload_n 0, 1), (.getfield 42, 3), (.iload 4, 2), (.iload 4, 2), (.iload_n 2, 1), (.iload_n 3, 1), (.invokestatic 335, 3), (.ifCond .eq 7, 3), (.iconst 0, 1), (.goto 6, 3), (.ldc_w 328, 3), (.iastore, 1), (.iinc 4 1, 3), (.goto (-34), 3), (.iconst 1, 1)]
theorem ocX12_laysFar_0 : chk (cX12_laysFar.data.toList.drop 0) tcX12_laysFar_0 = true := by decide +kernel
theorem dX12_laysFar_0 : decode cX12_laysFar 0 = .ok (.aload_n 0, 1) := chk_nth ocX12_laysFar_0 (k := 0) rfl
theorem dX12_laysFar_1 : decode cX12_laysFar 1 = .ok (.iload_n 1, 1) := chk_nth ocX12_laysFar_0 (k := 1) rfl
theorem dX12_laysFar_2 : decode cX12_laysFar 2 = .ok (.iconst 0, 1) := chk_nth ocX12_laysFar_0 (k := 2) rfl
theorem dX12_laysFar_3 : decode cX12_laysFar 3 = .ok (.invokevirtual 332, 3) := chk_nth ocX12_laysFar_0 (k := 3) rfl
theorem dX12_laysFar_6 : decode cX12_laysFar 6 = .ok (.iconst 0, 1) := chk_nth ocX12_laysFar_0 (k := 4) rfl
theorem dX12_laysFar_7 : decode cX12_laysFar 7 = .ok (.istore 4, 2) := chk_nth ocX12_laysFar_0 (k := 5) rfl
theorem dX12_laysFar_9 : decode cX12_laysFar 9 = .ok (.iload 4, 2) := chk_nth ocX12_laysFar_0 (k := 6) rfl
theorem dX12_laysFar_11 : decode cX12_laysFar 11 = .ok (.bipush 120, 2) := chk_nth ocX12_laysFar_0 (k := 7) rfl
theorem dX12_laysFar_13 : decode cX12_laysFar 13 = .ok (.if_icmp .ge 33, 3) := chk_nth ocX12_laysFar_0 (k := 8) rfl
theorem dX12_laysFar_16 : decode cX12_laysFar 16 = .ok (.aload_n 0, 1) := chk_nth ocX12_laysFar_0 (k := 9) rfl
theorem dX12_laysFar_17 : decode cX12_laysFar 17 = .ok (.getfield 42, 3) := chk_nth ocX12_laysFar_0 (k := 10) rfl
theorem dX12_laysFar_20 : decode cX12_laysFar 20 = .ok (.iload 4, 2) := chk_nth ocX12_laysFar_0 (k := 11) rfl
theorem dX12_laysFar_22 : decode cX12_laysFar 22 = .ok (.iload 4, 2) := chk_nth ocX12_laysFar_0 (k := 12) rfl
theorem dX12_laysFar_24 : decode cX12_laysFar 24 = .ok (.iload_n 2, 1) := chk_nth ocX12_laysFar_0 (k := 13) rfl
theorem dX12_laysFar_25 : decode cX12_laysFar 25 = .ok (.iload_n 3, 1) := chk_nth ocX12_laysFar_0 (k := 14) rfl
theorem dX12_laysFar_26 : decode cX12_laysFar 26 = .ok (.invokestatic 335, 3) := chk_nth ocX12_laysFar_0 (k := 15) rfl
theorem dX12_laysFar_29 : decode cX12_laysFar 29 = .ok (.ifCond .eq 7, 3) := chk_nth ocX12_laysFar_0 (k := 16) rfl
theorem dX12_laysFar_32 : decode cX12_laysFar 32 = .ok (.iconst 0, 1) := chk_nth ocX12_laysFar_0 (k := 17) rfl
theorem dX12_laysFar_33 : decode cX12_laysFar 33 = .ok (.goto 6, 3) := chk_nth ocX12_laysFar_0 (k := 18) rfl
theorem dX12_laysFar_36 : decode cX12_laysFar 36 = .ok (.ldc_w 328, 3) := chk_nth ocX12_laysFar_0 (k := 19) rfl
theorem dX12_laysFar_39 : decode cX12_laysFar 39 = .ok (.iastore, 1) := chk_nth ocX12_laysFar_0 (k := 20) rfl
theorem dX12_laysFar_40 : decode cX12_laysFar 40 = .ok (.iinc 4 1, 3) := chk_nth ocX12_laysFar_0 (k := 21) rfl
theorem dX12_laysFar_43 : decode cX12_laysFar 43 = .ok (.goto (-34), 3) := chk_nth ocX12_laysFar_0 (k := 22) rfl
theorem dX12_laysFar_46 : decode cX12_laysFar 46 = .ok (.iconst 1, 1) := chk_nth ocX12_laysFar_0 (k := 23) rfl
def tcX12_laysFar_1 : List (Instr × Nat) := [(.istore 4, 2), (.iload 4, 2), (.ifCond .eq 92, 3), (.iconst 0, 1), (.istore 4, 2), (.iconst 0, 1), (.istore 5, 2), (.iload 5, 2), (.aload_n 0, 1), (.invokevirtual 329, 3), (.if_icmp .ge 74, 3), (.iconst 0, 1), (.istore 6, 2), (.iload 6, 2), (.bipush 8, 2), (.if_icmp .ge 58, 3), (.aload_n 0, 1), (.getfield 42, 3), (.iload 5, 2), (.iaload, 1), (.ifCond .le 48, 3), (.aload_n 0, 1), (.iload 5, 2), (.iload 6, 2)]
theorem ocX12_laysFar_1 : chk (cX12_laysFar.data.toList.drop 47) tcX12_laysFar_1 = true := by decide +kernel
theorem dX12_laysFar_47 : decode cX12_laysFar 47 = .ok (.istore 4, 2) := chk_nth ocX12_laysFar_1 (k := 0) rfl
theorem dX12_laysFar_49 : decode cX12_laysFar 49 = .ok (.iload 4, 2) := chk_nth ocX12_laysFar_1 (k := 1) rfl
theorem dX12_laysFar_51 : decode cX12_laysFar 51 = .ok (.ifCond .eq 92, 3) := chk_nth ocX12_laysFar_1 (k := 2) rfl
theorem dX12_laysFar_54 : decode cX12_laysFar 54 = .ok (.iconst 0, 1) := chk_nth ocX12_laysFar_1 (k := 3) rfl
theorem dX12_laysFar_55 : decode cX12_laysFar 55 = .ok (.istore 4, 2) := chk_nth ocX12_laysFar_1 (k := 4) rfl
theorem dX12_laysFar_57 : decode cX12_laysFar 57 = .ok (.iconst 0, 1) := chk_nth ocX12_laysFar_1 (k := 5) rfl
theorem dX12_laysFar_58 : decode cX12_laysFar 58 = .ok (.istore 5, 2) := chk_nth ocX12_laysFar_1 (k := 6) rfl
theorem dX12_laysFar_60 : decode cX12_laysFar 60 = .ok (.iload 5, 2) := chk_nth ocX12_laysFar_1 (k := 7) rfl
theorem dX12_laysFar_62 : decode cX12_laysFar 62 = .ok (.aload_n 0, 1) := chk_nth ocX12_laysFar_1 (k := 8) rfl
theorem dX12_laysFar_63 : decode cX12_laysFar 63 = .ok (.invokevirtual 329, 3) := chk_nth ocX12_laysFar_1 (k := 9) rfl
theorem dX12_laysFar_66 : decode cX12_laysFar 66 = .ok (.if_icmp .ge 74, 3) := chk_nth ocX12_laysFar_1 (k := 10) rfl
theorem dX12_laysFar_69 : decode cX12_laysFar 69 = .ok (.iconst 0, 1) := chk_nth ocX12_laysFar_1 (k := 11) rfl
theorem dX12_laysFar_70 : decode cX12_laysFar 70 = .ok (.istore 6, 2) := chk_nth ocX12_laysFar_1 (k := 12) rfl
theorem dX12_laysFar_72 : decode cX12_laysFar 72 = .ok (.iload 6, 2) := chk_nth ocX12_laysFar_1 (k := 13) rfl
theorem dX12_laysFar_74 : decode cX12_laysFar 74 = .ok (.bipush 8, 2) := chk_nth ocX12_laysFar_1 (k := 14) rfl
theorem dX12_laysFar_76 : decode cX12_laysFar 76 = .ok (.if_icmp .ge 58, 3) := chk_nth ocX12_laysFar_1 (k := 15) rfl
theorem dX12_laysFar_79 : decode cX12_laysFar 79 = .ok (.aload_n 0, 1) := chk_nth ocX12_laysFar_1 (k := 16) rfl
theorem dX12_laysFar_80 : decode cX12_laysFar 80 = .ok (.getfield 42, 3) := chk_nth ocX12_laysFar_1 (k := 17) rfl
theorem dX12_laysFar_83 : decode cX12_laysFar 83 = .ok (.iload 5, 2) := chk_nth ocX12_laysFar_1 (k := 18) rfl
theorem dX12_laysFar_85 : decode cX12_laysFar 85 = .ok (.iaload, 1) := chk_nth ocX12_laysFar_1 (k := 19) rfl
theorem dX12_laysFar_86 : decode cX12_laysFar 86 = .ok (.ifCond .le 48, 3) := chk_nth ocX12_laysFar_1 (k := 20) rfl
theorem dX12_laysFar_89 : decode cX12_laysFar 89 = .ok (.aload_n 0, 1) := chk_nth ocX12_laysFar_1 (k := 21) rfl
theorem dX12_laysFar_90 : decode cX12_laysFar 90 = .ok (.iload 5, 2) := chk_nth ocX12_laysFar_1 (k := 22) rfl
theorem dX12_laysFar_92 : decode cX12_laysFar 92 = .ok (.iload 6, 2) := chk_nth ocX12_laysFar_1 (k := 23) rfl
def tcX12_laysFar_2 : List (Instr × Nat) := [(.invokevirtual 339, 3), (.aload_n 0, 1), (.getfield 42, 3), (.iload 5, 2), (.iaload, 1), (.if_icmp .lt 6, 3), (.goto 21, 3), (.aload_n 0, 1), (.getfield 42, 3), (.iload 5, 2), (.aload_n 0, 1), (.iload 5, 2), (.iload 6, 2), (.invokevirtual 339, 3), (.iastore, 1), (.iconst 1, 1), (.istore 4, 2), (.iinc 6 1, 3), (.goto (-59), 3), (.iinc 5 1, 3), (.goto (-77), 3), (.goto (-91), 3), (.aload_n 0, 1), (.getfield 42, 3)]
theorem ocX12_laysFar_2 : chk (cX12_laysFar.data.toList.drop 94) tcX12_laysFar_2 = true := by decide +kernel
theorem dX12_laysFar_94 : decode cX12_laysFar 94 = .ok (.invokevirtual 339, 3) := chk_nth ocX12_laysFar_2 (k := 0) rfl
theorem dX12_laysFar_97 : decode cX12_laysFar 97 = .ok (.aload_n 0, 1) := chk_nth ocX12_laysFar_2 (k := 1) rfl
theorem dX12_laysFar_98 : decode cX12_laysFar 98 = .ok (.getfield 42, 3) := chk_nth ocX12_laysFar_2 (k := 2) rfl
theorem dX12_laysFar_101 : decode cX12_laysFar 101 = .ok (.iload 5, 2) := chk_nth ocX12_laysFar_2 (k := 3) rfl
theorem dX12_laysFar_103 : decode cX12_laysFar 103 = .ok (.iaload, 1) := chk_nth ocX12_laysFar_2 (k := 4) rfl
theorem dX12_laysFar_104 : decode cX12_laysFar 104 = .ok (.if_icmp .lt 6, 3) := chk_nth ocX12_laysFar_2 (k := 5) rfl
theorem dX12_laysFar_107 : decode cX12_laysFar 107 = .ok (.goto 21, 3) := chk_nth ocX12_laysFar_2 (k := 6) rfl
theorem dX12_laysFar_110 : decode cX12_laysFar 110 = .ok (.aload_n 0, 1) := chk_nth ocX12_laysFar_2 (k := 7) rfl
theorem dX12_laysFar_111 : decode cX12_laysFar 111 = .ok (.getfield 42, 3) := chk_nth ocX12_laysFar_2 (k := 8) rfl
theorem dX12_laysFar_114 : decode cX12_laysFar 114 = .ok (.iload 5, 2) := chk_nth ocX12_laysFar_2 (k := 9) rfl
theorem dX12_laysFar_116 : decode cX12_laysFar 116 = .ok (.aload_n 0, 1) := chk_nth ocX12_laysFar_2 (k := 10) rfl
theorem dX12_laysFar_117 : decode cX12_laysFar 117 = .ok (.iload 5, 2) := chk_nth ocX12_laysFar_2 (k := 11) rfl
theorem dX12_laysFar_119 : decode cX12_laysFar 119 = .ok (.iload 6, 2) := chk_nth ocX12_laysFar_2 (k := 12) rfl
theorem dX12_laysFar_121 : decode cX12_laysFar 121 = .ok (.invokevirtual 339, 3) := chk_nth ocX12_laysFar_2 (k := 13) rfl
theorem dX12_laysFar_124 : decode cX12_laysFar 124 = .ok (.iastore, 1) := chk_nth ocX12_laysFar_2 (k := 14) rfl
theorem dX12_laysFar_125 : decode cX12_laysFar 125 = .ok (.iconst 1, 1) := chk_nth ocX12_laysFar_2 (k := 15) rfl
theorem dX12_laysFar_126 : decode cX12_laysFar 126 = .ok (.istore 4, 2) := chk_nth ocX12_laysFar_2 (k := 16) rfl
theorem dX12_laysFar_128 : decode cX12_laysFar 128 = .ok (.iinc 6 1, 3) := chk_nth ocX12_laysFar_2 (k := 17) rfl
theorem dX12_laysFar_131 : decode cX12_laysFar 131 = .ok (.goto (-59), 3) := chk_nth ocX12_laysFar_2 (k := 18) rfl
theorem dX12_laysFar_134 : decode cX12_laysFar 134 = .ok (.iinc 5 1, 3) := chk_nth ocX12_laysFar_2 (k := 19) rfl
theorem dX12_laysFar_137 : decode cX12_laysFar 137 = .ok (.goto (-77), 3) := chk_nth ocX12_laysFar_2 (k := 20) rfl
theorem dX12_laysFar_140 : decode cX12_laysFar 140 = .ok (.goto (-91), 3) := chk_nth ocX12_laysFar_2 (k := 21) rfl
theorem dX12_laysFar_143 : decode cX12_laysFar 143 = .ok (.aload_n 0, 1) := chk_nth ocX12_laysFar_2 (k := 22) rfl
theorem dX12_laysFar_144 : decode cX12_laysFar 144 = .ok (.getfield 42, 3) := chk_nth ocX12_laysFar_2 (k := 23) rfl
def tcX12_laysFar_3 : List (Instr × Nat) := [(.aload_n 0, 1), (.iload_n 1, 1), (.invokevirtual 239, 3), (.iaload, 1), (.ireturn, 1)]
theorem ocX12_laysFar_3 : chk (cX12_laysFar.data.toList.drop 147) tcX12_laysFar_3 = true := by decide +kernel
theorem dX12_laysFar_147 : decode cX12_laysFar 147 = .ok (.aload_n 0, 1) := chk_nth ocX12_laysFar_3 (k := 0) rfl
theorem dX12_laysFar_148 : decode cX12_laysFar 148 = .ok (.iload_n 1, 1) := chk_nth ocX12_laysFar_3 (k := 1) rfl
theorem dX12_laysFar_149 : decode cX12_laysFar 149 = .ok (.invokevirtual 239, 3) := chk_nth ocX12_laysFar_3 (k := 2) rfl
theorem dX12_laysFar_152 : decode cX12_laysFar 152 = .ok (.iaload, 1) := chk_nth ocX12_laysFar_3 (k := 3) rfl
theorem dX12_laysFar_153 : decode cX12_laysFar 153 = .ok (.ireturn, 1) := chk_nth ocX12_laysFar_3 (k := 4) rfl
def tcX12_toldFar_0 : List (Instr × Nat) := [(.iload_n 0, 1), (.ldc_w 328, 3), (.if_icmp .ne 7, 3), (.iconst (-1), 1), (.goto 4, 3), (.iload_n 0, 1), (.ireturn, 1)]
theorem ocX12_toldFar_0 : chk (cX12_toldFar.data.toList.drop 0) tcX12_toldFar_0 = true := by decide +kernel
theorem dX12_toldFar_0 : decode cX12_toldFar 0 = .ok (.iload_n 0, 1) := chk_nth ocX12_toldFar_0 (k := 0) rfl
theorem dX12_toldFar_1 : decode cX12_toldFar 1 = .ok (.ldc_w 328, 3) := chk_nth ocX12_toldFar_0 (k := 1) rfl
theorem dX12_toldFar_4 : decode cX12_toldFar 4 = .ok (.if_icmp .ne 7, 3) := chk_nth ocX12_toldFar_0 (k := 2) rfl
theorem dX12_toldFar_7 : decode cX12_toldFar 7 = .ok (.iconst (-1), 1) := chk_nth ocX12_toldFar_0 (k := 3) rfl
theorem dX12_toldFar_8 : decode cX12_toldFar 8 = .ok (.goto 4, 3) := chk_nth ocX12_toldFar_0 (k := 4) rfl
theorem dX12_toldFar_11 : decode cX12_toldFar 11 = .ok (.iload_n 0, 1) := chk_nth ocX12_toldFar_0 (k := 5) rfl
theorem dX12_toldFar_12 : decode cX12_toldFar 12 = .ok (.ireturn, 1) := chk_nth ocX12_toldFar_0 (k := 6) rfl
def tcX12_noComing_0 : List (Instr × Nat) := [(.aload_n 0, 1), (.iload_n 1, 1), (.i2l, 1), (.invokevirtual 233, 3), (.ifCond .eq 12, 3), (.aload_n 0, 1), (.iload_n 2, 1), (.i2l, 1), (.invokevirtual 268, 3), (.ifCond .ne 8, 3), (.bipush (-2), 2), (.goto 22, 3), (.iload_n 3, 1), (.iconst (-1), 1), (.if_icmp .eq 11, 3), (.iload_n 3, 1), (.i2l, 1), (.invokestatic 229, 3), (.ifCond .eq 7, 3), (.iconst 0, 1), (.goto 5, 3), (.bipush (-3), 2), (.ireturn, 1)]
theorem ocX12_noComing_0 : chk (cX12_noComing.data.toList.drop 0) tcX12_noComing_0 = true := by decide +kernel
theorem dX12_noComing_0 : decode cX12_noComing 0 = .ok (.aload_n 0, 1) := chk_nth ocX12_noComing_0 (k := 0) rfl
theorem dX12_noComing_1 : decode cX12_noComing 1 = .ok (.iload_n 1, 1) := chk_nth ocX12_noComing_0 (k := 1) rfl
theorem dX12_noComing_2 : decode cX12_noComing 2 = .ok (.i2l, 1) := chk_nth ocX12_noComing_0 (k := 2) rfl
theorem dX12_noComing_3 : decode cX12_noComing 3 = .ok (.invokevirtual 233, 3) := chk_nth ocX12_noComing_0 (k := 3) rfl
theorem dX12_noComing_6 : decode cX12_noComing 6 = .ok (.ifCond .eq 12, 3) := chk_nth ocX12_noComing_0 (k := 4) rfl
theorem dX12_noComing_9 : decode cX12_noComing 9 = .ok (.aload_n 0, 1) := chk_nth ocX12_noComing_0 (k := 5) rfl
theorem dX12_noComing_10 : decode cX12_noComing 10 = .ok (.iload_n 2, 1) := chk_nth ocX12_noComing_0 (k := 6) rfl
theorem dX12_noComing_11 : decode cX12_noComing 11 = .ok (.i2l, 1) := chk_nth ocX12_noComing_0 (k := 7) rfl
theorem dX12_noComing_12 : decode cX12_noComing 12 = .ok (.invokevirtual 268, 3) := chk_nth ocX12_noComing_0 (k := 8) rfl
theorem dX12_noComing_15 : decode cX12_noComing 15 = .ok (.ifCond .ne 8, 3) := chk_nth ocX12_noComing_0 (k := 9) rfl
theorem dX12_noComing_18 : decode cX12_noComing 18 = .ok (.bipush (-2), 2) := chk_nth ocX12_noComing_0 (k := 10) rfl
theorem dX12_noComing_20 : decode cX12_noComing 20 = .ok (.goto 22, 3) := chk_nth ocX12_noComing_0 (k := 11) rfl
theorem dX12_noComing_23 : decode cX12_noComing 23 = .ok (.iload_n 3, 1) := chk_nth ocX12_noComing_0 (k := 12) rfl
theorem dX12_noComing_24 : decode cX12_noComing 24 = .ok (.iconst (-1), 1) := chk_nth ocX12_noComing_0 (k := 13) rfl
theorem dX12_noComing_25 : decode cX12_noComing 25 = .ok (.if_icmp .eq 11, 3) := chk_nth ocX12_noComing_0 (k := 14) rfl
theorem dX12_noComing_28 : decode cX12_noComing 28 = .ok (.iload_n 3, 1) := chk_nth ocX12_noComing_0 (k := 15) rfl
theorem dX12_noComing_29 : decode cX12_noComing 29 = .ok (.i2l, 1) := chk_nth ocX12_noComing_0 (k := 16) rfl
theorem dX12_noComing_30 : decode cX12_noComing 30 = .ok (.invokestatic 229, 3) := chk_nth ocX12_noComing_0 (k := 17) rfl
theorem dX12_noComing_33 : decode cX12_noComing 33 = .ok (.ifCond .eq 7, 3) := chk_nth ocX12_noComing_0 (k := 18) rfl
theorem dX12_noComing_36 : decode cX12_noComing 36 = .ok (.iconst 0, 1) := chk_nth ocX12_noComing_0 (k := 19) rfl
theorem dX12_noComing_37 : decode cX12_noComing 37 = .ok (.goto 5, 3) := chk_nth ocX12_noComing_0 (k := 20) rfl
theorem dX12_noComing_40 : decode cX12_noComing 40 = .ok (.bipush (-3), 2) := chk_nth ocX12_noComing_0 (k := 21) rfl
theorem dX12_noComing_42 : decode cX12_noComing 42 = .ok (.ireturn, 1) := chk_nth ocX12_noComing_0 (k := 22) rfl
def tcX12_streetAt_0 : List (Instr × Nat) := [(.aload_n 0, 1), (.iload_n 1, 1), (.invokevirtual 239, 3), (.istore_n 3, 1), (.iconst 0, 1), (.istore 4, 2), (.aload_n 0, 1), (.getfield 42, 3), (.iload_n 3, 1), (.iaload, 1), (.ifCond .le 68, 3), (.aload_n 0, 1), (.getfield 42, 3), (.iload_n 3, 1), (.iaload, 1), (.ldc_w 328, 3), (.if_icmp .ge 56, 3), (.iconst 0, 1), (.istore 5, 2), (.aload_n 0, 1), (.iload_n 3, 1), (.iload 5, 2), (.invokevirtual 339, 3), (.aload_n 0, 1)]
theorem ocX12_streetAt_0 : chk (cX12_streetAt.data.toList.drop 0) tcX12_streetAt_0 = true := by decide +kernel
theorem dX12_streetAt_0 : decode cX12_streetAt 0 = .ok (.aload_n 0, 1) := chk_nth ocX12_streetAt_0 (k := 0) rfl
theorem dX12_streetAt_1 : decode cX12_streetAt 1 = .ok (.iload_n 1, 1) := chk_nth ocX12_streetAt_0 (k := 1) rfl
theorem dX12_streetAt_2 : decode cX12_streetAt 2 = .ok (.invokevirtual 239, 3) := chk_nth ocX12_streetAt_0 (k := 2) rfl
theorem dX12_streetAt_5 : decode cX12_streetAt 5 = .ok (.istore_n 3, 1) := chk_nth ocX12_streetAt_0 (k := 3) rfl
theorem dX12_streetAt_6 : decode cX12_streetAt 6 = .ok (.iconst 0, 1) := chk_nth ocX12_streetAt_0 (k := 4) rfl
theorem dX12_streetAt_7 : decode cX12_streetAt 7 = .ok (.istore 4, 2) := chk_nth ocX12_streetAt_0 (k := 5) rfl
theorem dX12_streetAt_9 : decode cX12_streetAt 9 = .ok (.aload_n 0, 1) := chk_nth ocX12_streetAt_0 (k := 6) rfl
theorem dX12_streetAt_10 : decode cX12_streetAt 10 = .ok (.getfield 42, 3) := chk_nth ocX12_streetAt_0 (k := 7) rfl
theorem dX12_streetAt_13 : decode cX12_streetAt 13 = .ok (.iload_n 3, 1) := chk_nth ocX12_streetAt_0 (k := 8) rfl
theorem dX12_streetAt_14 : decode cX12_streetAt 14 = .ok (.iaload, 1) := chk_nth ocX12_streetAt_0 (k := 9) rfl
theorem dX12_streetAt_15 : decode cX12_streetAt 15 = .ok (.ifCond .le 68, 3) := chk_nth ocX12_streetAt_0 (k := 10) rfl
theorem dX12_streetAt_18 : decode cX12_streetAt 18 = .ok (.aload_n 0, 1) := chk_nth ocX12_streetAt_0 (k := 11) rfl
theorem dX12_streetAt_19 : decode cX12_streetAt 19 = .ok (.getfield 42, 3) := chk_nth ocX12_streetAt_0 (k := 12) rfl
theorem dX12_streetAt_22 : decode cX12_streetAt 22 = .ok (.iload_n 3, 1) := chk_nth ocX12_streetAt_0 (k := 13) rfl
theorem dX12_streetAt_23 : decode cX12_streetAt 23 = .ok (.iaload, 1) := chk_nth ocX12_streetAt_0 (k := 14) rfl
theorem dX12_streetAt_24 : decode cX12_streetAt 24 = .ok (.ldc_w 328, 3) := chk_nth ocX12_streetAt_0 (k := 15) rfl
theorem dX12_streetAt_27 : decode cX12_streetAt 27 = .ok (.if_icmp .ge 56, 3) := chk_nth ocX12_streetAt_0 (k := 16) rfl
theorem dX12_streetAt_30 : decode cX12_streetAt 30 = .ok (.iconst 0, 1) := chk_nth ocX12_streetAt_0 (k := 17) rfl
theorem dX12_streetAt_31 : decode cX12_streetAt 31 = .ok (.istore 5, 2) := chk_nth ocX12_streetAt_0 (k := 18) rfl
theorem dX12_streetAt_33 : decode cX12_streetAt 33 = .ok (.aload_n 0, 1) := chk_nth ocX12_streetAt_0 (k := 19) rfl
theorem dX12_streetAt_34 : decode cX12_streetAt 34 = .ok (.iload_n 3, 1) := chk_nth ocX12_streetAt_0 (k := 20) rfl
theorem dX12_streetAt_35 : decode cX12_streetAt 35 = .ok (.iload 5, 2) := chk_nth ocX12_streetAt_0 (k := 21) rfl
theorem dX12_streetAt_37 : decode cX12_streetAt 37 = .ok (.invokevirtual 339, 3) := chk_nth ocX12_streetAt_0 (k := 22) rfl
theorem dX12_streetAt_40 : decode cX12_streetAt 40 = .ok (.aload_n 0, 1) := chk_nth ocX12_streetAt_0 (k := 23) rfl
def tcX12_streetAt_1 : List (Instr × Nat) := [(.getfield 42, 3), (.iload_n 3, 1), (.iaload, 1), (.if_icmp .eq 9, 3), (.iinc 5 1, 3), (.goto (-19), 3), (.iload 4, 2), (.iload_n 2, 1), (.if_icmp .ne 6, 3), (.iload 5, 2), (.ireturn, 1), (.aload_n 0, 1), (.getfield 39, 3), (.bipush 8, 2), (.iload_n 3, 1), (.imul, 1), (.iload 5, 2), (.iadd, 1), (.iaload, 1), (.istore_n 3, 1), (.iinc 4 1, 3), (.goto (-71), 3), (.iconst (-1), 1), (.ireturn, 1)]
theorem ocX12_streetAt_1 : chk (cX12_streetAt.data.toList.drop 41) tcX12_streetAt_1 = true := by decide +kernel
theorem dX12_streetAt_41 : decode cX12_streetAt 41 = .ok (.getfield 42, 3) := chk_nth ocX12_streetAt_1 (k := 0) rfl
theorem dX12_streetAt_44 : decode cX12_streetAt 44 = .ok (.iload_n 3, 1) := chk_nth ocX12_streetAt_1 (k := 1) rfl
theorem dX12_streetAt_45 : decode cX12_streetAt 45 = .ok (.iaload, 1) := chk_nth ocX12_streetAt_1 (k := 2) rfl
theorem dX12_streetAt_46 : decode cX12_streetAt 46 = .ok (.if_icmp .eq 9, 3) := chk_nth ocX12_streetAt_1 (k := 3) rfl
theorem dX12_streetAt_49 : decode cX12_streetAt 49 = .ok (.iinc 5 1, 3) := chk_nth ocX12_streetAt_1 (k := 4) rfl
theorem dX12_streetAt_52 : decode cX12_streetAt 52 = .ok (.goto (-19), 3) := chk_nth ocX12_streetAt_1 (k := 5) rfl
theorem dX12_streetAt_55 : decode cX12_streetAt 55 = .ok (.iload 4, 2) := chk_nth ocX12_streetAt_1 (k := 6) rfl
theorem dX12_streetAt_57 : decode cX12_streetAt 57 = .ok (.iload_n 2, 1) := chk_nth ocX12_streetAt_1 (k := 7) rfl
theorem dX12_streetAt_58 : decode cX12_streetAt 58 = .ok (.if_icmp .ne 6, 3) := chk_nth ocX12_streetAt_1 (k := 8) rfl
theorem dX12_streetAt_61 : decode cX12_streetAt 61 = .ok (.iload 5, 2) := chk_nth ocX12_streetAt_1 (k := 9) rfl
theorem dX12_streetAt_63 : decode cX12_streetAt 63 = .ok (.ireturn, 1) := chk_nth ocX12_streetAt_1 (k := 10) rfl
theorem dX12_streetAt_64 : decode cX12_streetAt 64 = .ok (.aload_n 0, 1) := chk_nth ocX12_streetAt_1 (k := 11) rfl
theorem dX12_streetAt_65 : decode cX12_streetAt 65 = .ok (.getfield 39, 3) := chk_nth ocX12_streetAt_1 (k := 12) rfl
theorem dX12_streetAt_68 : decode cX12_streetAt 68 = .ok (.bipush 8, 2) := chk_nth ocX12_streetAt_1 (k := 13) rfl
theorem dX12_streetAt_70 : decode cX12_streetAt 70 = .ok (.iload_n 3, 1) := chk_nth ocX12_streetAt_1 (k := 14) rfl
theorem dX12_streetAt_71 : decode cX12_streetAt 71 = .ok (.imul, 1) := chk_nth ocX12_streetAt_1 (k := 15) rfl
theorem dX12_streetAt_72 : decode cX12_streetAt 72 = .ok (.iload 5, 2) := chk_nth ocX12_streetAt_1 (k := 16) rfl
theorem dX12_streetAt_74 : decode cX12_streetAt 74 = .ok (.iadd, 1) := chk_nth ocX12_streetAt_1 (k := 17) rfl
theorem dX12_streetAt_75 : decode cX12_streetAt 75 = .ok (.iaload, 1) := chk_nth ocX12_streetAt_1 (k := 18) rfl
theorem dX12_streetAt_76 : decode cX12_streetAt 76 = .ok (.istore_n 3, 1) := chk_nth ocX12_streetAt_1 (k := 19) rfl
theorem dX12_streetAt_77 : decode cX12_streetAt 77 = .ok (.iinc 4 1, 3) := chk_nth ocX12_streetAt_1 (k := 20) rfl
theorem dX12_streetAt_80 : decode cX12_streetAt 80 = .ok (.goto (-71), 3) := chk_nth ocX12_streetAt_1 (k := 21) rfl
theorem dX12_streetAt_83 : decode cX12_streetAt 83 = .ok (.iconst (-1), 1) := chk_nth ocX12_streetAt_1 (k := 22) rfl
theorem dX12_streetAt_84 : decode cX12_streetAt 84 = .ok (.ireturn, 1) := chk_nth ocX12_streetAt_1 (k := 23) rfl
def tcX12_soonest_0 : List (Instr × Nat) := [(.aload_n 0, 1), (.iconst 0, 1), (.putfield 1, 3), (.aload_n 0, 1), (.iload_n 1, 1), (.iload_n 2, 1), (.iload_n 3, 1), (.invokevirtual 342, 3), (.istore 4, 2), (.iload 4, 2), (.ifCond .eq 8, 3), (.iload 4, 2), (.goto 13, 3), (.aload_n 0, 1), (.iload_n 1, 1), (.iload_n 2, 1), (.iload_n 3, 1), (.invokevirtual 345, 3), (.invokestatic 348, 3), (.ireturn, 1)]
theorem ocX12_soonest_0 : chk (cX12_soonest.data.toList.drop 0) tcX12_soonest_0 = true := by decide +kernel
theorem dX12_soonest_0 : decode cX12_soonest 0 = .ok (.aload_n 0, 1) := chk_nth ocX12_soonest_0 (k := 0) rfl
theorem dX12_soonest_1 : decode cX12_soonest 1 = .ok (.iconst 0, 1) := chk_nth ocX12_soonest_0 (k := 1) rfl
theorem dX12_soonest_2 : decode cX12_soonest 2 = .ok (.putfield 1, 3) := chk_nth ocX12_soonest_0 (k := 2) rfl
theorem dX12_soonest_5 : decode cX12_soonest 5 = .ok (.aload_n 0, 1) := chk_nth ocX12_soonest_0 (k := 3) rfl
theorem dX12_soonest_6 : decode cX12_soonest 6 = .ok (.iload_n 1, 1) := chk_nth ocX12_soonest_0 (k := 4) rfl
theorem dX12_soonest_7 : decode cX12_soonest 7 = .ok (.iload_n 2, 1) := chk_nth ocX12_soonest_0 (k := 5) rfl
theorem dX12_soonest_8 : decode cX12_soonest 8 = .ok (.iload_n 3, 1) := chk_nth ocX12_soonest_0 (k := 6) rfl
theorem dX12_soonest_9 : decode cX12_soonest 9 = .ok (.invokevirtual 342, 3) := chk_nth ocX12_soonest_0 (k := 7) rfl
theorem dX12_soonest_12 : decode cX12_soonest 12 = .ok (.istore 4, 2) := chk_nth ocX12_soonest_0 (k := 8) rfl
theorem dX12_soonest_14 : decode cX12_soonest 14 = .ok (.iload 4, 2) := chk_nth ocX12_soonest_0 (k := 9) rfl
theorem dX12_soonest_16 : decode cX12_soonest 16 = .ok (.ifCond .eq 8, 3) := chk_nth ocX12_soonest_0 (k := 10) rfl
theorem dX12_soonest_19 : decode cX12_soonest 19 = .ok (.iload 4, 2) := chk_nth ocX12_soonest_0 (k := 11) rfl
theorem dX12_soonest_21 : decode cX12_soonest 21 = .ok (.goto 13, 3) := chk_nth ocX12_soonest_0 (k := 12) rfl
theorem dX12_soonest_24 : decode cX12_soonest 24 = .ok (.aload_n 0, 1) := chk_nth ocX12_soonest_0 (k := 13) rfl
theorem dX12_soonest_25 : decode cX12_soonest 25 = .ok (.iload_n 1, 1) := chk_nth ocX12_soonest_0 (k := 14) rfl
theorem dX12_soonest_26 : decode cX12_soonest 26 = .ok (.iload_n 2, 1) := chk_nth ocX12_soonest_0 (k := 15) rfl
theorem dX12_soonest_27 : decode cX12_soonest 27 = .ok (.iload_n 3, 1) := chk_nth ocX12_soonest_0 (k := 16) rfl
theorem dX12_soonest_28 : decode cX12_soonest 28 = .ok (.invokevirtual 345, 3) := chk_nth ocX12_soonest_0 (k := 17) rfl
theorem dX12_soonest_31 : decode cX12_soonest 31 = .ok (.invokestatic 348, 3) := chk_nth ocX12_soonest_0 (k := 18) rfl
theorem dX12_soonest_34 : decode cX12_soonest 34 = .ok (.ireturn, 1) := chk_nth ocX12_soonest_0 (k := 19) rfl
def tcX12_way_0 : List (Instr × Nat) := [(.aload_n 0, 1), (.iconst 0, 1), (.putfield 1, 3), (.aload_n 0, 1), (.iload_n 1, 1), (.iload_n 2, 1), (.iload_n 3, 1), (.invokevirtual 342, 3), (.istore 5, 2), (.iload 5, 2), (.ifCond .eq 6, 3), (.iload 5, 2), (.ireturn, 1), (.iload 4, 2), (.ifCond .ge 6, 3), (.bipush (-3), 2), (.ireturn, 1), (.aload_n 0, 1), (.iload_n 1, 1), (.iload_n 2, 1), (.iload_n 3, 1), (.invokevirtual 345, 3), (.pop, 1), (.aload_n 0, 1)]
theorem ocX12_way_0 : chk (cX12_way.data.toList.drop 0) tcX12_way_0 = true := by decide +kernel
theorem dX12_way_0 : decode cX12_way 0 = .ok (.aload_n 0, 1) := chk_nth ocX12_way_0 (k := 0) rfl
theorem dX12_way_1 : decode cX12_way 1 = .ok (.iconst 0, 1) := chk_nth ocX12_way_0 (k := 1) rfl
theorem dX12_way_2 : decode cX12_way 2 = .ok (.putfield 1, 3) := chk_nth ocX12_way_0 (k := 2) rfl
theorem dX12_way_5 : decode cX12_way 5 = .ok (.aload_n 0, 1) := chk_nth ocX12_way_0 (k := 3) rfl
theorem dX12_way_6 : decode cX12_way 6 = .ok (.iload_n 1, 1) := chk_nth ocX12_way_0 (k := 4) rfl
theorem dX12_way_7 : decode cX12_way 7 = .ok (.iload_n 2, 1) := chk_nth ocX12_way_0 (k := 5) rfl
theorem dX12_way_8 : decode cX12_way 8 = .ok (.iload_n 3, 1) := chk_nth ocX12_way_0 (k := 6) rfl
theorem dX12_way_9 : decode cX12_way 9 = .ok (.invokevirtual 342, 3) := chk_nth ocX12_way_0 (k := 7) rfl
theorem dX12_way_12 : decode cX12_way 12 = .ok (.istore 5, 2) := chk_nth ocX12_way_0 (k := 8) rfl
theorem dX12_way_14 : decode cX12_way 14 = .ok (.iload 5, 2) := chk_nth ocX12_way_0 (k := 9) rfl
theorem dX12_way_16 : decode cX12_way 16 = .ok (.ifCond .eq 6, 3) := chk_nth ocX12_way_0 (k := 10) rfl
theorem dX12_way_19 : decode cX12_way 19 = .ok (.iload 5, 2) := chk_nth ocX12_way_0 (k := 11) rfl
theorem dX12_way_21 : decode cX12_way 21 = .ok (.ireturn, 1) := chk_nth ocX12_way_0 (k := 12) rfl
theorem dX12_way_22 : decode cX12_way 22 = .ok (.iload 4, 2) := chk_nth ocX12_way_0 (k := 13) rfl
theorem dX12_way_24 : decode cX12_way 24 = .ok (.ifCond .ge 6, 3) := chk_nth ocX12_way_0 (k := 14) rfl
theorem dX12_way_27 : decode cX12_way 27 = .ok (.bipush (-3), 2) := chk_nth ocX12_way_0 (k := 15) rfl
theorem dX12_way_29 : decode cX12_way 29 = .ok (.ireturn, 1) := chk_nth ocX12_way_0 (k := 16) rfl
theorem dX12_way_30 : decode cX12_way 30 = .ok (.aload_n 0, 1) := chk_nth ocX12_way_0 (k := 17) rfl
theorem dX12_way_31 : decode cX12_way 31 = .ok (.iload_n 1, 1) := chk_nth ocX12_way_0 (k := 18) rfl
theorem dX12_way_32 : decode cX12_way 32 = .ok (.iload_n 2, 1) := chk_nth ocX12_way_0 (k := 19) rfl
theorem dX12_way_33 : decode cX12_way 33 = .ok (.iload_n 3, 1) := chk_nth ocX12_way_0 (k := 20) rfl
theorem dX12_way_34 : decode cX12_way 34 = .ok (.invokevirtual 345, 3) := chk_nth ocX12_way_0 (k := 21) rfl
theorem dX12_way_37 : decode cX12_way 37 = .ok (.pop, 1) := chk_nth ocX12_way_0 (k := 22) rfl
theorem dX12_way_38 : decode cX12_way 38 = .ok (.aload_n 0, 1) := chk_nth ocX12_way_0 (k := 23) rfl
def tcX12_way_1 : List (Instr × Nat) := [(.iload_n 1, 1), (.iload 4, 2), (.invokevirtual 351, 3), (.ireturn, 1)]
theorem ocX12_way_1 : chk (cX12_way.data.toList.drop 39) tcX12_way_1 = true := by decide +kernel
theorem dX12_way_39 : decode cX12_way 39 = .ok (.iload_n 1, 1) := chk_nth ocX12_way_1 (k := 0) rfl
theorem dX12_way_40 : decode cX12_way 40 = .ok (.iload 4, 2) := chk_nth ocX12_way_1 (k := 1) rfl
theorem dX12_way_42 : decode cX12_way 42 = .ok (.invokevirtual 351, 3) := chk_nth ocX12_way_1 (k := 2) rfl
theorem dX12_way_45 : decode cX12_way 45 = .ok (.ireturn, 1) := chk_nth ocX12_way_1 (k := 3) rfl
def tcX12_beginsMany_0 : List (Instr × Nat) := [(.aload_n 0, 1), (.iload_n 1, 1), (.iconst 0, 1), (.invokevirtual 332, 3), (.iconst 0, 1), (.istore_n 2, 1), (.iload_n 2, 1), (.bipush 120, 2), (.if_icmp .ge 36, 3), (.aload_n 0, 1), (.getfield 51, 3), (.iload_n 2, 1), (.iload_n 2, 1), (.aload_n 0, 1), (.iload_n 1, 1), (.invokevirtual 239, 3), (.if_icmp .ne 7, 3), (.lconst 1, 1), (.goto 4, 3), (.lconst 0, 1), (.lastore, 1), (.aload_n 0, 1), (.getfield 55, 3), (.iload_n 2, 1)]
theorem ocX12_beginsMany_0 : chk (cX12_beginsMany.data.toList.drop 0) tcX12_beginsMany_0 = true := by decide +kernel
theorem dX12_beginsMany_0 : decode cX12_beginsMany 0 = .ok (.aload_n 0, 1) := chk_nth ocX12_beginsMany_0 (k := 0) rfl
theorem dX12_beginsMany_1 : decode cX12_beginsMany 1 = .ok (.iload_n 1, 1) := chk_nth ocX12_beginsMany_0 (k := 1) rfl
theorem dX12_beginsMany_2 : decode cX12_beginsMany 2 = .ok (.iconst 0, 1) := chk_nth ocX12_beginsMany_0 (k := 2) rfl
theorem dX12_beginsMany_3 : decode cX12_beginsMany 3 = .ok (.invokevirtual 332, 3) := chk_nth ocX12_beginsMany_0 (k := 3) rfl
theorem dX12_beginsMany_6 : decode cX12_beginsMany 6 = .ok (.iconst 0, 1) := chk_nth ocX12_beginsMany_0 (k := 4) rfl
theorem dX12_beginsMany_7 : decode cX12_beginsMany 7 = .ok (.istore_n 2, 1) := chk_nth ocX12_beginsMany_0 (k := 5) rfl
theorem dX12_beginsMany_8 : decode cX12_beginsMany 8 = .ok (.iload_n 2, 1) := chk_nth ocX12_beginsMany_0 (k := 6) rfl
theorem dX12_beginsMany_9 : decode cX12_beginsMany 9 = .ok (.bipush 120, 2) := chk_nth ocX12_beginsMany_0 (k := 7) rfl
theorem dX12_beginsMany_11 : decode cX12_beginsMany 11 = .ok (.if_icmp .ge 36, 3) := chk_nth ocX12_beginsMany_0 (k := 8) rfl
theorem dX12_beginsMany_14 : decode cX12_beginsMany 14 = .ok (.aload_n 0, 1) := chk_nth ocX12_beginsMany_0 (k := 9) rfl
theorem dX12_beginsMany_15 : decode cX12_beginsMany 15 = .ok (.getfield 51, 3) := chk_nth ocX12_beginsMany_0 (k := 10) rfl
theorem dX12_beginsMany_18 : decode cX12_beginsMany 18 = .ok (.iload_n 2, 1) := chk_nth ocX12_beginsMany_0 (k := 11) rfl
theorem dX12_beginsMany_19 : decode cX12_beginsMany 19 = .ok (.iload_n 2, 1) := chk_nth ocX12_beginsMany_0 (k := 12) rfl
theorem dX12_beginsMany_20 : decode cX12_beginsMany 20 = .ok (.aload_n 0, 1) := chk_nth ocX12_beginsMany_0 (k := 13) rfl
theorem dX12_beginsMany_21 : decode cX12_beginsMany 21 = .ok (.iload_n 1, 1) := chk_nth ocX12_beginsMany_0 (k := 14) rfl
theorem dX12_beginsMany_22 : decode cX12_beginsMany 22 = .ok (.invokevirtual 239, 3) := chk_nth ocX12_beginsMany_0 (k := 15) rfl
theorem dX12_beginsMany_25 : decode cX12_beginsMany 25 = .ok (.if_icmp .ne 7, 3) := chk_nth ocX12_beginsMany_0 (k := 16) rfl
theorem dX12_beginsMany_28 : decode cX12_beginsMany 28 = .ok (.lconst 1, 1) := chk_nth ocX12_beginsMany_0 (k := 17) rfl
theorem dX12_beginsMany_29 : decode cX12_beginsMany 29 = .ok (.goto 4, 3) := chk_nth ocX12_beginsMany_0 (k := 18) rfl
theorem dX12_beginsMany_32 : decode cX12_beginsMany 32 = .ok (.lconst 0, 1) := chk_nth ocX12_beginsMany_0 (k := 19) rfl
theorem dX12_beginsMany_33 : decode cX12_beginsMany 33 = .ok (.lastore, 1) := chk_nth ocX12_beginsMany_0 (k := 20) rfl
theorem dX12_beginsMany_34 : decode cX12_beginsMany 34 = .ok (.aload_n 0, 1) := chk_nth ocX12_beginsMany_0 (k := 21) rfl
theorem dX12_beginsMany_35 : decode cX12_beginsMany 35 = .ok (.getfield 55, 3) := chk_nth ocX12_beginsMany_0 (k := 22) rfl
theorem dX12_beginsMany_38 : decode cX12_beginsMany 38 = .ok (.iload_n 2, 1) := chk_nth ocX12_beginsMany_0 (k := 23) rfl
def tcX12_beginsMany_1 : List (Instr × Nat) := [(.lconst 0, 1), (.lastore, 1), (.iinc 2 1, 3), (.goto (-36), 3), (.return_, 1)]
theorem ocX12_beginsMany_1 : chk (cX12_beginsMany.data.toList.drop 39) tcX12_beginsMany_1 = true := by decide +kernel
theorem dX12_beginsMany_39 : decode cX12_beginsMany 39 = .ok (.lconst 0, 1) := chk_nth ocX12_beginsMany_1 (k := 0) rfl
theorem dX12_beginsMany_40 : decode cX12_beginsMany 40 = .ok (.lastore, 1) := chk_nth ocX12_beginsMany_1 (k := 1) rfl
theorem dX12_beginsMany_41 : decode cX12_beginsMany 41 = .ok (.iinc 2 1, 3) := chk_nth ocX12_beginsMany_1 (k := 2) rfl
theorem dX12_beginsMany_44 : decode cX12_beginsMany 44 = .ok (.goto (-36), 3) := chk_nth ocX12_beginsMany_1 (k := 3) rfl
theorem dX12_beginsMany_47 : decode cX12_beginsMany 47 = .ok (.return_, 1) := chk_nth ocX12_beginsMany_1 (k := 4) rfl
def tcX12_goesMany_0 : List (Instr × Nat) := [(.iconst 0, 1), (.istore_n 2, 1), (.iload_n 2, 1), (.aload_n 0, 1), (.invokevirtual 329, 3), (.if_icmp .ge 95, 3), (.iconst 0, 1), (.istore_n 3, 1), (.iload_n 3, 1), (.aload_n 0, 1), (.getfield 13, 3), (.iconst 2, 1), (.iaload, 1), (.if_icmp .ge 77, 3), (.aload_n 0, 1), (.getfield 51, 3), (.iload_n 2, 1), (.laload, 1), (.lconst 0, 1), (.lcmp, 1), (.ifCond .le 66, 3), (.aload_n 0, 1), (.getfield 39, 3), (.bipush 8, 2)]
theorem ocX12_goesMany_0 : chk (cX12_goesMany.data.toList.drop 0) tcX12_goesMany_0 = true := by decide +kernel
theorem dX12_goesMany_0 : decode cX12_goesMany 0 = .ok (.iconst 0, 1) := chk_nth ocX12_goesMany_0 (k := 0) rfl
theorem dX12_goesMany_1 : decode cX12_goesMany 1 = .ok (.istore_n 2, 1) := chk_nth ocX12_goesMany_0 (k := 1) rfl
theorem dX12_goesMany_2 : decode cX12_goesMany 2 = .ok (.iload_n 2, 1) := chk_nth ocX12_goesMany_0 (k := 2) rfl
theorem dX12_goesMany_3 : decode cX12_goesMany 3 = .ok (.aload_n 0, 1) := chk_nth ocX12_goesMany_0 (k := 3) rfl
theorem dX12_goesMany_4 : decode cX12_goesMany 4 = .ok (.invokevirtual 329, 3) := chk_nth ocX12_goesMany_0 (k := 4) rfl
theorem dX12_goesMany_7 : decode cX12_goesMany 7 = .ok (.if_icmp .ge 95, 3) := chk_nth ocX12_goesMany_0 (k := 5) rfl
theorem dX12_goesMany_10 : decode cX12_goesMany 10 = .ok (.iconst 0, 1) := chk_nth ocX12_goesMany_0 (k := 6) rfl
theorem dX12_goesMany_11 : decode cX12_goesMany 11 = .ok (.istore_n 3, 1) := chk_nth ocX12_goesMany_0 (k := 7) rfl
theorem dX12_goesMany_12 : decode cX12_goesMany 12 = .ok (.iload_n 3, 1) := chk_nth ocX12_goesMany_0 (k := 8) rfl
theorem dX12_goesMany_13 : decode cX12_goesMany 13 = .ok (.aload_n 0, 1) := chk_nth ocX12_goesMany_0 (k := 9) rfl
theorem dX12_goesMany_14 : decode cX12_goesMany 14 = .ok (.getfield 13, 3) := chk_nth ocX12_goesMany_0 (k := 10) rfl
theorem dX12_goesMany_17 : decode cX12_goesMany 17 = .ok (.iconst 2, 1) := chk_nth ocX12_goesMany_0 (k := 11) rfl
theorem dX12_goesMany_18 : decode cX12_goesMany 18 = .ok (.iaload, 1) := chk_nth ocX12_goesMany_0 (k := 12) rfl
theorem dX12_goesMany_19 : decode cX12_goesMany 19 = .ok (.if_icmp .ge 77, 3) := chk_nth ocX12_goesMany_0 (k := 13) rfl
theorem dX12_goesMany_22 : decode cX12_goesMany 22 = .ok (.aload_n 0, 1) := chk_nth ocX12_goesMany_0 (k := 14) rfl
theorem dX12_goesMany_23 : decode cX12_goesMany 23 = .ok (.getfield 51, 3) := chk_nth ocX12_goesMany_0 (k := 15) rfl
theorem dX12_goesMany_26 : decode cX12_goesMany 26 = .ok (.iload_n 2, 1) := chk_nth ocX12_goesMany_0 (k := 16) rfl
theorem dX12_goesMany_27 : decode cX12_goesMany 27 = .ok (.laload, 1) := chk_nth ocX12_goesMany_0 (k := 17) rfl
theorem dX12_goesMany_28 : decode cX12_goesMany 28 = .ok (.lconst 0, 1) := chk_nth ocX12_goesMany_0 (k := 18) rfl
theorem dX12_goesMany_29 : decode cX12_goesMany 29 = .ok (.lcmp, 1) := chk_nth ocX12_goesMany_0 (k := 19) rfl
theorem dX12_goesMany_30 : decode cX12_goesMany 30 = .ok (.ifCond .le 66, 3) := chk_nth ocX12_goesMany_0 (k := 20) rfl
theorem dX12_goesMany_33 : decode cX12_goesMany 33 = .ok (.aload_n 0, 1) := chk_nth ocX12_goesMany_0 (k := 21) rfl
theorem dX12_goesMany_34 : decode cX12_goesMany 34 = .ok (.getfield 39, 3) := chk_nth ocX12_goesMany_0 (k := 22) rfl
theorem dX12_goesMany_37 : decode cX12_goesMany 37 = .ok (.bipush 8, 2) := chk_nth ocX12_goesMany_0 (k := 23) rfl
def tcX12_goesMany_1 : List (Instr × Nat) := [(.iload_n 2, 1), (.imul, 1), (.iload_n 3, 1), (.iadd, 1), (.iaload, 1), (.istore 4, 2), (.iload 4, 2), (.iconst (-1), 1), (.if_icmp .eq 22, 3), (.aload_n 0, 1), (.getfield 55, 3), (.iload 4, 2), (.dup2, 1), (.laload, 1), (.aload_n 0, 1), (.getfield 51, 3), (.iload_n 2, 1), (.laload, 1), (.ladd, 1), (.lastore, 1), (.goto 22, 3), (.iload_n 1, 1), (.ifCond .eq 18, 3), (.aload_n 0, 1)]
theorem ocX12_goesMany_1 : chk (cX12_goesMany.data.toList.drop 39) tcX12_goesMany_1 = true := by decide +kernel
theorem dX12_goesMany_39 : decode cX12_goesMany 39 = .ok (.iload_n 2, 1) := chk_nth ocX12_goesMany_1 (k := 0) rfl
theorem dX12_goesMany_40 : decode cX12_goesMany 40 = .ok (.imul, 1) := chk_nth ocX12_goesMany_1 (k := 1) rfl
theorem dX12_goesMany_41 : decode cX12_goesMany 41 = .ok (.iload_n 3, 1) := chk_nth ocX12_goesMany_1 (k := 2) rfl
theorem dX12_goesMany_42 : decode cX12_goesMany 42 = .ok (.iadd, 1) := chk_nth ocX12_goesMany_1 (k := 3) rfl
theorem dX12_goesMany_43 : decode cX12_goesMany 43 = .ok (.iaload, 1) := chk_nth ocX12_goesMany_1 (k := 4) rfl
theorem dX12_goesMany_44 : decode cX12_goesMany 44 = .ok (.istore 4, 2) := chk_nth ocX12_goesMany_1 (k := 5) rfl
theorem dX12_goesMany_46 : decode cX12_goesMany 46 = .ok (.iload 4, 2) := chk_nth ocX12_goesMany_1 (k := 6) rfl
theorem dX12_goesMany_48 : decode cX12_goesMany 48 = .ok (.iconst (-1), 1) := chk_nth ocX12_goesMany_1 (k := 7) rfl
theorem dX12_goesMany_49 : decode cX12_goesMany 49 = .ok (.if_icmp .eq 22, 3) := chk_nth ocX12_goesMany_1 (k := 8) rfl
theorem dX12_goesMany_52 : decode cX12_goesMany 52 = .ok (.aload_n 0, 1) := chk_nth ocX12_goesMany_1 (k := 9) rfl
theorem dX12_goesMany_53 : decode cX12_goesMany 53 = .ok (.getfield 55, 3) := chk_nth ocX12_goesMany_1 (k := 10) rfl
theorem dX12_goesMany_56 : decode cX12_goesMany 56 = .ok (.iload 4, 2) := chk_nth ocX12_goesMany_1 (k := 11) rfl
theorem dX12_goesMany_58 : decode cX12_goesMany 58 = .ok (.dup2, 1) := chk_nth ocX12_goesMany_1 (k := 12) rfl
theorem dX12_goesMany_59 : decode cX12_goesMany 59 = .ok (.laload, 1) := chk_nth ocX12_goesMany_1 (k := 13) rfl
theorem dX12_goesMany_60 : decode cX12_goesMany 60 = .ok (.aload_n 0, 1) := chk_nth ocX12_goesMany_1 (k := 14) rfl
theorem dX12_goesMany_61 : decode cX12_goesMany 61 = .ok (.getfield 51, 3) := chk_nth ocX12_goesMany_1 (k := 15) rfl
theorem dX12_goesMany_64 : decode cX12_goesMany 64 = .ok (.iload_n 2, 1) := chk_nth ocX12_goesMany_1 (k := 16) rfl
theorem dX12_goesMany_65 : decode cX12_goesMany 65 = .ok (.laload, 1) := chk_nth ocX12_goesMany_1 (k := 17) rfl
theorem dX12_goesMany_66 : decode cX12_goesMany 66 = .ok (.ladd, 1) := chk_nth ocX12_goesMany_1 (k := 18) rfl
theorem dX12_goesMany_67 : decode cX12_goesMany 67 = .ok (.lastore, 1) := chk_nth ocX12_goesMany_1 (k := 19) rfl
theorem dX12_goesMany_68 : decode cX12_goesMany 68 = .ok (.goto 22, 3) := chk_nth ocX12_goesMany_1 (k := 20) rfl
theorem dX12_goesMany_71 : decode cX12_goesMany 71 = .ok (.iload_n 1, 1) := chk_nth ocX12_goesMany_1 (k := 21) rfl
theorem dX12_goesMany_72 : decode cX12_goesMany 72 = .ok (.ifCond .eq 18, 3) := chk_nth ocX12_goesMany_1 (k := 22) rfl
theorem dX12_goesMany_75 : decode cX12_goesMany 75 = .ok (.aload_n 0, 1) := chk_nth ocX12_goesMany_1 (k := 23) rfl
def tcX12_goesMany_2 : List (Instr × Nat) := [(.getfield 55, 3), (.iload_n 2, 1), (.dup2, 1), (.laload, 1), (.aload_n 0, 1), (.getfield 51, 3), (.iload_n 2, 1), (.laload, 1), (.ladd, 1), (.lastore, 1), (.iinc 3 1, 3), (.goto (-81), 3), (.iinc 2 1, 3), (.goto (-97), 3), (.iconst 0, 1), (.istore_n 2, 1), (.iload_n 2, 1), (.bipush 120, 2), (.if_icmp .ge 28, 3), (.aload_n 0, 1), (.getfield 51, 3), (.iload_n 2, 1), (.aload_n 0, 1), (.getfield 55, 3)]
theorem ocX12_goesMany_2 : chk (cX12_goesMany.data.toList.drop 76) tcX12_goesMany_2 = true := by decide +kernel
theorem dX12_goesMany_76 : decode cX12_goesMany 76 = .ok (.getfield 55, 3) := chk_nth ocX12_goesMany_2 (k := 0) rfl
theorem dX12_goesMany_79 : decode cX12_goesMany 79 = .ok (.iload_n 2, 1) := chk_nth ocX12_goesMany_2 (k := 1) rfl
theorem dX12_goesMany_80 : decode cX12_goesMany 80 = .ok (.dup2, 1) := chk_nth ocX12_goesMany_2 (k := 2) rfl
theorem dX12_goesMany_81 : decode cX12_goesMany 81 = .ok (.laload, 1) := chk_nth ocX12_goesMany_2 (k := 3) rfl
theorem dX12_goesMany_82 : decode cX12_goesMany 82 = .ok (.aload_n 0, 1) := chk_nth ocX12_goesMany_2 (k := 4) rfl
theorem dX12_goesMany_83 : decode cX12_goesMany 83 = .ok (.getfield 51, 3) := chk_nth ocX12_goesMany_2 (k := 5) rfl
theorem dX12_goesMany_86 : decode cX12_goesMany 86 = .ok (.iload_n 2, 1) := chk_nth ocX12_goesMany_2 (k := 6) rfl
theorem dX12_goesMany_87 : decode cX12_goesMany 87 = .ok (.laload, 1) := chk_nth ocX12_goesMany_2 (k := 7) rfl
theorem dX12_goesMany_88 : decode cX12_goesMany 88 = .ok (.ladd, 1) := chk_nth ocX12_goesMany_2 (k := 8) rfl
theorem dX12_goesMany_89 : decode cX12_goesMany 89 = .ok (.lastore, 1) := chk_nth ocX12_goesMany_2 (k := 9) rfl
theorem dX12_goesMany_90 : decode cX12_goesMany 90 = .ok (.iinc 3 1, 3) := chk_nth ocX12_goesMany_2 (k := 10) rfl
theorem dX12_goesMany_93 : decode cX12_goesMany 93 = .ok (.goto (-81), 3) := chk_nth ocX12_goesMany_2 (k := 11) rfl
theorem dX12_goesMany_96 : decode cX12_goesMany 96 = .ok (.iinc 2 1, 3) := chk_nth ocX12_goesMany_2 (k := 12) rfl
theorem dX12_goesMany_99 : decode cX12_goesMany 99 = .ok (.goto (-97), 3) := chk_nth ocX12_goesMany_2 (k := 13) rfl
theorem dX12_goesMany_102 : decode cX12_goesMany 102 = .ok (.iconst 0, 1) := chk_nth ocX12_goesMany_2 (k := 14) rfl
theorem dX12_goesMany_103 : decode cX12_goesMany 103 = .ok (.istore_n 2, 1) := chk_nth ocX12_goesMany_2 (k := 15) rfl
theorem dX12_goesMany_104 : decode cX12_goesMany 104 = .ok (.iload_n 2, 1) := chk_nth ocX12_goesMany_2 (k := 16) rfl
theorem dX12_goesMany_105 : decode cX12_goesMany 105 = .ok (.bipush 120, 2) := chk_nth ocX12_goesMany_2 (k := 17) rfl
theorem dX12_goesMany_107 : decode cX12_goesMany 107 = .ok (.if_icmp .ge 28, 3) := chk_nth ocX12_goesMany_2 (k := 18) rfl
theorem dX12_goesMany_110 : decode cX12_goesMany 110 = .ok (.aload_n 0, 1) := chk_nth ocX12_goesMany_2 (k := 19) rfl
theorem dX12_goesMany_111 : decode cX12_goesMany 111 = .ok (.getfield 51, 3) := chk_nth ocX12_goesMany_2 (k := 20) rfl
theorem dX12_goesMany_114 : decode cX12_goesMany 114 = .ok (.iload_n 2, 1) := chk_nth ocX12_goesMany_2 (k := 21) rfl
theorem dX12_goesMany_115 : decode cX12_goesMany 115 = .ok (.aload_n 0, 1) := chk_nth ocX12_goesMany_2 (k := 22) rfl
theorem dX12_goesMany_116 : decode cX12_goesMany 116 = .ok (.getfield 55, 3) := chk_nth ocX12_goesMany_2 (k := 23) rfl
def tcX12_goesMany_3 : List (Instr × Nat) := [(.iload_n 2, 1), (.laload, 1), (.lastore, 1), (.aload_n 0, 1), (.getfield 55, 3), (.iload_n 2, 1), (.lconst 0, 1), (.lastore, 1), (.iinc 2 1, 3), (.goto (-28), 3), (.return_, 1)]
theorem ocX12_goesMany_3 : chk (cX12_goesMany.data.toList.drop 119) tcX12_goesMany_3 = true := by decide +kernel
theorem dX12_goesMany_119 : decode cX12_goesMany 119 = .ok (.iload_n 2, 1) := chk_nth ocX12_goesMany_3 (k := 0) rfl
theorem dX12_goesMany_120 : decode cX12_goesMany 120 = .ok (.laload, 1) := chk_nth ocX12_goesMany_3 (k := 1) rfl
theorem dX12_goesMany_121 : decode cX12_goesMany 121 = .ok (.lastore, 1) := chk_nth ocX12_goesMany_3 (k := 2) rfl
theorem dX12_goesMany_122 : decode cX12_goesMany 122 = .ok (.aload_n 0, 1) := chk_nth ocX12_goesMany_3 (k := 3) rfl
theorem dX12_goesMany_123 : decode cX12_goesMany 123 = .ok (.getfield 55, 3) := chk_nth ocX12_goesMany_3 (k := 4) rfl
theorem dX12_goesMany_126 : decode cX12_goesMany 126 = .ok (.iload_n 2, 1) := chk_nth ocX12_goesMany_3 (k := 5) rfl
theorem dX12_goesMany_127 : decode cX12_goesMany 127 = .ok (.lconst 0, 1) := chk_nth ocX12_goesMany_3 (k := 6) rfl
theorem dX12_goesMany_128 : decode cX12_goesMany 128 = .ok (.lastore, 1) := chk_nth ocX12_goesMany_3 (k := 7) rfl
theorem dX12_goesMany_129 : decode cX12_goesMany 129 = .ok (.iinc 2 1, 3) := chk_nth ocX12_goesMany_3 (k := 8) rfl
theorem dX12_goesMany_132 : decode cX12_goesMany 132 = .ok (.goto (-28), 3) := chk_nth ocX12_goesMany_3 (k := 9) rfl
theorem dX12_goesMany_135 : decode cX12_goesMany 135 = .ok (.return_, 1) := chk_nth ocX12_goesMany_3 (k := 10) rfl
def tcX12_rows_0 : List (Instr × Nat) := [(.aload_n 0, 1), (.iconst 0, 1), (.putfield 1, 3), (.aload_n 0, 1), (.iload_n 1, 1), (.iload_n 2, 1), (.iload_n 3, 1), (.invokevirtual 342, 3), (.istore 5, 2), (.iload 5, 2), (.ifCond .eq 7, 3), (.iload 5, 2), (.i2l, 1), (.lreturn, 1), (.iload 4, 2), (.i2l, 1), (.lconst 0, 1), (.ldc2_w 354, 3), (.invokestatic 142, 3), (.ifCond .ne 7, 3), (.ldc2_w 356, 3), (.lreturn, 1), (.aload_n 0, 1), (.iload_n 1, 1)]
theorem ocX12_rows_0 : chk (cX12_rows.data.toList.drop 0) tcX12_rows_0 = true := by decide +kernel
theorem dX12_rows_0 : decode cX12_rows 0 = .ok (.aload_n 0, 1) := chk_nth ocX12_rows_0 (k := 0) rfl
theorem dX12_rows_1 : decode cX12_rows 1 = .ok (.iconst 0, 1) := chk_nth ocX12_rows_0 (k := 1) rfl
theorem dX12_rows_2 : decode cX12_rows 2 = .ok (.putfield 1, 3) := chk_nth ocX12_rows_0 (k := 2) rfl
theorem dX12_rows_5 : decode cX12_rows 5 = .ok (.aload_n 0, 1) := chk_nth ocX12_rows_0 (k := 3) rfl
theorem dX12_rows_6 : decode cX12_rows 6 = .ok (.iload_n 1, 1) := chk_nth ocX12_rows_0 (k := 4) rfl
theorem dX12_rows_7 : decode cX12_rows 7 = .ok (.iload_n 2, 1) := chk_nth ocX12_rows_0 (k := 5) rfl
theorem dX12_rows_8 : decode cX12_rows 8 = .ok (.iload_n 3, 1) := chk_nth ocX12_rows_0 (k := 6) rfl
theorem dX12_rows_9 : decode cX12_rows 9 = .ok (.invokevirtual 342, 3) := chk_nth ocX12_rows_0 (k := 7) rfl
theorem dX12_rows_12 : decode cX12_rows 12 = .ok (.istore 5, 2) := chk_nth ocX12_rows_0 (k := 8) rfl
theorem dX12_rows_14 : decode cX12_rows 14 = .ok (.iload 5, 2) := chk_nth ocX12_rows_0 (k := 9) rfl
theorem dX12_rows_16 : decode cX12_rows 16 = .ok (.ifCond .eq 7, 3) := chk_nth ocX12_rows_0 (k := 10) rfl
theorem dX12_rows_19 : decode cX12_rows 19 = .ok (.iload 5, 2) := chk_nth ocX12_rows_0 (k := 11) rfl
theorem dX12_rows_21 : decode cX12_rows 21 = .ok (.i2l, 1) := chk_nth ocX12_rows_0 (k := 12) rfl
theorem dX12_rows_22 : decode cX12_rows 22 = .ok (.lreturn, 1) := chk_nth ocX12_rows_0 (k := 13) rfl
theorem dX12_rows_23 : decode cX12_rows 23 = .ok (.iload 4, 2) := chk_nth ocX12_rows_0 (k := 14) rfl
theorem dX12_rows_25 : decode cX12_rows 25 = .ok (.i2l, 1) := chk_nth ocX12_rows_0 (k := 15) rfl
theorem dX12_rows_26 : decode cX12_rows 26 = .ok (.lconst 0, 1) := chk_nth ocX12_rows_0 (k := 16) rfl
theorem dX12_rows_27 : decode cX12_rows 27 = .ok (.ldc2_w 354, 3) := chk_nth ocX12_rows_0 (k := 17) rfl
theorem dX12_rows_30 : decode cX12_rows 30 = .ok (.invokestatic 142, 3) := chk_nth ocX12_rows_0 (k := 18) rfl
theorem dX12_rows_33 : decode cX12_rows 33 = .ok (.ifCond .ne 7, 3) := chk_nth ocX12_rows_0 (k := 19) rfl
theorem dX12_rows_36 : decode cX12_rows 36 = .ok (.ldc2_w 356, 3) := chk_nth ocX12_rows_0 (k := 20) rfl
theorem dX12_rows_39 : decode cX12_rows 39 = .ok (.lreturn, 1) := chk_nth ocX12_rows_0 (k := 21) rfl
theorem dX12_rows_40 : decode cX12_rows 40 = .ok (.aload_n 0, 1) := chk_nth ocX12_rows_0 (k := 22) rfl
theorem dX12_rows_41 : decode cX12_rows 41 = .ok (.iload_n 1, 1) := chk_nth ocX12_rows_0 (k := 23) rfl
def tcX12_rows_1 : List (Instr × Nat) := [(.invokevirtual 358, 3), (.iconst 0, 1), (.istore 6, 2), (.iload 6, 2), (.iload 4, 2), (.if_icmp .ge 14, 3), (.aload_n 0, 1), (.iconst 0, 1), (.invokevirtual 361, 3), (.iinc 6 1, 3), (.goto (-15), 3), (.lconst 0, 1), (.lstore 6, 2), (.iconst 0, 1), (.istore 8, 2), (.iload 8, 2), (.aload_n 0, 1), (.invokevirtual 329, 3), (.if_icmp .ge 35, 3), (.lload 6, 2), (.iload 8, 2), (.iload_n 2, 1), (.iload_n 3, 1), (.invokestatic 335, 3)]
theorem ocX12_rows_1 : chk (cX12_rows.data.toList.drop 42) tcX12_rows_1 = true := by decide +kernel
theorem dX12_rows_42 : decode cX12_rows 42 = .ok (.invokevirtual 358, 3) := chk_nth ocX12_rows_1 (k := 0) rfl
theorem dX12_rows_45 : decode cX12_rows 45 = .ok (.iconst 0, 1) := chk_nth ocX12_rows_1 (k := 1) rfl
theorem dX12_rows_46 : decode cX12_rows 46 = .ok (.istore 6, 2) := chk_nth ocX12_rows_1 (k := 2) rfl
theorem dX12_rows_48 : decode cX12_rows 48 = .ok (.iload 6, 2) := chk_nth ocX12_rows_1 (k := 3) rfl
theorem dX12_rows_50 : decode cX12_rows 50 = .ok (.iload 4, 2) := chk_nth ocX12_rows_1 (k := 4) rfl
theorem dX12_rows_52 : decode cX12_rows 52 = .ok (.if_icmp .ge 14, 3) := chk_nth ocX12_rows_1 (k := 5) rfl
theorem dX12_rows_55 : decode cX12_rows 55 = .ok (.aload_n 0, 1) := chk_nth ocX12_rows_1 (k := 6) rfl
theorem dX12_rows_56 : decode cX12_rows 56 = .ok (.iconst 0, 1) := chk_nth ocX12_rows_1 (k := 7) rfl
theorem dX12_rows_57 : decode cX12_rows 57 = .ok (.invokevirtual 361, 3) := chk_nth ocX12_rows_1 (k := 8) rfl
theorem dX12_rows_60 : decode cX12_rows 60 = .ok (.iinc 6 1, 3) := chk_nth ocX12_rows_1 (k := 9) rfl
theorem dX12_rows_63 : decode cX12_rows 63 = .ok (.goto (-15), 3) := chk_nth ocX12_rows_1 (k := 10) rfl
theorem dX12_rows_66 : decode cX12_rows 66 = .ok (.lconst 0, 1) := chk_nth ocX12_rows_1 (k := 11) rfl
theorem dX12_rows_67 : decode cX12_rows 67 = .ok (.lstore 6, 2) := chk_nth ocX12_rows_1 (k := 12) rfl
theorem dX12_rows_69 : decode cX12_rows 69 = .ok (.iconst 0, 1) := chk_nth ocX12_rows_1 (k := 13) rfl
theorem dX12_rows_70 : decode cX12_rows 70 = .ok (.istore 8, 2) := chk_nth ocX12_rows_1 (k := 14) rfl
theorem dX12_rows_72 : decode cX12_rows 72 = .ok (.iload 8, 2) := chk_nth ocX12_rows_1 (k := 15) rfl
theorem dX12_rows_74 : decode cX12_rows 74 = .ok (.aload_n 0, 1) := chk_nth ocX12_rows_1 (k := 16) rfl
theorem dX12_rows_75 : decode cX12_rows 75 = .ok (.invokevirtual 329, 3) := chk_nth ocX12_rows_1 (k := 17) rfl
theorem dX12_rows_78 : decode cX12_rows 78 = .ok (.if_icmp .ge 35, 3) := chk_nth ocX12_rows_1 (k := 18) rfl
theorem dX12_rows_81 : decode cX12_rows 81 = .ok (.lload 6, 2) := chk_nth ocX12_rows_1 (k := 19) rfl
theorem dX12_rows_83 : decode cX12_rows 83 = .ok (.iload 8, 2) := chk_nth ocX12_rows_1 (k := 20) rfl
theorem dX12_rows_85 : decode cX12_rows 85 = .ok (.iload_n 2, 1) := chk_nth ocX12_rows_1 (k := 21) rfl
theorem dX12_rows_86 : decode cX12_rows 86 = .ok (.iload_n 3, 1) := chk_nth ocX12_rows_1 (k := 22) rfl
theorem dX12_rows_87 : decode cX12_rows 87 = .ok (.invokestatic 335, 3) := chk_nth ocX12_rows_1 (k := 23) rfl
def tcX12_rows_2 : List (Instr × Nat) := [(.ifCond .eq 13, 3), (.aload_n 0, 1), (.getfield 51, 3), (.iload 8, 2), (.laload, 1), (.goto 4, 3), (.lconst 0, 1), (.ladd, 1), (.lstore 6, 2), (.iinc 8 1, 3), (.goto (-38), 3), (.lload 6, 2), (.lreturn, 1)]
theorem ocX12_rows_2 : chk (cX12_rows.data.toList.drop 90) tcX12_rows_2 = true := by decide +kernel
theorem dX12_rows_90 : decode cX12_rows 90 = .ok (.ifCond .eq 13, 3) := chk_nth ocX12_rows_2 (k := 0) rfl
theorem dX12_rows_93 : decode cX12_rows 93 = .ok (.aload_n 0, 1) := chk_nth ocX12_rows_2 (k := 1) rfl
theorem dX12_rows_94 : decode cX12_rows 94 = .ok (.getfield 51, 3) := chk_nth ocX12_rows_2 (k := 2) rfl
theorem dX12_rows_97 : decode cX12_rows 97 = .ok (.iload 8, 2) := chk_nth ocX12_rows_2 (k := 3) rfl
theorem dX12_rows_99 : decode cX12_rows 99 = .ok (.laload, 1) := chk_nth ocX12_rows_2 (k := 4) rfl
theorem dX12_rows_100 : decode cX12_rows 100 = .ok (.goto 4, 3) := chk_nth ocX12_rows_2 (k := 5) rfl
theorem dX12_rows_103 : decode cX12_rows 103 = .ok (.lconst 0, 1) := chk_nth ocX12_rows_2 (k := 6) rfl
theorem dX12_rows_104 : decode cX12_rows 104 = .ok (.ladd, 1) := chk_nth ocX12_rows_2 (k := 7) rfl
theorem dX12_rows_105 : decode cX12_rows 105 = .ok (.lstore 6, 2) := chk_nth ocX12_rows_2 (k := 8) rfl
theorem dX12_rows_107 : decode cX12_rows 107 = .ok (.iinc 8 1, 3) := chk_nth ocX12_rows_2 (k := 9) rfl
theorem dX12_rows_110 : decode cX12_rows 110 = .ok (.goto (-38), 3) := chk_nth ocX12_rows_2 (k := 10) rfl
theorem dX12_rows_113 : decode cX12_rows 113 = .ok (.lload 6, 2) := chk_nth ocX12_rows_2 (k := 11) rfl
theorem dX12_rows_115 : decode cX12_rows 115 = .ok (.lreturn, 1) := chk_nth ocX12_rows_2 (k := 12) rfl
def tcX12_laysFromNow_0 : List (Instr × Nat) := [(.aload_n 0, 1), (.iload_n 1, 1), (.iconst 0, 1), (.invokevirtual 332, 3), (.aload_n 0, 1), (.aload_n 0, 1), (.iload_n 1, 1), (.invokevirtual 239, 3), (.aload_n 0, 1), (.getfield 45, 3), (.invokevirtual 365, 3), (.return_, 1)]
theorem ocX12_laysFromNow_0 : chk (cX12_laysFromNow.data.toList.drop 0) tcX12_laysFromNow_0 = true := by decide +kernel
theorem dX12_laysFromNow_0 : decode cX12_laysFromNow 0 = .ok (.aload_n 0, 1) := chk_nth ocX12_laysFromNow_0 (k := 0) rfl
theorem dX12_laysFromNow_1 : decode cX12_laysFromNow 1 = .ok (.iload_n 1, 1) := chk_nth ocX12_laysFromNow_0 (k := 1) rfl
theorem dX12_laysFromNow_2 : decode cX12_laysFromNow 2 = .ok (.iconst 0, 1) := chk_nth ocX12_laysFromNow_0 (k := 2) rfl
theorem dX12_laysFromNow_3 : decode cX12_laysFromNow 3 = .ok (.invokevirtual 332, 3) := chk_nth ocX12_laysFromNow_0 (k := 3) rfl
theorem dX12_laysFromNow_6 : decode cX12_laysFromNow 6 = .ok (.aload_n 0, 1) := chk_nth ocX12_laysFromNow_0 (k := 4) rfl
theorem dX12_laysFromNow_7 : decode cX12_laysFromNow 7 = .ok (.aload_n 0, 1) := chk_nth ocX12_laysFromNow_0 (k := 5) rfl
theorem dX12_laysFromNow_8 : decode cX12_laysFromNow 8 = .ok (.iload_n 1, 1) := chk_nth ocX12_laysFromNow_0 (k := 6) rfl
theorem dX12_laysFromNow_9 : decode cX12_laysFromNow 9 = .ok (.invokevirtual 239, 3) := chk_nth ocX12_laysFromNow_0 (k := 7) rfl
theorem dX12_laysFromNow_12 : decode cX12_laysFromNow 12 = .ok (.aload_n 0, 1) := chk_nth ocX12_laysFromNow_0 (k := 8) rfl
theorem dX12_laysFromNow_13 : decode cX12_laysFromNow 13 = .ok (.getfield 45, 3) := chk_nth ocX12_laysFromNow_0 (k := 9) rfl
theorem dX12_laysFromNow_16 : decode cX12_laysFromNow 16 = .ok (.invokevirtual 365, 3) := chk_nth ocX12_laysFromNow_0 (k := 10) rfl
theorem dX12_laysFromNow_19 : decode cX12_laysFromNow 19 = .ok (.return_, 1) := chk_nth ocX12_laysFromNow_0 (k := 11) rfl
def tcX12_when_0 : List (Instr × Nat) := [(.aload_n 0, 1), (.iconst 0, 1), (.putfield 1, 3), (.aload_n 0, 1), (.iload_n 1, 1), (.i2l, 1), (.invokevirtual 233, 3), (.ifCond .eq 12, 3), (.aload_n 0, 1), (.iload_n 2, 1), (.i2l, 1), (.invokevirtual 268, 3), (.ifCond .ne 6, 3), (.bipush (-2), 2), (.ireturn, 1), (.aload_n 0, 1), (.iload_n 1, 1), (.invokevirtual 369, 3), (.iconst 0, 1), (.istore_n 3, 1), (.iconst 0, 1), (.istore 4, 2), (.iload 4, 2), (.bipush 20, 2)]
theorem ocX12_when_0 : chk (cX12_when.data.toList.drop 0) tcX12_when_0 = true := by decide +kernel
theorem dX12_when_0 : decode cX12_when 0 = .ok (.aload_n 0, 1) := chk_nth ocX12_when_0 (k := 0) rfl
theorem dX12_when_1 : decode cX12_when 1 = .ok (.iconst 0, 1) := chk_nth ocX12_when_0 (k := 1) rfl
theorem dX12_when_2 : decode cX12_when 2 = .ok (.putfield 1, 3) := chk_nth ocX12_when_0 (k := 2) rfl
theorem dX12_when_5 : decode cX12_when 5 = .ok (.aload_n 0, 1) := chk_nth ocX12_when_0 (k := 3) rfl
theorem dX12_when_6 : decode cX12_when 6 = .ok (.iload_n 1, 1) := chk_nth ocX12_when_0 (k := 4) rfl
theorem dX12_when_7 : decode cX12_when 7 = .ok (.i2l, 1) := chk_nth ocX12_when_0 (k := 5) rfl
theorem dX12_when_8 : decode cX12_when 8 = .ok (.invokevirtual 233, 3) := chk_nth ocX12_when_0 (k := 6) rfl
theorem dX12_when_11 : decode cX12_when 11 = .ok (.ifCond .eq 12, 3) := chk_nth ocX12_when_0 (k := 7) rfl
theorem dX12_when_14 : decode cX12_when 14 = .ok (.aload_n 0, 1) := chk_nth ocX12_when_0 (k := 8) rfl
theorem dX12_when_15 : decode cX12_when 15 = .ok (.iload_n 2, 1) := chk_nth ocX12_when_0 (k := 9) rfl
theorem dX12_when_16 : decode cX12_when 16 = .ok (.i2l, 1) := chk_nth ocX12_when_0 (k := 10) rfl
theorem dX12_when_17 : decode cX12_when 17 = .ok (.invokevirtual 268, 3) := chk_nth ocX12_when_0 (k := 11) rfl
theorem dX12_when_20 : decode cX12_when 20 = .ok (.ifCond .ne 6, 3) := chk_nth ocX12_when_0 (k := 12) rfl
theorem dX12_when_23 : decode cX12_when 23 = .ok (.bipush (-2), 2) := chk_nth ocX12_when_0 (k := 13) rfl
theorem dX12_when_25 : decode cX12_when 25 = .ok (.ireturn, 1) := chk_nth ocX12_when_0 (k := 14) rfl
theorem dX12_when_26 : decode cX12_when 26 = .ok (.aload_n 0, 1) := chk_nth ocX12_when_0 (k := 15) rfl
theorem dX12_when_27 : decode cX12_when 27 = .ok (.iload_n 1, 1) := chk_nth ocX12_when_0 (k := 16) rfl
theorem dX12_when_28 : decode cX12_when 28 = .ok (.invokevirtual 369, 3) := chk_nth ocX12_when_0 (k := 17) rfl
theorem dX12_when_31 : decode cX12_when 31 = .ok (.iconst 0, 1) := chk_nth ocX12_when_0 (k := 18) rfl
theorem dX12_when_32 : decode cX12_when 32 = .ok (.istore_n 3, 1) := chk_nth ocX12_when_0 (k := 19) rfl
theorem dX12_when_33 : decode cX12_when 33 = .ok (.iconst 0, 1) := chk_nth ocX12_when_0 (k := 20) rfl
theorem dX12_when_34 : decode cX12_when 34 = .ok (.istore 4, 2) := chk_nth ocX12_when_0 (k := 21) rfl
theorem dX12_when_36 : decode cX12_when 36 = .ok (.iload 4, 2) := chk_nth ocX12_when_0 (k := 22) rfl
theorem dX12_when_38 : decode cX12_when 38 = .ok (.bipush 20, 2) := chk_nth ocX12_when_0 (k := 23) rfl
def tcX12_when_1 : List (Instr × Nat) := [(.if_icmp .ge 38, 3), (.iload_n 3, 1), (.aload_n 0, 1), (.getfield 45, 3), (.bipush 20, 2), (.iload_n 2, 1), (.imul, 1), (.iload 4, 2), (.iadd, 1), (.iaload, 1), (.ldc_w 328, 3), (.if_icmp .ge 10, 3), (.iconst 1, 1), (.iload 4, 2), (.ishl, 1), (.goto 4, 3), (.iconst 0, 1), (.ior, 1), (.istore_n 3, 1), (.iinc 4 1, 3), (.goto (-39), 3), (.iload_n 3, 1), (.ireturn, 1)]
theorem ocX12_when_1 : chk (cX12_when.data.toList.drop 40) tcX12_when_1 = true := by decide +kernel
theorem dX12_when_40 : decode cX12_when 40 = .ok (.if_icmp .ge 38, 3) := chk_nth ocX12_when_1 (k := 0) rfl
theorem dX12_when_43 : decode cX12_when 43 = .ok (.iload_n 3, 1) := chk_nth ocX12_when_1 (k := 1) rfl
theorem dX12_when_44 : decode cX12_when 44 = .ok (.aload_n 0, 1) := chk_nth ocX12_when_1 (k := 2) rfl
theorem dX12_when_45 : decode cX12_when 45 = .ok (.getfield 45, 3) := chk_nth ocX12_when_1 (k := 3) rfl
theorem dX12_when_48 : decode cX12_when 48 = .ok (.bipush 20, 2) := chk_nth ocX12_when_1 (k := 4) rfl
theorem dX12_when_50 : decode cX12_when 50 = .ok (.iload_n 2, 1) := chk_nth ocX12_when_1 (k := 5) rfl
theorem dX12_when_51 : decode cX12_when 51 = .ok (.imul, 1) := chk_nth ocX12_when_1 (k := 6) rfl
theorem dX12_when_52 : decode cX12_when 52 = .ok (.iload 4, 2) := chk_nth ocX12_when_1 (k := 7) rfl
theorem dX12_when_54 : decode cX12_when 54 = .ok (.iadd, 1) := chk_nth ocX12_when_1 (k := 8) rfl
theorem dX12_when_55 : decode cX12_when 55 = .ok (.iaload, 1) := chk_nth ocX12_when_1 (k := 9) rfl
theorem dX12_when_56 : decode cX12_when 56 = .ok (.ldc_w 328, 3) := chk_nth ocX12_when_1 (k := 10) rfl
theorem dX12_when_59 : decode cX12_when 59 = .ok (.if_icmp .ge 10, 3) := chk_nth ocX12_when_1 (k := 11) rfl
theorem dX12_when_62 : decode cX12_when 62 = .ok (.iconst 1, 1) := chk_nth ocX12_when_1 (k := 12) rfl
theorem dX12_when_63 : decode cX12_when 63 = .ok (.iload 4, 2) := chk_nth ocX12_when_1 (k := 13) rfl
theorem dX12_when_65 : decode cX12_when 65 = .ok (.ishl, 1) := chk_nth ocX12_when_1 (k := 14) rfl
theorem dX12_when_66 : decode cX12_when 66 = .ok (.goto 4, 3) := chk_nth ocX12_when_1 (k := 15) rfl
theorem dX12_when_69 : decode cX12_when 69 = .ok (.iconst 0, 1) := chk_nth ocX12_when_1 (k := 16) rfl
theorem dX12_when_70 : decode cX12_when 70 = .ok (.ior, 1) := chk_nth ocX12_when_1 (k := 17) rfl
theorem dX12_when_71 : decode cX12_when 71 = .ok (.istore_n 3, 1) := chk_nth ocX12_when_1 (k := 18) rfl
theorem dX12_when_72 : decode cX12_when 72 = .ok (.iinc 4 1, 3) := chk_nth ocX12_when_1 (k := 19) rfl
theorem dX12_when_75 : decode cX12_when 75 = .ok (.goto (-39), 3) := chk_nth ocX12_when_1 (k := 20) rfl
theorem dX12_when_78 : decode cX12_when 78 = .ok (.iload_n 3, 1) := chk_nth ocX12_when_1 (k := 21) rfl
theorem dX12_when_79 : decode cX12_when 79 = .ok (.ireturn, 1) := chk_nth ocX12_when_1 (k := 22) rfl
def tcX12_bound_0 : List (Instr × Nat) := [(.aload_n 0, 1), (.iconst 0, 1), (.putfield 1, 3), (.aload_n 0, 1), (.iload_n 1, 1), (.i2l, 1), (.invokevirtual 233, 3), (.ifCond .eq 13, 3), (.iload_n 2, 1), (.i2l, 1), (.lconst 0, 1), (.lconst 1, 1), (.invokestatic 142, 3), (.ifCond .ne 6, 3), (.bipush (-2), 2), (.ireturn, 1), (.aload_n 0, 1), (.iload_n 1, 1), (.invokevirtual 369, 3), (.aload_n 0, 1), (.getfield 13, 3), (.bipush 37, 2), (.iload_n 1, 1), (.iadd, 1)]
theorem ocX12_bound_0 : chk (cX12_bound.data.toList.drop 0) tcX12_bound_0 = true := by decide +kernel
theorem dX12_bound_0 : decode cX12_bound 0 = .ok (.aload_n 0, 1) := chk_nth ocX12_bound_0 (k := 0) rfl
theorem dX12_bound_1 : decode cX12_bound 1 = .ok (.iconst 0, 1) := chk_nth ocX12_bound_0 (k := 1) rfl
theorem dX12_bound_2 : decode cX12_bound 2 = .ok (.putfield 1, 3) := chk_nth ocX12_bound_0 (k := 2) rfl
theorem dX12_bound_5 : decode cX12_bound 5 = .ok (.aload_n 0, 1) := chk_nth ocX12_bound_0 (k := 3) rfl
theorem dX12_bound_6 : decode cX12_bound 6 = .ok (.iload_n 1, 1) := chk_nth ocX12_bound_0 (k := 4) rfl
theorem dX12_bound_7 : decode cX12_bound 7 = .ok (.i2l, 1) := chk_nth ocX12_bound_0 (k := 5) rfl
theorem dX12_bound_8 : decode cX12_bound 8 = .ok (.invokevirtual 233, 3) := chk_nth ocX12_bound_0 (k := 6) rfl
theorem dX12_bound_11 : decode cX12_bound 11 = .ok (.ifCond .eq 13, 3) := chk_nth ocX12_bound_0 (k := 7) rfl
theorem dX12_bound_14 : decode cX12_bound 14 = .ok (.iload_n 2, 1) := chk_nth ocX12_bound_0 (k := 8) rfl
theorem dX12_bound_15 : decode cX12_bound 15 = .ok (.i2l, 1) := chk_nth ocX12_bound_0 (k := 9) rfl
theorem dX12_bound_16 : decode cX12_bound 16 = .ok (.lconst 0, 1) := chk_nth ocX12_bound_0 (k := 10) rfl
theorem dX12_bound_17 : decode cX12_bound 17 = .ok (.lconst 1, 1) := chk_nth ocX12_bound_0 (k := 11) rfl
theorem dX12_bound_18 : decode cX12_bound 18 = .ok (.invokestatic 142, 3) := chk_nth ocX12_bound_0 (k := 12) rfl
theorem dX12_bound_21 : decode cX12_bound 21 = .ok (.ifCond .ne 6, 3) := chk_nth ocX12_bound_0 (k := 13) rfl
theorem dX12_bound_24 : decode cX12_bound 24 = .ok (.bipush (-2), 2) := chk_nth ocX12_bound_0 (k := 14) rfl
theorem dX12_bound_26 : decode cX12_bound 26 = .ok (.ireturn, 1) := chk_nth ocX12_bound_0 (k := 15) rfl
theorem dX12_bound_27 : decode cX12_bound 27 = .ok (.aload_n 0, 1) := chk_nth ocX12_bound_0 (k := 16) rfl
theorem dX12_bound_28 : decode cX12_bound 28 = .ok (.iload_n 1, 1) := chk_nth ocX12_bound_0 (k := 17) rfl
theorem dX12_bound_29 : decode cX12_bound 29 = .ok (.invokevirtual 369, 3) := chk_nth ocX12_bound_0 (k := 18) rfl
theorem dX12_bound_32 : decode cX12_bound 32 = .ok (.aload_n 0, 1) := chk_nth ocX12_bound_0 (k := 19) rfl
theorem dX12_bound_33 : decode cX12_bound 33 = .ok (.getfield 13, 3) := chk_nth ocX12_bound_0 (k := 20) rfl
theorem dX12_bound_36 : decode cX12_bound 36 = .ok (.bipush 37, 2) := chk_nth ocX12_bound_0 (k := 21) rfl
theorem dX12_bound_38 : decode cX12_bound 38 = .ok (.iload_n 1, 1) := chk_nth ocX12_bound_0 (k := 22) rfl
theorem dX12_bound_39 : decode cX12_bound 39 = .ok (.iadd, 1) := chk_nth ocX12_bound_0 (k := 23) rfl
def tcX12_bound_1 : List (Instr × Nat) := [(.iaload, 1), (.istore_n 3, 1), (.iconst 0, 1), (.istore 4, 2), (.iload 4, 2), (.aload_n 0, 1), (.invokevirtual 329, 3), (.if_icmp .ge 54, 3), (.aload_n 0, 1), (.getfield 45, 3), (.iload 4, 2), (.iaload, 1), (.ldc_w 328, 3), (.if_icmp .ne 6, 3), (.goto 32, 3), (.iload 4, 2), (.bipush 20, 2), (.irem, 1), (.istore 5, 2), (.iload_n 2, 1), (.ifCond .ne 12, 3), (.iload 5, 2), (.iload_n 3, 1), (.if_icmp .ge 15, 3)]
theorem ocX12_bound_1 : chk (cX12_bound.data.toList.drop 40) tcX12_bound_1 = true := by decide +kernel
theorem dX12_bound_40 : decode cX12_bound 40 = .ok (.iaload, 1) := chk_nth ocX12_bound_1 (k := 0) rfl
theorem dX12_bound_41 : decode cX12_bound 41 = .ok (.istore_n 3, 1) := chk_nth ocX12_bound_1 (k := 1) rfl
theorem dX12_bound_42 : decode cX12_bound 42 = .ok (.iconst 0, 1) := chk_nth ocX12_bound_1 (k := 2) rfl
theorem dX12_bound_43 : decode cX12_bound 43 = .ok (.istore 4, 2) := chk_nth ocX12_bound_1 (k := 3) rfl
theorem dX12_bound_45 : decode cX12_bound 45 = .ok (.iload 4, 2) := chk_nth ocX12_bound_1 (k := 4) rfl
theorem dX12_bound_47 : decode cX12_bound 47 = .ok (.aload_n 0, 1) := chk_nth ocX12_bound_1 (k := 5) rfl
theorem dX12_bound_48 : decode cX12_bound 48 = .ok (.invokevirtual 329, 3) := chk_nth ocX12_bound_1 (k := 6) rfl
theorem dX12_bound_51 : decode cX12_bound 51 = .ok (.if_icmp .ge 54, 3) := chk_nth ocX12_bound_1 (k := 7) rfl
theorem dX12_bound_54 : decode cX12_bound 54 = .ok (.aload_n 0, 1) := chk_nth ocX12_bound_1 (k := 8) rfl
theorem dX12_bound_55 : decode cX12_bound 55 = .ok (.getfield 45, 3) := chk_nth ocX12_bound_1 (k := 9) rfl
theorem dX12_bound_58 : decode cX12_bound 58 = .ok (.iload 4, 2) := chk_nth ocX12_bound_1 (k := 10) rfl
theorem dX12_bound_60 : decode cX12_bound 60 = .ok (.iaload, 1) := chk_nth ocX12_bound_1 (k := 11) rfl
theorem dX12_bound_61 : decode cX12_bound 61 = .ok (.ldc_w 328, 3) := chk_nth ocX12_bound_1 (k := 12) rfl
theorem dX12_bound_64 : decode cX12_bound 64 = .ok (.if_icmp .ne 6, 3) := chk_nth ocX12_bound_1 (k := 13) rfl
theorem dX12_bound_67 : decode cX12_bound 67 = .ok (.goto 32, 3) := chk_nth ocX12_bound_1 (k := 14) rfl
theorem dX12_bound_70 : decode cX12_bound 70 = .ok (.iload 4, 2) := chk_nth ocX12_bound_1 (k := 15) rfl
theorem dX12_bound_72 : decode cX12_bound 72 = .ok (.bipush 20, 2) := chk_nth ocX12_bound_1 (k := 16) rfl
theorem dX12_bound_74 : decode cX12_bound 74 = .ok (.irem, 1) := chk_nth ocX12_bound_1 (k := 17) rfl
theorem dX12_bound_75 : decode cX12_bound 75 = .ok (.istore 5, 2) := chk_nth ocX12_bound_1 (k := 18) rfl
theorem dX12_bound_77 : decode cX12_bound 77 = .ok (.iload_n 2, 1) := chk_nth ocX12_bound_1 (k := 19) rfl
theorem dX12_bound_78 : decode cX12_bound 78 = .ok (.ifCond .ne 12, 3) := chk_nth ocX12_bound_1 (k := 20) rfl
theorem dX12_bound_81 : decode cX12_bound 81 = .ok (.iload 5, 2) := chk_nth ocX12_bound_1 (k := 21) rfl
theorem dX12_bound_83 : decode cX12_bound 83 = .ok (.iload_n 3, 1) := chk_nth ocX12_bound_1 (k := 22) rfl
theorem dX12_bound_84 : decode cX12_bound 84 = .ok (.if_icmp .ge 15, 3) := chk_nth ocX12_bound_1 (k := 23) rfl
def tcX12_bound_2 : List (Instr × Nat) := [(.goto 9, 3), (.iload 5, 2), (.iload_n 3, 1), (.if_icmp .le 6, 3), (.iload 5, 2), (.istore_n 3, 1), (.iinc 4 1, 3), (.goto (-57), 3), (.iload_n 3, 1), (.ireturn, 1)]
theorem ocX12_bound_2 : chk (cX12_bound.data.toList.drop 87) tcX12_bound_2 = true := by decide +kernel
theorem dX12_bound_87 : decode cX12_bound 87 = .ok (.goto 9, 3) := chk_nth ocX12_bound_2 (k := 0) rfl
theorem dX12_bound_90 : decode cX12_bound 90 = .ok (.iload 5, 2) := chk_nth ocX12_bound_2 (k := 1) rfl
theorem dX12_bound_92 : decode cX12_bound 92 = .ok (.iload_n 3, 1) := chk_nth ocX12_bound_2 (k := 2) rfl
theorem dX12_bound_93 : decode cX12_bound 93 = .ok (.if_icmp .le 6, 3) := chk_nth ocX12_bound_2 (k := 3) rfl
theorem dX12_bound_96 : decode cX12_bound 96 = .ok (.iload 5, 2) := chk_nth ocX12_bound_2 (k := 4) rfl
theorem dX12_bound_98 : decode cX12_bound 98 = .ok (.istore_n 3, 1) := chk_nth ocX12_bound_2 (k := 5) rfl
theorem dX12_bound_99 : decode cX12_bound 99 = .ok (.iinc 4 1, 3) := chk_nth ocX12_bound_2 (k := 6) rfl
theorem dX12_bound_102 : decode cX12_bound 102 = .ok (.goto (-57), 3) := chk_nth ocX12_bound_2 (k := 7) rfl
theorem dX12_bound_105 : decode cX12_bound 105 = .ok (.iload_n 3, 1) := chk_nth ocX12_bound_2 (k := 8) rfl
theorem dX12_bound_106 : decode cX12_bound 106 = .ok (.ireturn, 1) := chk_nth ocX12_bound_2 (k := 9) rfl
def tcX12_cornersGone_0 : List (Instr × Nat) := [(.iconst 0, 1), (.istore_n 1, 1), (.iconst 0, 1), (.istore_n 2, 1), (.iload_n 2, 1), (.aload_n 0, 1), (.invokevirtual 329, 3), (.if_icmp .ge 34, 3), (.iload_n 1, 1), (.aload_n 0, 1), (.getfield 45, 3), (.iload_n 2, 1), (.iaload, 1), (.ldc_w 328, 3), (.if_icmp .ge 12, 3), (.iconst 1, 1), (.iload_n 2, 1), (.bipush 20, 2), (.idiv, 1), (.ishl, 1), (.goto 4, 3), (.iconst 0, 1), (.ior, 1), (.istore_n 1, 1)]
theorem ocX12_cornersGone_0 : chk (cX12_cornersGone.data.toList.drop 0) tcX12_cornersGone_0 = true := by decide +kernel
theorem dX12_cornersGone_0 : decode cX12_cornersGone 0 = .ok (.iconst 0, 1) := chk_nth ocX12_cornersGone_0 (k := 0) rfl
theorem dX12_cornersGone_1 : decode cX12_cornersGone 1 = .ok (.istore_n 1, 1) := chk_nth ocX12_cornersGone_0 (k := 1) rfl
theorem dX12_cornersGone_2 : decode cX12_cornersGone 2 = .ok (.iconst 0, 1) := chk_nth ocX12_cornersGone_0 (k := 2) rfl
theorem dX12_cornersGone_3 : decode cX12_cornersGone 3 = .ok (.istore_n 2, 1) := chk_nth ocX12_cornersGone_0 (k := 3) rfl
theorem dX12_cornersGone_4 : decode cX12_cornersGone 4 = .ok (.iload_n 2, 1) := chk_nth ocX12_cornersGone_0 (k := 4) rfl
theorem dX12_cornersGone_5 : decode cX12_cornersGone 5 = .ok (.aload_n 0, 1) := chk_nth ocX12_cornersGone_0 (k := 5) rfl
theorem dX12_cornersGone_6 : decode cX12_cornersGone 6 = .ok (.invokevirtual 329, 3) := chk_nth ocX12_cornersGone_0 (k := 6) rfl
theorem dX12_cornersGone_9 : decode cX12_cornersGone 9 = .ok (.if_icmp .ge 34, 3) := chk_nth ocX12_cornersGone_0 (k := 7) rfl
theorem dX12_cornersGone_12 : decode cX12_cornersGone 12 = .ok (.iload_n 1, 1) := chk_nth ocX12_cornersGone_0 (k := 8) rfl
theorem dX12_cornersGone_13 : decode cX12_cornersGone 13 = .ok (.aload_n 0, 1) := chk_nth ocX12_cornersGone_0 (k := 9) rfl
theorem dX12_cornersGone_14 : decode cX12_cornersGone 14 = .ok (.getfield 45, 3) := chk_nth ocX12_cornersGone_0 (k := 10) rfl
theorem dX12_cornersGone_17 : decode cX12_cornersGone 17 = .ok (.iload_n 2, 1) := chk_nth ocX12_cornersGone_0 (k := 11) rfl
theorem dX12_cornersGone_18 : decode cX12_cornersGone 18 = .ok (.iaload, 1) := chk_nth ocX12_cornersGone_0 (k := 12) rfl
theorem dX12_cornersGone_19 : decode cX12_cornersGone 19 = .ok (.ldc_w 328, 3) := chk_nth ocX12_cornersGone_0 (k := 13) rfl
theorem dX12_cornersGone_22 : decode cX12_cornersGone 22 = .ok (.if_icmp .ge 12, 3) := chk_nth ocX12_cornersGone_0 (k := 14) rfl
theorem dX12_cornersGone_25 : decode cX12_cornersGone 25 = .ok (.iconst 1, 1) := chk_nth ocX12_cornersGone_0 (k := 15) rfl
theorem dX12_cornersGone_26 : decode cX12_cornersGone 26 = .ok (.iload_n 2, 1) := chk_nth ocX12_cornersGone_0 (k := 16) rfl
theorem dX12_cornersGone_27 : decode cX12_cornersGone 27 = .ok (.bipush 20, 2) := chk_nth ocX12_cornersGone_0 (k := 17) rfl
theorem dX12_cornersGone_29 : decode cX12_cornersGone 29 = .ok (.idiv, 1) := chk_nth ocX12_cornersGone_0 (k := 18) rfl
theorem dX12_cornersGone_30 : decode cX12_cornersGone 30 = .ok (.ishl, 1) := chk_nth ocX12_cornersGone_0 (k := 19) rfl
theorem dX12_cornersGone_31 : decode cX12_cornersGone 31 = .ok (.goto 4, 3) := chk_nth ocX12_cornersGone_0 (k := 20) rfl
theorem dX12_cornersGone_34 : decode cX12_cornersGone 34 = .ok (.iconst 0, 1) := chk_nth ocX12_cornersGone_0 (k := 21) rfl
theorem dX12_cornersGone_35 : decode cX12_cornersGone 35 = .ok (.ior, 1) := chk_nth ocX12_cornersGone_0 (k := 22) rfl
theorem dX12_cornersGone_36 : decode cX12_cornersGone 36 = .ok (.istore_n 1, 1) := chk_nth ocX12_cornersGone_0 (k := 23) rfl
def tcX12_cornersGone_1 : List (Instr × Nat) := [(.iinc 2 1, 3), (.goto (-36), 3), (.iload_n 1, 1), (.ireturn, 1)]
theorem ocX12_cornersGone_1 : chk (cX12_cornersGone.data.toList.drop 37) tcX12_cornersGone_1 = true := by decide +kernel
theorem dX12_cornersGone_37 : decode cX12_cornersGone 37 = .ok (.iinc 2 1, 3) := chk_nth ocX12_cornersGone_1 (k := 0) rfl
theorem dX12_cornersGone_40 : decode cX12_cornersGone 40 = .ok (.goto (-36), 3) := chk_nth ocX12_cornersGone_1 (k := 1) rfl
theorem dX12_cornersGone_43 : decode cX12_cornersGone 43 = .ok (.iload_n 1, 1) := chk_nth ocX12_cornersGone_1 (k := 2) rfl
theorem dX12_cornersGone_44 : decode cX12_cornersGone 44 = .ok (.ireturn, 1) := chk_nth ocX12_cornersGone_1 (k := 3) rfl
def tcX12_reach_0 : List (Instr × Nat) := [(.aload_n 0, 1), (.iconst 0, 1), (.putfield 1, 3), (.aload_n 0, 1), (.iload_n 1, 1), (.i2l, 1), (.invokevirtual 233, 3), (.ifCond .ne 6, 3), (.bipush (-2), 2), (.ireturn, 1), (.aload_n 0, 1), (.iload_n 1, 1), (.invokevirtual 369, 3), (.aload_n 0, 1), (.invokevirtual 372, 3), (.ireturn, 1)]
theorem ocX12_reach_0 : chk (cX12_reach.data.toList.drop 0) tcX12_reach_0 = true := by decide +kernel
theorem dX12_reach_0 : decode cX12_reach 0 = .ok (.aload_n 0, 1) := chk_nth ocX12_reach_0 (k := 0) rfl
theorem dX12_reach_1 : decode cX12_reach 1 = .ok (.iconst 0, 1) := chk_nth ocX12_reach_0 (k := 1) rfl
theorem dX12_reach_2 : decode cX12_reach 2 = .ok (.putfield 1, 3) := chk_nth ocX12_reach_0 (k := 2) rfl
theorem dX12_reach_5 : decode cX12_reach 5 = .ok (.aload_n 0, 1) := chk_nth ocX12_reach_0 (k := 3) rfl
theorem dX12_reach_6 : decode cX12_reach 6 = .ok (.iload_n 1, 1) := chk_nth ocX12_reach_0 (k := 4) rfl
theorem dX12_reach_7 : decode cX12_reach 7 = .ok (.i2l, 1) := chk_nth ocX12_reach_0 (k := 5) rfl
theorem dX12_reach_8 : decode cX12_reach 8 = .ok (.invokevirtual 233, 3) := chk_nth ocX12_reach_0 (k := 6) rfl
theorem dX12_reach_11 : decode cX12_reach 11 = .ok (.ifCond .ne 6, 3) := chk_nth ocX12_reach_0 (k := 7) rfl
theorem dX12_reach_14 : decode cX12_reach 14 = .ok (.bipush (-2), 2) := chk_nth ocX12_reach_0 (k := 8) rfl
theorem dX12_reach_16 : decode cX12_reach 16 = .ok (.ireturn, 1) := chk_nth ocX12_reach_0 (k := 9) rfl
theorem dX12_reach_17 : decode cX12_reach 17 = .ok (.aload_n 0, 1) := chk_nth ocX12_reach_0 (k := 10) rfl
theorem dX12_reach_18 : decode cX12_reach 18 = .ok (.iload_n 1, 1) := chk_nth ocX12_reach_0 (k := 11) rfl
theorem dX12_reach_19 : decode cX12_reach 19 = .ok (.invokevirtual 369, 3) := chk_nth ocX12_reach_0 (k := 12) rfl
theorem dX12_reach_22 : decode cX12_reach 22 = .ok (.aload_n 0, 1) := chk_nth ocX12_reach_0 (k := 13) rfl
theorem dX12_reach_23 : decode cX12_reach 23 = .ok (.invokevirtual 372, 3) := chk_nth ocX12_reach_0 (k := 14) rfl
theorem dX12_reach_26 : decode cX12_reach 26 = .ok (.ireturn, 1) := chk_nth ocX12_reach_0 (k := 15) rfl
def tcX12_meetsAt_0 : List (Instr × Nat) := [(.aload_n 0, 1), (.iload_n 2, 1), (.iconst 0, 1), (.invokevirtual 332, 3), (.aload_n 0, 1), (.aload_n 0, 1), (.iload_n 2, 1), (.invokevirtual 239, 3), (.aload_n 0, 1), (.getfield 48, 3), (.invokevirtual 365, 3), (.aload_n 0, 1), (.iload_n 1, 1), (.invokevirtual 369, 3), (.iconst (-1), 1), (.istore_n 3, 1), (.iconst 0, 1), (.istore 4, 2), (.iload 4, 2), (.aload_n 0, 1), (.invokevirtual 329, 3), (.if_icmp .ge 77, 3), (.aload_n 0, 1), (.getfield 45, 3)]
theorem ocX12_meetsAt_0 : chk (cX12_meetsAt.data.toList.drop 0) tcX12_meetsAt_0 = true := by decide +kernel
theorem dX12_meetsAt_0 : decode cX12_meetsAt 0 = .ok (.aload_n 0, 1) := chk_nth ocX12_meetsAt_0 (k := 0) rfl
theorem dX12_meetsAt_1 : decode cX12_meetsAt 1 = .ok (.iload_n 2, 1) := chk_nth ocX12_meetsAt_0 (k := 1) rfl
theorem dX12_meetsAt_2 : decode cX12_meetsAt 2 = .ok (.iconst 0, 1) := chk_nth ocX12_meetsAt_0 (k := 2) rfl
theorem dX12_meetsAt_3 : decode cX12_meetsAt 3 = .ok (.invokevirtual 332, 3) := chk_nth ocX12_meetsAt_0 (k := 3) rfl
theorem dX12_meetsAt_6 : decode cX12_meetsAt 6 = .ok (.aload_n 0, 1) := chk_nth ocX12_meetsAt_0 (k := 4) rfl
theorem dX12_meetsAt_7 : decode cX12_meetsAt 7 = .ok (.aload_n 0, 1) := chk_nth ocX12_meetsAt_0 (k := 5) rfl
theorem dX12_meetsAt_8 : decode cX12_meetsAt 8 = .ok (.iload_n 2, 1) := chk_nth ocX12_meetsAt_0 (k := 6) rfl
theorem dX12_meetsAt_9 : decode cX12_meetsAt 9 = .ok (.invokevirtual 239, 3) := chk_nth ocX12_meetsAt_0 (k := 7) rfl
theorem dX12_meetsAt_12 : decode cX12_meetsAt 12 = .ok (.aload_n 0, 1) := chk_nth ocX12_meetsAt_0 (k := 8) rfl
theorem dX12_meetsAt_13 : decode cX12_meetsAt 13 = .ok (.getfield 48, 3) := chk_nth ocX12_meetsAt_0 (k := 9) rfl
theorem dX12_meetsAt_16 : decode cX12_meetsAt 16 = .ok (.invokevirtual 365, 3) := chk_nth ocX12_meetsAt_0 (k := 10) rfl
theorem dX12_meetsAt_19 : decode cX12_meetsAt 19 = .ok (.aload_n 0, 1) := chk_nth ocX12_meetsAt_0 (k := 11) rfl
theorem dX12_meetsAt_20 : decode cX12_meetsAt 20 = .ok (.iload_n 1, 1) := chk_nth ocX12_meetsAt_0 (k := 12) rfl
theorem dX12_meetsAt_21 : decode cX12_meetsAt 21 = .ok (.invokevirtual 369, 3) := chk_nth ocX12_meetsAt_0 (k := 13) rfl
theorem dX12_meetsAt_24 : decode cX12_meetsAt 24 = .ok (.iconst (-1), 1) := chk_nth ocX12_meetsAt_0 (k := 14) rfl
theorem dX12_meetsAt_25 : decode cX12_meetsAt 25 = .ok (.istore_n 3, 1) := chk_nth ocX12_meetsAt_0 (k := 15) rfl
theorem dX12_meetsAt_26 : decode cX12_meetsAt 26 = .ok (.iconst 0, 1) := chk_nth ocX12_meetsAt_0 (k := 16) rfl
theorem dX12_meetsAt_27 : decode cX12_meetsAt 27 = .ok (.istore 4, 2) := chk_nth ocX12_meetsAt_0 (k := 17) rfl
theorem dX12_meetsAt_29 : decode cX12_meetsAt 29 = .ok (.iload 4, 2) := chk_nth ocX12_meetsAt_0 (k := 18) rfl
theorem dX12_meetsAt_31 : decode cX12_meetsAt 31 = .ok (.aload_n 0, 1) := chk_nth ocX12_meetsAt_0 (k := 19) rfl
theorem dX12_meetsAt_32 : decode cX12_meetsAt 32 = .ok (.invokevirtual 329, 3) := chk_nth ocX12_meetsAt_0 (k := 20) rfl
theorem dX12_meetsAt_35 : decode cX12_meetsAt 35 = .ok (.if_icmp .ge 77, 3) := chk_nth ocX12_meetsAt_0 (k := 21) rfl
theorem dX12_meetsAt_38 : decode cX12_meetsAt 38 = .ok (.aload_n 0, 1) := chk_nth ocX12_meetsAt_0 (k := 22) rfl
theorem dX12_meetsAt_39 : decode cX12_meetsAt 39 = .ok (.getfield 45, 3) := chk_nth ocX12_meetsAt_0 (k := 23) rfl
def tcX12_meetsAt_1 : List (Instr × Nat) := [(.iload 4, 2), (.iaload, 1), (.ldc_w 328, 3), (.if_icmp .eq 58, 3), (.aload_n 0, 1), (.getfield 48, 3), (.iload 4, 2), (.iaload, 1), (.ldc_w 328, 3), (.if_icmp .ne 6, 3), (.goto 42, 3), (.iload_n 3, 1), (.iconst (-1), 1), (.if_icmp .eq 34, 3), (.aload_n 0, 1), (.getfield 45, 3), (.iload 4, 2), (.iaload, 1), (.aload_n 0, 1), (.getfield 48, 3), (.iload 4, 2), (.iaload, 1), (.iadd, 1), (.aload_n 0, 1)]
theorem ocX12_meetsAt_1 : chk (cX12_meetsAt.data.toList.drop 42) tcX12_meetsAt_1 = true := by decide +kernel
theorem dX12_meetsAt_42 : decode cX12_meetsAt 42 = .ok (.iload 4, 2) := chk_nth ocX12_meetsAt_1 (k := 0) rfl
theorem dX12_meetsAt_44 : decode cX12_meetsAt 44 = .ok (.iaload, 1) := chk_nth ocX12_meetsAt_1 (k := 1) rfl
theorem dX12_meetsAt_45 : decode cX12_meetsAt 45 = .ok (.ldc_w 328, 3) := chk_nth ocX12_meetsAt_1 (k := 2) rfl
theorem dX12_meetsAt_48 : decode cX12_meetsAt 48 = .ok (.if_icmp .eq 58, 3) := chk_nth ocX12_meetsAt_1 (k := 3) rfl
theorem dX12_meetsAt_51 : decode cX12_meetsAt 51 = .ok (.aload_n 0, 1) := chk_nth ocX12_meetsAt_1 (k := 4) rfl
theorem dX12_meetsAt_52 : decode cX12_meetsAt 52 = .ok (.getfield 48, 3) := chk_nth ocX12_meetsAt_1 (k := 5) rfl
theorem dX12_meetsAt_55 : decode cX12_meetsAt 55 = .ok (.iload 4, 2) := chk_nth ocX12_meetsAt_1 (k := 6) rfl
theorem dX12_meetsAt_57 : decode cX12_meetsAt 57 = .ok (.iaload, 1) := chk_nth ocX12_meetsAt_1 (k := 7) rfl
theorem dX12_meetsAt_58 : decode cX12_meetsAt 58 = .ok (.ldc_w 328, 3) := chk_nth ocX12_meetsAt_1 (k := 8) rfl
theorem dX12_meetsAt_61 : decode cX12_meetsAt 61 = .ok (.if_icmp .ne 6, 3) := chk_nth ocX12_meetsAt_1 (k := 9) rfl
theorem dX12_meetsAt_64 : decode cX12_meetsAt 64 = .ok (.goto 42, 3) := chk_nth ocX12_meetsAt_1 (k := 10) rfl
theorem dX12_meetsAt_67 : decode cX12_meetsAt 67 = .ok (.iload_n 3, 1) := chk_nth ocX12_meetsAt_1 (k := 11) rfl
theorem dX12_meetsAt_68 : decode cX12_meetsAt 68 = .ok (.iconst (-1), 1) := chk_nth ocX12_meetsAt_1 (k := 12) rfl
theorem dX12_meetsAt_69 : decode cX12_meetsAt 69 = .ok (.if_icmp .eq 34, 3) := chk_nth ocX12_meetsAt_1 (k := 13) rfl
theorem dX12_meetsAt_72 : decode cX12_meetsAt 72 = .ok (.aload_n 0, 1) := chk_nth ocX12_meetsAt_1 (k := 14) rfl
theorem dX12_meetsAt_73 : decode cX12_meetsAt 73 = .ok (.getfield 45, 3) := chk_nth ocX12_meetsAt_1 (k := 15) rfl
theorem dX12_meetsAt_76 : decode cX12_meetsAt 76 = .ok (.iload 4, 2) := chk_nth ocX12_meetsAt_1 (k := 16) rfl
theorem dX12_meetsAt_78 : decode cX12_meetsAt 78 = .ok (.iaload, 1) := chk_nth ocX12_meetsAt_1 (k := 17) rfl
theorem dX12_meetsAt_79 : decode cX12_meetsAt 79 = .ok (.aload_n 0, 1) := chk_nth ocX12_meetsAt_1 (k := 18) rfl
theorem dX12_meetsAt_80 : decode cX12_meetsAt 80 = .ok (.getfield 48, 3) := chk_nth ocX12_meetsAt_1 (k := 19) rfl
theorem dX12_meetsAt_83 : decode cX12_meetsAt 83 = .ok (.iload 4, 2) := chk_nth ocX12_meetsAt_1 (k := 20) rfl
theorem dX12_meetsAt_85 : decode cX12_meetsAt 85 = .ok (.iaload, 1) := chk_nth ocX12_meetsAt_1 (k := 21) rfl
theorem dX12_meetsAt_86 : decode cX12_meetsAt 86 = .ok (.iadd, 1) := chk_nth ocX12_meetsAt_1 (k := 22) rfl
theorem dX12_meetsAt_87 : decode cX12_meetsAt 87 = .ok (.aload_n 0, 1) := chk_nth ocX12_meetsAt_1 (k := 23) rfl
def tcX12_meetsAt_2 : List (Instr × Nat) := [(.getfield 45, 3), (.iload_n 3, 1), (.iaload, 1), (.aload_n 0, 1), (.getfield 48, 3), (.iload_n 3, 1), (.iaload, 1), (.iadd, 1), (.if_icmp .ge 6, 3), (.iload 4, 2), (.istore_n 3, 1), (.iinc 4 1, 3), (.goto (-80), 3), (.iload_n 3, 1), (.ireturn, 1)]
theorem ocX12_meetsAt_2 : chk (cX12_meetsAt.data.toList.drop 88) tcX12_meetsAt_2 = true := by decide +kernel
theorem dX12_meetsAt_88 : decode cX12_meetsAt 88 = .ok (.getfield 45, 3) := chk_nth ocX12_meetsAt_2 (k := 0) rfl
theorem dX12_meetsAt_91 : decode cX12_meetsAt 91 = .ok (.iload_n 3, 1) := chk_nth ocX12_meetsAt_2 (k := 1) rfl
theorem dX12_meetsAt_92 : decode cX12_meetsAt 92 = .ok (.iaload, 1) := chk_nth ocX12_meetsAt_2 (k := 2) rfl
theorem dX12_meetsAt_93 : decode cX12_meetsAt 93 = .ok (.aload_n 0, 1) := chk_nth ocX12_meetsAt_2 (k := 3) rfl
theorem dX12_meetsAt_94 : decode cX12_meetsAt 94 = .ok (.getfield 48, 3) := chk_nth ocX12_meetsAt_2 (k := 4) rfl
theorem dX12_meetsAt_97 : decode cX12_meetsAt 97 = .ok (.iload_n 3, 1) := chk_nth ocX12_meetsAt_2 (k := 5) rfl
theorem dX12_meetsAt_98 : decode cX12_meetsAt 98 = .ok (.iaload, 1) := chk_nth ocX12_meetsAt_2 (k := 6) rfl
theorem dX12_meetsAt_99 : decode cX12_meetsAt 99 = .ok (.iadd, 1) := chk_nth ocX12_meetsAt_2 (k := 7) rfl
theorem dX12_meetsAt_100 : decode cX12_meetsAt 100 = .ok (.if_icmp .ge 6, 3) := chk_nth ocX12_meetsAt_2 (k := 8) rfl
theorem dX12_meetsAt_103 : decode cX12_meetsAt 103 = .ok (.iload 4, 2) := chk_nth ocX12_meetsAt_2 (k := 9) rfl
theorem dX12_meetsAt_105 : decode cX12_meetsAt 105 = .ok (.istore_n 3, 1) := chk_nth ocX12_meetsAt_2 (k := 10) rfl
theorem dX12_meetsAt_106 : decode cX12_meetsAt 106 = .ok (.iinc 4 1, 3) := chk_nth ocX12_meetsAt_2 (k := 11) rfl
theorem dX12_meetsAt_109 : decode cX12_meetsAt 109 = .ok (.goto (-80), 3) := chk_nth ocX12_meetsAt_2 (k := 12) rfl
theorem dX12_meetsAt_112 : decode cX12_meetsAt 112 = .ok (.iload_n 3, 1) := chk_nth ocX12_meetsAt_2 (k := 13) rfl
theorem dX12_meetsAt_113 : decode cX12_meetsAt 113 = .ok (.ireturn, 1) := chk_nth ocX12_meetsAt_2 (k := 14) rfl
def tcX12_areGoers_0 : List (Instr × Nat) := [(.aload_n 0, 1), (.iload_n 1, 1), (.i2l, 1), (.invokevirtual 233, 3), (.ifCond .eq 21, 3), (.aload_n 0, 1), (.iload_n 2, 1), (.i2l, 1), (.invokevirtual 233, 3), (.ifCond .eq 12, 3), (.iload_n 1, 1), (.iload_n 2, 1), (.if_icmp .eq 7, 3), (.iconst 1, 1), (.goto 4, 3), (.iconst 0, 1), (.ireturn, 1)]
theorem ocX12_areGoers_0 : chk (cX12_areGoers.data.toList.drop 0) tcX12_areGoers_0 = true := by decide +kernel
theorem dX12_areGoers_0 : decode cX12_areGoers 0 = .ok (.aload_n 0, 1) := chk_nth ocX12_areGoers_0 (k := 0) rfl
theorem dX12_areGoers_1 : decode cX12_areGoers 1 = .ok (.iload_n 1, 1) := chk_nth ocX12_areGoers_0 (k := 1) rfl
theorem dX12_areGoers_2 : decode cX12_areGoers 2 = .ok (.i2l, 1) := chk_nth ocX12_areGoers_0 (k := 2) rfl
theorem dX12_areGoers_3 : decode cX12_areGoers 3 = .ok (.invokevirtual 233, 3) := chk_nth ocX12_areGoers_0 (k := 3) rfl
theorem dX12_areGoers_6 : decode cX12_areGoers 6 = .ok (.ifCond .eq 21, 3) := chk_nth ocX12_areGoers_0 (k := 4) rfl
theorem dX12_areGoers_9 : decode cX12_areGoers 9 = .ok (.aload_n 0, 1) := chk_nth ocX12_areGoers_0 (k := 5) rfl
theorem dX12_areGoers_10 : decode cX12_areGoers 10 = .ok (.iload_n 2, 1) := chk_nth ocX12_areGoers_0 (k := 6) rfl
theorem dX12_areGoers_11 : decode cX12_areGoers 11 = .ok (.i2l, 1) := chk_nth ocX12_areGoers_0 (k := 7) rfl
theorem dX12_areGoers_12 : decode cX12_areGoers 12 = .ok (.invokevirtual 233, 3) := chk_nth ocX12_areGoers_0 (k := 8) rfl
theorem dX12_areGoers_15 : decode cX12_areGoers 15 = .ok (.ifCond .eq 12, 3) := chk_nth ocX12_areGoers_0 (k := 9) rfl
theorem dX12_areGoers_18 : decode cX12_areGoers 18 = .ok (.iload_n 1, 1) := chk_nth ocX12_areGoers_0 (k := 10) rfl
theorem dX12_areGoers_19 : decode cX12_areGoers 19 = .ok (.iload_n 2, 1) := chk_nth ocX12_areGoers_0 (k := 11) rfl
theorem dX12_areGoers_20 : decode cX12_areGoers 20 = .ok (.if_icmp .eq 7, 3) := chk_nth ocX12_areGoers_0 (k := 12) rfl
theorem dX12_areGoers_23 : decode cX12_areGoers 23 = .ok (.iconst 1, 1) := chk_nth ocX12_areGoers_0 (k := 13) rfl
theorem dX12_areGoers_24 : decode cX12_areGoers 24 = .ok (.goto 4, 3) := chk_nth ocX12_areGoers_0 (k := 14) rfl
theorem dX12_areGoers_27 : decode cX12_areGoers 27 = .ok (.iconst 0, 1) := chk_nth ocX12_areGoers_0 (k := 15) rfl
theorem dX12_areGoers_28 : decode cX12_areGoers 28 = .ok (.ireturn, 1) := chk_nth ocX12_areGoers_0 (k := 16) rfl
def tcX12_meet_0 : List (Instr × Nat) := [(.aload_n 0, 1), (.iconst 0, 1), (.putfield 1, 3), (.aload_n 0, 1), (.iload_n 1, 1), (.iload_n 2, 1), (.invokevirtual 375, 3), (.ifCond .ne 6, 3), (.bipush (-2), 2), (.ireturn, 1), (.aload_n 0, 1), (.iload_n 1, 1), (.iload_n 2, 1), (.invokevirtual 378, 3), (.istore_n 3, 1), (.iload_n 3, 1), (.iconst (-1), 1), (.if_icmp .ne 7, 3), (.iconst (-1), 1), (.goto 16, 3), (.aload_n 0, 1), (.getfield 45, 3), (.iload_n 3, 1), (.iaload, 1)]
theorem ocX12_meet_0 : chk (cX12_meet.data.toList.drop 0) tcX12_meet_0 = true := by decide +kernel
theorem dX12_meet_0 : decode cX12_meet 0 = .ok (.aload_n 0, 1) := chk_nth ocX12_meet_0 (k := 0) rfl
theorem dX12_meet_1 : decode cX12_meet 1 = .ok (.iconst 0, 1) := chk_nth ocX12_meet_0 (k := 1) rfl
theorem dX12_meet_2 : decode cX12_meet 2 = .ok (.putfield 1, 3) := chk_nth ocX12_meet_0 (k := 2) rfl
theorem dX12_meet_5 : decode cX12_meet 5 = .ok (.aload_n 0, 1) := chk_nth ocX12_meet_0 (k := 3) rfl
theorem dX12_meet_6 : decode cX12_meet 6 = .ok (.iload_n 1, 1) := chk_nth ocX12_meet_0 (k := 4) rfl
theorem dX12_meet_7 : decode cX12_meet 7 = .ok (.iload_n 2, 1) := chk_nth ocX12_meet_0 (k := 5) rfl
theorem dX12_meet_8 : decode cX12_meet 8 = .ok (.invokevirtual 375, 3) := chk_nth ocX12_meet_0 (k := 6) rfl
theorem dX12_meet_11 : decode cX12_meet 11 = .ok (.ifCond .ne 6, 3) := chk_nth ocX12_meet_0 (k := 7) rfl
theorem dX12_meet_14 : decode cX12_meet 14 = .ok (.bipush (-2), 2) := chk_nth ocX12_meet_0 (k := 8) rfl
theorem dX12_meet_16 : decode cX12_meet 16 = .ok (.ireturn, 1) := chk_nth ocX12_meet_0 (k := 9) rfl
theorem dX12_meet_17 : decode cX12_meet 17 = .ok (.aload_n 0, 1) := chk_nth ocX12_meet_0 (k := 10) rfl
theorem dX12_meet_18 : decode cX12_meet 18 = .ok (.iload_n 1, 1) := chk_nth ocX12_meet_0 (k := 11) rfl
theorem dX12_meet_19 : decode cX12_meet 19 = .ok (.iload_n 2, 1) := chk_nth ocX12_meet_0 (k := 12) rfl
theorem dX12_meet_20 : decode cX12_meet 20 = .ok (.invokevirtual 378, 3) := chk_nth ocX12_meet_0 (k := 13) rfl
theorem dX12_meet_23 : decode cX12_meet 23 = .ok (.istore_n 3, 1) := chk_nth ocX12_meet_0 (k := 14) rfl
theorem dX12_meet_24 : decode cX12_meet 24 = .ok (.iload_n 3, 1) := chk_nth ocX12_meet_0 (k := 15) rfl
theorem dX12_meet_25 : decode cX12_meet 25 = .ok (.iconst (-1), 1) := chk_nth ocX12_meet_0 (k := 16) rfl
theorem dX12_meet_26 : decode cX12_meet 26 = .ok (.if_icmp .ne 7, 3) := chk_nth ocX12_meet_0 (k := 17) rfl
theorem dX12_meet_29 : decode cX12_meet 29 = .ok (.iconst (-1), 1) := chk_nth ocX12_meet_0 (k := 18) rfl
theorem dX12_meet_30 : decode cX12_meet 30 = .ok (.goto 16, 3) := chk_nth ocX12_meet_0 (k := 19) rfl
theorem dX12_meet_33 : decode cX12_meet 33 = .ok (.aload_n 0, 1) := chk_nth ocX12_meet_0 (k := 20) rfl
theorem dX12_meet_34 : decode cX12_meet 34 = .ok (.getfield 45, 3) := chk_nth ocX12_meet_0 (k := 21) rfl
theorem dX12_meet_37 : decode cX12_meet 37 = .ok (.iload_n 3, 1) := chk_nth ocX12_meet_0 (k := 22) rfl
theorem dX12_meet_38 : decode cX12_meet 38 = .ok (.iaload, 1) := chk_nth ocX12_meet_0 (k := 23) rfl
def tcX12_meet_1 : List (Instr × Nat) := [(.aload_n 0, 1), (.getfield 48, 3), (.iload_n 3, 1), (.iaload, 1), (.iadd, 1), (.ireturn, 1)]
theorem ocX12_meet_1 : chk (cX12_meet.data.toList.drop 39) tcX12_meet_1 = true := by decide +kernel
theorem dX12_meet_39 : decode cX12_meet 39 = .ok (.aload_n 0, 1) := chk_nth ocX12_meet_1 (k := 0) rfl
theorem dX12_meet_40 : decode cX12_meet 40 = .ok (.getfield 48, 3) := chk_nth ocX12_meet_1 (k := 1) rfl
theorem dX12_meet_43 : decode cX12_meet 43 = .ok (.iload_n 3, 1) := chk_nth ocX12_meet_1 (k := 2) rfl
theorem dX12_meet_44 : decode cX12_meet 44 = .ok (.iaload, 1) := chk_nth ocX12_meet_1 (k := 3) rfl
theorem dX12_meet_45 : decode cX12_meet 45 = .ok (.iadd, 1) := chk_nth ocX12_meet_1 (k := 4) rfl
theorem dX12_meet_46 : decode cX12_meet 46 = .ok (.ireturn, 1) := chk_nth ocX12_meet_1 (k := 5) rfl
def tcX12_meetAt_0 : List (Instr × Nat) := [(.aload_n 0, 1), (.iconst 0, 1), (.putfield 1, 3), (.aload_n 0, 1), (.iload_n 1, 1), (.iload_n 2, 1), (.invokevirtual 375, 3), (.ifCond .eq 13, 3), (.iload_n 3, 1), (.i2l, 1), (.lconst 0, 1), (.lconst 1, 1), (.invokestatic 142, 3), (.ifCond .ne 6, 3), (.bipush (-2), 2), (.ireturn, 1), (.aload_n 0, 1), (.iload_n 1, 1), (.iload_n 2, 1), (.invokevirtual 378, 3), (.istore 4, 2), (.iload 4, 2), (.iconst (-1), 1), (.if_icmp .ne 7, 3)]
theorem ocX12_meetAt_0 : chk (cX12_meetAt.data.toList.drop 0) tcX12_meetAt_0 = true := by decide +kernel
theorem dX12_meetAt_0 : decode cX12_meetAt 0 = .ok (.aload_n 0, 1) := chk_nth ocX12_meetAt_0 (k := 0) rfl
theorem dX12_meetAt_1 : decode cX12_meetAt 1 = .ok (.iconst 0, 1) := chk_nth ocX12_meetAt_0 (k := 1) rfl
theorem dX12_meetAt_2 : decode cX12_meetAt 2 = .ok (.putfield 1, 3) := chk_nth ocX12_meetAt_0 (k := 2) rfl
theorem dX12_meetAt_5 : decode cX12_meetAt 5 = .ok (.aload_n 0, 1) := chk_nth ocX12_meetAt_0 (k := 3) rfl
theorem dX12_meetAt_6 : decode cX12_meetAt 6 = .ok (.iload_n 1, 1) := chk_nth ocX12_meetAt_0 (k := 4) rfl
theorem dX12_meetAt_7 : decode cX12_meetAt 7 = .ok (.iload_n 2, 1) := chk_nth ocX12_meetAt_0 (k := 5) rfl
theorem dX12_meetAt_8 : decode cX12_meetAt 8 = .ok (.invokevirtual 375, 3) := chk_nth ocX12_meetAt_0 (k := 6) rfl
theorem dX12_meetAt_11 : decode cX12_meetAt 11 = .ok (.ifCond .eq 13, 3) := chk_nth ocX12_meetAt_0 (k := 7) rfl
theorem dX12_meetAt_14 : decode cX12_meetAt 14 = .ok (.iload_n 3, 1) := chk_nth ocX12_meetAt_0 (k := 8) rfl
theorem dX12_meetAt_15 : decode cX12_meetAt 15 = .ok (.i2l, 1) := chk_nth ocX12_meetAt_0 (k := 9) rfl
theorem dX12_meetAt_16 : decode cX12_meetAt 16 = .ok (.lconst 0, 1) := chk_nth ocX12_meetAt_0 (k := 10) rfl
theorem dX12_meetAt_17 : decode cX12_meetAt 17 = .ok (.lconst 1, 1) := chk_nth ocX12_meetAt_0 (k := 11) rfl
theorem dX12_meetAt_18 : decode cX12_meetAt 18 = .ok (.invokestatic 142, 3) := chk_nth ocX12_meetAt_0 (k := 12) rfl
theorem dX12_meetAt_21 : decode cX12_meetAt 21 = .ok (.ifCond .ne 6, 3) := chk_nth ocX12_meetAt_0 (k := 13) rfl
theorem dX12_meetAt_24 : decode cX12_meetAt 24 = .ok (.bipush (-2), 2) := chk_nth ocX12_meetAt_0 (k := 14) rfl
theorem dX12_meetAt_26 : decode cX12_meetAt 26 = .ok (.ireturn, 1) := chk_nth ocX12_meetAt_0 (k := 15) rfl
theorem dX12_meetAt_27 : decode cX12_meetAt 27 = .ok (.aload_n 0, 1) := chk_nth ocX12_meetAt_0 (k := 16) rfl
theorem dX12_meetAt_28 : decode cX12_meetAt 28 = .ok (.iload_n 1, 1) := chk_nth ocX12_meetAt_0 (k := 17) rfl
theorem dX12_meetAt_29 : decode cX12_meetAt 29 = .ok (.iload_n 2, 1) := chk_nth ocX12_meetAt_0 (k := 18) rfl
theorem dX12_meetAt_30 : decode cX12_meetAt 30 = .ok (.invokevirtual 378, 3) := chk_nth ocX12_meetAt_0 (k := 19) rfl
theorem dX12_meetAt_33 : decode cX12_meetAt 33 = .ok (.istore 4, 2) := chk_nth ocX12_meetAt_0 (k := 20) rfl
theorem dX12_meetAt_35 : decode cX12_meetAt 35 = .ok (.iload 4, 2) := chk_nth ocX12_meetAt_0 (k := 21) rfl
theorem dX12_meetAt_37 : decode cX12_meetAt 37 = .ok (.iconst (-1), 1) := chk_nth ocX12_meetAt_0 (k := 22) rfl
theorem dX12_meetAt_38 : decode cX12_meetAt 38 = .ok (.if_icmp .ne 7, 3) := chk_nth ocX12_meetAt_0 (k := 23) rfl
def tcX12_meetAt_1 : List (Instr × Nat) := [(.iconst (-1), 1), (.goto 20, 3), (.iload_n 3, 1), (.ifCond .ne 11, 3), (.iload 4, 2), (.bipush 20, 2), (.idiv, 1), (.goto 8, 3), (.iload 4, 2), (.bipush 20, 2), (.irem, 1), (.ireturn, 1)]
theorem ocX12_meetAt_1 : chk (cX12_meetAt.data.toList.drop 41) tcX12_meetAt_1 = true := by decide +kernel
theorem dX12_meetAt_41 : decode cX12_meetAt 41 = .ok (.iconst (-1), 1) := chk_nth ocX12_meetAt_1 (k := 0) rfl
theorem dX12_meetAt_42 : decode cX12_meetAt 42 = .ok (.goto 20, 3) := chk_nth ocX12_meetAt_1 (k := 1) rfl
theorem dX12_meetAt_45 : decode cX12_meetAt 45 = .ok (.iload_n 3, 1) := chk_nth ocX12_meetAt_1 (k := 2) rfl
theorem dX12_meetAt_46 : decode cX12_meetAt 46 = .ok (.ifCond .ne 11, 3) := chk_nth ocX12_meetAt_1 (k := 3) rfl
theorem dX12_meetAt_49 : decode cX12_meetAt 49 = .ok (.iload 4, 2) := chk_nth ocX12_meetAt_1 (k := 4) rfl
theorem dX12_meetAt_51 : decode cX12_meetAt 51 = .ok (.bipush 20, 2) := chk_nth ocX12_meetAt_1 (k := 5) rfl
theorem dX12_meetAt_53 : decode cX12_meetAt 53 = .ok (.idiv, 1) := chk_nth ocX12_meetAt_1 (k := 6) rfl
theorem dX12_meetAt_54 : decode cX12_meetAt 54 = .ok (.goto 8, 3) := chk_nth ocX12_meetAt_1 (k := 7) rfl
theorem dX12_meetAt_57 : decode cX12_meetAt 57 = .ok (.iload 4, 2) := chk_nth ocX12_meetAt_1 (k := 8) rfl
theorem dX12_meetAt_59 : decode cX12_meetAt 59 = .ok (.bipush 20, 2) := chk_nth ocX12_meetAt_1 (k := 9) rfl
theorem dX12_meetAt_61 : decode cX12_meetAt 61 = .ok (.irem, 1) := chk_nth ocX12_meetAt_1 (k := 10) rfl
theorem dX12_meetAt_62 : decode cX12_meetAt 62 = .ok (.ireturn, 1) := chk_nth ocX12_meetAt_1 (k := 11) rfl
def tcX12_ring_0 : List (Instr × Nat) := [(.aload_n 0, 1), (.iconst 0, 1), (.putfield 1, 3), (.aload_n 0, 1), (.iload_n 1, 1), (.i2l, 1), (.invokevirtual 233, 3), (.ifCond .ne 6, 3), (.bipush (-2), 2), (.ireturn, 1), (.aload_n 0, 1), (.iload_n 1, 1), (.invokevirtual 369, 3), (.ldc_w 328, 3), (.istore_n 2, 1), (.iconst 0, 1), (.istore_n 3, 1), (.iload_n 3, 1), (.aload_n 0, 1), (.invokevirtual 329, 3), (.if_icmp .ge 120, 3), (.aload_n 0, 1), (.getfield 45, 3), (.iload_n 3, 1)]
theorem ocX12_ring_0 : chk (cX12_ring.data.toList.drop 0) tcX12_ring_0 = true := by decide +kernel
theorem dX12_ring_0 : decode cX12_ring 0 = .ok (.aload_n 0, 1) := chk_nth ocX12_ring_0 (k := 0) rfl
theorem dX12_ring_1 : decode cX12_ring 1 = .ok (.iconst 0, 1) := chk_nth ocX12_ring_0 (k := 1) rfl
theorem dX12_ring_2 : decode cX12_ring 2 = .ok (.putfield 1, 3) := chk_nth ocX12_ring_0 (k := 2) rfl
theorem dX12_ring_5 : decode cX12_ring 5 = .ok (.aload_n 0, 1) := chk_nth ocX12_ring_0 (k := 3) rfl
theorem dX12_ring_6 : decode cX12_ring 6 = .ok (.iload_n 1, 1) := chk_nth ocX12_ring_0 (k := 4) rfl
theorem dX12_ring_7 : decode cX12_ring 7 = .ok (.i2l, 1) := chk_nth ocX12_ring_0 (k := 5) rfl
theorem dX12_ring_8 : decode cX12_ring 8 = .ok (.invokevirtual 233, 3) := chk_nth ocX12_ring_0 (k := 6) rfl
theorem dX12_ring_11 : decode cX12_ring 11 = .ok (.ifCond .ne 6, 3) := chk_nth ocX12_ring_0 (k := 7) rfl
theorem dX12_ring_14 : decode cX12_ring 14 = .ok (.bipush (-2), 2) := chk_nth ocX12_ring_0 (k := 8) rfl
theorem dX12_ring_16 : decode cX12_ring 16 = .ok (.ireturn, 1) := chk_nth ocX12_ring_0 (k := 9) rfl
theorem dX12_ring_17 : decode cX12_ring 17 = .ok (.aload_n 0, 1) := chk_nth ocX12_ring_0 (k := 10) rfl
theorem dX12_ring_18 : decode cX12_ring 18 = .ok (.iload_n 1, 1) := chk_nth ocX12_ring_0 (k := 11) rfl
theorem dX12_ring_19 : decode cX12_ring 19 = .ok (.invokevirtual 369, 3) := chk_nth ocX12_ring_0 (k := 12) rfl
theorem dX12_ring_22 : decode cX12_ring 22 = .ok (.ldc_w 328, 3) := chk_nth ocX12_ring_0 (k := 13) rfl
theorem dX12_ring_25 : decode cX12_ring 25 = .ok (.istore_n 2, 1) := chk_nth ocX12_ring_0 (k := 14) rfl
theorem dX12_ring_26 : decode cX12_ring 26 = .ok (.iconst 0, 1) := chk_nth ocX12_ring_0 (k := 15) rfl
theorem dX12_ring_27 : decode cX12_ring 27 = .ok (.istore_n 3, 1) := chk_nth ocX12_ring_0 (k := 16) rfl
theorem dX12_ring_28 : decode cX12_ring 28 = .ok (.iload_n 3, 1) := chk_nth ocX12_ring_0 (k := 17) rfl
theorem dX12_ring_29 : decode cX12_ring 29 = .ok (.aload_n 0, 1) := chk_nth ocX12_ring_0 (k := 18) rfl
theorem dX12_ring_30 : decode cX12_ring 30 = .ok (.invokevirtual 329, 3) := chk_nth ocX12_ring_0 (k := 19) rfl
theorem dX12_ring_33 : decode cX12_ring 33 = .ok (.if_icmp .ge 120, 3) := chk_nth ocX12_ring_0 (k := 20) rfl
theorem dX12_ring_36 : decode cX12_ring 36 = .ok (.aload_n 0, 1) := chk_nth ocX12_ring_0 (k := 21) rfl
theorem dX12_ring_37 : decode cX12_ring 37 = .ok (.getfield 45, 3) := chk_nth ocX12_ring_0 (k := 22) rfl
theorem dX12_ring_40 : decode cX12_ring 40 = .ok (.iload_n 3, 1) := chk_nth ocX12_ring_0 (k := 23) rfl
def tcX12_ring_1 : List (Instr × Nat) := [(.iaload, 1), (.ldc_w 328, 3), (.if_icmp .ne 6, 3), (.goto 99, 3), (.aload_n 0, 1), (.iload_n 3, 1), (.aload_n 0, 1), (.getfield 48, 3), (.invokevirtual 365, 3), (.iconst 0, 1), (.istore 4, 2), (.iload 4, 2), (.aload_n 0, 1), (.invokevirtual 329, 3), (.if_icmp .ge 78, 3), (.iconst 0, 1), (.istore 5, 2), (.iload 5, 2), (.bipush 8, 2), (.if_icmp .ge 62, 3), (.aload_n 0, 1), (.getfield 48, 3), (.iload 4, 2), (.iaload, 1)]
theorem ocX12_ring_1 : chk (cX12_ring.data.toList.drop 41) tcX12_ring_1 = true := by decide +kernel
theorem dX12_ring_41 : decode cX12_ring 41 = .ok (.iaload, 1) := chk_nth ocX12_ring_1 (k := 0) rfl
theorem dX12_ring_42 : decode cX12_ring 42 = .ok (.ldc_w 328, 3) := chk_nth ocX12_ring_1 (k := 1) rfl
theorem dX12_ring_45 : decode cX12_ring 45 = .ok (.if_icmp .ne 6, 3) := chk_nth ocX12_ring_1 (k := 2) rfl
theorem dX12_ring_48 : decode cX12_ring 48 = .ok (.goto 99, 3) := chk_nth ocX12_ring_1 (k := 3) rfl
theorem dX12_ring_51 : decode cX12_ring 51 = .ok (.aload_n 0, 1) := chk_nth ocX12_ring_1 (k := 4) rfl
theorem dX12_ring_52 : decode cX12_ring 52 = .ok (.iload_n 3, 1) := chk_nth ocX12_ring_1 (k := 5) rfl
theorem dX12_ring_53 : decode cX12_ring 53 = .ok (.aload_n 0, 1) := chk_nth ocX12_ring_1 (k := 6) rfl
theorem dX12_ring_54 : decode cX12_ring 54 = .ok (.getfield 48, 3) := chk_nth ocX12_ring_1 (k := 7) rfl
theorem dX12_ring_57 : decode cX12_ring 57 = .ok (.invokevirtual 365, 3) := chk_nth ocX12_ring_1 (k := 8) rfl
theorem dX12_ring_60 : decode cX12_ring 60 = .ok (.iconst 0, 1) := chk_nth ocX12_ring_1 (k := 9) rfl
theorem dX12_ring_61 : decode cX12_ring 61 = .ok (.istore 4, 2) := chk_nth ocX12_ring_1 (k := 10) rfl
theorem dX12_ring_63 : decode cX12_ring 63 = .ok (.iload 4, 2) := chk_nth ocX12_ring_1 (k := 11) rfl
theorem dX12_ring_65 : decode cX12_ring 65 = .ok (.aload_n 0, 1) := chk_nth ocX12_ring_1 (k := 12) rfl
theorem dX12_ring_66 : decode cX12_ring 66 = .ok (.invokevirtual 329, 3) := chk_nth ocX12_ring_1 (k := 13) rfl
theorem dX12_ring_69 : decode cX12_ring 69 = .ok (.if_icmp .ge 78, 3) := chk_nth ocX12_ring_1 (k := 14) rfl
theorem dX12_ring_72 : decode cX12_ring 72 = .ok (.iconst 0, 1) := chk_nth ocX12_ring_1 (k := 15) rfl
theorem dX12_ring_73 : decode cX12_ring 73 = .ok (.istore 5, 2) := chk_nth ocX12_ring_1 (k := 16) rfl
theorem dX12_ring_75 : decode cX12_ring 75 = .ok (.iload 5, 2) := chk_nth ocX12_ring_1 (k := 17) rfl
theorem dX12_ring_77 : decode cX12_ring 77 = .ok (.bipush 8, 2) := chk_nth ocX12_ring_1 (k := 18) rfl
theorem dX12_ring_79 : decode cX12_ring 79 = .ok (.if_icmp .ge 62, 3) := chk_nth ocX12_ring_1 (k := 19) rfl
theorem dX12_ring_82 : decode cX12_ring 82 = .ok (.aload_n 0, 1) := chk_nth ocX12_ring_1 (k := 20) rfl
theorem dX12_ring_83 : decode cX12_ring 83 = .ok (.getfield 48, 3) := chk_nth ocX12_ring_1 (k := 21) rfl
theorem dX12_ring_86 : decode cX12_ring 86 = .ok (.iload 4, 2) := chk_nth ocX12_ring_1 (k := 22) rfl
theorem dX12_ring_88 : decode cX12_ring 88 = .ok (.iaload, 1) := chk_nth ocX12_ring_1 (k := 23) rfl
def tcX12_ring_2 : List (Instr × Nat) := [(.ldc_w 328, 3), (.if_icmp .ge 43, 3), (.aload_n 0, 1), (.getfield 39, 3), (.bipush 8, 2), (.iload 4, 2), (.imul, 1), (.iload 5, 2), (.iadd, 1), (.iaload, 1), (.iload_n 3, 1), (.if_icmp .ne 26, 3), (.aload_n 0, 1), (.getfield 48, 3), (.iload 4, 2), (.iaload, 1), (.iconst 1, 1), (.iadd, 1), (.iload_n 2, 1), (.if_icmp .ge 13, 3), (.aload_n 0, 1), (.getfield 48, 3), (.iload 4, 2), (.iaload, 1)]
theorem ocX12_ring_2 : chk (cX12_ring.data.toList.drop 89) tcX12_ring_2 = true := by decide +kernel
theorem dX12_ring_89 : decode cX12_ring 89 = .ok (.ldc_w 328, 3) := chk_nth ocX12_ring_2 (k := 0) rfl
theorem dX12_ring_92 : decode cX12_ring 92 = .ok (.if_icmp .ge 43, 3) := chk_nth ocX12_ring_2 (k := 1) rfl
theorem dX12_ring_95 : decode cX12_ring 95 = .ok (.aload_n 0, 1) := chk_nth ocX12_ring_2 (k := 2) rfl
theorem dX12_ring_96 : decode cX12_ring 96 = .ok (.getfield 39, 3) := chk_nth ocX12_ring_2 (k := 3) rfl
theorem dX12_ring_99 : decode cX12_ring 99 = .ok (.bipush 8, 2) := chk_nth ocX12_ring_2 (k := 4) rfl
theorem dX12_ring_101 : decode cX12_ring 101 = .ok (.iload 4, 2) := chk_nth ocX12_ring_2 (k := 5) rfl
theorem dX12_ring_103 : decode cX12_ring 103 = .ok (.imul, 1) := chk_nth ocX12_ring_2 (k := 6) rfl
theorem dX12_ring_104 : decode cX12_ring 104 = .ok (.iload 5, 2) := chk_nth ocX12_ring_2 (k := 7) rfl
theorem dX12_ring_106 : decode cX12_ring 106 = .ok (.iadd, 1) := chk_nth ocX12_ring_2 (k := 8) rfl
theorem dX12_ring_107 : decode cX12_ring 107 = .ok (.iaload, 1) := chk_nth ocX12_ring_2 (k := 9) rfl
theorem dX12_ring_108 : decode cX12_ring 108 = .ok (.iload_n 3, 1) := chk_nth ocX12_ring_2 (k := 10) rfl
theorem dX12_ring_109 : decode cX12_ring 109 = .ok (.if_icmp .ne 26, 3) := chk_nth ocX12_ring_2 (k := 11) rfl
theorem dX12_ring_112 : decode cX12_ring 112 = .ok (.aload_n 0, 1) := chk_nth ocX12_ring_2 (k := 12) rfl
theorem dX12_ring_113 : decode cX12_ring 113 = .ok (.getfield 48, 3) := chk_nth ocX12_ring_2 (k := 13) rfl
theorem dX12_ring_116 : decode cX12_ring 116 = .ok (.iload 4, 2) := chk_nth ocX12_ring_2 (k := 14) rfl
theorem dX12_ring_118 : decode cX12_ring 118 = .ok (.iaload, 1) := chk_nth ocX12_ring_2 (k := 15) rfl
theorem dX12_ring_119 : decode cX12_ring 119 = .ok (.iconst 1, 1) := chk_nth ocX12_ring_2 (k := 16) rfl
theorem dX12_ring_120 : decode cX12_ring 120 = .ok (.iadd, 1) := chk_nth ocX12_ring_2 (k := 17) rfl
theorem dX12_ring_121 : decode cX12_ring 121 = .ok (.iload_n 2, 1) := chk_nth ocX12_ring_2 (k := 18) rfl
theorem dX12_ring_122 : decode cX12_ring 122 = .ok (.if_icmp .ge 13, 3) := chk_nth ocX12_ring_2 (k := 19) rfl
theorem dX12_ring_125 : decode cX12_ring 125 = .ok (.aload_n 0, 1) := chk_nth ocX12_ring_2 (k := 20) rfl
theorem dX12_ring_126 : decode cX12_ring 126 = .ok (.getfield 48, 3) := chk_nth ocX12_ring_2 (k := 21) rfl
theorem dX12_ring_129 : decode cX12_ring 129 = .ok (.iload 4, 2) := chk_nth ocX12_ring_2 (k := 22) rfl
theorem dX12_ring_131 : decode cX12_ring 131 = .ok (.iaload, 1) := chk_nth ocX12_ring_2 (k := 23) rfl
def tcX12_ring_3 : List (Instr × Nat) := [(.iconst 1, 1), (.iadd, 1), (.istore_n 2, 1), (.iinc 5 1, 3), (.goto (-63), 3), (.iinc 4 1, 3), (.goto (-81), 3), (.iinc 3 1, 3), (.goto (-122), 3), (.iload_n 2, 1), (.invokestatic 348, 3), (.ireturn, 1)]
theorem ocX12_ring_3 : chk (cX12_ring.data.toList.drop 132) tcX12_ring_3 = true := by decide +kernel
theorem dX12_ring_132 : decode cX12_ring 132 = .ok (.iconst 1, 1) := chk_nth ocX12_ring_3 (k := 0) rfl
theorem dX12_ring_133 : decode cX12_ring 133 = .ok (.iadd, 1) := chk_nth ocX12_ring_3 (k := 1) rfl
theorem dX12_ring_134 : decode cX12_ring 134 = .ok (.istore_n 2, 1) := chk_nth ocX12_ring_3 (k := 2) rfl
theorem dX12_ring_135 : decode cX12_ring 135 = .ok (.iinc 5 1, 3) := chk_nth ocX12_ring_3 (k := 3) rfl
theorem dX12_ring_138 : decode cX12_ring 138 = .ok (.goto (-63), 3) := chk_nth ocX12_ring_3 (k := 4) rfl
theorem dX12_ring_141 : decode cX12_ring 141 = .ok (.iinc 4 1, 3) := chk_nth ocX12_ring_3 (k := 5) rfl
theorem dX12_ring_144 : decode cX12_ring 144 = .ok (.goto (-81), 3) := chk_nth ocX12_ring_3 (k := 6) rfl
theorem dX12_ring_147 : decode cX12_ring 147 = .ok (.iinc 3 1, 3) := chk_nth ocX12_ring_3 (k := 7) rfl
theorem dX12_ring_150 : decode cX12_ring 150 = .ok (.goto (-122), 3) := chk_nth ocX12_ring_3 (k := 8) rfl
theorem dX12_ring_153 : decode cX12_ring 153 = .ok (.iload_n 2, 1) := chk_nth ocX12_ring_3 (k := 9) rfl
theorem dX12_ring_154 : decode cX12_ring 154 = .ok (.invokestatic 348, 3) := chk_nth ocX12_ring_3 (k := 10) rfl
theorem dX12_ring_157 : decode cX12_ring 157 = .ok (.ireturn, 1) := chk_nth ocX12_ring_3 (k := 11) rfl
def tcX12_shutNow_0 : List (Instr × Nat) := [(.iconst 0, 1), (.istore_n 1, 1), (.iconst 0, 1), (.istore_n 2, 1), (.iload_n 2, 1), (.aload_n 0, 1), (.getfield 13, 3), (.iconst 2, 1), (.iaload, 1), (.if_icmp .ge 32, 3), (.iload_n 1, 1), (.aload_n 0, 1), (.getfield 13, 3), (.bipush 40, 2), (.iload_n 2, 1), (.iadd, 1), (.iaload, 1), (.iconst 3, 1), (.if_icmp .ne 9, 3), (.iconst 1, 1), (.iload_n 2, 1), (.ishl, 1), (.goto 4, 3), (.iconst 0, 1)]
theorem ocX12_shutNow_0 : chk (cX12_shutNow.data.toList.drop 0) tcX12_shutNow_0 = true := by decide +kernel
theorem dX12_shutNow_0 : decode cX12_shutNow 0 = .ok (.iconst 0, 1) := chk_nth ocX12_shutNow_0 (k := 0) rfl
theorem dX12_shutNow_1 : decode cX12_shutNow 1 = .ok (.istore_n 1, 1) := chk_nth ocX12_shutNow_0 (k := 1) rfl
theorem dX12_shutNow_2 : decode cX12_shutNow 2 = .ok (.iconst 0, 1) := chk_nth ocX12_shutNow_0 (k := 2) rfl
theorem dX12_shutNow_3 : decode cX12_shutNow 3 = .ok (.istore_n 2, 1) := chk_nth ocX12_shutNow_0 (k := 3) rfl
theorem dX12_shutNow_4 : decode cX12_shutNow 4 = .ok (.iload_n 2, 1) := chk_nth ocX12_shutNow_0 (k := 4) rfl
theorem dX12_shutNow_5 : decode cX12_shutNow 5 = .ok (.aload_n 0, 1) := chk_nth ocX12_shutNow_0 (k := 5) rfl
theorem dX12_shutNow_6 : decode cX12_shutNow 6 = .ok (.getfield 13, 3) := chk_nth ocX12_shutNow_0 (k := 6) rfl
theorem dX12_shutNow_9 : decode cX12_shutNow 9 = .ok (.iconst 2, 1) := chk_nth ocX12_shutNow_0 (k := 7) rfl
theorem dX12_shutNow_10 : decode cX12_shutNow 10 = .ok (.iaload, 1) := chk_nth ocX12_shutNow_0 (k := 8) rfl
theorem dX12_shutNow_11 : decode cX12_shutNow 11 = .ok (.if_icmp .ge 32, 3) := chk_nth ocX12_shutNow_0 (k := 9) rfl
theorem dX12_shutNow_14 : decode cX12_shutNow 14 = .ok (.iload_n 1, 1) := chk_nth ocX12_shutNow_0 (k := 10) rfl
theorem dX12_shutNow_15 : decode cX12_shutNow 15 = .ok (.aload_n 0, 1) := chk_nth ocX12_shutNow_0 (k := 11) rfl
theorem dX12_shutNow_16 : decode cX12_shutNow 16 = .ok (.getfield 13, 3) := chk_nth ocX12_shutNow_0 (k := 12) rfl
theorem dX12_shutNow_19 : decode cX12_shutNow 19 = .ok (.bipush 40, 2) := chk_nth ocX12_shutNow_0 (k := 13) rfl
theorem dX12_shutNow_21 : decode cX12_shutNow 21 = .ok (.iload_n 2, 1) := chk_nth ocX12_shutNow_0 (k := 14) rfl
theorem dX12_shutNow_22 : decode cX12_shutNow 22 = .ok (.iadd, 1) := chk_nth ocX12_shutNow_0 (k := 15) rfl
theorem dX12_shutNow_23 : decode cX12_shutNow 23 = .ok (.iaload, 1) := chk_nth ocX12_shutNow_0 (k := 16) rfl
theorem dX12_shutNow_24 : decode cX12_shutNow 24 = .ok (.iconst 3, 1) := chk_nth ocX12_shutNow_0 (k := 17) rfl
theorem dX12_shutNow_25 : decode cX12_shutNow 25 = .ok (.if_icmp .ne 9, 3) := chk_nth ocX12_shutNow_0 (k := 18) rfl
theorem dX12_shutNow_28 : decode cX12_shutNow 28 = .ok (.iconst 1, 1) := chk_nth ocX12_shutNow_0 (k := 19) rfl
theorem dX12_shutNow_29 : decode cX12_shutNow 29 = .ok (.iload_n 2, 1) := chk_nth ocX12_shutNow_0 (k := 20) rfl
theorem dX12_shutNow_30 : decode cX12_shutNow 30 = .ok (.ishl, 1) := chk_nth ocX12_shutNow_0 (k := 21) rfl
theorem dX12_shutNow_31 : decode cX12_shutNow 31 = .ok (.goto 4, 3) := chk_nth ocX12_shutNow_0 (k := 22) rfl
theorem dX12_shutNow_34 : decode cX12_shutNow 34 = .ok (.iconst 0, 1) := chk_nth ocX12_shutNow_0 (k := 23) rfl
def tcX12_shutNow_1 : List (Instr × Nat) := [(.ior, 1), (.istore_n 1, 1), (.iinc 2 1, 3), (.goto (-36), 3), (.iload_n 1, 1), (.ireturn, 1)]
theorem ocX12_shutNow_1 : chk (cX12_shutNow.data.toList.drop 35) tcX12_shutNow_1 = true := by decide +kernel
theorem dX12_shutNow_35 : decode cX12_shutNow 35 = .ok (.ior, 1) := chk_nth ocX12_shutNow_1 (k := 0) rfl
theorem dX12_shutNow_36 : decode cX12_shutNow 36 = .ok (.istore_n 1, 1) := chk_nth ocX12_shutNow_1 (k := 1) rfl
theorem dX12_shutNow_37 : decode cX12_shutNow 37 = .ok (.iinc 2 1, 3) := chk_nth ocX12_shutNow_1 (k := 2) rfl
theorem dX12_shutNow_40 : decode cX12_shutNow 40 = .ok (.goto (-36), 3) := chk_nth ocX12_shutNow_1 (k := 3) rfl
theorem dX12_shutNow_43 : decode cX12_shutNow 43 = .ok (.iload_n 1, 1) := chk_nth ocX12_shutNow_1 (k := 4) rfl
theorem dX12_shutNow_44 : decode cX12_shutNow 44 = .ok (.ireturn, 1) := chk_nth ocX12_shutNow_1 (k := 5) rfl
def tcX12_laysBoth_0 : List (Instr × Nat) := [(.iconst 0, 1), (.istore_n 2, 1), (.iload_n 2, 1), (.aload_n 0, 1), (.invokevirtual 329, 3), (.if_icmp .ge 122, 3), (.iconst 0, 1), (.istore_n 3, 1), (.iload_n 3, 1), (.bipush 16, 2), (.if_icmp .ge 108, 3), (.iload_n 3, 1), (.iconst 2, 1), (.idiv, 1), (.istore 4, 2), (.iload 4, 2), (.aload_n 0, 1), (.getfield 13, 3), (.iconst 2, 1), (.iaload, 1), (.if_icmp .ge 55, 3), (.iload_n 2, 1), (.bipush 20, 2), (.idiv, 1)]
theorem ocX12_laysBoth_0 : chk (cX12_laysBoth.data.toList.drop 0) tcX12_laysBoth_0 = true := by decide +kernel
theorem dX12_laysBoth_0 : decode cX12_laysBoth 0 = .ok (.iconst 0, 1) := chk_nth ocX12_laysBoth_0 (k := 0) rfl
theorem dX12_laysBoth_1 : decode cX12_laysBoth 1 = .ok (.istore_n 2, 1) := chk_nth ocX12_laysBoth_0 (k := 1) rfl
theorem dX12_laysBoth_2 : decode cX12_laysBoth 2 = .ok (.iload_n 2, 1) := chk_nth ocX12_laysBoth_0 (k := 2) rfl
theorem dX12_laysBoth_3 : decode cX12_laysBoth 3 = .ok (.aload_n 0, 1) := chk_nth ocX12_laysBoth_0 (k := 3) rfl
theorem dX12_laysBoth_4 : decode cX12_laysBoth 4 = .ok (.invokevirtual 329, 3) := chk_nth ocX12_laysBoth_0 (k := 4) rfl
theorem dX12_laysBoth_7 : decode cX12_laysBoth 7 = .ok (.if_icmp .ge 122, 3) := chk_nth ocX12_laysBoth_0 (k := 5) rfl
theorem dX12_laysBoth_10 : decode cX12_laysBoth 10 = .ok (.iconst 0, 1) := chk_nth ocX12_laysBoth_0 (k := 6) rfl
theorem dX12_laysBoth_11 : decode cX12_laysBoth 11 = .ok (.istore_n 3, 1) := chk_nth ocX12_laysBoth_0 (k := 7) rfl
theorem dX12_laysBoth_12 : decode cX12_laysBoth 12 = .ok (.iload_n 3, 1) := chk_nth ocX12_laysBoth_0 (k := 8) rfl
theorem dX12_laysBoth_13 : decode cX12_laysBoth 13 = .ok (.bipush 16, 2) := chk_nth ocX12_laysBoth_0 (k := 9) rfl
theorem dX12_laysBoth_15 : decode cX12_laysBoth 15 = .ok (.if_icmp .ge 108, 3) := chk_nth ocX12_laysBoth_0 (k := 10) rfl
theorem dX12_laysBoth_18 : decode cX12_laysBoth 18 = .ok (.iload_n 3, 1) := chk_nth ocX12_laysBoth_0 (k := 11) rfl
theorem dX12_laysBoth_19 : decode cX12_laysBoth 19 = .ok (.iconst 2, 1) := chk_nth ocX12_laysBoth_0 (k := 12) rfl
theorem dX12_laysBoth_20 : decode cX12_laysBoth 20 = .ok (.idiv, 1) := chk_nth ocX12_laysBoth_0 (k := 13) rfl
theorem dX12_laysBoth_21 : decode cX12_laysBoth 21 = .ok (.istore 4, 2) := chk_nth ocX12_laysBoth_0 (k := 14) rfl
theorem dX12_laysBoth_23 : decode cX12_laysBoth 23 = .ok (.iload 4, 2) := chk_nth ocX12_laysBoth_0 (k := 15) rfl
theorem dX12_laysBoth_25 : decode cX12_laysBoth 25 = .ok (.aload_n 0, 1) := chk_nth ocX12_laysBoth_0 (k := 16) rfl
theorem dX12_laysBoth_26 : decode cX12_laysBoth 26 = .ok (.getfield 13, 3) := chk_nth ocX12_laysBoth_0 (k := 17) rfl
theorem dX12_laysBoth_29 : decode cX12_laysBoth 29 = .ok (.iconst 2, 1) := chk_nth ocX12_laysBoth_0 (k := 18) rfl
theorem dX12_laysBoth_30 : decode cX12_laysBoth 30 = .ok (.iaload, 1) := chk_nth ocX12_laysBoth_0 (k := 19) rfl
theorem dX12_laysBoth_31 : decode cX12_laysBoth 31 = .ok (.if_icmp .ge 55, 3) := chk_nth ocX12_laysBoth_0 (k := 20) rfl
theorem dX12_laysBoth_34 : decode cX12_laysBoth 34 = .ok (.iload_n 2, 1) := chk_nth ocX12_laysBoth_0 (k := 21) rfl
theorem dX12_laysBoth_35 : decode cX12_laysBoth 35 = .ok (.bipush 20, 2) := chk_nth ocX12_laysBoth_0 (k := 22) rfl
theorem dX12_laysBoth_37 : decode cX12_laysBoth 37 = .ok (.idiv, 1) := chk_nth ocX12_laysBoth_0 (k := 23) rfl
def tcX12_laysBoth_1 : List (Instr × Nat) := [(.iload_n 3, 1), (.iconst 2, 1), (.irem, 1), (.ifCond .ne 16, 3), (.aload_n 0, 1), (.getfield 13, 3), (.bipush 10, 2), (.iload 4, 2), (.iadd, 1), (.iaload, 1), (.goto 13, 3), (.aload_n 0, 1), (.getfield 13, 3), (.bipush 18, 2), (.iload 4, 2), (.iadd, 1), (.iaload, 1), (.if_icmp .ne 19, 3), (.aload_n 0, 1), (.iload_n 1, 1), (.iload_n 2, 1), (.iload 4, 2), (.iconst 2, 1), (.invokevirtual 242, 3)]
theorem ocX12_laysBoth_1 : chk (cX12_laysBoth.data.toList.drop 38) tcX12_laysBoth_1 = true := by decide +kernel
theorem dX12_laysBoth_38 : decode cX12_laysBoth 38 = .ok (.iload_n 3, 1) := chk_nth ocX12_laysBoth_1 (k := 0) rfl
theorem dX12_laysBoth_39 : decode cX12_laysBoth 39 = .ok (.iconst 2, 1) := chk_nth ocX12_laysBoth_1 (k := 1) rfl
theorem dX12_laysBoth_40 : decode cX12_laysBoth 40 = .ok (.irem, 1) := chk_nth ocX12_laysBoth_1 (k := 2) rfl
theorem dX12_laysBoth_41 : decode cX12_laysBoth 41 = .ok (.ifCond .ne 16, 3) := chk_nth ocX12_laysBoth_1 (k := 3) rfl
theorem dX12_laysBoth_44 : decode cX12_laysBoth 44 = .ok (.aload_n 0, 1) := chk_nth ocX12_laysBoth_1 (k := 4) rfl
theorem dX12_laysBoth_45 : decode cX12_laysBoth 45 = .ok (.getfield 13, 3) := chk_nth ocX12_laysBoth_1 (k := 5) rfl
theorem dX12_laysBoth_48 : decode cX12_laysBoth 48 = .ok (.bipush 10, 2) := chk_nth ocX12_laysBoth_1 (k := 6) rfl
theorem dX12_laysBoth_50 : decode cX12_laysBoth 50 = .ok (.iload 4, 2) := chk_nth ocX12_laysBoth_1 (k := 7) rfl
theorem dX12_laysBoth_52 : decode cX12_laysBoth 52 = .ok (.iadd, 1) := chk_nth ocX12_laysBoth_1 (k := 8) rfl
theorem dX12_laysBoth_53 : decode cX12_laysBoth 53 = .ok (.iaload, 1) := chk_nth ocX12_laysBoth_1 (k := 9) rfl
theorem dX12_laysBoth_54 : decode cX12_laysBoth 54 = .ok (.goto 13, 3) := chk_nth ocX12_laysBoth_1 (k := 10) rfl
theorem dX12_laysBoth_57 : decode cX12_laysBoth 57 = .ok (.aload_n 0, 1) := chk_nth ocX12_laysBoth_1 (k := 11) rfl
theorem dX12_laysBoth_58 : decode cX12_laysBoth 58 = .ok (.getfield 13, 3) := chk_nth ocX12_laysBoth_1 (k := 12) rfl
theorem dX12_laysBoth_61 : decode cX12_laysBoth 61 = .ok (.bipush 18, 2) := chk_nth ocX12_laysBoth_1 (k := 13) rfl
theorem dX12_laysBoth_63 : decode cX12_laysBoth 63 = .ok (.iload 4, 2) := chk_nth ocX12_laysBoth_1 (k := 14) rfl
theorem dX12_laysBoth_65 : decode cX12_laysBoth 65 = .ok (.iadd, 1) := chk_nth ocX12_laysBoth_1 (k := 15) rfl
theorem dX12_laysBoth_66 : decode cX12_laysBoth 66 = .ok (.iaload, 1) := chk_nth ocX12_laysBoth_1 (k := 16) rfl
theorem dX12_laysBoth_67 : decode cX12_laysBoth 67 = .ok (.if_icmp .ne 19, 3) := chk_nth ocX12_laysBoth_1 (k := 17) rfl
theorem dX12_laysBoth_70 : decode cX12_laysBoth 70 = .ok (.aload_n 0, 1) := chk_nth ocX12_laysBoth_1 (k := 18) rfl
theorem dX12_laysBoth_71 : decode cX12_laysBoth 71 = .ok (.iload_n 1, 1) := chk_nth ocX12_laysBoth_1 (k := 19) rfl
theorem dX12_laysBoth_72 : decode cX12_laysBoth 72 = .ok (.iload_n 2, 1) := chk_nth ocX12_laysBoth_1 (k := 20) rfl
theorem dX12_laysBoth_73 : decode cX12_laysBoth 73 = .ok (.iload 4, 2) := chk_nth ocX12_laysBoth_1 (k := 21) rfl
theorem dX12_laysBoth_75 : decode cX12_laysBoth 75 = .ok (.iconst 2, 1) := chk_nth ocX12_laysBoth_1 (k := 22) rfl
theorem dX12_laysBoth_76 : decode cX12_laysBoth 76 = .ok (.invokevirtual 242, 3) := chk_nth ocX12_laysBoth_1 (k := 23) rfl
def tcX12_laysBoth_2 : List (Instr × Nat) := [(.ifCond .ne 7, 3), (.iconst 1, 1), (.goto 4, 3), (.iconst 0, 1), (.istore 5, 2), (.aload_n 0, 1), (.getfield 58, 3), (.bipush 16, 2), (.iload_n 2, 1), (.imul, 1), (.iload_n 3, 1), (.iadd, 1), (.iload 5, 2), (.ifCond .eq 14, 3), (.aload_n 0, 1), (.iload_n 1, 1), (.iload_n 2, 1), (.iload 4, 2), (.invokevirtual 251, 3), (.goto 4, 3), (.iconst (-1), 1), (.iastore, 1), (.iinc 3 1, 3), (.goto (-108), 3)]
theorem ocX12_laysBoth_2 : chk (cX12_laysBoth.data.toList.drop 79) tcX12_laysBoth_2 = true := by decide +kernel
theorem dX12_laysBoth_79 : decode cX12_laysBoth 79 = .ok (.ifCond .ne 7, 3) := chk_nth ocX12_laysBoth_2 (k := 0) rfl
theorem dX12_laysBoth_82 : decode cX12_laysBoth 82 = .ok (.iconst 1, 1) := chk_nth ocX12_laysBoth_2 (k := 1) rfl
theorem dX12_laysBoth_83 : decode cX12_laysBoth 83 = .ok (.goto 4, 3) := chk_nth ocX12_laysBoth_2 (k := 2) rfl
theorem dX12_laysBoth_86 : decode cX12_laysBoth 86 = .ok (.iconst 0, 1) := chk_nth ocX12_laysBoth_2 (k := 3) rfl
theorem dX12_laysBoth_87 : decode cX12_laysBoth 87 = .ok (.istore 5, 2) := chk_nth ocX12_laysBoth_2 (k := 4) rfl
theorem dX12_laysBoth_89 : decode cX12_laysBoth 89 = .ok (.aload_n 0, 1) := chk_nth ocX12_laysBoth_2 (k := 5) rfl
theorem dX12_laysBoth_90 : decode cX12_laysBoth 90 = .ok (.getfield 58, 3) := chk_nth ocX12_laysBoth_2 (k := 6) rfl
theorem dX12_laysBoth_93 : decode cX12_laysBoth 93 = .ok (.bipush 16, 2) := chk_nth ocX12_laysBoth_2 (k := 7) rfl
theorem dX12_laysBoth_95 : decode cX12_laysBoth 95 = .ok (.iload_n 2, 1) := chk_nth ocX12_laysBoth_2 (k := 8) rfl
theorem dX12_laysBoth_96 : decode cX12_laysBoth 96 = .ok (.imul, 1) := chk_nth ocX12_laysBoth_2 (k := 9) rfl
theorem dX12_laysBoth_97 : decode cX12_laysBoth 97 = .ok (.iload_n 3, 1) := chk_nth ocX12_laysBoth_2 (k := 10) rfl
theorem dX12_laysBoth_98 : decode cX12_laysBoth 98 = .ok (.iadd, 1) := chk_nth ocX12_laysBoth_2 (k := 11) rfl
theorem dX12_laysBoth_99 : decode cX12_laysBoth 99 = .ok (.iload 5, 2) := chk_nth ocX12_laysBoth_2 (k := 12) rfl
theorem dX12_laysBoth_101 : decode cX12_laysBoth 101 = .ok (.ifCond .eq 14, 3) := chk_nth ocX12_laysBoth_2 (k := 13) rfl
theorem dX12_laysBoth_104 : decode cX12_laysBoth 104 = .ok (.aload_n 0, 1) := chk_nth ocX12_laysBoth_2 (k := 14) rfl
theorem dX12_laysBoth_105 : decode cX12_laysBoth 105 = .ok (.iload_n 1, 1) := chk_nth ocX12_laysBoth_2 (k := 15) rfl
theorem dX12_laysBoth_106 : decode cX12_laysBoth 106 = .ok (.iload_n 2, 1) := chk_nth ocX12_laysBoth_2 (k := 16) rfl
theorem dX12_laysBoth_107 : decode cX12_laysBoth 107 = .ok (.iload 4, 2) := chk_nth ocX12_laysBoth_2 (k := 17) rfl
theorem dX12_laysBoth_109 : decode cX12_laysBoth 109 = .ok (.invokevirtual 251, 3) := chk_nth ocX12_laysBoth_2 (k := 18) rfl
theorem dX12_laysBoth_112 : decode cX12_laysBoth 112 = .ok (.goto 4, 3) := chk_nth ocX12_laysBoth_2 (k := 19) rfl
theorem dX12_laysBoth_115 : decode cX12_laysBoth 115 = .ok (.iconst (-1), 1) := chk_nth ocX12_laysBoth_2 (k := 20) rfl
theorem dX12_laysBoth_116 : decode cX12_laysBoth 116 = .ok (.iastore, 1) := chk_nth ocX12_laysBoth_2 (k := 21) rfl
theorem dX12_laysBoth_117 : decode cX12_laysBoth 117 = .ok (.iinc 3 1, 3) := chk_nth ocX12_laysBoth_2 (k := 22) rfl
theorem dX12_laysBoth_120 : decode cX12_laysBoth 120 = .ok (.goto (-108), 3) := chk_nth ocX12_laysBoth_2 (k := 23) rfl
def tcX12_laysBoth_3 : List (Instr × Nat) := [(.iinc 2 1, 3), (.goto (-124), 3), (.return_, 1)]
theorem ocX12_laysBoth_3 : chk (cX12_laysBoth.data.toList.drop 123) tcX12_laysBoth_3 = true := by decide +kernel
theorem dX12_laysBoth_123 : decode cX12_laysBoth 123 = .ok (.iinc 2 1, 3) := chk_nth ocX12_laysBoth_3 (k := 0) rfl
theorem dX12_laysBoth_126 : decode cX12_laysBoth 126 = .ok (.goto (-124), 3) := chk_nth ocX12_laysBoth_3 (k := 1) rfl
theorem dX12_laysBoth_129 : decode cX12_laysBoth 129 = .ok (.return_, 1) := chk_nth ocX12_laysBoth_3 (k := 2) rfl
def tcX12_lawTo_0 : List (Instr × Nat) := [(.aload_n 0, 1), (.getfield 13, 3), (.bipush 40, 2), (.iload_n 2, 1), (.iadd, 1), (.iaload, 1), (.iconst 3, 1), (.if_icmp .ne 7, 3), (.iconst (-1), 1), (.goto 31, 3), (.aload_n 0, 1), (.getfield 58, 3), (.bipush 16, 2), (.iload_n 1, 1), (.imul, 1), (.iconst 2, 1), (.iload_n 2, 1), (.imul, 1), (.iadd, 1), (.iload_n 3, 1), (.i2l, 1), (.iload_n 2, 1), (.invokestatic 324, 3), (.ifCond .eq 7, 3)]
theorem ocX12_lawTo_0 : chk (cX12_lawTo.data.toList.drop 0) tcX12_lawTo_0 = true := by decide +kernel
theorem dX12_lawTo_0 : decode cX12_lawTo 0 = .ok (.aload_n 0, 1) := chk_nth ocX12_lawTo_0 (k := 0) rfl
theorem dX12_lawTo_1 : decode cX12_lawTo 1 = .ok (.getfield 13, 3) := chk_nth ocX12_lawTo_0 (k := 1) rfl
theorem dX12_lawTo_4 : decode cX12_lawTo 4 = .ok (.bipush 40, 2) := chk_nth ocX12_lawTo_0 (k := 2) rfl
theorem dX12_lawTo_6 : decode cX12_lawTo 6 = .ok (.iload_n 2, 1) := chk_nth ocX12_lawTo_0 (k := 3) rfl
theorem dX12_lawTo_7 : decode cX12_lawTo 7 = .ok (.iadd, 1) := chk_nth ocX12_lawTo_0 (k := 4) rfl
theorem dX12_lawTo_8 : decode cX12_lawTo 8 = .ok (.iaload, 1) := chk_nth ocX12_lawTo_0 (k := 5) rfl
theorem dX12_lawTo_9 : decode cX12_lawTo 9 = .ok (.iconst 3, 1) := chk_nth ocX12_lawTo_0 (k := 6) rfl
theorem dX12_lawTo_10 : decode cX12_lawTo 10 = .ok (.if_icmp .ne 7, 3) := chk_nth ocX12_lawTo_0 (k := 7) rfl
theorem dX12_lawTo_13 : decode cX12_lawTo 13 = .ok (.iconst (-1), 1) := chk_nth ocX12_lawTo_0 (k := 8) rfl
theorem dX12_lawTo_14 : decode cX12_lawTo 14 = .ok (.goto 31, 3) := chk_nth ocX12_lawTo_0 (k := 9) rfl
theorem dX12_lawTo_17 : decode cX12_lawTo 17 = .ok (.aload_n 0, 1) := chk_nth ocX12_lawTo_0 (k := 10) rfl
theorem dX12_lawTo_18 : decode cX12_lawTo 18 = .ok (.getfield 58, 3) := chk_nth ocX12_lawTo_0 (k := 11) rfl
theorem dX12_lawTo_21 : decode cX12_lawTo 21 = .ok (.bipush 16, 2) := chk_nth ocX12_lawTo_0 (k := 12) rfl
theorem dX12_lawTo_23 : decode cX12_lawTo 23 = .ok (.iload_n 1, 1) := chk_nth ocX12_lawTo_0 (k := 13) rfl
theorem dX12_lawTo_24 : decode cX12_lawTo 24 = .ok (.imul, 1) := chk_nth ocX12_lawTo_0 (k := 14) rfl
theorem dX12_lawTo_25 : decode cX12_lawTo 25 = .ok (.iconst 2, 1) := chk_nth ocX12_lawTo_0 (k := 15) rfl
theorem dX12_lawTo_26 : decode cX12_lawTo 26 = .ok (.iload_n 2, 1) := chk_nth ocX12_lawTo_0 (k := 16) rfl
theorem dX12_lawTo_27 : decode cX12_lawTo 27 = .ok (.imul, 1) := chk_nth ocX12_lawTo_0 (k := 17) rfl
theorem dX12_lawTo_28 : decode cX12_lawTo 28 = .ok (.iadd, 1) := chk_nth ocX12_lawTo_0 (k := 18) rfl
theorem dX12_lawTo_29 : decode cX12_lawTo 29 = .ok (.iload_n 3, 1) := chk_nth ocX12_lawTo_0 (k := 19) rfl
theorem dX12_lawTo_30 : decode cX12_lawTo 30 = .ok (.i2l, 1) := chk_nth ocX12_lawTo_0 (k := 20) rfl
theorem dX12_lawTo_31 : decode cX12_lawTo 31 = .ok (.iload_n 2, 1) := chk_nth ocX12_lawTo_0 (k := 21) rfl
theorem dX12_lawTo_32 : decode cX12_lawTo 32 = .ok (.invokestatic 324, 3) := chk_nth ocX12_lawTo_0 (k := 22) rfl
theorem dX12_lawTo_35 : decode cX12_lawTo 35 = .ok (.ifCond .eq 7, 3) := chk_nth ocX12_lawTo_0 (k := 23) rfl
def tcX12_lawTo_1 : List (Instr × Nat) := [(.iconst 1, 1), (.goto 4, 3), (.iconst 0, 1), (.iadd, 1), (.iaload, 1), (.ireturn, 1)]
theorem ocX12_lawTo_1 : chk (cX12_lawTo.data.toList.drop 38) tcX12_lawTo_1 = true := by decide +kernel
theorem dX12_lawTo_38 : decode cX12_lawTo 38 = .ok (.iconst 1, 1) := chk_nth ocX12_lawTo_1 (k := 0) rfl
theorem dX12_lawTo_39 : decode cX12_lawTo 39 = .ok (.goto 4, 3) := chk_nth ocX12_lawTo_1 (k := 1) rfl
theorem dX12_lawTo_42 : decode cX12_lawTo 42 = .ok (.iconst 0, 1) := chk_nth ocX12_lawTo_1 (k := 2) rfl
theorem dX12_lawTo_43 : decode cX12_lawTo 43 = .ok (.iadd, 1) := chk_nth ocX12_lawTo_1 (k := 3) rfl
theorem dX12_lawTo_44 : decode cX12_lawTo 44 = .ok (.iaload, 1) := chk_nth ocX12_lawTo_1 (k := 4) rfl
theorem dX12_lawTo_45 : decode cX12_lawTo 45 = .ok (.ireturn, 1) := chk_nth ocX12_lawTo_1 (k := 5) rfl
def tcX12_noRing_0 : List (Instr × Nat) := [(.iconst 0, 1), (.istore_n 3, 1), (.iload_n 3, 1), (.bipush 120, 2), (.if_icmp .ge 38, 3), (.aload_n 0, 1), (.getfield 45, 3), (.iload_n 3, 1), (.iload_n 3, 1), (.aload_n 0, 1), (.iload_n 1, 1), (.invokevirtual 239, 3), (.if_icmp .ne 7, 3), (.iconst 0, 1), (.goto 6, 3), (.ldc_w 328, 3), (.iastore, 1), (.aload_n 0, 1), (.getfield 61, 3), (.iload_n 3, 1), (.iconst 0, 1), (.iastore, 1), (.iinc 3 1, 3), (.goto (-38), 3)]
theorem ocX12_noRing_0 : chk (cX12_noRing.data.toList.drop 0) tcX12_noRing_0 = true := by decide +kernel
theorem dX12_noRing_0 : decode cX12_noRing 0 = .ok (.iconst 0, 1) := chk_nth ocX12_noRing_0 (k := 0) rfl
theorem dX12_noRing_1 : decode cX12_noRing 1 = .ok (.istore_n 3, 1) := chk_nth ocX12_noRing_0 (k := 1) rfl
theorem dX12_noRing_2 : decode cX12_noRing 2 = .ok (.iload_n 3, 1) := chk_nth ocX12_noRing_0 (k := 2) rfl
theorem dX12_noRing_3 : decode cX12_noRing 3 = .ok (.bipush 120, 2) := chk_nth ocX12_noRing_0 (k := 3) rfl
theorem dX12_noRing_5 : decode cX12_noRing 5 = .ok (.if_icmp .ge 38, 3) := chk_nth ocX12_noRing_0 (k := 4) rfl
theorem dX12_noRing_8 : decode cX12_noRing 8 = .ok (.aload_n 0, 1) := chk_nth ocX12_noRing_0 (k := 5) rfl
theorem dX12_noRing_9 : decode cX12_noRing 9 = .ok (.getfield 45, 3) := chk_nth ocX12_noRing_0 (k := 6) rfl
theorem dX12_noRing_12 : decode cX12_noRing 12 = .ok (.iload_n 3, 1) := chk_nth ocX12_noRing_0 (k := 7) rfl
theorem dX12_noRing_13 : decode cX12_noRing 13 = .ok (.iload_n 3, 1) := chk_nth ocX12_noRing_0 (k := 8) rfl
theorem dX12_noRing_14 : decode cX12_noRing 14 = .ok (.aload_n 0, 1) := chk_nth ocX12_noRing_0 (k := 9) rfl
theorem dX12_noRing_15 : decode cX12_noRing 15 = .ok (.iload_n 1, 1) := chk_nth ocX12_noRing_0 (k := 10) rfl
theorem dX12_noRing_16 : decode cX12_noRing 16 = .ok (.invokevirtual 239, 3) := chk_nth ocX12_noRing_0 (k := 11) rfl
theorem dX12_noRing_19 : decode cX12_noRing 19 = .ok (.if_icmp .ne 7, 3) := chk_nth ocX12_noRing_0 (k := 12) rfl
theorem dX12_noRing_22 : decode cX12_noRing 22 = .ok (.iconst 0, 1) := chk_nth ocX12_noRing_0 (k := 13) rfl
theorem dX12_noRing_23 : decode cX12_noRing 23 = .ok (.goto 6, 3) := chk_nth ocX12_noRing_0 (k := 14) rfl
theorem dX12_noRing_26 : decode cX12_noRing 26 = .ok (.ldc_w 328, 3) := chk_nth ocX12_noRing_0 (k := 15) rfl
theorem dX12_noRing_29 : decode cX12_noRing 29 = .ok (.iastore, 1) := chk_nth ocX12_noRing_0 (k := 16) rfl
theorem dX12_noRing_30 : decode cX12_noRing 30 = .ok (.aload_n 0, 1) := chk_nth ocX12_noRing_0 (k := 17) rfl
theorem dX12_noRing_31 : decode cX12_noRing 31 = .ok (.getfield 61, 3) := chk_nth ocX12_noRing_0 (k := 18) rfl
theorem dX12_noRing_34 : decode cX12_noRing 34 = .ok (.iload_n 3, 1) := chk_nth ocX12_noRing_0 (k := 19) rfl
theorem dX12_noRing_35 : decode cX12_noRing 35 = .ok (.iconst 0, 1) := chk_nth ocX12_noRing_0 (k := 20) rfl
theorem dX12_noRing_36 : decode cX12_noRing 36 = .ok (.iastore, 1) := chk_nth ocX12_noRing_0 (k := 21) rfl
theorem dX12_noRing_37 : decode cX12_noRing 37 = .ok (.iinc 3 1, 3) := chk_nth ocX12_noRing_0 (k := 22) rfl
theorem dX12_noRing_40 : decode cX12_noRing 40 = .ok (.goto (-38), 3) := chk_nth ocX12_noRing_0 (k := 23) rfl
def tcX12_noRing_1 : List (Instr × Nat) := [(.iconst 1, 1), (.istore_n 3, 1), (.iload_n 3, 1), (.ifCond .eq 96, 3), (.iconst 0, 1), (.istore_n 3, 1), (.iconst 0, 1), (.istore 4, 2), (.iload 4, 2), (.aload_n 0, 1), (.invokevirtual 329, 3), (.if_icmp .ge 79, 3), (.iconst 0, 1), (.istore 5, 2), (.iload 5, 2), (.aload_n 0, 1), (.getfield 13, 3), (.iconst 2, 1), (.iaload, 1), (.if_icmp .ge 59, 3), (.aload_n 0, 1), (.getfield 45, 3), (.iload 4, 2), (.iaload, 1)]
theorem ocX12_noRing_1 : chk (cX12_noRing.data.toList.drop 43) tcX12_noRing_1 = true := by decide +kernel
theorem dX12_noRing_43 : decode cX12_noRing 43 = .ok (.iconst 1, 1) := chk_nth ocX12_noRing_1 (k := 0) rfl
theorem dX12_noRing_44 : decode cX12_noRing 44 = .ok (.istore_n 3, 1) := chk_nth ocX12_noRing_1 (k := 1) rfl
theorem dX12_noRing_45 : decode cX12_noRing 45 = .ok (.iload_n 3, 1) := chk_nth ocX12_noRing_1 (k := 2) rfl
theorem dX12_noRing_46 : decode cX12_noRing 46 = .ok (.ifCond .eq 96, 3) := chk_nth ocX12_noRing_1 (k := 3) rfl
theorem dX12_noRing_49 : decode cX12_noRing 49 = .ok (.iconst 0, 1) := chk_nth ocX12_noRing_1 (k := 4) rfl
theorem dX12_noRing_50 : decode cX12_noRing 50 = .ok (.istore_n 3, 1) := chk_nth ocX12_noRing_1 (k := 5) rfl
theorem dX12_noRing_51 : decode cX12_noRing 51 = .ok (.iconst 0, 1) := chk_nth ocX12_noRing_1 (k := 6) rfl
theorem dX12_noRing_52 : decode cX12_noRing 52 = .ok (.istore 4, 2) := chk_nth ocX12_noRing_1 (k := 7) rfl
theorem dX12_noRing_54 : decode cX12_noRing 54 = .ok (.iload 4, 2) := chk_nth ocX12_noRing_1 (k := 8) rfl
theorem dX12_noRing_56 : decode cX12_noRing 56 = .ok (.aload_n 0, 1) := chk_nth ocX12_noRing_1 (k := 9) rfl
theorem dX12_noRing_57 : decode cX12_noRing 57 = .ok (.invokevirtual 329, 3) := chk_nth ocX12_noRing_1 (k := 10) rfl
theorem dX12_noRing_60 : decode cX12_noRing 60 = .ok (.if_icmp .ge 79, 3) := chk_nth ocX12_noRing_1 (k := 11) rfl
theorem dX12_noRing_63 : decode cX12_noRing 63 = .ok (.iconst 0, 1) := chk_nth ocX12_noRing_1 (k := 12) rfl
theorem dX12_noRing_64 : decode cX12_noRing 64 = .ok (.istore 5, 2) := chk_nth ocX12_noRing_1 (k := 13) rfl
theorem dX12_noRing_66 : decode cX12_noRing 66 = .ok (.iload 5, 2) := chk_nth ocX12_noRing_1 (k := 14) rfl
theorem dX12_noRing_68 : decode cX12_noRing 68 = .ok (.aload_n 0, 1) := chk_nth ocX12_noRing_1 (k := 15) rfl
theorem dX12_noRing_69 : decode cX12_noRing 69 = .ok (.getfield 13, 3) := chk_nth ocX12_noRing_1 (k := 16) rfl
theorem dX12_noRing_72 : decode cX12_noRing 72 = .ok (.iconst 2, 1) := chk_nth ocX12_noRing_1 (k := 17) rfl
theorem dX12_noRing_73 : decode cX12_noRing 73 = .ok (.iaload, 1) := chk_nth ocX12_noRing_1 (k := 18) rfl
theorem dX12_noRing_74 : decode cX12_noRing 74 = .ok (.if_icmp .ge 59, 3) := chk_nth ocX12_noRing_1 (k := 19) rfl
theorem dX12_noRing_77 : decode cX12_noRing 77 = .ok (.aload_n 0, 1) := chk_nth ocX12_noRing_1 (k := 20) rfl
theorem dX12_noRing_78 : decode cX12_noRing 78 = .ok (.getfield 45, 3) := chk_nth ocX12_noRing_1 (k := 21) rfl
theorem dX12_noRing_81 : decode cX12_noRing 81 = .ok (.iload 4, 2) := chk_nth ocX12_noRing_1 (k := 22) rfl
theorem dX12_noRing_83 : decode cX12_noRing 83 = .ok (.iaload, 1) := chk_nth ocX12_noRing_1 (k := 23) rfl
def tcX12_noRing_2 : List (Instr × Nat) := [(.ifCond .ne 49, 3), (.aload_n 0, 1), (.iload 4, 2), (.iload 5, 2), (.iload_n 2, 1), (.invokevirtual 381, 3), (.istore 6, 2), (.iload 6, 2), (.iconst (-1), 1), (.if_icmp .eq 26, 3), (.aload_n 0, 1), (.getfield 45, 3), (.iload 6, 2), (.iaload, 1), (.ifCond .ne 6, 3), (.goto 13, 3), (.aload_n 0, 1), (.getfield 45, 3), (.iload 6, 2), (.iconst 0, 1), (.iastore, 1), (.iconst 1, 1), (.istore_n 3, 1), (.iinc 5 1, 3)]
theorem ocX12_noRing_2 : chk (cX12_noRing.data.toList.drop 84) tcX12_noRing_2 = true := by decide +kernel
theorem dX12_noRing_84 : decode cX12_noRing 84 = .ok (.ifCond .ne 49, 3) := chk_nth ocX12_noRing_2 (k := 0) rfl
theorem dX12_noRing_87 : decode cX12_noRing 87 = .ok (.aload_n 0, 1) := chk_nth ocX12_noRing_2 (k := 1) rfl
theorem dX12_noRing_88 : decode cX12_noRing 88 = .ok (.iload 4, 2) := chk_nth ocX12_noRing_2 (k := 2) rfl
theorem dX12_noRing_90 : decode cX12_noRing 90 = .ok (.iload 5, 2) := chk_nth ocX12_noRing_2 (k := 3) rfl
theorem dX12_noRing_92 : decode cX12_noRing 92 = .ok (.iload_n 2, 1) := chk_nth ocX12_noRing_2 (k := 4) rfl
theorem dX12_noRing_93 : decode cX12_noRing 93 = .ok (.invokevirtual 381, 3) := chk_nth ocX12_noRing_2 (k := 5) rfl
theorem dX12_noRing_96 : decode cX12_noRing 96 = .ok (.istore 6, 2) := chk_nth ocX12_noRing_2 (k := 6) rfl
theorem dX12_noRing_98 : decode cX12_noRing 98 = .ok (.iload 6, 2) := chk_nth ocX12_noRing_2 (k := 7) rfl
theorem dX12_noRing_100 : decode cX12_noRing 100 = .ok (.iconst (-1), 1) := chk_nth ocX12_noRing_2 (k := 8) rfl
theorem dX12_noRing_101 : decode cX12_noRing 101 = .ok (.if_icmp .eq 26, 3) := chk_nth ocX12_noRing_2 (k := 9) rfl
theorem dX12_noRing_104 : decode cX12_noRing 104 = .ok (.aload_n 0, 1) := chk_nth ocX12_noRing_2 (k := 10) rfl
theorem dX12_noRing_105 : decode cX12_noRing 105 = .ok (.getfield 45, 3) := chk_nth ocX12_noRing_2 (k := 11) rfl
theorem dX12_noRing_108 : decode cX12_noRing 108 = .ok (.iload 6, 2) := chk_nth ocX12_noRing_2 (k := 12) rfl
theorem dX12_noRing_110 : decode cX12_noRing 110 = .ok (.iaload, 1) := chk_nth ocX12_noRing_2 (k := 13) rfl
theorem dX12_noRing_111 : decode cX12_noRing 111 = .ok (.ifCond .ne 6, 3) := chk_nth ocX12_noRing_2 (k := 14) rfl
theorem dX12_noRing_114 : decode cX12_noRing 114 = .ok (.goto 13, 3) := chk_nth ocX12_noRing_2 (k := 15) rfl
theorem dX12_noRing_117 : decode cX12_noRing 117 = .ok (.aload_n 0, 1) := chk_nth ocX12_noRing_2 (k := 16) rfl
theorem dX12_noRing_118 : decode cX12_noRing 118 = .ok (.getfield 45, 3) := chk_nth ocX12_noRing_2 (k := 17) rfl
theorem dX12_noRing_121 : decode cX12_noRing 121 = .ok (.iload 6, 2) := chk_nth ocX12_noRing_2 (k := 18) rfl
theorem dX12_noRing_123 : decode cX12_noRing 123 = .ok (.iconst 0, 1) := chk_nth ocX12_noRing_2 (k := 19) rfl
theorem dX12_noRing_124 : decode cX12_noRing 124 = .ok (.iastore, 1) := chk_nth ocX12_noRing_2 (k := 20) rfl
theorem dX12_noRing_125 : decode cX12_noRing 125 = .ok (.iconst 1, 1) := chk_nth ocX12_noRing_2 (k := 21) rfl
theorem dX12_noRing_126 : decode cX12_noRing 126 = .ok (.istore_n 3, 1) := chk_nth ocX12_noRing_2 (k := 22) rfl
theorem dX12_noRing_127 : decode cX12_noRing 127 = .ok (.iinc 5 1, 3) := chk_nth ocX12_noRing_2 (k := 23) rfl
def tcX12_noRing_3 : List (Instr × Nat) := [(.goto (-64), 3), (.iinc 4 1, 3), (.goto (-82), 3), (.goto (-94), 3), (.iconst 0, 1), (.istore 4, 2), (.iload 4, 2), (.aload_n 0, 1), (.invokevirtual 329, 3), (.if_icmp .ge 70, 3), (.iconst 0, 1), (.istore 5, 2), (.iload 5, 2), (.aload_n 0, 1), (.getfield 13, 3), (.iconst 2, 1), (.iaload, 1), (.if_icmp .ge 50, 3), (.aload_n 0, 1), (.getfield 45, 3), (.iload 4, 2), (.iaload, 1), (.ifCond .ne 40, 3), (.aload_n 0, 1)]
theorem ocX12_noRing_3 : chk (cX12_noRing.data.toList.drop 130) tcX12_noRing_3 = true := by decide +kernel
theorem dX12_noRing_130 : decode cX12_noRing 130 = .ok (.goto (-64), 3) := chk_nth ocX12_noRing_3 (k := 0) rfl
theorem dX12_noRing_133 : decode cX12_noRing 133 = .ok (.iinc 4 1, 3) := chk_nth ocX12_noRing_3 (k := 1) rfl
theorem dX12_noRing_136 : decode cX12_noRing 136 = .ok (.goto (-82), 3) := chk_nth ocX12_noRing_3 (k := 2) rfl
theorem dX12_noRing_139 : decode cX12_noRing 139 = .ok (.goto (-94), 3) := chk_nth ocX12_noRing_3 (k := 3) rfl
theorem dX12_noRing_142 : decode cX12_noRing 142 = .ok (.iconst 0, 1) := chk_nth ocX12_noRing_3 (k := 4) rfl
theorem dX12_noRing_143 : decode cX12_noRing 143 = .ok (.istore 4, 2) := chk_nth ocX12_noRing_3 (k := 5) rfl
theorem dX12_noRing_145 : decode cX12_noRing 145 = .ok (.iload 4, 2) := chk_nth ocX12_noRing_3 (k := 6) rfl
theorem dX12_noRing_147 : decode cX12_noRing 147 = .ok (.aload_n 0, 1) := chk_nth ocX12_noRing_3 (k := 7) rfl
theorem dX12_noRing_148 : decode cX12_noRing 148 = .ok (.invokevirtual 329, 3) := chk_nth ocX12_noRing_3 (k := 8) rfl
theorem dX12_noRing_151 : decode cX12_noRing 151 = .ok (.if_icmp .ge 70, 3) := chk_nth ocX12_noRing_3 (k := 9) rfl
theorem dX12_noRing_154 : decode cX12_noRing 154 = .ok (.iconst 0, 1) := chk_nth ocX12_noRing_3 (k := 10) rfl
theorem dX12_noRing_155 : decode cX12_noRing 155 = .ok (.istore 5, 2) := chk_nth ocX12_noRing_3 (k := 11) rfl
theorem dX12_noRing_157 : decode cX12_noRing 157 = .ok (.iload 5, 2) := chk_nth ocX12_noRing_3 (k := 12) rfl
theorem dX12_noRing_159 : decode cX12_noRing 159 = .ok (.aload_n 0, 1) := chk_nth ocX12_noRing_3 (k := 13) rfl
theorem dX12_noRing_160 : decode cX12_noRing 160 = .ok (.getfield 13, 3) := chk_nth ocX12_noRing_3 (k := 14) rfl
theorem dX12_noRing_163 : decode cX12_noRing 163 = .ok (.iconst 2, 1) := chk_nth ocX12_noRing_3 (k := 15) rfl
theorem dX12_noRing_164 : decode cX12_noRing 164 = .ok (.iaload, 1) := chk_nth ocX12_noRing_3 (k := 16) rfl
theorem dX12_noRing_165 : decode cX12_noRing 165 = .ok (.if_icmp .ge 50, 3) := chk_nth ocX12_noRing_3 (k := 17) rfl
theorem dX12_noRing_168 : decode cX12_noRing 168 = .ok (.aload_n 0, 1) := chk_nth ocX12_noRing_3 (k := 18) rfl
theorem dX12_noRing_169 : decode cX12_noRing 169 = .ok (.getfield 45, 3) := chk_nth ocX12_noRing_3 (k := 19) rfl
theorem dX12_noRing_172 : decode cX12_noRing 172 = .ok (.iload 4, 2) := chk_nth ocX12_noRing_3 (k := 20) rfl
theorem dX12_noRing_174 : decode cX12_noRing 174 = .ok (.iaload, 1) := chk_nth ocX12_noRing_3 (k := 21) rfl
theorem dX12_noRing_175 : decode cX12_noRing 175 = .ok (.ifCond .ne 40, 3) := chk_nth ocX12_noRing_3 (k := 22) rfl
theorem dX12_noRing_178 : decode cX12_noRing 178 = .ok (.aload_n 0, 1) := chk_nth ocX12_noRing_3 (k := 23) rfl
def tcX12_noRing_4 : List (Instr × Nat) := [(.iload 4, 2), (.iload 5, 2), (.iload_n 2, 1), (.invokevirtual 381, 3), (.iconst (-1), 1), (.if_icmp .eq 21, 3), (.aload_n 0, 1), (.getfield 61, 3), (.aload_n 0, 1), (.iload 4, 2), (.iload 5, 2), (.iload_n 2, 1), (.invokevirtual 381, 3), (.dup2, 1), (.iaload, 1), (.iconst 1, 1), (.iadd, 1), (.iastore, 1), (.iinc 5 1, 3), (.goto (-55), 3), (.iinc 4 1, 3), (.goto (-73), 3), (.iconst 1, 1), (.istore_n 3, 1)]
theorem ocX12_noRing_4 : chk (cX12_noRing.data.toList.drop 179) tcX12_noRing_4 = true := by decide +kernel
theorem dX12_noRing_179 : decode cX12_noRing 179 = .ok (.iload 4, 2) := chk_nth ocX12_noRing_4 (k := 0) rfl
theorem dX12_noRing_181 : decode cX12_noRing 181 = .ok (.iload 5, 2) := chk_nth ocX12_noRing_4 (k := 1) rfl
theorem dX12_noRing_183 : decode cX12_noRing 183 = .ok (.iload_n 2, 1) := chk_nth ocX12_noRing_4 (k := 2) rfl
theorem dX12_noRing_184 : decode cX12_noRing 184 = .ok (.invokevirtual 381, 3) := chk_nth ocX12_noRing_4 (k := 3) rfl
theorem dX12_noRing_187 : decode cX12_noRing 187 = .ok (.iconst (-1), 1) := chk_nth ocX12_noRing_4 (k := 4) rfl
theorem dX12_noRing_188 : decode cX12_noRing 188 = .ok (.if_icmp .eq 21, 3) := chk_nth ocX12_noRing_4 (k := 5) rfl
theorem dX12_noRing_191 : decode cX12_noRing 191 = .ok (.aload_n 0, 1) := chk_nth ocX12_noRing_4 (k := 6) rfl
theorem dX12_noRing_192 : decode cX12_noRing 192 = .ok (.getfield 61, 3) := chk_nth ocX12_noRing_4 (k := 7) rfl
theorem dX12_noRing_195 : decode cX12_noRing 195 = .ok (.aload_n 0, 1) := chk_nth ocX12_noRing_4 (k := 8) rfl
theorem dX12_noRing_196 : decode cX12_noRing 196 = .ok (.iload 4, 2) := chk_nth ocX12_noRing_4 (k := 9) rfl
theorem dX12_noRing_198 : decode cX12_noRing 198 = .ok (.iload 5, 2) := chk_nth ocX12_noRing_4 (k := 10) rfl
theorem dX12_noRing_200 : decode cX12_noRing 200 = .ok (.iload_n 2, 1) := chk_nth ocX12_noRing_4 (k := 11) rfl
theorem dX12_noRing_201 : decode cX12_noRing 201 = .ok (.invokevirtual 381, 3) := chk_nth ocX12_noRing_4 (k := 12) rfl
theorem dX12_noRing_204 : decode cX12_noRing 204 = .ok (.dup2, 1) := chk_nth ocX12_noRing_4 (k := 13) rfl
theorem dX12_noRing_205 : decode cX12_noRing 205 = .ok (.iaload, 1) := chk_nth ocX12_noRing_4 (k := 14) rfl
theorem dX12_noRing_206 : decode cX12_noRing 206 = .ok (.iconst 1, 1) := chk_nth ocX12_noRing_4 (k := 15) rfl
theorem dX12_noRing_207 : decode cX12_noRing 207 = .ok (.iadd, 1) := chk_nth ocX12_noRing_4 (k := 16) rfl
theorem dX12_noRing_208 : decode cX12_noRing 208 = .ok (.iastore, 1) := chk_nth ocX12_noRing_4 (k := 17) rfl
theorem dX12_noRing_209 : decode cX12_noRing 209 = .ok (.iinc 5 1, 3) := chk_nth ocX12_noRing_4 (k := 18) rfl
theorem dX12_noRing_212 : decode cX12_noRing 212 = .ok (.goto (-55), 3) := chk_nth ocX12_noRing_4 (k := 19) rfl
theorem dX12_noRing_215 : decode cX12_noRing 215 = .ok (.iinc 4 1, 3) := chk_nth ocX12_noRing_4 (k := 20) rfl
theorem dX12_noRing_218 : decode cX12_noRing 218 = .ok (.goto (-73), 3) := chk_nth ocX12_noRing_4 (k := 21) rfl
theorem dX12_noRing_221 : decode cX12_noRing 221 = .ok (.iconst 1, 1) := chk_nth ocX12_noRing_4 (k := 22) rfl
theorem dX12_noRing_222 : decode cX12_noRing 222 = .ok (.istore_n 3, 1) := chk_nth ocX12_noRing_4 (k := 23) rfl
def tcX12_noRing_5 : List (Instr × Nat) := [(.iload_n 3, 1), (.ifCond .eq 112, 3), (.iconst 0, 1), (.istore_n 3, 1), (.iconst 0, 1), (.istore 4, 2), (.iload 4, 2), (.aload_n 0, 1), (.invokevirtual 329, 3), (.if_icmp .ge 95, 3), (.aload_n 0, 1), (.getfield 45, 3), (.iload 4, 2), (.iaload, 1), (.ifCond .ne 79, 3), (.aload_n 0, 1), (.getfield 61, 3), (.iload 4, 2), (.iaload, 1), (.ifCond .le 6, 3), (.goto 66, 3), (.aload_n 0, 1), (.getfield 45, 3), (.iload 4, 2)]
theorem ocX12_noRing_5 : chk (cX12_noRing.data.toList.drop 223) tcX12_noRing_5 = true := by decide +kernel
theorem dX12_noRing_223 : decode cX12_noRing 223 = .ok (.iload_n 3, 1) := chk_nth ocX12_noRing_5 (k := 0) rfl
theorem dX12_noRing_224 : decode cX12_noRing 224 = .ok (.ifCond .eq 112, 3) := chk_nth ocX12_noRing_5 (k := 1) rfl
theorem dX12_noRing_227 : decode cX12_noRing 227 = .ok (.iconst 0, 1) := chk_nth ocX12_noRing_5 (k := 2) rfl
theorem dX12_noRing_228 : decode cX12_noRing 228 = .ok (.istore_n 3, 1) := chk_nth ocX12_noRing_5 (k := 3) rfl
theorem dX12_noRing_229 : decode cX12_noRing 229 = .ok (.iconst 0, 1) := chk_nth ocX12_noRing_5 (k := 4) rfl
theorem dX12_noRing_230 : decode cX12_noRing 230 = .ok (.istore 4, 2) := chk_nth ocX12_noRing_5 (k := 5) rfl
theorem dX12_noRing_232 : decode cX12_noRing 232 = .ok (.iload 4, 2) := chk_nth ocX12_noRing_5 (k := 6) rfl
theorem dX12_noRing_234 : decode cX12_noRing 234 = .ok (.aload_n 0, 1) := chk_nth ocX12_noRing_5 (k := 7) rfl
theorem dX12_noRing_235 : decode cX12_noRing 235 = .ok (.invokevirtual 329, 3) := chk_nth ocX12_noRing_5 (k := 8) rfl
theorem dX12_noRing_238 : decode cX12_noRing 238 = .ok (.if_icmp .ge 95, 3) := chk_nth ocX12_noRing_5 (k := 9) rfl
theorem dX12_noRing_241 : decode cX12_noRing 241 = .ok (.aload_n 0, 1) := chk_nth ocX12_noRing_5 (k := 10) rfl
theorem dX12_noRing_242 : decode cX12_noRing 242 = .ok (.getfield 45, 3) := chk_nth ocX12_noRing_5 (k := 11) rfl
theorem dX12_noRing_245 : decode cX12_noRing 245 = .ok (.iload 4, 2) := chk_nth ocX12_noRing_5 (k := 12) rfl
theorem dX12_noRing_247 : decode cX12_noRing 247 = .ok (.iaload, 1) := chk_nth ocX12_noRing_5 (k := 13) rfl
theorem dX12_noRing_248 : decode cX12_noRing 248 = .ok (.ifCond .ne 79, 3) := chk_nth ocX12_noRing_5 (k := 14) rfl
theorem dX12_noRing_251 : decode cX12_noRing 251 = .ok (.aload_n 0, 1) := chk_nth ocX12_noRing_5 (k := 15) rfl
theorem dX12_noRing_252 : decode cX12_noRing 252 = .ok (.getfield 61, 3) := chk_nth ocX12_noRing_5 (k := 16) rfl
theorem dX12_noRing_255 : decode cX12_noRing 255 = .ok (.iload 4, 2) := chk_nth ocX12_noRing_5 (k := 17) rfl
theorem dX12_noRing_257 : decode cX12_noRing 257 = .ok (.iaload, 1) := chk_nth ocX12_noRing_5 (k := 18) rfl
theorem dX12_noRing_258 : decode cX12_noRing 258 = .ok (.ifCond .le 6, 3) := chk_nth ocX12_noRing_5 (k := 19) rfl
theorem dX12_noRing_261 : decode cX12_noRing 261 = .ok (.goto 66, 3) := chk_nth ocX12_noRing_5 (k := 20) rfl
theorem dX12_noRing_264 : decode cX12_noRing 264 = .ok (.aload_n 0, 1) := chk_nth ocX12_noRing_5 (k := 21) rfl
theorem dX12_noRing_265 : decode cX12_noRing 265 = .ok (.getfield 45, 3) := chk_nth ocX12_noRing_5 (k := 22) rfl
theorem dX12_noRing_268 : decode cX12_noRing 268 = .ok (.iload 4, 2) := chk_nth ocX12_noRing_5 (k := 23) rfl
def tcX12_noRing_6 : List (Instr × Nat) := [(.ldc_w 328, 3), (.iastore, 1), (.iconst 1, 1), (.istore_n 3, 1), (.iconst 0, 1), (.istore 5, 2), (.iload 5, 2), (.aload_n 0, 1), (.getfield 13, 3), (.iconst 2, 1), (.iaload, 1), (.if_icmp .ge 40, 3), (.aload_n 0, 1), (.iload 4, 2), (.iload 5, 2), (.iload_n 2, 1), (.invokevirtual 381, 3), (.iconst (-1), 1), (.if_icmp .eq 21, 3), (.aload_n 0, 1), (.getfield 61, 3), (.aload_n 0, 1), (.iload 4, 2), (.iload 5, 2)]
theorem ocX12_noRing_6 : chk (cX12_noRing.data.toList.drop 270) tcX12_noRing_6 = true := by decide +kernel
theorem dX12_noRing_270 : decode cX12_noRing 270 = .ok (.ldc_w 328, 3) := chk_nth ocX12_noRing_6 (k := 0) rfl
theorem dX12_noRing_273 : decode cX12_noRing 273 = .ok (.iastore, 1) := chk_nth ocX12_noRing_6 (k := 1) rfl
theorem dX12_noRing_274 : decode cX12_noRing 274 = .ok (.iconst 1, 1) := chk_nth ocX12_noRing_6 (k := 2) rfl
theorem dX12_noRing_275 : decode cX12_noRing 275 = .ok (.istore_n 3, 1) := chk_nth ocX12_noRing_6 (k := 3) rfl
theorem dX12_noRing_276 : decode cX12_noRing 276 = .ok (.iconst 0, 1) := chk_nth ocX12_noRing_6 (k := 4) rfl
theorem dX12_noRing_277 : decode cX12_noRing 277 = .ok (.istore 5, 2) := chk_nth ocX12_noRing_6 (k := 5) rfl
theorem dX12_noRing_279 : decode cX12_noRing 279 = .ok (.iload 5, 2) := chk_nth ocX12_noRing_6 (k := 6) rfl
theorem dX12_noRing_281 : decode cX12_noRing 281 = .ok (.aload_n 0, 1) := chk_nth ocX12_noRing_6 (k := 7) rfl
theorem dX12_noRing_282 : decode cX12_noRing 282 = .ok (.getfield 13, 3) := chk_nth ocX12_noRing_6 (k := 8) rfl
theorem dX12_noRing_285 : decode cX12_noRing 285 = .ok (.iconst 2, 1) := chk_nth ocX12_noRing_6 (k := 9) rfl
theorem dX12_noRing_286 : decode cX12_noRing 286 = .ok (.iaload, 1) := chk_nth ocX12_noRing_6 (k := 10) rfl
theorem dX12_noRing_287 : decode cX12_noRing 287 = .ok (.if_icmp .ge 40, 3) := chk_nth ocX12_noRing_6 (k := 11) rfl
theorem dX12_noRing_290 : decode cX12_noRing 290 = .ok (.aload_n 0, 1) := chk_nth ocX12_noRing_6 (k := 12) rfl
theorem dX12_noRing_291 : decode cX12_noRing 291 = .ok (.iload 4, 2) := chk_nth ocX12_noRing_6 (k := 13) rfl
theorem dX12_noRing_293 : decode cX12_noRing 293 = .ok (.iload 5, 2) := chk_nth ocX12_noRing_6 (k := 14) rfl
theorem dX12_noRing_295 : decode cX12_noRing 295 = .ok (.iload_n 2, 1) := chk_nth ocX12_noRing_6 (k := 15) rfl
theorem dX12_noRing_296 : decode cX12_noRing 296 = .ok (.invokevirtual 381, 3) := chk_nth ocX12_noRing_6 (k := 16) rfl
theorem dX12_noRing_299 : decode cX12_noRing 299 = .ok (.iconst (-1), 1) := chk_nth ocX12_noRing_6 (k := 17) rfl
theorem dX12_noRing_300 : decode cX12_noRing 300 = .ok (.if_icmp .eq 21, 3) := chk_nth ocX12_noRing_6 (k := 18) rfl
theorem dX12_noRing_303 : decode cX12_noRing 303 = .ok (.aload_n 0, 1) := chk_nth ocX12_noRing_6 (k := 19) rfl
theorem dX12_noRing_304 : decode cX12_noRing 304 = .ok (.getfield 61, 3) := chk_nth ocX12_noRing_6 (k := 20) rfl
theorem dX12_noRing_307 : decode cX12_noRing 307 = .ok (.aload_n 0, 1) := chk_nth ocX12_noRing_6 (k := 21) rfl
theorem dX12_noRing_308 : decode cX12_noRing 308 = .ok (.iload 4, 2) := chk_nth ocX12_noRing_6 (k := 22) rfl
theorem dX12_noRing_310 : decode cX12_noRing 310 = .ok (.iload 5, 2) := chk_nth ocX12_noRing_6 (k := 23) rfl
def tcX12_noRing_7 : List (Instr × Nat) := [(.iload_n 2, 1), (.invokevirtual 381, 3), (.dup2, 1), (.iaload, 1), (.iconst 1, 1), (.isub, 1), (.iastore, 1), (.iinc 5 1, 3), (.goto (-45), 3), (.iinc 4 1, 3), (.goto (-98), 3), (.goto (-110), 3), (.iconst 0, 1), (.istore 4, 2), (.iload 4, 2), (.aload_n 0, 1), (.invokevirtual 329, 3), (.if_icmp .ge 21, 3), (.aload_n 0, 1), (.getfield 45, 3), (.iload 4, 2), (.iaload, 1), (.ifCond .ne 5, 3), (.iconst 0, 1)]
theorem ocX12_noRing_7 : chk (cX12_noRing.data.toList.drop 312) tcX12_noRing_7 = true := by decide +kernel
theorem dX12_noRing_312 : decode cX12_noRing 312 = .ok (.iload_n 2, 1) := chk_nth ocX12_noRing_7 (k := 0) rfl
theorem dX12_noRing_313 : decode cX12_noRing 313 = .ok (.invokevirtual 381, 3) := chk_nth ocX12_noRing_7 (k := 1) rfl
theorem dX12_noRing_316 : decode cX12_noRing 316 = .ok (.dup2, 1) := chk_nth ocX12_noRing_7 (k := 2) rfl
theorem dX12_noRing_317 : decode cX12_noRing 317 = .ok (.iaload, 1) := chk_nth ocX12_noRing_7 (k := 3) rfl
theorem dX12_noRing_318 : decode cX12_noRing 318 = .ok (.iconst 1, 1) := chk_nth ocX12_noRing_7 (k := 4) rfl
theorem dX12_noRing_319 : decode cX12_noRing 319 = .ok (.isub, 1) := chk_nth ocX12_noRing_7 (k := 5) rfl
theorem dX12_noRing_320 : decode cX12_noRing 320 = .ok (.iastore, 1) := chk_nth ocX12_noRing_7 (k := 6) rfl
theorem dX12_noRing_321 : decode cX12_noRing 321 = .ok (.iinc 5 1, 3) := chk_nth ocX12_noRing_7 (k := 7) rfl
theorem dX12_noRing_324 : decode cX12_noRing 324 = .ok (.goto (-45), 3) := chk_nth ocX12_noRing_7 (k := 8) rfl
theorem dX12_noRing_327 : decode cX12_noRing 327 = .ok (.iinc 4 1, 3) := chk_nth ocX12_noRing_7 (k := 9) rfl
theorem dX12_noRing_330 : decode cX12_noRing 330 = .ok (.goto (-98), 3) := chk_nth ocX12_noRing_7 (k := 10) rfl
theorem dX12_noRing_333 : decode cX12_noRing 333 = .ok (.goto (-110), 3) := chk_nth ocX12_noRing_7 (k := 11) rfl
theorem dX12_noRing_336 : decode cX12_noRing 336 = .ok (.iconst 0, 1) := chk_nth ocX12_noRing_7 (k := 12) rfl
theorem dX12_noRing_337 : decode cX12_noRing 337 = .ok (.istore 4, 2) := chk_nth ocX12_noRing_7 (k := 13) rfl
theorem dX12_noRing_339 : decode cX12_noRing 339 = .ok (.iload 4, 2) := chk_nth ocX12_noRing_7 (k := 14) rfl
theorem dX12_noRing_341 : decode cX12_noRing 341 = .ok (.aload_n 0, 1) := chk_nth ocX12_noRing_7 (k := 15) rfl
theorem dX12_noRing_342 : decode cX12_noRing 342 = .ok (.invokevirtual 329, 3) := chk_nth ocX12_noRing_7 (k := 16) rfl
theorem dX12_noRing_345 : decode cX12_noRing 345 = .ok (.if_icmp .ge 21, 3) := chk_nth ocX12_noRing_7 (k := 17) rfl
theorem dX12_noRing_348 : decode cX12_noRing 348 = .ok (.aload_n 0, 1) := chk_nth ocX12_noRing_7 (k := 18) rfl
theorem dX12_noRing_349 : decode cX12_noRing 349 = .ok (.getfield 45, 3) := chk_nth ocX12_noRing_7 (k := 19) rfl
theorem dX12_noRing_352 : decode cX12_noRing 352 = .ok (.iload 4, 2) := chk_nth ocX12_noRing_7 (k := 20) rfl
theorem dX12_noRing_354 : decode cX12_noRing 354 = .ok (.iaload, 1) := chk_nth ocX12_noRing_7 (k := 21) rfl
theorem dX12_noRing_355 : decode cX12_noRing 355 = .ok (.ifCond .ne 5, 3) := chk_nth ocX12_noRing_7 (k := 22) rfl
theorem dX12_noRing_358 : decode cX12_noRing 358 = .ok (.iconst 0, 1) := chk_nth ocX12_noRing_7 (k := 23) rfl
def tcX12_noRing_8 : List (Instr × Nat) := [(.ireturn, 1), (.iinc 4 1, 3), (.goto (-24), 3), (.iconst 1, 1), (.ireturn, 1)]
theorem ocX12_noRing_8 : chk (cX12_noRing.data.toList.drop 359) tcX12_noRing_8 = true := by decide +kernel
theorem dX12_noRing_359 : decode cX12_noRing 359 = .ok (.ireturn, 1) := chk_nth ocX12_noRing_8 (k := 0) rfl
theorem dX12_noRing_360 : decode cX12_noRing 360 = .ok (.iinc 4 1, 3) := chk_nth ocX12_noRing_8 (k := 1) rfl
theorem dX12_noRing_363 : decode cX12_noRing 363 = .ok (.goto (-24), 3) := chk_nth ocX12_noRing_8 (k := 2) rfl
theorem dX12_noRing_366 : decode cX12_noRing 366 = .ok (.iconst 1, 1) := chk_nth ocX12_noRing_8 (k := 3) rfl
theorem dX12_noRing_367 : decode cX12_noRing 367 = .ok (.ireturn, 1) := chk_nth ocX12_noRing_8 (k := 4) rfl
def tcX12_isByLaw_0 : List (Instr × Nat) := [(.iload_n 2, 1), (.aload_n 0, 1), (.invokevirtual 384, 3), (.iand, 1), (.ifCond .ne 16, 3), (.aload_n 0, 1), (.iload_n 1, 1), (.iload_n 2, 1), (.invokevirtual 387, 3), (.ifCond .eq 7, 3), (.iconst 1, 1), (.goto 4, 3), (.iconst 0, 1), (.ireturn, 1)]
theorem ocX12_isByLaw_0 : chk (cX12_isByLaw.data.toList.drop 0) tcX12_isByLaw_0 = true := by decide +kernel
theorem dX12_isByLaw_0 : decode cX12_isByLaw 0 = .ok (.iload_n 2, 1) := chk_nth ocX12_isByLaw_0 (k := 0) rfl
theorem dX12_isByLaw_1 : decode cX12_isByLaw 1 = .ok (.aload_n 0, 1) := chk_nth ocX12_isByLaw_0 (k := 1) rfl
theorem dX12_isByLaw_2 : decode cX12_isByLaw 2 = .ok (.invokevirtual 384, 3) := chk_nth ocX12_isByLaw_0 (k := 2) rfl
theorem dX12_isByLaw_5 : decode cX12_isByLaw 5 = .ok (.iand, 1) := chk_nth ocX12_isByLaw_0 (k := 3) rfl
theorem dX12_isByLaw_6 : decode cX12_isByLaw 6 = .ok (.ifCond .ne 16, 3) := chk_nth ocX12_isByLaw_0 (k := 4) rfl
theorem dX12_isByLaw_9 : decode cX12_isByLaw 9 = .ok (.aload_n 0, 1) := chk_nth ocX12_isByLaw_0 (k := 5) rfl
theorem dX12_isByLaw_10 : decode cX12_isByLaw 10 = .ok (.iload_n 1, 1) := chk_nth ocX12_isByLaw_0 (k := 6) rfl
theorem dX12_isByLaw_11 : decode cX12_isByLaw 11 = .ok (.iload_n 2, 1) := chk_nth ocX12_isByLaw_0 (k := 7) rfl
theorem dX12_isByLaw_12 : decode cX12_isByLaw 12 = .ok (.invokevirtual 387, 3) := chk_nth ocX12_isByLaw_0 (k := 8) rfl
theorem dX12_isByLaw_15 : decode cX12_isByLaw 15 = .ok (.ifCond .eq 7, 3) := chk_nth ocX12_isByLaw_0 (k := 9) rfl
theorem dX12_isByLaw_18 : decode cX12_isByLaw 18 = .ok (.iconst 1, 1) := chk_nth ocX12_isByLaw_0 (k := 10) rfl
theorem dX12_isByLaw_19 : decode cX12_isByLaw 19 = .ok (.goto 4, 3) := chk_nth ocX12_isByLaw_0 (k := 11) rfl
theorem dX12_isByLaw_22 : decode cX12_isByLaw 22 = .ok (.iconst 0, 1) := chk_nth ocX12_isByLaw_0 (k := 12) rfl
theorem dX12_isByLaw_23 : decode cX12_isByLaw 23 = .ok (.ireturn, 1) := chk_nth ocX12_isByLaw_0 (k := 13) rfl
def tcX12_laws_0 : List (Instr × Nat) := [(.aload_n 0, 1), (.iconst 0, 1), (.putfield 1, 3), (.aload_n 0, 1), (.iload_n 1, 1), (.i2l, 1), (.invokevirtual 233, 3), (.ifCond .ne 6, 3), (.bipush (-2), 2), (.ireturn, 1), (.aload_n 0, 1), (.iload_n 1, 1), (.invokevirtual 390, 3), (.iconst 0, 1), (.istore_n 2, 1), (.iconst 0, 1), (.istore_n 3, 1), (.iload_n 3, 1), (.iconst 1, 1), (.aload_n 0, 1), (.getfield 13, 3), (.iconst 2, 1), (.iaload, 1), (.ishl, 1)]
theorem ocX12_laws_0 : chk (cX12_laws.data.toList.drop 0) tcX12_laws_0 = true := by decide +kernel
theorem dX12_laws_0 : decode cX12_laws 0 = .ok (.aload_n 0, 1) := chk_nth ocX12_laws_0 (k := 0) rfl
theorem dX12_laws_1 : decode cX12_laws 1 = .ok (.iconst 0, 1) := chk_nth ocX12_laws_0 (k := 1) rfl
theorem dX12_laws_2 : decode cX12_laws 2 = .ok (.putfield 1, 3) := chk_nth ocX12_laws_0 (k := 2) rfl
theorem dX12_laws_5 : decode cX12_laws 5 = .ok (.aload_n 0, 1) := chk_nth ocX12_laws_0 (k := 3) rfl
theorem dX12_laws_6 : decode cX12_laws 6 = .ok (.iload_n 1, 1) := chk_nth ocX12_laws_0 (k := 4) rfl
theorem dX12_laws_7 : decode cX12_laws 7 = .ok (.i2l, 1) := chk_nth ocX12_laws_0 (k := 5) rfl
theorem dX12_laws_8 : decode cX12_laws 8 = .ok (.invokevirtual 233, 3) := chk_nth ocX12_laws_0 (k := 6) rfl
theorem dX12_laws_11 : decode cX12_laws 11 = .ok (.ifCond .ne 6, 3) := chk_nth ocX12_laws_0 (k := 7) rfl
theorem dX12_laws_14 : decode cX12_laws 14 = .ok (.bipush (-2), 2) := chk_nth ocX12_laws_0 (k := 8) rfl
theorem dX12_laws_16 : decode cX12_laws 16 = .ok (.ireturn, 1) := chk_nth ocX12_laws_0 (k := 9) rfl
theorem dX12_laws_17 : decode cX12_laws 17 = .ok (.aload_n 0, 1) := chk_nth ocX12_laws_0 (k := 10) rfl
theorem dX12_laws_18 : decode cX12_laws 18 = .ok (.iload_n 1, 1) := chk_nth ocX12_laws_0 (k := 11) rfl
theorem dX12_laws_19 : decode cX12_laws 19 = .ok (.invokevirtual 390, 3) := chk_nth ocX12_laws_0 (k := 12) rfl
theorem dX12_laws_22 : decode cX12_laws 22 = .ok (.iconst 0, 1) := chk_nth ocX12_laws_0 (k := 13) rfl
theorem dX12_laws_23 : decode cX12_laws 23 = .ok (.istore_n 2, 1) := chk_nth ocX12_laws_0 (k := 14) rfl
theorem dX12_laws_24 : decode cX12_laws 24 = .ok (.iconst 0, 1) := chk_nth ocX12_laws_0 (k := 15) rfl
theorem dX12_laws_25 : decode cX12_laws 25 = .ok (.istore_n 3, 1) := chk_nth ocX12_laws_0 (k := 16) rfl
theorem dX12_laws_26 : decode cX12_laws 26 = .ok (.iload_n 3, 1) := chk_nth ocX12_laws_0 (k := 17) rfl
theorem dX12_laws_27 : decode cX12_laws 27 = .ok (.iconst 1, 1) := chk_nth ocX12_laws_0 (k := 18) rfl
theorem dX12_laws_28 : decode cX12_laws 28 = .ok (.aload_n 0, 1) := chk_nth ocX12_laws_0 (k := 19) rfl
theorem dX12_laws_29 : decode cX12_laws 29 = .ok (.getfield 13, 3) := chk_nth ocX12_laws_0 (k := 20) rfl
theorem dX12_laws_32 : decode cX12_laws 32 = .ok (.iconst 2, 1) := chk_nth ocX12_laws_0 (k := 21) rfl
theorem dX12_laws_33 : decode cX12_laws 33 = .ok (.iaload, 1) := chk_nth ocX12_laws_0 (k := 22) rfl
theorem dX12_laws_34 : decode cX12_laws 34 = .ok (.ishl, 1) := chk_nth ocX12_laws_0 (k := 23) rfl
def tcX12_laws_1 : List (Instr × Nat) := [(.if_icmp .ge 26, 3), (.iload_n 2, 1), (.aload_n 0, 1), (.iload_n 1, 1), (.iload_n 3, 1), (.invokevirtual 393, 3), (.ifCond .eq 7, 3), (.iconst 1, 1), (.goto 4, 3), (.iconst 0, 1), (.iadd, 1), (.istore_n 2, 1), (.iinc 3 1, 3), (.goto (-32), 3), (.iload_n 2, 1), (.ireturn, 1)]
theorem ocX12_laws_1 : chk (cX12_laws.data.toList.drop 35) tcX12_laws_1 = true := by decide +kernel
theorem dX12_laws_35 : decode cX12_laws 35 = .ok (.if_icmp .ge 26, 3) := chk_nth ocX12_laws_1 (k := 0) rfl
theorem dX12_laws_38 : decode cX12_laws 38 = .ok (.iload_n 2, 1) := chk_nth ocX12_laws_1 (k := 1) rfl
theorem dX12_laws_39 : decode cX12_laws 39 = .ok (.aload_n 0, 1) := chk_nth ocX12_laws_1 (k := 2) rfl
theorem dX12_laws_40 : decode cX12_laws 40 = .ok (.iload_n 1, 1) := chk_nth ocX12_laws_1 (k := 3) rfl
theorem dX12_laws_41 : decode cX12_laws 41 = .ok (.iload_n 3, 1) := chk_nth ocX12_laws_1 (k := 4) rfl
theorem dX12_laws_42 : decode cX12_laws 42 = .ok (.invokevirtual 393, 3) := chk_nth ocX12_laws_1 (k := 5) rfl
theorem dX12_laws_45 : decode cX12_laws 45 = .ok (.ifCond .eq 7, 3) := chk_nth ocX12_laws_1 (k := 6) rfl
theorem dX12_laws_48 : decode cX12_laws 48 = .ok (.iconst 1, 1) := chk_nth ocX12_laws_1 (k := 7) rfl
theorem dX12_laws_49 : decode cX12_laws 49 = .ok (.goto 4, 3) := chk_nth ocX12_laws_1 (k := 8) rfl
theorem dX12_laws_52 : decode cX12_laws 52 = .ok (.iconst 0, 1) := chk_nth ocX12_laws_1 (k := 9) rfl
theorem dX12_laws_53 : decode cX12_laws 53 = .ok (.iadd, 1) := chk_nth ocX12_laws_1 (k := 10) rfl
theorem dX12_laws_54 : decode cX12_laws 54 = .ok (.istore_n 2, 1) := chk_nth ocX12_laws_1 (k := 11) rfl
theorem dX12_laws_55 : decode cX12_laws 55 = .ok (.iinc 3 1, 3) := chk_nth ocX12_laws_1 (k := 12) rfl
theorem dX12_laws_58 : decode cX12_laws 58 = .ok (.goto (-32), 3) := chk_nth ocX12_laws_1 (k := 13) rfl
theorem dX12_laws_61 : decode cX12_laws 61 = .ok (.iload_n 2, 1) := chk_nth ocX12_laws_1 (k := 14) rfl
theorem dX12_laws_62 : decode cX12_laws 62 = .ok (.ireturn, 1) := chk_nth ocX12_laws_1 (k := 15) rfl
def tcX12_othersBy_0 : List (Instr × Nat) := [(.iconst 0, 1), (.istore_n 2, 1), (.iconst 0, 1), (.istore_n 3, 1), (.iload_n 3, 1), (.aload_n 0, 1), (.getfield 13, 3), (.iconst 2, 1), (.iaload, 1), (.if_icmp .ge 47, 3), (.iload_n 2, 1), (.aload_n 0, 1), (.getfield 13, 3), (.bipush 40, 2), (.iload_n 3, 1), (.iadd, 1), (.iaload, 1), (.iconst 3, 1), (.if_icmp .eq 24, 3), (.aload_n 0, 1), (.getfield 13, 3), (.bipush 40, 2), (.iload_n 3, 1), (.iadd, 1)]
theorem ocX12_othersBy_0 : chk (cX12_othersBy.data.toList.drop 0) tcX12_othersBy_0 = true := by decide +kernel
theorem dX12_othersBy_0 : decode cX12_othersBy 0 = .ok (.iconst 0, 1) := chk_nth ocX12_othersBy_0 (k := 0) rfl
theorem dX12_othersBy_1 : decode cX12_othersBy 1 = .ok (.istore_n 2, 1) := chk_nth ocX12_othersBy_0 (k := 1) rfl
theorem dX12_othersBy_2 : decode cX12_othersBy 2 = .ok (.iconst 0, 1) := chk_nth ocX12_othersBy_0 (k := 2) rfl
theorem dX12_othersBy_3 : decode cX12_othersBy 3 = .ok (.istore_n 3, 1) := chk_nth ocX12_othersBy_0 (k := 3) rfl
theorem dX12_othersBy_4 : decode cX12_othersBy 4 = .ok (.iload_n 3, 1) := chk_nth ocX12_othersBy_0 (k := 4) rfl
theorem dX12_othersBy_5 : decode cX12_othersBy 5 = .ok (.aload_n 0, 1) := chk_nth ocX12_othersBy_0 (k := 5) rfl
theorem dX12_othersBy_6 : decode cX12_othersBy 6 = .ok (.getfield 13, 3) := chk_nth ocX12_othersBy_0 (k := 6) rfl
theorem dX12_othersBy_9 : decode cX12_othersBy 9 = .ok (.iconst 2, 1) := chk_nth ocX12_othersBy_0 (k := 7) rfl
theorem dX12_othersBy_10 : decode cX12_othersBy 10 = .ok (.iaload, 1) := chk_nth ocX12_othersBy_0 (k := 8) rfl
theorem dX12_othersBy_11 : decode cX12_othersBy 11 = .ok (.if_icmp .ge 47, 3) := chk_nth ocX12_othersBy_0 (k := 9) rfl
theorem dX12_othersBy_14 : decode cX12_othersBy 14 = .ok (.iload_n 2, 1) := chk_nth ocX12_othersBy_0 (k := 10) rfl
theorem dX12_othersBy_15 : decode cX12_othersBy 15 = .ok (.aload_n 0, 1) := chk_nth ocX12_othersBy_0 (k := 11) rfl
theorem dX12_othersBy_16 : decode cX12_othersBy 16 = .ok (.getfield 13, 3) := chk_nth ocX12_othersBy_0 (k := 12) rfl
theorem dX12_othersBy_19 : decode cX12_othersBy 19 = .ok (.bipush 40, 2) := chk_nth ocX12_othersBy_0 (k := 13) rfl
theorem dX12_othersBy_21 : decode cX12_othersBy 21 = .ok (.iload_n 3, 1) := chk_nth ocX12_othersBy_0 (k := 14) rfl
theorem dX12_othersBy_22 : decode cX12_othersBy 22 = .ok (.iadd, 1) := chk_nth ocX12_othersBy_0 (k := 15) rfl
theorem dX12_othersBy_23 : decode cX12_othersBy 23 = .ok (.iaload, 1) := chk_nth ocX12_othersBy_0 (k := 16) rfl
theorem dX12_othersBy_24 : decode cX12_othersBy 24 = .ok (.iconst 3, 1) := chk_nth ocX12_othersBy_0 (k := 17) rfl
theorem dX12_othersBy_25 : decode cX12_othersBy 25 = .ok (.if_icmp .eq 24, 3) := chk_nth ocX12_othersBy_0 (k := 18) rfl
theorem dX12_othersBy_28 : decode cX12_othersBy 28 = .ok (.aload_n 0, 1) := chk_nth ocX12_othersBy_0 (k := 19) rfl
theorem dX12_othersBy_29 : decode cX12_othersBy 29 = .ok (.getfield 13, 3) := chk_nth ocX12_othersBy_0 (k := 20) rfl
theorem dX12_othersBy_32 : decode cX12_othersBy 32 = .ok (.bipush 40, 2) := chk_nth ocX12_othersBy_0 (k := 21) rfl
theorem dX12_othersBy_34 : decode cX12_othersBy 34 = .ok (.iload_n 3, 1) := chk_nth ocX12_othersBy_0 (k := 22) rfl
theorem dX12_othersBy_35 : decode cX12_othersBy 35 = .ok (.iadd, 1) := chk_nth ocX12_othersBy_0 (k := 23) rfl
def tcX12_othersBy_1 : List (Instr × Nat) := [(.iaload, 1), (.iload_n 1, 1), (.iload_n 3, 1), (.ishr, 1), (.iconst 1, 1), (.iand, 1), (.if_icmp .eq 7, 3), (.iconst 1, 1), (.goto 4, 3), (.iconst 0, 1), (.iadd, 1), (.istore_n 2, 1), (.iinc 3 1, 3), (.goto (-51), 3), (.iload_n 2, 1), (.ireturn, 1)]
theorem ocX12_othersBy_1 : chk (cX12_othersBy.data.toList.drop 36) tcX12_othersBy_1 = true := by decide +kernel
theorem dX12_othersBy_36 : decode cX12_othersBy 36 = .ok (.iaload, 1) := chk_nth ocX12_othersBy_1 (k := 0) rfl
theorem dX12_othersBy_37 : decode cX12_othersBy 37 = .ok (.iload_n 1, 1) := chk_nth ocX12_othersBy_1 (k := 1) rfl
theorem dX12_othersBy_38 : decode cX12_othersBy 38 = .ok (.iload_n 3, 1) := chk_nth ocX12_othersBy_1 (k := 2) rfl
theorem dX12_othersBy_39 : decode cX12_othersBy 39 = .ok (.ishr, 1) := chk_nth ocX12_othersBy_1 (k := 3) rfl
theorem dX12_othersBy_40 : decode cX12_othersBy 40 = .ok (.iconst 1, 1) := chk_nth ocX12_othersBy_1 (k := 4) rfl
theorem dX12_othersBy_41 : decode cX12_othersBy 41 = .ok (.iand, 1) := chk_nth ocX12_othersBy_1 (k := 5) rfl
theorem dX12_othersBy_42 : decode cX12_othersBy 42 = .ok (.if_icmp .eq 7, 3) := chk_nth ocX12_othersBy_1 (k := 6) rfl
theorem dX12_othersBy_45 : decode cX12_othersBy 45 = .ok (.iconst 1, 1) := chk_nth ocX12_othersBy_1 (k := 7) rfl
theorem dX12_othersBy_46 : decode cX12_othersBy 46 = .ok (.goto 4, 3) := chk_nth ocX12_othersBy_1 (k := 8) rfl
theorem dX12_othersBy_49 : decode cX12_othersBy 49 = .ok (.iconst 0, 1) := chk_nth ocX12_othersBy_1 (k := 9) rfl
theorem dX12_othersBy_50 : decode cX12_othersBy 50 = .ok (.iadd, 1) := chk_nth ocX12_othersBy_1 (k := 10) rfl
theorem dX12_othersBy_51 : decode cX12_othersBy 51 = .ok (.istore_n 2, 1) := chk_nth ocX12_othersBy_1 (k := 11) rfl
theorem dX12_othersBy_52 : decode cX12_othersBy 52 = .ok (.iinc 3 1, 3) := chk_nth ocX12_othersBy_1 (k := 12) rfl
theorem dX12_othersBy_55 : decode cX12_othersBy 55 = .ok (.goto (-51), 3) := chk_nth ocX12_othersBy_1 (k := 13) rfl
theorem dX12_othersBy_58 : decode cX12_othersBy 58 = .ok (.iload_n 2, 1) := chk_nth ocX12_othersBy_1 (k := 14) rfl
theorem dX12_othersBy_59 : decode cX12_othersBy 59 = .ok (.ireturn, 1) := chk_nth ocX12_othersBy_1 (k := 15) rfl
def tcX12_bylaw_0 : List (Instr × Nat) := [(.aload_n 0, 1), (.iconst 0, 1), (.putfield 1, 3), (.aload_n 0, 1), (.iload_n 1, 1), (.i2l, 1), (.invokevirtual 233, 3), (.ifCond .eq 13, 3), (.iload_n 2, 1), (.i2l, 1), (.lconst 0, 1), (.lconst 1, 1), (.invokestatic 142, 3), (.ifCond .ne 6, 3), (.bipush (-2), 2), (.ireturn, 1), (.aload_n 0, 1), (.iload_n 1, 1), (.invokevirtual 390, 3), (.iconst (-1), 1), (.istore_n 3, 1), (.iconst 0, 1), (.istore 4, 2), (.iload 4, 2)]
theorem ocX12_bylaw_0 : chk (cX12_bylaw.data.toList.drop 0) tcX12_bylaw_0 = true := by decide +kernel
theorem dX12_bylaw_0 : decode cX12_bylaw 0 = .ok (.aload_n 0, 1) := chk_nth ocX12_bylaw_0 (k := 0) rfl
theorem dX12_bylaw_1 : decode cX12_bylaw 1 = .ok (.iconst 0, 1) := chk_nth ocX12_bylaw_0 (k := 1) rfl
theorem dX12_bylaw_2 : decode cX12_bylaw 2 = .ok (.putfield 1, 3) := chk_nth ocX12_bylaw_0 (k := 2) rfl
theorem dX12_bylaw_5 : decode cX12_bylaw 5 = .ok (.aload_n 0, 1) := chk_nth ocX12_bylaw_0 (k := 3) rfl
theorem dX12_bylaw_6 : decode cX12_bylaw 6 = .ok (.iload_n 1, 1) := chk_nth ocX12_bylaw_0 (k := 4) rfl
theorem dX12_bylaw_7 : decode cX12_bylaw 7 = .ok (.i2l, 1) := chk_nth ocX12_bylaw_0 (k := 5) rfl
theorem dX12_bylaw_8 : decode cX12_bylaw 8 = .ok (.invokevirtual 233, 3) := chk_nth ocX12_bylaw_0 (k := 6) rfl
theorem dX12_bylaw_11 : decode cX12_bylaw 11 = .ok (.ifCond .eq 13, 3) := chk_nth ocX12_bylaw_0 (k := 7) rfl
theorem dX12_bylaw_14 : decode cX12_bylaw 14 = .ok (.iload_n 2, 1) := chk_nth ocX12_bylaw_0 (k := 8) rfl
theorem dX12_bylaw_15 : decode cX12_bylaw 15 = .ok (.i2l, 1) := chk_nth ocX12_bylaw_0 (k := 9) rfl
theorem dX12_bylaw_16 : decode cX12_bylaw 16 = .ok (.lconst 0, 1) := chk_nth ocX12_bylaw_0 (k := 10) rfl
theorem dX12_bylaw_17 : decode cX12_bylaw 17 = .ok (.lconst 1, 1) := chk_nth ocX12_bylaw_0 (k := 11) rfl
theorem dX12_bylaw_18 : decode cX12_bylaw 18 = .ok (.invokestatic 142, 3) := chk_nth ocX12_bylaw_0 (k := 12) rfl
theorem dX12_bylaw_21 : decode cX12_bylaw 21 = .ok (.ifCond .ne 6, 3) := chk_nth ocX12_bylaw_0 (k := 13) rfl
theorem dX12_bylaw_24 : decode cX12_bylaw 24 = .ok (.bipush (-2), 2) := chk_nth ocX12_bylaw_0 (k := 14) rfl
theorem dX12_bylaw_26 : decode cX12_bylaw 26 = .ok (.ireturn, 1) := chk_nth ocX12_bylaw_0 (k := 15) rfl
theorem dX12_bylaw_27 : decode cX12_bylaw 27 = .ok (.aload_n 0, 1) := chk_nth ocX12_bylaw_0 (k := 16) rfl
theorem dX12_bylaw_28 : decode cX12_bylaw 28 = .ok (.iload_n 1, 1) := chk_nth ocX12_bylaw_0 (k := 17) rfl
theorem dX12_bylaw_29 : decode cX12_bylaw 29 = .ok (.invokevirtual 390, 3) := chk_nth ocX12_bylaw_0 (k := 18) rfl
theorem dX12_bylaw_32 : decode cX12_bylaw 32 = .ok (.iconst (-1), 1) := chk_nth ocX12_bylaw_0 (k := 19) rfl
theorem dX12_bylaw_33 : decode cX12_bylaw 33 = .ok (.istore_n 3, 1) := chk_nth ocX12_bylaw_0 (k := 20) rfl
theorem dX12_bylaw_34 : decode cX12_bylaw 34 = .ok (.iconst 0, 1) := chk_nth ocX12_bylaw_0 (k := 21) rfl
theorem dX12_bylaw_35 : decode cX12_bylaw 35 = .ok (.istore 4, 2) := chk_nth ocX12_bylaw_0 (k := 22) rfl
theorem dX12_bylaw_37 : decode cX12_bylaw 37 = .ok (.iload 4, 2) := chk_nth ocX12_bylaw_0 (k := 23) rfl
def tcX12_bylaw_1 : List (Instr × Nat) := [(.iconst 1, 1), (.aload_n 0, 1), (.getfield 13, 3), (.iconst 2, 1), (.iaload, 1), (.ishl, 1), (.if_icmp .ge 41, 3), (.iload_n 3, 1), (.iconst (-1), 1), (.if_icmp .eq 17, 3), (.aload_n 0, 1), (.iload 4, 2), (.invokevirtual 396, 3), (.aload_n 0, 1), (.iload_n 3, 1), (.invokevirtual 396, 3), (.if_icmp .ge 16, 3), (.aload_n 0, 1), (.iload_n 1, 1), (.iload 4, 2), (.invokevirtual 393, 3), (.ifCond .eq 6, 3), (.iload 4, 2), (.istore_n 3, 1)]
theorem ocX12_bylaw_1 : chk (cX12_bylaw.data.toList.drop 39) tcX12_bylaw_1 = true := by decide +kernel
theorem dX12_bylaw_39 : decode cX12_bylaw 39 = .ok (.iconst 1, 1) := chk_nth ocX12_bylaw_1 (k := 0) rfl
theorem dX12_bylaw_40 : decode cX12_bylaw 40 = .ok (.aload_n 0, 1) := chk_nth ocX12_bylaw_1 (k := 1) rfl
theorem dX12_bylaw_41 : decode cX12_bylaw 41 = .ok (.getfield 13, 3) := chk_nth ocX12_bylaw_1 (k := 2) rfl
theorem dX12_bylaw_44 : decode cX12_bylaw 44 = .ok (.iconst 2, 1) := chk_nth ocX12_bylaw_1 (k := 3) rfl
theorem dX12_bylaw_45 : decode cX12_bylaw 45 = .ok (.iaload, 1) := chk_nth ocX12_bylaw_1 (k := 4) rfl
theorem dX12_bylaw_46 : decode cX12_bylaw 46 = .ok (.ishl, 1) := chk_nth ocX12_bylaw_1 (k := 5) rfl
theorem dX12_bylaw_47 : decode cX12_bylaw 47 = .ok (.if_icmp .ge 41, 3) := chk_nth ocX12_bylaw_1 (k := 6) rfl
theorem dX12_bylaw_50 : decode cX12_bylaw 50 = .ok (.iload_n 3, 1) := chk_nth ocX12_bylaw_1 (k := 7) rfl
theorem dX12_bylaw_51 : decode cX12_bylaw 51 = .ok (.iconst (-1), 1) := chk_nth ocX12_bylaw_1 (k := 8) rfl
theorem dX12_bylaw_52 : decode cX12_bylaw 52 = .ok (.if_icmp .eq 17, 3) := chk_nth ocX12_bylaw_1 (k := 9) rfl
theorem dX12_bylaw_55 : decode cX12_bylaw 55 = .ok (.aload_n 0, 1) := chk_nth ocX12_bylaw_1 (k := 10) rfl
theorem dX12_bylaw_56 : decode cX12_bylaw 56 = .ok (.iload 4, 2) := chk_nth ocX12_bylaw_1 (k := 11) rfl
theorem dX12_bylaw_58 : decode cX12_bylaw 58 = .ok (.invokevirtual 396, 3) := chk_nth ocX12_bylaw_1 (k := 12) rfl
theorem dX12_bylaw_61 : decode cX12_bylaw 61 = .ok (.aload_n 0, 1) := chk_nth ocX12_bylaw_1 (k := 13) rfl
theorem dX12_bylaw_62 : decode cX12_bylaw 62 = .ok (.iload_n 3, 1) := chk_nth ocX12_bylaw_1 (k := 14) rfl
theorem dX12_bylaw_63 : decode cX12_bylaw 63 = .ok (.invokevirtual 396, 3) := chk_nth ocX12_bylaw_1 (k := 15) rfl
theorem dX12_bylaw_66 : decode cX12_bylaw 66 = .ok (.if_icmp .ge 16, 3) := chk_nth ocX12_bylaw_1 (k := 16) rfl
theorem dX12_bylaw_69 : decode cX12_bylaw 69 = .ok (.aload_n 0, 1) := chk_nth ocX12_bylaw_1 (k := 17) rfl
theorem dX12_bylaw_70 : decode cX12_bylaw 70 = .ok (.iload_n 1, 1) := chk_nth ocX12_bylaw_1 (k := 18) rfl
theorem dX12_bylaw_71 : decode cX12_bylaw 71 = .ok (.iload 4, 2) := chk_nth ocX12_bylaw_1 (k := 19) rfl
theorem dX12_bylaw_73 : decode cX12_bylaw 73 = .ok (.invokevirtual 393, 3) := chk_nth ocX12_bylaw_1 (k := 20) rfl
theorem dX12_bylaw_76 : decode cX12_bylaw 76 = .ok (.ifCond .eq 6, 3) := chk_nth ocX12_bylaw_1 (k := 21) rfl
theorem dX12_bylaw_79 : decode cX12_bylaw 79 = .ok (.iload 4, 2) := chk_nth ocX12_bylaw_1 (k := 22) rfl
theorem dX12_bylaw_81 : decode cX12_bylaw 81 = .ok (.istore_n 3, 1) := chk_nth ocX12_bylaw_1 (k := 23) rfl
def tcX12_bylaw_2 : List (Instr × Nat) := [(.iinc 4 1, 3), (.goto (-48), 3), (.iload_n 3, 1), (.iconst (-1), 1), (.if_icmp .eq 8, 3), (.iload_n 2, 1), (.iconst 1, 1), (.if_icmp .ne 7, 3), (.iload_n 3, 1), (.goto 8, 3), (.aload_n 0, 1), (.iload_n 3, 1), (.invokevirtual 396, 3), (.ireturn, 1)]
theorem ocX12_bylaw_2 : chk (cX12_bylaw.data.toList.drop 82) tcX12_bylaw_2 = true := by decide +kernel
theorem dX12_bylaw_82 : decode cX12_bylaw 82 = .ok (.iinc 4 1, 3) := chk_nth ocX12_bylaw_2 (k := 0) rfl
theorem dX12_bylaw_85 : decode cX12_bylaw 85 = .ok (.goto (-48), 3) := chk_nth ocX12_bylaw_2 (k := 1) rfl
theorem dX12_bylaw_88 : decode cX12_bylaw 88 = .ok (.iload_n 3, 1) := chk_nth ocX12_bylaw_2 (k := 2) rfl
theorem dX12_bylaw_89 : decode cX12_bylaw 89 = .ok (.iconst (-1), 1) := chk_nth ocX12_bylaw_2 (k := 3) rfl
theorem dX12_bylaw_90 : decode cX12_bylaw 90 = .ok (.if_icmp .eq 8, 3) := chk_nth ocX12_bylaw_2 (k := 4) rfl
theorem dX12_bylaw_93 : decode cX12_bylaw 93 = .ok (.iload_n 2, 1) := chk_nth ocX12_bylaw_2 (k := 5) rfl
theorem dX12_bylaw_94 : decode cX12_bylaw 94 = .ok (.iconst 1, 1) := chk_nth ocX12_bylaw_2 (k := 6) rfl
theorem dX12_bylaw_95 : decode cX12_bylaw 95 = .ok (.if_icmp .ne 7, 3) := chk_nth ocX12_bylaw_2 (k := 7) rfl
theorem dX12_bylaw_98 : decode cX12_bylaw 98 = .ok (.iload_n 3, 1) := chk_nth ocX12_bylaw_2 (k := 8) rfl
theorem dX12_bylaw_99 : decode cX12_bylaw 99 = .ok (.goto 8, 3) := chk_nth ocX12_bylaw_2 (k := 9) rfl
theorem dX12_bylaw_102 : decode cX12_bylaw 102 = .ok (.aload_n 0, 1) := chk_nth ocX12_bylaw_2 (k := 10) rfl
theorem dX12_bylaw_103 : decode cX12_bylaw 103 = .ok (.iload_n 3, 1) := chk_nth ocX12_bylaw_2 (k := 11) rfl
theorem dX12_bylaw_104 : decode cX12_bylaw 104 = .ok (.invokevirtual 396, 3) := chk_nth ocX12_bylaw_2 (k := 12) rfl
theorem dX12_bylaw_107 : decode cX12_bylaw 107 = .ok (.ireturn, 1) := chk_nth ocX12_bylaw_2 (k := 13) rfl
def tcX12_canCome_0 : List (Instr × Nat) := [(.aload_n 0, 1), (.iload_n 1, 1), (.iload_n 3, 1), (.invokevirtual 332, 3), (.aload_n 0, 1), (.aload_n 0, 1), (.iload_n 1, 1), (.invokevirtual 239, 3), (.aload_n 0, 1), (.getfield 45, 3), (.invokevirtual 365, 3), (.aload_n 0, 1), (.invokevirtual 372, 3), (.i2l, 1), (.iload_n 2, 1), (.invokestatic 324, 3), (.ireturn, 1)]
theorem ocX12_canCome_0 : chk (cX12_canCome.data.toList.drop 0) tcX12_canCome_0 = true := by decide +kernel
theorem dX12_canCome_0 : decode cX12_canCome 0 = .ok (.aload_n 0, 1) := chk_nth ocX12_canCome_0 (k := 0) rfl
theorem dX12_canCome_1 : decode cX12_canCome 1 = .ok (.iload_n 1, 1) := chk_nth ocX12_canCome_0 (k := 1) rfl
theorem dX12_canCome_2 : decode cX12_canCome 2 = .ok (.iload_n 3, 1) := chk_nth ocX12_canCome_0 (k := 2) rfl
theorem dX12_canCome_3 : decode cX12_canCome 3 = .ok (.invokevirtual 332, 3) := chk_nth ocX12_canCome_0 (k := 3) rfl
theorem dX12_canCome_6 : decode cX12_canCome 6 = .ok (.aload_n 0, 1) := chk_nth ocX12_canCome_0 (k := 4) rfl
theorem dX12_canCome_7 : decode cX12_canCome 7 = .ok (.aload_n 0, 1) := chk_nth ocX12_canCome_0 (k := 5) rfl
theorem dX12_canCome_8 : decode cX12_canCome 8 = .ok (.iload_n 1, 1) := chk_nth ocX12_canCome_0 (k := 6) rfl
theorem dX12_canCome_9 : decode cX12_canCome 9 = .ok (.invokevirtual 239, 3) := chk_nth ocX12_canCome_0 (k := 7) rfl
theorem dX12_canCome_12 : decode cX12_canCome 12 = .ok (.aload_n 0, 1) := chk_nth ocX12_canCome_0 (k := 8) rfl
theorem dX12_canCome_13 : decode cX12_canCome 13 = .ok (.getfield 45, 3) := chk_nth ocX12_canCome_0 (k := 9) rfl
theorem dX12_canCome_16 : decode cX12_canCome 16 = .ok (.invokevirtual 365, 3) := chk_nth ocX12_canCome_0 (k := 10) rfl
theorem dX12_canCome_19 : decode cX12_canCome 19 = .ok (.aload_n 0, 1) := chk_nth ocX12_canCome_0 (k := 11) rfl
theorem dX12_canCome_20 : decode cX12_canCome 20 = .ok (.invokevirtual 372, 3) := chk_nth ocX12_canCome_0 (k := 12) rfl
theorem dX12_canCome_23 : decode cX12_canCome 23 = .ok (.i2l, 1) := chk_nth ocX12_canCome_0 (k := 13) rfl
theorem dX12_canCome_24 : decode cX12_canCome 24 = .ok (.iload_n 2, 1) := chk_nth ocX12_canCome_0 (k := 14) rfl
theorem dX12_canCome_25 : decode cX12_canCome 25 = .ok (.invokestatic 324, 3) := chk_nth ocX12_canCome_0 (k := 15) rfl
theorem dX12_canCome_28 : decode cX12_canCome 28 = .ok (.ireturn, 1) := chk_nth ocX12_canCome_0 (k := 16) rfl
def tcX12_shut_0 : List (Instr × Nat) := [(.aload_n 0, 1), (.iconst 0, 1), (.putfield 1, 3), (.aload_n 0, 1), (.iload_n 1, 1), (.i2l, 1), (.invokevirtual 233, 3), (.ifCond .eq 22, 3), (.aload_n 0, 1), (.iload_n 2, 1), (.i2l, 1), (.invokevirtual 268, 3), (.ifCond .eq 13, 3), (.iload_n 3, 1), (.i2l, 1), (.lconst 0, 1), (.lconst 1, 1), (.invokestatic 142, 3), (.ifCond .ne 6, 3), (.bipush (-2), 2), (.ireturn, 1), (.aload_n 0, 1), (.getfield 13, 3), (.bipush 34, 2)]
theorem ocX12_shut_0 : chk (cX12_shut.data.toList.drop 0) tcX12_shut_0 = true := by decide +kernel
theorem dX12_shut_0 : decode cX12_shut 0 = .ok (.aload_n 0, 1) := chk_nth ocX12_shut_0 (k := 0) rfl
theorem dX12_shut_1 : decode cX12_shut 1 = .ok (.iconst 0, 1) := chk_nth ocX12_shut_0 (k := 1) rfl
theorem dX12_shut_2 : decode cX12_shut 2 = .ok (.putfield 1, 3) := chk_nth ocX12_shut_0 (k := 2) rfl
theorem dX12_shut_5 : decode cX12_shut 5 = .ok (.aload_n 0, 1) := chk_nth ocX12_shut_0 (k := 3) rfl
theorem dX12_shut_6 : decode cX12_shut 6 = .ok (.iload_n 1, 1) := chk_nth ocX12_shut_0 (k := 4) rfl
theorem dX12_shut_7 : decode cX12_shut 7 = .ok (.i2l, 1) := chk_nth ocX12_shut_0 (k := 5) rfl
theorem dX12_shut_8 : decode cX12_shut 8 = .ok (.invokevirtual 233, 3) := chk_nth ocX12_shut_0 (k := 6) rfl
theorem dX12_shut_11 : decode cX12_shut 11 = .ok (.ifCond .eq 22, 3) := chk_nth ocX12_shut_0 (k := 7) rfl
theorem dX12_shut_14 : decode cX12_shut 14 = .ok (.aload_n 0, 1) := chk_nth ocX12_shut_0 (k := 8) rfl
theorem dX12_shut_15 : decode cX12_shut 15 = .ok (.iload_n 2, 1) := chk_nth ocX12_shut_0 (k := 9) rfl
theorem dX12_shut_16 : decode cX12_shut 16 = .ok (.i2l, 1) := chk_nth ocX12_shut_0 (k := 10) rfl
theorem dX12_shut_17 : decode cX12_shut 17 = .ok (.invokevirtual 268, 3) := chk_nth ocX12_shut_0 (k := 11) rfl
theorem dX12_shut_20 : decode cX12_shut 20 = .ok (.ifCond .eq 13, 3) := chk_nth ocX12_shut_0 (k := 12) rfl
theorem dX12_shut_23 : decode cX12_shut 23 = .ok (.iload_n 3, 1) := chk_nth ocX12_shut_0 (k := 13) rfl
theorem dX12_shut_24 : decode cX12_shut 24 = .ok (.i2l, 1) := chk_nth ocX12_shut_0 (k := 14) rfl
theorem dX12_shut_25 : decode cX12_shut 25 = .ok (.lconst 0, 1) := chk_nth ocX12_shut_0 (k := 15) rfl
theorem dX12_shut_26 : decode cX12_shut 26 = .ok (.lconst 1, 1) := chk_nth ocX12_shut_0 (k := 16) rfl
theorem dX12_shut_27 : decode cX12_shut 27 = .ok (.invokestatic 142, 3) := chk_nth ocX12_shut_0 (k := 17) rfl
theorem dX12_shut_30 : decode cX12_shut 30 = .ok (.ifCond .ne 6, 3) := chk_nth ocX12_shut_0 (k := 18) rfl
theorem dX12_shut_33 : decode cX12_shut 33 = .ok (.bipush (-2), 2) := chk_nth ocX12_shut_0 (k := 19) rfl
theorem dX12_shut_35 : decode cX12_shut 35 = .ok (.ireturn, 1) := chk_nth ocX12_shut_0 (k := 20) rfl
theorem dX12_shut_36 : decode cX12_shut 36 = .ok (.aload_n 0, 1) := chk_nth ocX12_shut_0 (k := 21) rfl
theorem dX12_shut_37 : decode cX12_shut 37 = .ok (.getfield 13, 3) := chk_nth ocX12_shut_0 (k := 22) rfl
theorem dX12_shut_40 : decode cX12_shut 40 = .ok (.bipush 34, 2) := chk_nth ocX12_shut_0 (k := 23) rfl
def tcX12_shut_1 : List (Instr × Nat) := [(.iload_n 1, 1), (.iadd, 1), (.iaload, 1), (.iload_n 2, 1), (.if_icmp .ne 5, 3), (.iconst (-1), 1), (.ireturn, 1), (.iconst (-1), 1), (.istore 4, 2), (.iconst 0, 1), (.istore 5, 2), (.iload 5, 2), (.iconst 1, 1), (.aload_n 0, 1), (.getfield 13, 3), (.iconst 2, 1), (.iaload, 1), (.ishl, 1), (.if_icmp .ge 56, 3), (.iload 5, 2), (.aload_n 0, 1), (.invokevirtual 384, 3), (.iand, 1), (.ifCond .ne 40, 3)]
theorem ocX12_shut_1 : chk (cX12_shut.data.toList.drop 42) tcX12_shut_1 = true := by decide +kernel
theorem dX12_shut_42 : decode cX12_shut 42 = .ok (.iload_n 1, 1) := chk_nth ocX12_shut_1 (k := 0) rfl
theorem dX12_shut_43 : decode cX12_shut 43 = .ok (.iadd, 1) := chk_nth ocX12_shut_1 (k := 1) rfl
theorem dX12_shut_44 : decode cX12_shut 44 = .ok (.iaload, 1) := chk_nth ocX12_shut_1 (k := 2) rfl
theorem dX12_shut_45 : decode cX12_shut 45 = .ok (.iload_n 2, 1) := chk_nth ocX12_shut_1 (k := 3) rfl
theorem dX12_shut_46 : decode cX12_shut 46 = .ok (.if_icmp .ne 5, 3) := chk_nth ocX12_shut_1 (k := 4) rfl
theorem dX12_shut_49 : decode cX12_shut 49 = .ok (.iconst (-1), 1) := chk_nth ocX12_shut_1 (k := 5) rfl
theorem dX12_shut_50 : decode cX12_shut 50 = .ok (.ireturn, 1) := chk_nth ocX12_shut_1 (k := 6) rfl
theorem dX12_shut_51 : decode cX12_shut 51 = .ok (.iconst (-1), 1) := chk_nth ocX12_shut_1 (k := 7) rfl
theorem dX12_shut_52 : decode cX12_shut 52 = .ok (.istore 4, 2) := chk_nth ocX12_shut_1 (k := 8) rfl
theorem dX12_shut_54 : decode cX12_shut 54 = .ok (.iconst 0, 1) := chk_nth ocX12_shut_1 (k := 9) rfl
theorem dX12_shut_55 : decode cX12_shut 55 = .ok (.istore 5, 2) := chk_nth ocX12_shut_1 (k := 10) rfl
theorem dX12_shut_57 : decode cX12_shut 57 = .ok (.iload 5, 2) := chk_nth ocX12_shut_1 (k := 11) rfl
theorem dX12_shut_59 : decode cX12_shut 59 = .ok (.iconst 1, 1) := chk_nth ocX12_shut_1 (k := 12) rfl
theorem dX12_shut_60 : decode cX12_shut 60 = .ok (.aload_n 0, 1) := chk_nth ocX12_shut_1 (k := 13) rfl
theorem dX12_shut_61 : decode cX12_shut 61 = .ok (.getfield 13, 3) := chk_nth ocX12_shut_1 (k := 14) rfl
theorem dX12_shut_64 : decode cX12_shut 64 = .ok (.iconst 2, 1) := chk_nth ocX12_shut_1 (k := 15) rfl
theorem dX12_shut_65 : decode cX12_shut 65 = .ok (.iaload, 1) := chk_nth ocX12_shut_1 (k := 16) rfl
theorem dX12_shut_66 : decode cX12_shut 66 = .ok (.ishl, 1) := chk_nth ocX12_shut_1 (k := 17) rfl
theorem dX12_shut_67 : decode cX12_shut 67 = .ok (.if_icmp .ge 56, 3) := chk_nth ocX12_shut_1 (k := 18) rfl
theorem dX12_shut_70 : decode cX12_shut 70 = .ok (.iload 5, 2) := chk_nth ocX12_shut_1 (k := 19) rfl
theorem dX12_shut_72 : decode cX12_shut 72 = .ok (.aload_n 0, 1) := chk_nth ocX12_shut_1 (k := 20) rfl
theorem dX12_shut_73 : decode cX12_shut 73 = .ok (.invokevirtual 384, 3) := chk_nth ocX12_shut_1 (k := 21) rfl
theorem dX12_shut_76 : decode cX12_shut 76 = .ok (.iand, 1) := chk_nth ocX12_shut_1 (k := 22) rfl
theorem dX12_shut_77 : decode cX12_shut 77 = .ok (.ifCond .ne 40, 3) := chk_nth ocX12_shut_1 (k := 23) rfl
def tcX12_shut_2 : List (Instr × Nat) := [(.iload 4, 2), (.iconst (-1), 1), (.if_icmp .eq 19, 3), (.iload 5, 2), (.invokestatic 399, 3), (.iload 4, 2), (.invokestatic 399, 3), (.if_icmp .lt 6, 3), (.goto 18, 3), (.aload_n 0, 1), (.iload_n 1, 1), (.iload_n 2, 1), (.iload 5, 2), (.invokevirtual 402, 3), (.ifCond .ne 7, 3), (.iload 5, 2), (.istore 4, 2), (.iinc 5 1, 3), (.goto (-63), 3), (.iload_n 3, 1), (.iconst 1, 1), (.if_icmp .ne 8, 3), (.iload 4, 2), (.goto 8, 3)]
theorem ocX12_shut_2 : chk (cX12_shut.data.toList.drop 80) tcX12_shut_2 = true := by decide +kernel
theorem dX12_shut_80 : decode cX12_shut 80 = .ok (.iload 4, 2) := chk_nth ocX12_shut_2 (k := 0) rfl
theorem dX12_shut_82 : decode cX12_shut 82 = .ok (.iconst (-1), 1) := chk_nth ocX12_shut_2 (k := 1) rfl
theorem dX12_shut_83 : decode cX12_shut 83 = .ok (.if_icmp .eq 19, 3) := chk_nth ocX12_shut_2 (k := 2) rfl
theorem dX12_shut_86 : decode cX12_shut 86 = .ok (.iload 5, 2) := chk_nth ocX12_shut_2 (k := 3) rfl
theorem dX12_shut_88 : decode cX12_shut 88 = .ok (.invokestatic 399, 3) := chk_nth ocX12_shut_2 (k := 4) rfl
theorem dX12_shut_91 : decode cX12_shut 91 = .ok (.iload 4, 2) := chk_nth ocX12_shut_2 (k := 5) rfl
theorem dX12_shut_93 : decode cX12_shut 93 = .ok (.invokestatic 399, 3) := chk_nth ocX12_shut_2 (k := 6) rfl
theorem dX12_shut_96 : decode cX12_shut 96 = .ok (.if_icmp .lt 6, 3) := chk_nth ocX12_shut_2 (k := 7) rfl
theorem dX12_shut_99 : decode cX12_shut 99 = .ok (.goto 18, 3) := chk_nth ocX12_shut_2 (k := 8) rfl
theorem dX12_shut_102 : decode cX12_shut 102 = .ok (.aload_n 0, 1) := chk_nth ocX12_shut_2 (k := 9) rfl
theorem dX12_shut_103 : decode cX12_shut 103 = .ok (.iload_n 1, 1) := chk_nth ocX12_shut_2 (k := 10) rfl
theorem dX12_shut_104 : decode cX12_shut 104 = .ok (.iload_n 2, 1) := chk_nth ocX12_shut_2 (k := 11) rfl
theorem dX12_shut_105 : decode cX12_shut 105 = .ok (.iload 5, 2) := chk_nth ocX12_shut_2 (k := 12) rfl
theorem dX12_shut_107 : decode cX12_shut 107 = .ok (.invokevirtual 402, 3) := chk_nth ocX12_shut_2 (k := 13) rfl
theorem dX12_shut_110 : decode cX12_shut 110 = .ok (.ifCond .ne 7, 3) := chk_nth ocX12_shut_2 (k := 14) rfl
theorem dX12_shut_113 : decode cX12_shut 113 = .ok (.iload 5, 2) := chk_nth ocX12_shut_2 (k := 15) rfl
theorem dX12_shut_115 : decode cX12_shut 115 = .ok (.istore 4, 2) := chk_nth ocX12_shut_2 (k := 16) rfl
theorem dX12_shut_117 : decode cX12_shut 117 = .ok (.iinc 5 1, 3) := chk_nth ocX12_shut_2 (k := 17) rfl
theorem dX12_shut_120 : decode cX12_shut 120 = .ok (.goto (-63), 3) := chk_nth ocX12_shut_2 (k := 18) rfl
theorem dX12_shut_123 : decode cX12_shut 123 = .ok (.iload_n 3, 1) := chk_nth ocX12_shut_2 (k := 19) rfl
theorem dX12_shut_124 : decode cX12_shut 124 = .ok (.iconst 1, 1) := chk_nth ocX12_shut_2 (k := 20) rfl
theorem dX12_shut_125 : decode cX12_shut 125 = .ok (.if_icmp .ne 8, 3) := chk_nth ocX12_shut_2 (k := 21) rfl
theorem dX12_shut_128 : decode cX12_shut 128 = .ok (.iload 4, 2) := chk_nth ocX12_shut_2 (k := 22) rfl
theorem dX12_shut_130 : decode cX12_shut 130 = .ok (.goto 8, 3) := chk_nth ocX12_shut_2 (k := 23) rfl
def tcX12_shut_3 : List (Instr × Nat) := [(.iload 4, 2), (.invokestatic 399, 3), (.ireturn, 1)]
theorem ocX12_shut_3 : chk (cX12_shut.data.toList.drop 133) tcX12_shut_3 = true := by decide +kernel
theorem dX12_shut_133 : decode cX12_shut 133 = .ok (.iload 4, 2) := chk_nth ocX12_shut_3 (k := 0) rfl
theorem dX12_shut_135 : decode cX12_shut 135 = .ok (.invokestatic 399, 3) := chk_nth ocX12_shut_3 (k := 1) rfl
theorem dX12_shut_138 : decode cX12_shut 138 = .ok (.ireturn, 1) := chk_nth ocX12_shut_3 (k := 2) rfl
def tcX12_needed_0 : List (Instr × Nat) := [(.aload_n 0, 1), (.iconst 0, 1), (.putfield 1, 3), (.aload_n 0, 1), (.iload_n 1, 1), (.i2l, 1), (.invokevirtual 233, 3), (.ifCond .eq 12, 3), (.aload_n 0, 1), (.iload_n 2, 1), (.i2l, 1), (.invokevirtual 268, 3), (.ifCond .ne 6, 3), (.bipush (-2), 2), (.ireturn, 1), (.iconst 0, 1), (.istore_n 3, 1), (.aload_n 0, 1), (.iload_n 1, 1), (.iload_n 2, 1), (.iconst 0, 1), (.invokevirtual 402, 3), (.ifCond .ne 5, 3), (.iload_n 3, 1)]
theorem ocX12_needed_0 : chk (cX12_needed.data.toList.drop 0) tcX12_needed_0 = true := by decide +kernel
theorem dX12_needed_0 : decode cX12_needed 0 = .ok (.aload_n 0, 1) := chk_nth ocX12_needed_0 (k := 0) rfl
theorem dX12_needed_1 : decode cX12_needed 1 = .ok (.iconst 0, 1) := chk_nth ocX12_needed_0 (k := 1) rfl
theorem dX12_needed_2 : decode cX12_needed 2 = .ok (.putfield 1, 3) := chk_nth ocX12_needed_0 (k := 2) rfl
theorem dX12_needed_5 : decode cX12_needed 5 = .ok (.aload_n 0, 1) := chk_nth ocX12_needed_0 (k := 3) rfl
theorem dX12_needed_6 : decode cX12_needed 6 = .ok (.iload_n 1, 1) := chk_nth ocX12_needed_0 (k := 4) rfl
theorem dX12_needed_7 : decode cX12_needed 7 = .ok (.i2l, 1) := chk_nth ocX12_needed_0 (k := 5) rfl
theorem dX12_needed_8 : decode cX12_needed 8 = .ok (.invokevirtual 233, 3) := chk_nth ocX12_needed_0 (k := 6) rfl
theorem dX12_needed_11 : decode cX12_needed 11 = .ok (.ifCond .eq 12, 3) := chk_nth ocX12_needed_0 (k := 7) rfl
theorem dX12_needed_14 : decode cX12_needed 14 = .ok (.aload_n 0, 1) := chk_nth ocX12_needed_0 (k := 8) rfl
theorem dX12_needed_15 : decode cX12_needed 15 = .ok (.iload_n 2, 1) := chk_nth ocX12_needed_0 (k := 9) rfl
theorem dX12_needed_16 : decode cX12_needed 16 = .ok (.i2l, 1) := chk_nth ocX12_needed_0 (k := 10) rfl
theorem dX12_needed_17 : decode cX12_needed 17 = .ok (.invokevirtual 268, 3) := chk_nth ocX12_needed_0 (k := 11) rfl
theorem dX12_needed_20 : decode cX12_needed 20 = .ok (.ifCond .ne 6, 3) := chk_nth ocX12_needed_0 (k := 12) rfl
theorem dX12_needed_23 : decode cX12_needed 23 = .ok (.bipush (-2), 2) := chk_nth ocX12_needed_0 (k := 13) rfl
theorem dX12_needed_25 : decode cX12_needed 25 = .ok (.ireturn, 1) := chk_nth ocX12_needed_0 (k := 14) rfl
theorem dX12_needed_26 : decode cX12_needed 26 = .ok (.iconst 0, 1) := chk_nth ocX12_needed_0 (k := 15) rfl
theorem dX12_needed_27 : decode cX12_needed 27 = .ok (.istore_n 3, 1) := chk_nth ocX12_needed_0 (k := 16) rfl
theorem dX12_needed_28 : decode cX12_needed 28 = .ok (.aload_n 0, 1) := chk_nth ocX12_needed_0 (k := 17) rfl
theorem dX12_needed_29 : decode cX12_needed 29 = .ok (.iload_n 1, 1) := chk_nth ocX12_needed_0 (k := 18) rfl
theorem dX12_needed_30 : decode cX12_needed 30 = .ok (.iload_n 2, 1) := chk_nth ocX12_needed_0 (k := 19) rfl
theorem dX12_needed_31 : decode cX12_needed 31 = .ok (.iconst 0, 1) := chk_nth ocX12_needed_0 (k := 20) rfl
theorem dX12_needed_32 : decode cX12_needed 32 = .ok (.invokevirtual 402, 3) := chk_nth ocX12_needed_0 (k := 21) rfl
theorem dX12_needed_35 : decode cX12_needed 35 = .ok (.ifCond .ne 5, 3) := chk_nth ocX12_needed_0 (k := 22) rfl
theorem dX12_needed_38 : decode cX12_needed 38 = .ok (.iload_n 3, 1) := chk_nth ocX12_needed_0 (k := 23) rfl
def tcX12_needed_1 : List (Instr × Nat) := [(.ireturn, 1), (.iconst 0, 1), (.istore 4, 2), (.iload 4, 2), (.aload_n 0, 1), (.getfield 13, 3), (.iconst 2, 1), (.iaload, 1), (.if_icmp .ge 43, 3), (.aload_n 0, 1), (.getfield 13, 3), (.bipush 40, 2), (.iload 4, 2), (.iadd, 1), (.iaload, 1), (.iconst 3, 1), (.if_icmp .eq 23, 3), (.aload_n 0, 1), (.iload_n 1, 1), (.iload_n 2, 1), (.iconst 1, 1), (.iload 4, 2), (.ishl, 1), (.invokevirtual 402, 3)]
theorem ocX12_needed_1 : chk (cX12_needed.data.toList.drop 39) tcX12_needed_1 = true := by decide +kernel
theorem dX12_needed_39 : decode cX12_needed 39 = .ok (.ireturn, 1) := chk_nth ocX12_needed_1 (k := 0) rfl
theorem dX12_needed_40 : decode cX12_needed 40 = .ok (.iconst 0, 1) := chk_nth ocX12_needed_1 (k := 1) rfl
theorem dX12_needed_41 : decode cX12_needed 41 = .ok (.istore 4, 2) := chk_nth ocX12_needed_1 (k := 2) rfl
theorem dX12_needed_43 : decode cX12_needed 43 = .ok (.iload 4, 2) := chk_nth ocX12_needed_1 (k := 3) rfl
theorem dX12_needed_45 : decode cX12_needed 45 = .ok (.aload_n 0, 1) := chk_nth ocX12_needed_1 (k := 4) rfl
theorem dX12_needed_46 : decode cX12_needed 46 = .ok (.getfield 13, 3) := chk_nth ocX12_needed_1 (k := 5) rfl
theorem dX12_needed_49 : decode cX12_needed 49 = .ok (.iconst 2, 1) := chk_nth ocX12_needed_1 (k := 6) rfl
theorem dX12_needed_50 : decode cX12_needed 50 = .ok (.iaload, 1) := chk_nth ocX12_needed_1 (k := 7) rfl
theorem dX12_needed_51 : decode cX12_needed 51 = .ok (.if_icmp .ge 43, 3) := chk_nth ocX12_needed_1 (k := 8) rfl
theorem dX12_needed_54 : decode cX12_needed 54 = .ok (.aload_n 0, 1) := chk_nth ocX12_needed_1 (k := 9) rfl
theorem dX12_needed_55 : decode cX12_needed 55 = .ok (.getfield 13, 3) := chk_nth ocX12_needed_1 (k := 10) rfl
theorem dX12_needed_58 : decode cX12_needed 58 = .ok (.bipush 40, 2) := chk_nth ocX12_needed_1 (k := 11) rfl
theorem dX12_needed_60 : decode cX12_needed 60 = .ok (.iload 4, 2) := chk_nth ocX12_needed_1 (k := 12) rfl
theorem dX12_needed_62 : decode cX12_needed 62 = .ok (.iadd, 1) := chk_nth ocX12_needed_1 (k := 13) rfl
theorem dX12_needed_63 : decode cX12_needed 63 = .ok (.iaload, 1) := chk_nth ocX12_needed_1 (k := 14) rfl
theorem dX12_needed_64 : decode cX12_needed 64 = .ok (.iconst 3, 1) := chk_nth ocX12_needed_1 (k := 15) rfl
theorem dX12_needed_65 : decode cX12_needed 65 = .ok (.if_icmp .eq 23, 3) := chk_nth ocX12_needed_1 (k := 16) rfl
theorem dX12_needed_68 : decode cX12_needed 68 = .ok (.aload_n 0, 1) := chk_nth ocX12_needed_1 (k := 17) rfl
theorem dX12_needed_69 : decode cX12_needed 69 = .ok (.iload_n 1, 1) := chk_nth ocX12_needed_1 (k := 18) rfl
theorem dX12_needed_70 : decode cX12_needed 70 = .ok (.iload_n 2, 1) := chk_nth ocX12_needed_1 (k := 19) rfl
theorem dX12_needed_71 : decode cX12_needed 71 = .ok (.iconst 1, 1) := chk_nth ocX12_needed_1 (k := 20) rfl
theorem dX12_needed_72 : decode cX12_needed 72 = .ok (.iload 4, 2) := chk_nth ocX12_needed_1 (k := 21) rfl
theorem dX12_needed_74 : decode cX12_needed 74 = .ok (.ishl, 1) := chk_nth ocX12_needed_1 (k := 22) rfl
theorem dX12_needed_75 : decode cX12_needed 75 = .ok (.invokevirtual 402, 3) := chk_nth ocX12_needed_1 (k := 23) rfl
def tcX12_needed_2 : List (Instr × Nat) := [(.ifCond .ne 10, 3), (.iload_n 3, 1), (.iconst 1, 1), (.iload 4, 2), (.ishl, 1), (.ior, 1), (.istore_n 3, 1), (.iinc 4 1, 3), (.goto (-48), 3), (.iload_n 3, 1), (.ireturn, 1)]
theorem ocX12_needed_2 : chk (cX12_needed.data.toList.drop 78) tcX12_needed_2 = true := by decide +kernel
theorem dX12_needed_78 : decode cX12_needed 78 = .ok (.ifCond .ne 10, 3) := chk_nth ocX12_needed_2 (k := 0) rfl
theorem dX12_needed_81 : decode cX12_needed 81 = .ok (.iload_n 3, 1) := chk_nth ocX12_needed_2 (k := 1) rfl
theorem dX12_needed_82 : decode cX12_needed 82 = .ok (.iconst 1, 1) := chk_nth ocX12_needed_2 (k := 2) rfl
theorem dX12_needed_83 : decode cX12_needed 83 = .ok (.iload 4, 2) := chk_nth ocX12_needed_2 (k := 3) rfl
theorem dX12_needed_85 : decode cX12_needed 85 = .ok (.ishl, 1) := chk_nth ocX12_needed_2 (k := 4) rfl
theorem dX12_needed_86 : decode cX12_needed 86 = .ok (.ior, 1) := chk_nth ocX12_needed_2 (k := 5) rfl
theorem dX12_needed_87 : decode cX12_needed 87 = .ok (.istore_n 3, 1) := chk_nth ocX12_needed_2 (k := 6) rfl
theorem dX12_needed_88 : decode cX12_needed 88 = .ok (.iinc 4 1, 3) := chk_nth ocX12_needed_2 (k := 7) rfl
theorem dX12_needed_91 : decode cX12_needed 91 = .ok (.goto (-48), 3) := chk_nth ocX12_needed_2 (k := 8) rfl
theorem dX12_needed_94 : decode cX12_needed 94 = .ok (.iload_n 3, 1) := chk_nth ocX12_needed_2 (k := 9) rfl
theorem dX12_needed_95 : decode cX12_needed 95 = .ok (.ireturn, 1) := chk_nth ocX12_needed_2 (k := 10) rfl
def tcX12_noTook_0 : List (Instr × Nat) := [(.iload_n 1, 1), (.i2l, 1), (.lconst 0, 1), (.ldc2_w 264, 3), (.invokestatic 142, 3), (.ifCond .eq 12, 3), (.aload_n 0, 1), (.iload_n 2, 1), (.i2l, 1), (.invokevirtual 233, 3), (.ifCond .ne 6, 3), (.bipush (-2), 2), (.ireturn, 1), (.aload_n 0, 1), (.iload_n 1, 1), (.invokevirtual 297, 3), (.istore 4, 2), (.iload 4, 2), (.ifCond .eq 6, 3), (.iload 4, 2), (.ireturn, 1), (.aload_n 0, 1), (.getfield 70, 3), (.iload_n 1, 1)]
theorem ocX12_noTook_0 : chk (cX12_noTook.data.toList.drop 0) tcX12_noTook_0 = true := by decide +kernel
theorem dX12_noTook_0 : decode cX12_noTook 0 = .ok (.iload_n 1, 1) := chk_nth ocX12_noTook_0 (k := 0) rfl
theorem dX12_noTook_1 : decode cX12_noTook 1 = .ok (.i2l, 1) := chk_nth ocX12_noTook_0 (k := 1) rfl
theorem dX12_noTook_2 : decode cX12_noTook 2 = .ok (.lconst 0, 1) := chk_nth ocX12_noTook_0 (k := 2) rfl
theorem dX12_noTook_3 : decode cX12_noTook 3 = .ok (.ldc2_w 264, 3) := chk_nth ocX12_noTook_0 (k := 3) rfl
theorem dX12_noTook_6 : decode cX12_noTook 6 = .ok (.invokestatic 142, 3) := chk_nth ocX12_noTook_0 (k := 4) rfl
theorem dX12_noTook_9 : decode cX12_noTook 9 = .ok (.ifCond .eq 12, 3) := chk_nth ocX12_noTook_0 (k := 5) rfl
theorem dX12_noTook_12 : decode cX12_noTook 12 = .ok (.aload_n 0, 1) := chk_nth ocX12_noTook_0 (k := 6) rfl
theorem dX12_noTook_13 : decode cX12_noTook 13 = .ok (.iload_n 2, 1) := chk_nth ocX12_noTook_0 (k := 7) rfl
theorem dX12_noTook_14 : decode cX12_noTook 14 = .ok (.i2l, 1) := chk_nth ocX12_noTook_0 (k := 8) rfl
theorem dX12_noTook_15 : decode cX12_noTook 15 = .ok (.invokevirtual 233, 3) := chk_nth ocX12_noTook_0 (k := 9) rfl
theorem dX12_noTook_18 : decode cX12_noTook 18 = .ok (.ifCond .ne 6, 3) := chk_nth ocX12_noTook_0 (k := 10) rfl
theorem dX12_noTook_21 : decode cX12_noTook 21 = .ok (.bipush (-2), 2) := chk_nth ocX12_noTook_0 (k := 11) rfl
theorem dX12_noTook_23 : decode cX12_noTook 23 = .ok (.ireturn, 1) := chk_nth ocX12_noTook_0 (k := 12) rfl
theorem dX12_noTook_24 : decode cX12_noTook 24 = .ok (.aload_n 0, 1) := chk_nth ocX12_noTook_0 (k := 13) rfl
theorem dX12_noTook_25 : decode cX12_noTook 25 = .ok (.iload_n 1, 1) := chk_nth ocX12_noTook_0 (k := 14) rfl
theorem dX12_noTook_26 : decode cX12_noTook 26 = .ok (.invokevirtual 297, 3) := chk_nth ocX12_noTook_0 (k := 15) rfl
theorem dX12_noTook_29 : decode cX12_noTook 29 = .ok (.istore 4, 2) := chk_nth ocX12_noTook_0 (k := 16) rfl
theorem dX12_noTook_31 : decode cX12_noTook 31 = .ok (.iload 4, 2) := chk_nth ocX12_noTook_0 (k := 17) rfl
theorem dX12_noTook_33 : decode cX12_noTook 33 = .ok (.ifCond .eq 6, 3) := chk_nth ocX12_noTook_0 (k := 18) rfl
theorem dX12_noTook_36 : decode cX12_noTook 36 = .ok (.iload 4, 2) := chk_nth ocX12_noTook_0 (k := 19) rfl
theorem dX12_noTook_38 : decode cX12_noTook 38 = .ok (.ireturn, 1) := chk_nth ocX12_noTook_0 (k := 20) rfl
theorem dX12_noTook_39 : decode cX12_noTook 39 = .ok (.aload_n 0, 1) := chk_nth ocX12_noTook_0 (k := 21) rfl
theorem dX12_noTook_40 : decode cX12_noTook 40 = .ok (.getfield 70, 3) := chk_nth ocX12_noTook_0 (k := 22) rfl
theorem dX12_noTook_43 : decode cX12_noTook 43 = .ok (.iload_n 1, 1) := chk_nth ocX12_noTook_0 (k := 23) rfl
def tcX12_noTook_1 : List (Instr × Nat) := [(.iaload, 1), (.i2l, 1), (.lconst 1, 1), (.ldc2_w 271, 3), (.invokestatic 142, 3), (.ifCond .ne 6, 3), (.bipush (-4), 2), (.ireturn, 1), (.iconst 0, 1), (.istore 5, 2), (.iload 5, 2), (.aload_n 0, 1), (.getfield 70, 3), (.iload_n 1, 1), (.iaload, 1), (.if_icmp .ge 31, 3), (.aload_n 0, 1), (.aload_n 0, 1), (.getfield 73, 3), (.bipush 40, 2), (.iload_n 1, 1), (.imul, 1), (.iload 5, 2), (.iadd, 1)]
theorem ocX12_noTook_1 : chk (cX12_noTook.data.toList.drop 44) tcX12_noTook_1 = true := by decide +kernel
theorem dX12_noTook_44 : decode cX12_noTook 44 = .ok (.iaload, 1) := chk_nth ocX12_noTook_1 (k := 0) rfl
theorem dX12_noTook_45 : decode cX12_noTook 45 = .ok (.i2l, 1) := chk_nth ocX12_noTook_1 (k := 1) rfl
theorem dX12_noTook_46 : decode cX12_noTook 46 = .ok (.lconst 1, 1) := chk_nth ocX12_noTook_1 (k := 2) rfl
theorem dX12_noTook_47 : decode cX12_noTook 47 = .ok (.ldc2_w 271, 3) := chk_nth ocX12_noTook_1 (k := 3) rfl
theorem dX12_noTook_50 : decode cX12_noTook 50 = .ok (.invokestatic 142, 3) := chk_nth ocX12_noTook_1 (k := 4) rfl
theorem dX12_noTook_53 : decode cX12_noTook 53 = .ok (.ifCond .ne 6, 3) := chk_nth ocX12_noTook_1 (k := 5) rfl
theorem dX12_noTook_56 : decode cX12_noTook 56 = .ok (.bipush (-4), 2) := chk_nth ocX12_noTook_1 (k := 6) rfl
theorem dX12_noTook_58 : decode cX12_noTook 58 = .ok (.ireturn, 1) := chk_nth ocX12_noTook_1 (k := 7) rfl
theorem dX12_noTook_59 : decode cX12_noTook 59 = .ok (.iconst 0, 1) := chk_nth ocX12_noTook_1 (k := 8) rfl
theorem dX12_noTook_60 : decode cX12_noTook 60 = .ok (.istore 5, 2) := chk_nth ocX12_noTook_1 (k := 9) rfl
theorem dX12_noTook_62 : decode cX12_noTook 62 = .ok (.iload 5, 2) := chk_nth ocX12_noTook_1 (k := 10) rfl
theorem dX12_noTook_64 : decode cX12_noTook 64 = .ok (.aload_n 0, 1) := chk_nth ocX12_noTook_1 (k := 11) rfl
theorem dX12_noTook_65 : decode cX12_noTook 65 = .ok (.getfield 70, 3) := chk_nth ocX12_noTook_1 (k := 12) rfl
theorem dX12_noTook_68 : decode cX12_noTook 68 = .ok (.iload_n 1, 1) := chk_nth ocX12_noTook_1 (k := 13) rfl
theorem dX12_noTook_69 : decode cX12_noTook 69 = .ok (.iaload, 1) := chk_nth ocX12_noTook_1 (k := 14) rfl
theorem dX12_noTook_70 : decode cX12_noTook 70 = .ok (.if_icmp .ge 31, 3) := chk_nth ocX12_noTook_1 (k := 15) rfl
theorem dX12_noTook_73 : decode cX12_noTook 73 = .ok (.aload_n 0, 1) := chk_nth ocX12_noTook_1 (k := 16) rfl
theorem dX12_noTook_74 : decode cX12_noTook 74 = .ok (.aload_n 0, 1) := chk_nth ocX12_noTook_1 (k := 17) rfl
theorem dX12_noTook_75 : decode cX12_noTook 75 = .ok (.getfield 73, 3) := chk_nth ocX12_noTook_1 (k := 18) rfl
theorem dX12_noTook_78 : decode cX12_noTook 78 = .ok (.bipush 40, 2) := chk_nth ocX12_noTook_1 (k := 19) rfl
theorem dX12_noTook_80 : decode cX12_noTook 80 = .ok (.iload_n 1, 1) := chk_nth ocX12_noTook_1 (k := 20) rfl
theorem dX12_noTook_81 : decode cX12_noTook 81 = .ok (.imul, 1) := chk_nth ocX12_noTook_1 (k := 21) rfl
theorem dX12_noTook_82 : decode cX12_noTook 82 = .ok (.iload 5, 2) := chk_nth ocX12_noTook_1 (k := 22) rfl
theorem dX12_noTook_84 : decode cX12_noTook 84 = .ok (.iadd, 1) := chk_nth ocX12_noTook_1 (k := 23) rfl
def tcX12_noTook_2 : List (Instr × Nat) := [(.laload, 1), (.invokevirtual 236, 3), (.ifCond .ne 6, 3), (.bipush (-3), 2), (.ireturn, 1), (.iinc 5 1, 3), (.goto (-36), 3), (.iload_n 3, 1), (.i2l, 1), (.invokestatic 229, 3), (.ifCond .eq 7, 3), (.iconst 0, 1), (.goto 5, 3), (.bipush (-3), 2), (.ireturn, 1)]
theorem ocX12_noTook_2 : chk (cX12_noTook.data.toList.drop 85) tcX12_noTook_2 = true := by decide +kernel
theorem dX12_noTook_85 : decode cX12_noTook 85 = .ok (.laload, 1) := chk_nth ocX12_noTook_2 (k := 0) rfl
theorem dX12_noTook_86 : decode cX12_noTook 86 = .ok (.invokevirtual 236, 3) := chk_nth ocX12_noTook_2 (k := 1) rfl
theorem dX12_noTook_89 : decode cX12_noTook 89 = .ok (.ifCond .ne 6, 3) := chk_nth ocX12_noTook_2 (k := 2) rfl
theorem dX12_noTook_92 : decode cX12_noTook 92 = .ok (.bipush (-3), 2) := chk_nth ocX12_noTook_2 (k := 3) rfl
theorem dX12_noTook_94 : decode cX12_noTook 94 = .ok (.ireturn, 1) := chk_nth ocX12_noTook_2 (k := 4) rfl
theorem dX12_noTook_95 : decode cX12_noTook 95 = .ok (.iinc 5 1, 3) := chk_nth ocX12_noTook_2 (k := 5) rfl
theorem dX12_noTook_98 : decode cX12_noTook 98 = .ok (.goto (-36), 3) := chk_nth ocX12_noTook_2 (k := 6) rfl
theorem dX12_noTook_101 : decode cX12_noTook 101 = .ok (.iload_n 3, 1) := chk_nth ocX12_noTook_2 (k := 7) rfl
theorem dX12_noTook_102 : decode cX12_noTook 102 = .ok (.i2l, 1) := chk_nth ocX12_noTook_2 (k := 8) rfl
theorem dX12_noTook_103 : decode cX12_noTook 103 = .ok (.invokestatic 229, 3) := chk_nth ocX12_noTook_2 (k := 9) rfl
theorem dX12_noTook_106 : decode cX12_noTook 106 = .ok (.ifCond .eq 7, 3) := chk_nth ocX12_noTook_2 (k := 10) rfl
theorem dX12_noTook_109 : decode cX12_noTook 109 = .ok (.iconst 0, 1) := chk_nth ocX12_noTook_2 (k := 11) rfl
theorem dX12_noTook_110 : decode cX12_noTook 110 = .ok (.goto 5, 3) := chk_nth ocX12_noTook_2 (k := 12) rfl
theorem dX12_noTook_113 : decode cX12_noTook 113 = .ok (.bipush (-3), 2) := chk_nth ocX12_noTook_2 (k := 13) rfl
theorem dX12_noTook_115 : decode cX12_noTook 115 = .ok (.ireturn, 1) := chk_nth ocX12_noTook_2 (k := 14) rfl
def tcX12_isTook_0 : List (Instr × Nat) := [(.iload_n 3, 1), (.istore 5, 2), (.iconst 0, 1), (.istore 6, 2), (.iload 6, 2), (.aload_n 0, 1), (.getfield 70, 3), (.iload_n 1, 1), (.iaload, 1), (.if_icmp .ge 59, 3), (.aload_n 0, 1), (.getfield 73, 3), (.bipush 40, 2), (.iload_n 1, 1), (.imul, 1), (.iload 6, 2), (.iadd, 1), (.laload, 1), (.l2i, 1), (.istore 7, 2), (.aload_n 0, 1), (.iload_n 2, 1), (.iload 5, 2), (.iload 7, 2)]
theorem ocX12_isTook_0 : chk (cX12_isTook.data.toList.drop 0) tcX12_isTook_0 = true := by decide +kernel
theorem dX12_isTook_0 : decode cX12_isTook 0 = .ok (.iload_n 3, 1) := chk_nth ocX12_isTook_0 (k := 0) rfl
theorem dX12_isTook_1 : decode cX12_isTook 1 = .ok (.istore 5, 2) := chk_nth ocX12_isTook_0 (k := 1) rfl
theorem dX12_isTook_3 : decode cX12_isTook 3 = .ok (.iconst 0, 1) := chk_nth ocX12_isTook_0 (k := 2) rfl
theorem dX12_isTook_4 : decode cX12_isTook 4 = .ok (.istore 6, 2) := chk_nth ocX12_isTook_0 (k := 3) rfl
theorem dX12_isTook_6 : decode cX12_isTook 6 = .ok (.iload 6, 2) := chk_nth ocX12_isTook_0 (k := 4) rfl
theorem dX12_isTook_8 : decode cX12_isTook 8 = .ok (.aload_n 0, 1) := chk_nth ocX12_isTook_0 (k := 5) rfl
theorem dX12_isTook_9 : decode cX12_isTook 9 = .ok (.getfield 70, 3) := chk_nth ocX12_isTook_0 (k := 6) rfl
theorem dX12_isTook_12 : decode cX12_isTook 12 = .ok (.iload_n 1, 1) := chk_nth ocX12_isTook_0 (k := 7) rfl
theorem dX12_isTook_13 : decode cX12_isTook 13 = .ok (.iaload, 1) := chk_nth ocX12_isTook_0 (k := 8) rfl
theorem dX12_isTook_14 : decode cX12_isTook 14 = .ok (.if_icmp .ge 59, 3) := chk_nth ocX12_isTook_0 (k := 9) rfl
theorem dX12_isTook_17 : decode cX12_isTook 17 = .ok (.aload_n 0, 1) := chk_nth ocX12_isTook_0 (k := 10) rfl
theorem dX12_isTook_18 : decode cX12_isTook 18 = .ok (.getfield 73, 3) := chk_nth ocX12_isTook_0 (k := 11) rfl
theorem dX12_isTook_21 : decode cX12_isTook 21 = .ok (.bipush 40, 2) := chk_nth ocX12_isTook_0 (k := 12) rfl
theorem dX12_isTook_23 : decode cX12_isTook 23 = .ok (.iload_n 1, 1) := chk_nth ocX12_isTook_0 (k := 13) rfl
theorem dX12_isTook_24 : decode cX12_isTook 24 = .ok (.imul, 1) := chk_nth ocX12_isTook_0 (k := 14) rfl
theorem dX12_isTook_25 : decode cX12_isTook 25 = .ok (.iload 6, 2) := chk_nth ocX12_isTook_0 (k := 15) rfl
theorem dX12_isTook_27 : decode cX12_isTook 27 = .ok (.iadd, 1) := chk_nth ocX12_isTook_0 (k := 16) rfl
theorem dX12_isTook_28 : decode cX12_isTook 28 = .ok (.laload, 1) := chk_nth ocX12_isTook_0 (k := 17) rfl
theorem dX12_isTook_29 : decode cX12_isTook 29 = .ok (.l2i, 1) := chk_nth ocX12_isTook_0 (k := 18) rfl
theorem dX12_isTook_30 : decode cX12_isTook 30 = .ok (.istore 7, 2) := chk_nth ocX12_isTook_0 (k := 19) rfl
theorem dX12_isTook_32 : decode cX12_isTook 32 = .ok (.aload_n 0, 1) := chk_nth ocX12_isTook_0 (k := 20) rfl
theorem dX12_isTook_33 : decode cX12_isTook 33 = .ok (.iload_n 2, 1) := chk_nth ocX12_isTook_0 (k := 21) rfl
theorem dX12_isTook_34 : decode cX12_isTook 34 = .ok (.iload 5, 2) := chk_nth ocX12_isTook_0 (k := 22) rfl
theorem dX12_isTook_36 : decode cX12_isTook 36 = .ok (.iload 7, 2) := chk_nth ocX12_isTook_0 (k := 23) rfl
def tcX12_isTook_1 : List (Instr × Nat) := [(.aload_n 0, 1), (.getfield 13, 3), (.bipush 40, 2), (.iload 7, 2), (.iadd, 1), (.iaload, 1), (.invokevirtual 242, 3), (.ifCond .eq 5, 3), (.iconst 0, 1), (.ireturn, 1), (.aload_n 0, 1), (.iload_n 2, 1), (.iload 5, 2), (.iload 7, 2), (.invokevirtual 251, 3), (.istore 5, 2), (.iinc 6 1, 3), (.goto (-64), 3), (.iload 5, 2), (.bipush 20, 2), (.irem, 1), (.iload 4, 2), (.if_icmp .ne 7, 3), (.iconst 1, 1)]
theorem ocX12_isTook_1 : chk (cX12_isTook.data.toList.drop 38) tcX12_isTook_1 = true := by decide +kernel
theorem dX12_isTook_38 : decode cX12_isTook 38 = .ok (.aload_n 0, 1) := chk_nth ocX12_isTook_1 (k := 0) rfl
theorem dX12_isTook_39 : decode cX12_isTook 39 = .ok (.getfield 13, 3) := chk_nth ocX12_isTook_1 (k := 1) rfl
theorem dX12_isTook_42 : decode cX12_isTook 42 = .ok (.bipush 40, 2) := chk_nth ocX12_isTook_1 (k := 2) rfl
theorem dX12_isTook_44 : decode cX12_isTook 44 = .ok (.iload 7, 2) := chk_nth ocX12_isTook_1 (k := 3) rfl
theorem dX12_isTook_46 : decode cX12_isTook 46 = .ok (.iadd, 1) := chk_nth ocX12_isTook_1 (k := 4) rfl
theorem dX12_isTook_47 : decode cX12_isTook 47 = .ok (.iaload, 1) := chk_nth ocX12_isTook_1 (k := 5) rfl
theorem dX12_isTook_48 : decode cX12_isTook 48 = .ok (.invokevirtual 242, 3) := chk_nth ocX12_isTook_1 (k := 6) rfl
theorem dX12_isTook_51 : decode cX12_isTook 51 = .ok (.ifCond .eq 5, 3) := chk_nth ocX12_isTook_1 (k := 7) rfl
theorem dX12_isTook_54 : decode cX12_isTook 54 = .ok (.iconst 0, 1) := chk_nth ocX12_isTook_1 (k := 8) rfl
theorem dX12_isTook_55 : decode cX12_isTook 55 = .ok (.ireturn, 1) := chk_nth ocX12_isTook_1 (k := 9) rfl
theorem dX12_isTook_56 : decode cX12_isTook 56 = .ok (.aload_n 0, 1) := chk_nth ocX12_isTook_1 (k := 10) rfl
theorem dX12_isTook_57 : decode cX12_isTook 57 = .ok (.iload_n 2, 1) := chk_nth ocX12_isTook_1 (k := 11) rfl
theorem dX12_isTook_58 : decode cX12_isTook 58 = .ok (.iload 5, 2) := chk_nth ocX12_isTook_1 (k := 12) rfl
theorem dX12_isTook_60 : decode cX12_isTook 60 = .ok (.iload 7, 2) := chk_nth ocX12_isTook_1 (k := 13) rfl
theorem dX12_isTook_62 : decode cX12_isTook 62 = .ok (.invokevirtual 251, 3) := chk_nth ocX12_isTook_1 (k := 14) rfl
theorem dX12_isTook_65 : decode cX12_isTook 65 = .ok (.istore 5, 2) := chk_nth ocX12_isTook_1 (k := 15) rfl
theorem dX12_isTook_67 : decode cX12_isTook 67 = .ok (.iinc 6 1, 3) := chk_nth ocX12_isTook_1 (k := 16) rfl
theorem dX12_isTook_70 : decode cX12_isTook 70 = .ok (.goto (-64), 3) := chk_nth ocX12_isTook_1 (k := 17) rfl
theorem dX12_isTook_73 : decode cX12_isTook 73 = .ok (.iload 5, 2) := chk_nth ocX12_isTook_1 (k := 18) rfl
theorem dX12_isTook_75 : decode cX12_isTook 75 = .ok (.bipush 20, 2) := chk_nth ocX12_isTook_1 (k := 19) rfl
theorem dX12_isTook_77 : decode cX12_isTook 77 = .ok (.irem, 1) := chk_nth ocX12_isTook_1 (k := 20) rfl
theorem dX12_isTook_78 : decode cX12_isTook 78 = .ok (.iload 4, 2) := chk_nth ocX12_isTook_1 (k := 21) rfl
theorem dX12_isTook_80 : decode cX12_isTook 80 = .ok (.if_icmp .ne 7, 3) := chk_nth ocX12_isTook_1 (k := 22) rfl
theorem dX12_isTook_83 : decode cX12_isTook 83 = .ok (.iconst 1, 1) := chk_nth ocX12_isTook_1 (k := 23) rfl
def tcX12_isTook_2 : List (Instr × Nat) := [(.goto 4, 3), (.iconst 0, 1), (.ireturn, 1)]
theorem ocX12_isTook_2 : chk (cX12_isTook.data.toList.drop 84) tcX12_isTook_2 = true := by decide +kernel
theorem dX12_isTook_84 : decode cX12_isTook 84 = .ok (.goto 4, 3) := chk_nth ocX12_isTook_2 (k := 0) rfl
theorem dX12_isTook_87 : decode cX12_isTook 87 = .ok (.iconst 0, 1) := chk_nth ocX12_isTook_2 (k := 1) rfl
theorem dX12_isTook_88 : decode cX12_isTook 88 = .ok (.ireturn, 1) := chk_nth ocX12_isTook_2 (k := 2) rfl
def tcX12_from_0 : List (Instr × Nat) := [(.aload_n 0, 1), (.iconst 0, 1), (.putfield 1, 3), (.aload_n 0, 1), (.iload_n 1, 1), (.iload_n 2, 1), (.iload_n 3, 1), (.invokevirtual 405, 3), (.istore 4, 2), (.iload 4, 2), (.ifCond .eq 6, 3), (.iload 4, 2), (.ireturn, 1), (.iconst 0, 1), (.istore 5, 2), (.iconst 0, 1), (.istore 6, 2), (.iload 6, 2), (.aload_n 0, 1), (.getfield 13, 3), (.iconst 1, 1), (.iaload, 1), (.if_icmp .ge 47, 3), (.iload 5, 2)]
theorem ocX12_from_0 : chk (cX12_from.data.toList.drop 0) tcX12_from_0 = true := by decide +kernel
theorem dX12_from_0 : decode cX12_from 0 = .ok (.aload_n 0, 1) := chk_nth ocX12_from_0 (k := 0) rfl
theorem dX12_from_1 : decode cX12_from 1 = .ok (.iconst 0, 1) := chk_nth ocX12_from_0 (k := 1) rfl
theorem dX12_from_2 : decode cX12_from 2 = .ok (.putfield 1, 3) := chk_nth ocX12_from_0 (k := 2) rfl
theorem dX12_from_5 : decode cX12_from 5 = .ok (.aload_n 0, 1) := chk_nth ocX12_from_0 (k := 3) rfl
theorem dX12_from_6 : decode cX12_from 6 = .ok (.iload_n 1, 1) := chk_nth ocX12_from_0 (k := 4) rfl
theorem dX12_from_7 : decode cX12_from 7 = .ok (.iload_n 2, 1) := chk_nth ocX12_from_0 (k := 5) rfl
theorem dX12_from_8 : decode cX12_from 8 = .ok (.iload_n 3, 1) := chk_nth ocX12_from_0 (k := 6) rfl
theorem dX12_from_9 : decode cX12_from 9 = .ok (.invokevirtual 405, 3) := chk_nth ocX12_from_0 (k := 7) rfl
theorem dX12_from_12 : decode cX12_from 12 = .ok (.istore 4, 2) := chk_nth ocX12_from_0 (k := 8) rfl
theorem dX12_from_14 : decode cX12_from 14 = .ok (.iload 4, 2) := chk_nth ocX12_from_0 (k := 9) rfl
theorem dX12_from_16 : decode cX12_from 16 = .ok (.ifCond .eq 6, 3) := chk_nth ocX12_from_0 (k := 10) rfl
theorem dX12_from_19 : decode cX12_from 19 = .ok (.iload 4, 2) := chk_nth ocX12_from_0 (k := 11) rfl
theorem dX12_from_21 : decode cX12_from 21 = .ok (.ireturn, 1) := chk_nth ocX12_from_0 (k := 12) rfl
theorem dX12_from_22 : decode cX12_from 22 = .ok (.iconst 0, 1) := chk_nth ocX12_from_0 (k := 13) rfl
theorem dX12_from_23 : decode cX12_from 23 = .ok (.istore 5, 2) := chk_nth ocX12_from_0 (k := 14) rfl
theorem dX12_from_25 : decode cX12_from 25 = .ok (.iconst 0, 1) := chk_nth ocX12_from_0 (k := 15) rfl
theorem dX12_from_26 : decode cX12_from 26 = .ok (.istore 6, 2) := chk_nth ocX12_from_0 (k := 16) rfl
theorem dX12_from_28 : decode cX12_from 28 = .ok (.iload 6, 2) := chk_nth ocX12_from_0 (k := 17) rfl
theorem dX12_from_30 : decode cX12_from 30 = .ok (.aload_n 0, 1) := chk_nth ocX12_from_0 (k := 18) rfl
theorem dX12_from_31 : decode cX12_from 31 = .ok (.getfield 13, 3) := chk_nth ocX12_from_0 (k := 19) rfl
theorem dX12_from_34 : decode cX12_from 34 = .ok (.iconst 1, 1) := chk_nth ocX12_from_0 (k := 20) rfl
theorem dX12_from_35 : decode cX12_from 35 = .ok (.iaload, 1) := chk_nth ocX12_from_0 (k := 21) rfl
theorem dX12_from_36 : decode cX12_from 36 = .ok (.if_icmp .ge 47, 3) := chk_nth ocX12_from_0 (k := 22) rfl
theorem dX12_from_39 : decode cX12_from 39 = .ok (.iload 5, 2) := chk_nth ocX12_from_0 (k := 23) rfl
def tcX12_from_1 : List (Instr × Nat) := [(.aload_n 0, 1), (.iload_n 1, 1), (.iload_n 2, 1), (.bipush 20, 2), (.iload 6, 2), (.imul, 1), (.aload_n 0, 1), (.getfield 13, 3), (.bipush 37, 2), (.iload_n 2, 1), (.iadd, 1), (.iaload, 1), (.iadd, 1), (.iload_n 3, 1), (.invokevirtual 408, 3), (.ifCond .eq 10, 3), (.iconst 1, 1), (.iload 6, 2), (.ishl, 1), (.goto 4, 3), (.iconst 0, 1), (.ior, 1), (.istore 5, 2), (.iinc 6 1, 3)]
theorem ocX12_from_1 : chk (cX12_from.data.toList.drop 41) tcX12_from_1 = true := by decide +kernel
theorem dX12_from_41 : decode cX12_from 41 = .ok (.aload_n 0, 1) := chk_nth ocX12_from_1 (k := 0) rfl
theorem dX12_from_42 : decode cX12_from 42 = .ok (.iload_n 1, 1) := chk_nth ocX12_from_1 (k := 1) rfl
theorem dX12_from_43 : decode cX12_from 43 = .ok (.iload_n 2, 1) := chk_nth ocX12_from_1 (k := 2) rfl
theorem dX12_from_44 : decode cX12_from 44 = .ok (.bipush 20, 2) := chk_nth ocX12_from_1 (k := 3) rfl
theorem dX12_from_46 : decode cX12_from 46 = .ok (.iload 6, 2) := chk_nth ocX12_from_1 (k := 4) rfl
theorem dX12_from_48 : decode cX12_from 48 = .ok (.imul, 1) := chk_nth ocX12_from_1 (k := 5) rfl
theorem dX12_from_49 : decode cX12_from 49 = .ok (.aload_n 0, 1) := chk_nth ocX12_from_1 (k := 6) rfl
theorem dX12_from_50 : decode cX12_from 50 = .ok (.getfield 13, 3) := chk_nth ocX12_from_1 (k := 7) rfl
theorem dX12_from_53 : decode cX12_from 53 = .ok (.bipush 37, 2) := chk_nth ocX12_from_1 (k := 8) rfl
theorem dX12_from_55 : decode cX12_from 55 = .ok (.iload_n 2, 1) := chk_nth ocX12_from_1 (k := 9) rfl
theorem dX12_from_56 : decode cX12_from 56 = .ok (.iadd, 1) := chk_nth ocX12_from_1 (k := 10) rfl
theorem dX12_from_57 : decode cX12_from 57 = .ok (.iaload, 1) := chk_nth ocX12_from_1 (k := 11) rfl
theorem dX12_from_58 : decode cX12_from 58 = .ok (.iadd, 1) := chk_nth ocX12_from_1 (k := 12) rfl
theorem dX12_from_59 : decode cX12_from 59 = .ok (.iload_n 3, 1) := chk_nth ocX12_from_1 (k := 13) rfl
theorem dX12_from_60 : decode cX12_from 60 = .ok (.invokevirtual 408, 3) := chk_nth ocX12_from_1 (k := 14) rfl
theorem dX12_from_63 : decode cX12_from 63 = .ok (.ifCond .eq 10, 3) := chk_nth ocX12_from_1 (k := 15) rfl
theorem dX12_from_66 : decode cX12_from 66 = .ok (.iconst 1, 1) := chk_nth ocX12_from_1 (k := 16) rfl
theorem dX12_from_67 : decode cX12_from 67 = .ok (.iload 6, 2) := chk_nth ocX12_from_1 (k := 17) rfl
theorem dX12_from_69 : decode cX12_from 69 = .ok (.ishl, 1) := chk_nth ocX12_from_1 (k := 18) rfl
theorem dX12_from_70 : decode cX12_from 70 = .ok (.goto 4, 3) := chk_nth ocX12_from_1 (k := 19) rfl
theorem dX12_from_73 : decode cX12_from 73 = .ok (.iconst 0, 1) := chk_nth ocX12_from_1 (k := 20) rfl
theorem dX12_from_74 : decode cX12_from 74 = .ok (.ior, 1) := chk_nth ocX12_from_1 (k := 21) rfl
theorem dX12_from_75 : decode cX12_from 75 = .ok (.istore 5, 2) := chk_nth ocX12_from_1 (k := 22) rfl
theorem dX12_from_77 : decode cX12_from 77 = .ok (.iinc 6 1, 3) := chk_nth ocX12_from_1 (k := 23) rfl
def tcX12_from_2 : List (Instr × Nat) := [(.goto (-52), 3), (.iload 5, 2), (.ireturn, 1)]
theorem ocX12_from_2 : chk (cX12_from.data.toList.drop 80) tcX12_from_2 = true := by decide +kernel
theorem dX12_from_80 : decode cX12_from 80 = .ok (.goto (-52), 3) := chk_nth ocX12_from_2 (k := 0) rfl
theorem dX12_from_83 : decode cX12_from 83 = .ok (.iload 5, 2) := chk_nth ocX12_from_2 (k := 1) rfl
theorem dX12_from_85 : decode cX12_from 85 = .ok (.ireturn, 1) := chk_nth ocX12_from_2 (k := 2) rfl
def tcX12_bollardsOf_0 : List (Instr × Nat) := [(.aload_n 0, 1), (.getfield 13, 3), (.bipush 48, 2), (.iaload, 1), (.istore 4, 2), (.iconst 0, 1), (.istore 5, 2), (.iconst 0, 1), (.istore 6, 2), (.iload 6, 2), (.bipush 10, 2), (.if_icmp .ge 46, 3), (.aload_n 0, 1), (.getfield 13, 3), (.bipush 48, 2), (.iload 6, 2), (.iastore, 1), (.iload 5, 2), (.aload_n 0, 1), (.iload_n 1, 1), (.iload_n 2, 1), (.aload_n 0, 1), (.iload_n 2, 1), (.invokevirtual 239, 3)]
theorem ocX12_bollardsOf_0 : chk (cX12_bollardsOf.data.toList.drop 0) tcX12_bollardsOf_0 = true := by decide +kernel
theorem dX12_bollardsOf_0 : decode cX12_bollardsOf 0 = .ok (.aload_n 0, 1) := chk_nth ocX12_bollardsOf_0 (k := 0) rfl
theorem dX12_bollardsOf_1 : decode cX12_bollardsOf 1 = .ok (.getfield 13, 3) := chk_nth ocX12_bollardsOf_0 (k := 1) rfl
theorem dX12_bollardsOf_4 : decode cX12_bollardsOf 4 = .ok (.bipush 48, 2) := chk_nth ocX12_bollardsOf_0 (k := 2) rfl
theorem dX12_bollardsOf_6 : decode cX12_bollardsOf 6 = .ok (.iaload, 1) := chk_nth ocX12_bollardsOf_0 (k := 3) rfl
theorem dX12_bollardsOf_7 : decode cX12_bollardsOf 7 = .ok (.istore 4, 2) := chk_nth ocX12_bollardsOf_0 (k := 4) rfl
theorem dX12_bollardsOf_9 : decode cX12_bollardsOf 9 = .ok (.iconst 0, 1) := chk_nth ocX12_bollardsOf_0 (k := 5) rfl
theorem dX12_bollardsOf_10 : decode cX12_bollardsOf 10 = .ok (.istore 5, 2) := chk_nth ocX12_bollardsOf_0 (k := 6) rfl
theorem dX12_bollardsOf_12 : decode cX12_bollardsOf 12 = .ok (.iconst 0, 1) := chk_nth ocX12_bollardsOf_0 (k := 7) rfl
theorem dX12_bollardsOf_13 : decode cX12_bollardsOf 13 = .ok (.istore 6, 2) := chk_nth ocX12_bollardsOf_0 (k := 8) rfl
theorem dX12_bollardsOf_15 : decode cX12_bollardsOf 15 = .ok (.iload 6, 2) := chk_nth ocX12_bollardsOf_0 (k := 9) rfl
theorem dX12_bollardsOf_17 : decode cX12_bollardsOf 17 = .ok (.bipush 10, 2) := chk_nth ocX12_bollardsOf_0 (k := 10) rfl
theorem dX12_bollardsOf_19 : decode cX12_bollardsOf 19 = .ok (.if_icmp .ge 46, 3) := chk_nth ocX12_bollardsOf_0 (k := 11) rfl
theorem dX12_bollardsOf_22 : decode cX12_bollardsOf 22 = .ok (.aload_n 0, 1) := chk_nth ocX12_bollardsOf_0 (k := 12) rfl
theorem dX12_bollardsOf_23 : decode cX12_bollardsOf 23 = .ok (.getfield 13, 3) := chk_nth ocX12_bollardsOf_0 (k := 13) rfl
theorem dX12_bollardsOf_26 : decode cX12_bollardsOf 26 = .ok (.bipush 48, 2) := chk_nth ocX12_bollardsOf_0 (k := 14) rfl
theorem dX12_bollardsOf_28 : decode cX12_bollardsOf 28 = .ok (.iload 6, 2) := chk_nth ocX12_bollardsOf_0 (k := 15) rfl
theorem dX12_bollardsOf_30 : decode cX12_bollardsOf 30 = .ok (.iastore, 1) := chk_nth ocX12_bollardsOf_0 (k := 16) rfl
theorem dX12_bollardsOf_31 : decode cX12_bollardsOf 31 = .ok (.iload 5, 2) := chk_nth ocX12_bollardsOf_0 (k := 17) rfl
theorem dX12_bollardsOf_33 : decode cX12_bollardsOf 33 = .ok (.aload_n 0, 1) := chk_nth ocX12_bollardsOf_0 (k := 18) rfl
theorem dX12_bollardsOf_34 : decode cX12_bollardsOf 34 = .ok (.iload_n 1, 1) := chk_nth ocX12_bollardsOf_0 (k := 19) rfl
theorem dX12_bollardsOf_35 : decode cX12_bollardsOf 35 = .ok (.iload_n 2, 1) := chk_nth ocX12_bollardsOf_0 (k := 20) rfl
theorem dX12_bollardsOf_36 : decode cX12_bollardsOf 36 = .ok (.aload_n 0, 1) := chk_nth ocX12_bollardsOf_0 (k := 21) rfl
theorem dX12_bollardsOf_37 : decode cX12_bollardsOf 37 = .ok (.iload_n 2, 1) := chk_nth ocX12_bollardsOf_0 (k := 22) rfl
theorem dX12_bollardsOf_38 : decode cX12_bollardsOf 38 = .ok (.invokevirtual 239, 3) := chk_nth ocX12_bollardsOf_0 (k := 23) rfl
def tcX12_bollardsOf_1 : List (Instr × Nat) := [(.iload_n 3, 1), (.invokevirtual 408, 3), (.ifCond .eq 10, 3), (.iconst 1, 1), (.iload 6, 2), (.ishl, 1), (.goto 4, 3), (.iconst 0, 1), (.ior, 1), (.istore 5, 2), (.iinc 6 1, 3), (.goto (-47), 3), (.aload_n 0, 1), (.getfield 13, 3), (.bipush 48, 2), (.iload 4, 2), (.iastore, 1), (.iload 5, 2), (.ireturn, 1)]
theorem ocX12_bollardsOf_1 : chk (cX12_bollardsOf.data.toList.drop 41) tcX12_bollardsOf_1 = true := by decide +kernel
theorem dX12_bollardsOf_41 : decode cX12_bollardsOf 41 = .ok (.iload_n 3, 1) := chk_nth ocX12_bollardsOf_1 (k := 0) rfl
theorem dX12_bollardsOf_42 : decode cX12_bollardsOf 42 = .ok (.invokevirtual 408, 3) := chk_nth ocX12_bollardsOf_1 (k := 1) rfl
theorem dX12_bollardsOf_45 : decode cX12_bollardsOf 45 = .ok (.ifCond .eq 10, 3) := chk_nth ocX12_bollardsOf_1 (k := 2) rfl
theorem dX12_bollardsOf_48 : decode cX12_bollardsOf 48 = .ok (.iconst 1, 1) := chk_nth ocX12_bollardsOf_1 (k := 3) rfl
theorem dX12_bollardsOf_49 : decode cX12_bollardsOf 49 = .ok (.iload 6, 2) := chk_nth ocX12_bollardsOf_1 (k := 4) rfl
theorem dX12_bollardsOf_51 : decode cX12_bollardsOf 51 = .ok (.ishl, 1) := chk_nth ocX12_bollardsOf_1 (k := 5) rfl
theorem dX12_bollardsOf_52 : decode cX12_bollardsOf 52 = .ok (.goto 4, 3) := chk_nth ocX12_bollardsOf_1 (k := 6) rfl
theorem dX12_bollardsOf_55 : decode cX12_bollardsOf 55 = .ok (.iconst 0, 1) := chk_nth ocX12_bollardsOf_1 (k := 7) rfl
theorem dX12_bollardsOf_56 : decode cX12_bollardsOf 56 = .ok (.ior, 1) := chk_nth ocX12_bollardsOf_1 (k := 8) rfl
theorem dX12_bollardsOf_57 : decode cX12_bollardsOf 57 = .ok (.istore 5, 2) := chk_nth ocX12_bollardsOf_1 (k := 9) rfl
theorem dX12_bollardsOf_59 : decode cX12_bollardsOf 59 = .ok (.iinc 6 1, 3) := chk_nth ocX12_bollardsOf_1 (k := 10) rfl
theorem dX12_bollardsOf_62 : decode cX12_bollardsOf 62 = .ok (.goto (-47), 3) := chk_nth ocX12_bollardsOf_1 (k := 11) rfl
theorem dX12_bollardsOf_65 : decode cX12_bollardsOf 65 = .ok (.aload_n 0, 1) := chk_nth ocX12_bollardsOf_1 (k := 12) rfl
theorem dX12_bollardsOf_66 : decode cX12_bollardsOf 66 = .ok (.getfield 13, 3) := chk_nth ocX12_bollardsOf_1 (k := 13) rfl
theorem dX12_bollardsOf_69 : decode cX12_bollardsOf 69 = .ok (.bipush 48, 2) := chk_nth ocX12_bollardsOf_1 (k := 14) rfl
theorem dX12_bollardsOf_71 : decode cX12_bollardsOf 71 = .ok (.iload 4, 2) := chk_nth ocX12_bollardsOf_1 (k := 15) rfl
theorem dX12_bollardsOf_73 : decode cX12_bollardsOf 73 = .ok (.iastore, 1) := chk_nth ocX12_bollardsOf_1 (k := 16) rfl
theorem dX12_bollardsOf_74 : decode cX12_bollardsOf 74 = .ok (.iload 5, 2) := chk_nth ocX12_bollardsOf_1 (k := 17) rfl
theorem dX12_bollardsOf_76 : decode cX12_bollardsOf 76 = .ok (.ireturn, 1) := chk_nth ocX12_bollardsOf_1 (k := 18) rfl
def tcX12_bollardsBy_0 : List (Instr × Nat) := [(.aload_n 0, 1), (.iconst 0, 1), (.putfield 1, 3), (.aload_n 0, 1), (.iload_n 1, 1), (.iload_n 2, 1), (.iload_n 3, 1), (.invokevirtual 405, 3), (.istore 4, 2), (.iload 4, 2), (.ifCond .eq 8, 3), (.iload 4, 2), (.goto 10, 3), (.aload_n 0, 1), (.iload_n 1, 1), (.iload_n 2, 1), (.iload_n 3, 1), (.invokevirtual 412, 3), (.ireturn, 1)]
theorem ocX12_bollardsBy_0 : chk (cX12_bollardsBy.data.toList.drop 0) tcX12_bollardsBy_0 = true := by decide +kernel
theorem dX12_bollardsBy_0 : decode cX12_bollardsBy 0 = .ok (.aload_n 0, 1) := chk_nth ocX12_bollardsBy_0 (k := 0) rfl
theorem dX12_bollardsBy_1 : decode cX12_bollardsBy 1 = .ok (.iconst 0, 1) := chk_nth ocX12_bollardsBy_0 (k := 1) rfl
theorem dX12_bollardsBy_2 : decode cX12_bollardsBy 2 = .ok (.putfield 1, 3) := chk_nth ocX12_bollardsBy_0 (k := 2) rfl
theorem dX12_bollardsBy_5 : decode cX12_bollardsBy 5 = .ok (.aload_n 0, 1) := chk_nth ocX12_bollardsBy_0 (k := 3) rfl
theorem dX12_bollardsBy_6 : decode cX12_bollardsBy 6 = .ok (.iload_n 1, 1) := chk_nth ocX12_bollardsBy_0 (k := 4) rfl
theorem dX12_bollardsBy_7 : decode cX12_bollardsBy 7 = .ok (.iload_n 2, 1) := chk_nth ocX12_bollardsBy_0 (k := 5) rfl
theorem dX12_bollardsBy_8 : decode cX12_bollardsBy 8 = .ok (.iload_n 3, 1) := chk_nth ocX12_bollardsBy_0 (k := 6) rfl
theorem dX12_bollardsBy_9 : decode cX12_bollardsBy 9 = .ok (.invokevirtual 405, 3) := chk_nth ocX12_bollardsBy_0 (k := 7) rfl
theorem dX12_bollardsBy_12 : decode cX12_bollardsBy 12 = .ok (.istore 4, 2) := chk_nth ocX12_bollardsBy_0 (k := 8) rfl
theorem dX12_bollardsBy_14 : decode cX12_bollardsBy 14 = .ok (.iload 4, 2) := chk_nth ocX12_bollardsBy_0 (k := 9) rfl
theorem dX12_bollardsBy_16 : decode cX12_bollardsBy 16 = .ok (.ifCond .eq 8, 3) := chk_nth ocX12_bollardsBy_0 (k := 10) rfl
theorem dX12_bollardsBy_19 : decode cX12_bollardsBy 19 = .ok (.iload 4, 2) := chk_nth ocX12_bollardsBy_0 (k := 11) rfl
theorem dX12_bollardsBy_21 : decode cX12_bollardsBy 21 = .ok (.goto 10, 3) := chk_nth ocX12_bollardsBy_0 (k := 12) rfl
theorem dX12_bollardsBy_24 : decode cX12_bollardsBy 24 = .ok (.aload_n 0, 1) := chk_nth ocX12_bollardsBy_0 (k := 13) rfl
theorem dX12_bollardsBy_25 : decode cX12_bollardsBy 25 = .ok (.iload_n 1, 1) := chk_nth ocX12_bollardsBy_0 (k := 14) rfl
theorem dX12_bollardsBy_26 : decode cX12_bollardsBy 26 = .ok (.iload_n 2, 1) := chk_nth ocX12_bollardsBy_0 (k := 15) rfl
theorem dX12_bollardsBy_27 : decode cX12_bollardsBy 27 = .ok (.iload_n 3, 1) := chk_nth ocX12_bollardsBy_0 (k := 16) rfl
theorem dX12_bollardsBy_28 : decode cX12_bollardsBy 28 = .ok (.invokevirtual 412, 3) := chk_nth ocX12_bollardsBy_0 (k := 17) rfl
theorem dX12_bollardsBy_31 : decode cX12_bollardsBy 31 = .ok (.ireturn, 1) := chk_nth ocX12_bollardsBy_0 (k := 18) rfl
def tcX12_mostOften_0 : List (Instr × Nat) := [(.aload_n 0, 1), (.getfield 13, 3), (.bipush 48, 2), (.iaload, 1), (.istore 4, 2), (.iconst 0, 1), (.istore 5, 2), (.iconst 0, 1), (.istore 6, 2), (.iload 6, 2), (.bipush 20, 2), (.if_icmp .ge 17, 3), (.aload_n 0, 1), (.getfield 64, 3), (.iload 6, 2), (.iconst 0, 1), (.iastore, 1), (.iinc 6 1, 3), (.goto (-18), 3), (.iconst 0, 1), (.istore 6, 2), (.iload 6, 2), (.bipush 10, 2), (.if_icmp .ge 107, 3)]
theorem ocX12_mostOften_0 : chk (cX12_mostOften.data.toList.drop 0) tcX12_mostOften_0 = true := by decide +kernel
theorem dX12_mostOften_0 : decode cX12_mostOften 0 = .ok (.aload_n 0, 1) := chk_nth ocX12_mostOften_0 (k := 0) rfl
theorem dX12_mostOften_1 : decode cX12_mostOften 1 = .ok (.getfield 13, 3) := chk_nth ocX12_mostOften_0 (k := 1) rfl
theorem dX12_mostOften_4 : decode cX12_mostOften 4 = .ok (.bipush 48, 2) := chk_nth ocX12_mostOften_0 (k := 2) rfl
theorem dX12_mostOften_6 : decode cX12_mostOften 6 = .ok (.iaload, 1) := chk_nth ocX12_mostOften_0 (k := 3) rfl
theorem dX12_mostOften_7 : decode cX12_mostOften 7 = .ok (.istore 4, 2) := chk_nth ocX12_mostOften_0 (k := 4) rfl
theorem dX12_mostOften_9 : decode cX12_mostOften 9 = .ok (.iconst 0, 1) := chk_nth ocX12_mostOften_0 (k := 5) rfl
theorem dX12_mostOften_10 : decode cX12_mostOften 10 = .ok (.istore 5, 2) := chk_nth ocX12_mostOften_0 (k := 6) rfl
theorem dX12_mostOften_12 : decode cX12_mostOften 12 = .ok (.iconst 0, 1) := chk_nth ocX12_mostOften_0 (k := 7) rfl
theorem dX12_mostOften_13 : decode cX12_mostOften 13 = .ok (.istore 6, 2) := chk_nth ocX12_mostOften_0 (k := 8) rfl
theorem dX12_mostOften_15 : decode cX12_mostOften 15 = .ok (.iload 6, 2) := chk_nth ocX12_mostOften_0 (k := 9) rfl
theorem dX12_mostOften_17 : decode cX12_mostOften 17 = .ok (.bipush 20, 2) := chk_nth ocX12_mostOften_0 (k := 10) rfl
theorem dX12_mostOften_19 : decode cX12_mostOften 19 = .ok (.if_icmp .ge 17, 3) := chk_nth ocX12_mostOften_0 (k := 11) rfl
theorem dX12_mostOften_22 : decode cX12_mostOften 22 = .ok (.aload_n 0, 1) := chk_nth ocX12_mostOften_0 (k := 12) rfl
theorem dX12_mostOften_23 : decode cX12_mostOften 23 = .ok (.getfield 64, 3) := chk_nth ocX12_mostOften_0 (k := 13) rfl
theorem dX12_mostOften_26 : decode cX12_mostOften 26 = .ok (.iload 6, 2) := chk_nth ocX12_mostOften_0 (k := 14) rfl
theorem dX12_mostOften_28 : decode cX12_mostOften 28 = .ok (.iconst 0, 1) := chk_nth ocX12_mostOften_0 (k := 15) rfl
theorem dX12_mostOften_29 : decode cX12_mostOften 29 = .ok (.iastore, 1) := chk_nth ocX12_mostOften_0 (k := 16) rfl
theorem dX12_mostOften_30 : decode cX12_mostOften 30 = .ok (.iinc 6 1, 3) := chk_nth ocX12_mostOften_0 (k := 17) rfl
theorem dX12_mostOften_33 : decode cX12_mostOften 33 = .ok (.goto (-18), 3) := chk_nth ocX12_mostOften_0 (k := 18) rfl
theorem dX12_mostOften_36 : decode cX12_mostOften 36 = .ok (.iconst 0, 1) := chk_nth ocX12_mostOften_0 (k := 19) rfl
theorem dX12_mostOften_37 : decode cX12_mostOften 37 = .ok (.istore 6, 2) := chk_nth ocX12_mostOften_0 (k := 20) rfl
theorem dX12_mostOften_39 : decode cX12_mostOften 39 = .ok (.iload 6, 2) := chk_nth ocX12_mostOften_0 (k := 21) rfl
theorem dX12_mostOften_41 : decode cX12_mostOften 41 = .ok (.bipush 10, 2) := chk_nth ocX12_mostOften_0 (k := 22) rfl
theorem dX12_mostOften_43 : decode cX12_mostOften 43 = .ok (.if_icmp .ge 107, 3) := chk_nth ocX12_mostOften_0 (k := 23) rfl
def tcX12_mostOften_1 : List (Instr × Nat) := [(.iload_n 3, 1), (.i2l, 1), (.iload 6, 2), (.invokestatic 324, 3), (.ifCond .ne 6, 3), (.goto 88, 3), (.aload_n 0, 1), (.getfield 13, 3), (.bipush 48, 2), (.iload 6, 2), (.iastore, 1), (.aload_n 0, 1), (.iload_n 1, 1), (.i2l, 1), (.iload_n 2, 1), (.i2l, 1), (.invokevirtual 247, 3), (.ifCond .ne 20, 3), (.aload_n 0, 1), (.iload_n 1, 1), (.aload_n 0, 1), (.iload_n 1, 1), (.invokevirtual 239, 3), (.iload_n 2, 1)]
theorem ocX12_mostOften_1 : chk (cX12_mostOften.data.toList.drop 46) tcX12_mostOften_1 = true := by decide +kernel
theorem dX12_mostOften_46 : decode cX12_mostOften 46 = .ok (.iload_n 3, 1) := chk_nth ocX12_mostOften_1 (k := 0) rfl
theorem dX12_mostOften_47 : decode cX12_mostOften 47 = .ok (.i2l, 1) := chk_nth ocX12_mostOften_1 (k := 1) rfl
theorem dX12_mostOften_48 : decode cX12_mostOften 48 = .ok (.iload 6, 2) := chk_nth ocX12_mostOften_1 (k := 2) rfl
theorem dX12_mostOften_50 : decode cX12_mostOften 50 = .ok (.invokestatic 324, 3) := chk_nth ocX12_mostOften_1 (k := 3) rfl
theorem dX12_mostOften_53 : decode cX12_mostOften 53 = .ok (.ifCond .ne 6, 3) := chk_nth ocX12_mostOften_1 (k := 4) rfl
theorem dX12_mostOften_56 : decode cX12_mostOften 56 = .ok (.goto 88, 3) := chk_nth ocX12_mostOften_1 (k := 5) rfl
theorem dX12_mostOften_59 : decode cX12_mostOften 59 = .ok (.aload_n 0, 1) := chk_nth ocX12_mostOften_1 (k := 6) rfl
theorem dX12_mostOften_60 : decode cX12_mostOften 60 = .ok (.getfield 13, 3) := chk_nth ocX12_mostOften_1 (k := 7) rfl
theorem dX12_mostOften_63 : decode cX12_mostOften 63 = .ok (.bipush 48, 2) := chk_nth ocX12_mostOften_1 (k := 8) rfl
theorem dX12_mostOften_65 : decode cX12_mostOften 65 = .ok (.iload 6, 2) := chk_nth ocX12_mostOften_1 (k := 9) rfl
theorem dX12_mostOften_67 : decode cX12_mostOften 67 = .ok (.iastore, 1) := chk_nth ocX12_mostOften_1 (k := 10) rfl
theorem dX12_mostOften_68 : decode cX12_mostOften 68 = .ok (.aload_n 0, 1) := chk_nth ocX12_mostOften_1 (k := 11) rfl
theorem dX12_mostOften_69 : decode cX12_mostOften 69 = .ok (.iload_n 1, 1) := chk_nth ocX12_mostOften_1 (k := 12) rfl
theorem dX12_mostOften_70 : decode cX12_mostOften 70 = .ok (.i2l, 1) := chk_nth ocX12_mostOften_1 (k := 13) rfl
theorem dX12_mostOften_71 : decode cX12_mostOften 71 = .ok (.iload_n 2, 1) := chk_nth ocX12_mostOften_1 (k := 14) rfl
theorem dX12_mostOften_72 : decode cX12_mostOften 72 = .ok (.i2l, 1) := chk_nth ocX12_mostOften_1 (k := 15) rfl
theorem dX12_mostOften_73 : decode cX12_mostOften 73 = .ok (.invokevirtual 247, 3) := chk_nth ocX12_mostOften_1 (k := 16) rfl
theorem dX12_mostOften_76 : decode cX12_mostOften 76 = .ok (.ifCond .ne 20, 3) := chk_nth ocX12_mostOften_1 (k := 17) rfl
theorem dX12_mostOften_79 : decode cX12_mostOften 79 = .ok (.aload_n 0, 1) := chk_nth ocX12_mostOften_1 (k := 18) rfl
theorem dX12_mostOften_80 : decode cX12_mostOften 80 = .ok (.iload_n 1, 1) := chk_nth ocX12_mostOften_1 (k := 19) rfl
theorem dX12_mostOften_81 : decode cX12_mostOften 81 = .ok (.aload_n 0, 1) := chk_nth ocX12_mostOften_1 (k := 20) rfl
theorem dX12_mostOften_82 : decode cX12_mostOften 82 = .ok (.iload_n 1, 1) := chk_nth ocX12_mostOften_1 (k := 21) rfl
theorem dX12_mostOften_83 : decode cX12_mostOften 83 = .ok (.invokevirtual 239, 3) := chk_nth ocX12_mostOften_1 (k := 22) rfl
theorem dX12_mostOften_86 : decode cX12_mostOften 86 = .ok (.iload_n 2, 1) := chk_nth ocX12_mostOften_1 (k := 23) rfl
def tcX12_mostOften_2 : List (Instr × Nat) := [(.invokevirtual 251, 3), (.bipush 20, 2), (.irem, 1), (.goto 12, 3), (.aload_n 0, 1), (.getfield 13, 3), (.bipush 37, 2), (.iload_n 1, 1), (.iadd, 1), (.iaload, 1), (.istore 7, 2), (.aload_n 0, 1), (.getfield 64, 3), (.iload 7, 2), (.dup2, 1), (.iaload, 1), (.iconst 1, 1), (.iadd, 1), (.iastore, 1), (.aload_n 0, 1), (.getfield 64, 3), (.iload 7, 2), (.iaload, 1), (.iload 5, 2)]
theorem ocX12_mostOften_2 : chk (cX12_mostOften.data.toList.drop 87) tcX12_mostOften_2 = true := by decide +kernel
theorem dX12_mostOften_87 : decode cX12_mostOften 87 = .ok (.invokevirtual 251, 3) := chk_nth ocX12_mostOften_2 (k := 0) rfl
theorem dX12_mostOften_90 : decode cX12_mostOften 90 = .ok (.bipush 20, 2) := chk_nth ocX12_mostOften_2 (k := 1) rfl
theorem dX12_mostOften_92 : decode cX12_mostOften 92 = .ok (.irem, 1) := chk_nth ocX12_mostOften_2 (k := 2) rfl
theorem dX12_mostOften_93 : decode cX12_mostOften 93 = .ok (.goto 12, 3) := chk_nth ocX12_mostOften_2 (k := 3) rfl
theorem dX12_mostOften_96 : decode cX12_mostOften 96 = .ok (.aload_n 0, 1) := chk_nth ocX12_mostOften_2 (k := 4) rfl
theorem dX12_mostOften_97 : decode cX12_mostOften 97 = .ok (.getfield 13, 3) := chk_nth ocX12_mostOften_2 (k := 5) rfl
theorem dX12_mostOften_100 : decode cX12_mostOften 100 = .ok (.bipush 37, 2) := chk_nth ocX12_mostOften_2 (k := 6) rfl
theorem dX12_mostOften_102 : decode cX12_mostOften 102 = .ok (.iload_n 1, 1) := chk_nth ocX12_mostOften_2 (k := 7) rfl
theorem dX12_mostOften_103 : decode cX12_mostOften 103 = .ok (.iadd, 1) := chk_nth ocX12_mostOften_2 (k := 8) rfl
theorem dX12_mostOften_104 : decode cX12_mostOften 104 = .ok (.iaload, 1) := chk_nth ocX12_mostOften_2 (k := 9) rfl
theorem dX12_mostOften_105 : decode cX12_mostOften 105 = .ok (.istore 7, 2) := chk_nth ocX12_mostOften_2 (k := 10) rfl
theorem dX12_mostOften_107 : decode cX12_mostOften 107 = .ok (.aload_n 0, 1) := chk_nth ocX12_mostOften_2 (k := 11) rfl
theorem dX12_mostOften_108 : decode cX12_mostOften 108 = .ok (.getfield 64, 3) := chk_nth ocX12_mostOften_2 (k := 12) rfl
theorem dX12_mostOften_111 : decode cX12_mostOften 111 = .ok (.iload 7, 2) := chk_nth ocX12_mostOften_2 (k := 13) rfl
theorem dX12_mostOften_113 : decode cX12_mostOften 113 = .ok (.dup2, 1) := chk_nth ocX12_mostOften_2 (k := 14) rfl
theorem dX12_mostOften_114 : decode cX12_mostOften 114 = .ok (.iaload, 1) := chk_nth ocX12_mostOften_2 (k := 15) rfl
theorem dX12_mostOften_115 : decode cX12_mostOften 115 = .ok (.iconst 1, 1) := chk_nth ocX12_mostOften_2 (k := 16) rfl
theorem dX12_mostOften_116 : decode cX12_mostOften 116 = .ok (.iadd, 1) := chk_nth ocX12_mostOften_2 (k := 17) rfl
theorem dX12_mostOften_117 : decode cX12_mostOften 117 = .ok (.iastore, 1) := chk_nth ocX12_mostOften_2 (k := 18) rfl
theorem dX12_mostOften_118 : decode cX12_mostOften 118 = .ok (.aload_n 0, 1) := chk_nth ocX12_mostOften_2 (k := 19) rfl
theorem dX12_mostOften_119 : decode cX12_mostOften 119 = .ok (.getfield 64, 3) := chk_nth ocX12_mostOften_2 (k := 20) rfl
theorem dX12_mostOften_122 : decode cX12_mostOften 122 = .ok (.iload 7, 2) := chk_nth ocX12_mostOften_2 (k := 21) rfl
theorem dX12_mostOften_124 : decode cX12_mostOften 124 = .ok (.iaload, 1) := chk_nth ocX12_mostOften_2 (k := 22) rfl
theorem dX12_mostOften_125 : decode cX12_mostOften 125 = .ok (.iload 5, 2) := chk_nth ocX12_mostOften_2 (k := 23) rfl
def tcX12_mostOften_3 : List (Instr × Nat) := [(.if_icmp .le 13, 3), (.aload_n 0, 1), (.getfield 64, 3), (.iload 7, 2), (.iaload, 1), (.goto 5, 3), (.iload 5, 2), (.istore 5, 2), (.iinc 6 1, 3), (.goto (-108), 3), (.aload_n 0, 1), (.getfield 13, 3), (.bipush 48, 2), (.iload 4, 2), (.iastore, 1), (.iload 5, 2), (.ireturn, 1)]
theorem ocX12_mostOften_3 : chk (cX12_mostOften.data.toList.drop 127) tcX12_mostOften_3 = true := by decide +kernel
theorem dX12_mostOften_127 : decode cX12_mostOften 127 = .ok (.if_icmp .le 13, 3) := chk_nth ocX12_mostOften_3 (k := 0) rfl
theorem dX12_mostOften_130 : decode cX12_mostOften 130 = .ok (.aload_n 0, 1) := chk_nth ocX12_mostOften_3 (k := 1) rfl
theorem dX12_mostOften_131 : decode cX12_mostOften 131 = .ok (.getfield 64, 3) := chk_nth ocX12_mostOften_3 (k := 2) rfl
theorem dX12_mostOften_134 : decode cX12_mostOften 134 = .ok (.iload 7, 2) := chk_nth ocX12_mostOften_3 (k := 3) rfl
theorem dX12_mostOften_136 : decode cX12_mostOften 136 = .ok (.iaload, 1) := chk_nth ocX12_mostOften_3 (k := 4) rfl
theorem dX12_mostOften_137 : decode cX12_mostOften 137 = .ok (.goto 5, 3) := chk_nth ocX12_mostOften_3 (k := 5) rfl
theorem dX12_mostOften_140 : decode cX12_mostOften 140 = .ok (.iload 5, 2) := chk_nth ocX12_mostOften_3 (k := 6) rfl
theorem dX12_mostOften_142 : decode cX12_mostOften 142 = .ok (.istore 5, 2) := chk_nth ocX12_mostOften_3 (k := 7) rfl
theorem dX12_mostOften_144 : decode cX12_mostOften 144 = .ok (.iinc 6 1, 3) := chk_nth ocX12_mostOften_3 (k := 8) rfl
theorem dX12_mostOften_147 : decode cX12_mostOften 147 = .ok (.goto (-108), 3) := chk_nth ocX12_mostOften_3 (k := 9) rfl
theorem dX12_mostOften_150 : decode cX12_mostOften 150 = .ok (.aload_n 0, 1) := chk_nth ocX12_mostOften_3 (k := 10) rfl
theorem dX12_mostOften_151 : decode cX12_mostOften 151 = .ok (.getfield 13, 3) := chk_nth ocX12_mostOften_3 (k := 11) rfl
theorem dX12_mostOften_154 : decode cX12_mostOften 154 = .ok (.bipush 48, 2) := chk_nth ocX12_mostOften_3 (k := 12) rfl
theorem dX12_mostOften_156 : decode cX12_mostOften 156 = .ok (.iload 4, 2) := chk_nth ocX12_mostOften_3 (k := 13) rfl
theorem dX12_mostOften_158 : decode cX12_mostOften 158 = .ok (.iastore, 1) := chk_nth ocX12_mostOften_3 (k := 14) rfl
theorem dX12_mostOften_159 : decode cX12_mostOften 159 = .ok (.iload 5, 2) := chk_nth ocX12_mostOften_3 (k := 15) rfl
theorem dX12_mostOften_161 : decode cX12_mostOften 161 = .ok (.ireturn, 1) := chk_nth ocX12_mostOften_3 (k := 16) rfl
def tcX12_attempt_0 : List (Instr × Nat) := [(.aload_n 0, 1), (.iconst 0, 1), (.putfield 1, 3), (.aload_n 0, 1), (.iload_n 1, 1), (.iload_n 2, 1), (.iload_n 3, 1), (.invokevirtual 405, 3), (.istore 4, 2), (.iload 4, 2), (.ifCond .eq 6, 3), (.iload 4, 2), (.ireturn, 1), (.aload_n 0, 1), (.iload_n 1, 1), (.iload_n 2, 1), (.iload_n 3, 1), (.invokevirtual 412, 3), (.istore 5, 2), (.iconst (-1), 1), (.istore 6, 2), (.ldc_w 328, 3), (.istore 7, 2), (.iconst 0, 1)]
theorem ocX12_attempt_0 : chk (cX12_attempt.data.toList.drop 0) tcX12_attempt_0 = true := by decide +kernel
theorem dX12_attempt_0 : decode cX12_attempt 0 = .ok (.aload_n 0, 1) := chk_nth ocX12_attempt_0 (k := 0) rfl
theorem dX12_attempt_1 : decode cX12_attempt 1 = .ok (.iconst 0, 1) := chk_nth ocX12_attempt_0 (k := 1) rfl
theorem dX12_attempt_2 : decode cX12_attempt 2 = .ok (.putfield 1, 3) := chk_nth ocX12_attempt_0 (k := 2) rfl
theorem dX12_attempt_5 : decode cX12_attempt 5 = .ok (.aload_n 0, 1) := chk_nth ocX12_attempt_0 (k := 3) rfl
theorem dX12_attempt_6 : decode cX12_attempt 6 = .ok (.iload_n 1, 1) := chk_nth ocX12_attempt_0 (k := 4) rfl
theorem dX12_attempt_7 : decode cX12_attempt 7 = .ok (.iload_n 2, 1) := chk_nth ocX12_attempt_0 (k := 5) rfl
theorem dX12_attempt_8 : decode cX12_attempt 8 = .ok (.iload_n 3, 1) := chk_nth ocX12_attempt_0 (k := 6) rfl
theorem dX12_attempt_9 : decode cX12_attempt 9 = .ok (.invokevirtual 405, 3) := chk_nth ocX12_attempt_0 (k := 7) rfl
theorem dX12_attempt_12 : decode cX12_attempt 12 = .ok (.istore 4, 2) := chk_nth ocX12_attempt_0 (k := 8) rfl
theorem dX12_attempt_14 : decode cX12_attempt 14 = .ok (.iload 4, 2) := chk_nth ocX12_attempt_0 (k := 9) rfl
theorem dX12_attempt_16 : decode cX12_attempt 16 = .ok (.ifCond .eq 6, 3) := chk_nth ocX12_attempt_0 (k := 10) rfl
theorem dX12_attempt_19 : decode cX12_attempt 19 = .ok (.iload 4, 2) := chk_nth ocX12_attempt_0 (k := 11) rfl
theorem dX12_attempt_21 : decode cX12_attempt 21 = .ok (.ireturn, 1) := chk_nth ocX12_attempt_0 (k := 12) rfl
theorem dX12_attempt_22 : decode cX12_attempt 22 = .ok (.aload_n 0, 1) := chk_nth ocX12_attempt_0 (k := 13) rfl
theorem dX12_attempt_23 : decode cX12_attempt 23 = .ok (.iload_n 1, 1) := chk_nth ocX12_attempt_0 (k := 14) rfl
theorem dX12_attempt_24 : decode cX12_attempt 24 = .ok (.iload_n 2, 1) := chk_nth ocX12_attempt_0 (k := 15) rfl
theorem dX12_attempt_25 : decode cX12_attempt 25 = .ok (.iload_n 3, 1) := chk_nth ocX12_attempt_0 (k := 16) rfl
theorem dX12_attempt_26 : decode cX12_attempt 26 = .ok (.invokevirtual 412, 3) := chk_nth ocX12_attempt_0 (k := 17) rfl
theorem dX12_attempt_29 : decode cX12_attempt 29 = .ok (.istore 5, 2) := chk_nth ocX12_attempt_0 (k := 18) rfl
theorem dX12_attempt_31 : decode cX12_attempt 31 = .ok (.iconst (-1), 1) := chk_nth ocX12_attempt_0 (k := 19) rfl
theorem dX12_attempt_32 : decode cX12_attempt 32 = .ok (.istore 6, 2) := chk_nth ocX12_attempt_0 (k := 20) rfl
theorem dX12_attempt_34 : decode cX12_attempt 34 = .ok (.ldc_w 328, 3) := chk_nth ocX12_attempt_0 (k := 21) rfl
theorem dX12_attempt_37 : decode cX12_attempt 37 = .ok (.istore 7, 2) := chk_nth ocX12_attempt_0 (k := 22) rfl
theorem dX12_attempt_39 : decode cX12_attempt 39 = .ok (.iconst 0, 1) := chk_nth ocX12_attempt_0 (k := 23) rfl
def tcX12_attempt_1 : List (Instr × Nat) := [(.istore 8, 2), (.iload 8, 2), (.aload_n 0, 1), (.getfield 13, 3), (.iconst 2, 1), (.iaload, 1), (.if_icmp .ge 43, 3), (.iload 5, 2), (.ifCond .eq 38, 3), (.aload_n 0, 1), (.iload_n 2, 1), (.iload 8, 2), (.iload 5, 2), (.invokevirtual 415, 3), (.istore 9, 2), (.iload 9, 2), (.iload 7, 2), (.if_icmp .lt 6, 3), (.goto 11, 3), (.iload 8, 2), (.istore 6, 2), (.iload 9, 2), (.istore 7, 2), (.iinc 8 1, 3)]
theorem ocX12_attempt_1 : chk (cX12_attempt.data.toList.drop 40) tcX12_attempt_1 = true := by decide +kernel
theorem dX12_attempt_40 : decode cX12_attempt 40 = .ok (.istore 8, 2) := chk_nth ocX12_attempt_1 (k := 0) rfl
theorem dX12_attempt_42 : decode cX12_attempt 42 = .ok (.iload 8, 2) := chk_nth ocX12_attempt_1 (k := 1) rfl
theorem dX12_attempt_44 : decode cX12_attempt 44 = .ok (.aload_n 0, 1) := chk_nth ocX12_attempt_1 (k := 2) rfl
theorem dX12_attempt_45 : decode cX12_attempt 45 = .ok (.getfield 13, 3) := chk_nth ocX12_attempt_1 (k := 3) rfl
theorem dX12_attempt_48 : decode cX12_attempt 48 = .ok (.iconst 2, 1) := chk_nth ocX12_attempt_1 (k := 4) rfl
theorem dX12_attempt_49 : decode cX12_attempt 49 = .ok (.iaload, 1) := chk_nth ocX12_attempt_1 (k := 5) rfl
theorem dX12_attempt_50 : decode cX12_attempt 50 = .ok (.if_icmp .ge 43, 3) := chk_nth ocX12_attempt_1 (k := 6) rfl
theorem dX12_attempt_53 : decode cX12_attempt 53 = .ok (.iload 5, 2) := chk_nth ocX12_attempt_1 (k := 7) rfl
theorem dX12_attempt_55 : decode cX12_attempt 55 = .ok (.ifCond .eq 38, 3) := chk_nth ocX12_attempt_1 (k := 8) rfl
theorem dX12_attempt_58 : decode cX12_attempt 58 = .ok (.aload_n 0, 1) := chk_nth ocX12_attempt_1 (k := 9) rfl
theorem dX12_attempt_59 : decode cX12_attempt 59 = .ok (.iload_n 2, 1) := chk_nth ocX12_attempt_1 (k := 10) rfl
theorem dX12_attempt_60 : decode cX12_attempt 60 = .ok (.iload 8, 2) := chk_nth ocX12_attempt_1 (k := 11) rfl
theorem dX12_attempt_62 : decode cX12_attempt 62 = .ok (.iload 5, 2) := chk_nth ocX12_attempt_1 (k := 12) rfl
theorem dX12_attempt_64 : decode cX12_attempt 64 = .ok (.invokevirtual 415, 3) := chk_nth ocX12_attempt_1 (k := 13) rfl
theorem dX12_attempt_67 : decode cX12_attempt 67 = .ok (.istore 9, 2) := chk_nth ocX12_attempt_1 (k := 14) rfl
theorem dX12_attempt_69 : decode cX12_attempt 69 = .ok (.iload 9, 2) := chk_nth ocX12_attempt_1 (k := 15) rfl
theorem dX12_attempt_71 : decode cX12_attempt 71 = .ok (.iload 7, 2) := chk_nth ocX12_attempt_1 (k := 16) rfl
theorem dX12_attempt_73 : decode cX12_attempt 73 = .ok (.if_icmp .lt 6, 3) := chk_nth ocX12_attempt_1 (k := 17) rfl
theorem dX12_attempt_76 : decode cX12_attempt 76 = .ok (.goto 11, 3) := chk_nth ocX12_attempt_1 (k := 18) rfl
theorem dX12_attempt_79 : decode cX12_attempt 79 = .ok (.iload 8, 2) := chk_nth ocX12_attempt_1 (k := 19) rfl
theorem dX12_attempt_81 : decode cX12_attempt 81 = .ok (.istore 6, 2) := chk_nth ocX12_attempt_1 (k := 20) rfl
theorem dX12_attempt_83 : decode cX12_attempt 83 = .ok (.iload 9, 2) := chk_nth ocX12_attempt_1 (k := 21) rfl
theorem dX12_attempt_85 : decode cX12_attempt 85 = .ok (.istore 7, 2) := chk_nth ocX12_attempt_1 (k := 22) rfl
theorem dX12_attempt_87 : decode cX12_attempt 87 = .ok (.iinc 8 1, 3) := chk_nth ocX12_attempt_1 (k := 23) rfl
def tcX12_attempt_2 : List (Instr × Nat) := [(.goto (-48), 3), (.iload 6, 2), (.ireturn, 1)]
theorem ocX12_attempt_2 : chk (cX12_attempt.data.toList.drop 90) tcX12_attempt_2 = true := by decide +kernel
theorem dX12_attempt_90 : decode cX12_attempt 90 = .ok (.goto (-48), 3) := chk_nth ocX12_attempt_2 (k := 0) rfl
theorem dX12_attempt_93 : decode cX12_attempt 93 = .ok (.iload 6, 2) := chk_nth ocX12_attempt_2 (k := 1) rfl
theorem dX12_attempt_95 : decode cX12_attempt 95 = .ok (.ireturn, 1) := chk_nth ocX12_attempt_2 (k := 2) rfl
def tcX12_childs_0 : List (Instr × Nat) := [(.iload_n 2, 1), (.bipush 20, 2), (.idiv, 1), (.iload 4, 2), (.if_icmp .ne 5, 3), (.iconst 1, 1), (.ireturn, 1), (.iload 5, 2), (.ifCond .ne 5, 3), (.iconst 0, 1), (.ireturn, 1), (.iconst 0, 1), (.istore 6, 2), (.iload 6, 2), (.aload_n 0, 1), (.getfield 13, 3), (.iconst 2, 1), (.iaload, 1), (.if_icmp .ge 27, 3), (.aload_n 0, 1), (.iload_n 1, 1), (.iload_n 2, 1), (.iload_n 3, 1), (.iload 6, 2)]
theorem ocX12_childs_0 : chk (cX12_childs.data.toList.drop 0) tcX12_childs_0 = true := by decide +kernel
theorem dX12_childs_0 : decode cX12_childs 0 = .ok (.iload_n 2, 1) := chk_nth ocX12_childs_0 (k := 0) rfl
theorem dX12_childs_1 : decode cX12_childs 1 = .ok (.bipush 20, 2) := chk_nth ocX12_childs_0 (k := 1) rfl
theorem dX12_childs_3 : decode cX12_childs 3 = .ok (.idiv, 1) := chk_nth ocX12_childs_0 (k := 2) rfl
theorem dX12_childs_4 : decode cX12_childs 4 = .ok (.iload 4, 2) := chk_nth ocX12_childs_0 (k := 3) rfl
theorem dX12_childs_6 : decode cX12_childs 6 = .ok (.if_icmp .ne 5, 3) := chk_nth ocX12_childs_0 (k := 4) rfl
theorem dX12_childs_9 : decode cX12_childs 9 = .ok (.iconst 1, 1) := chk_nth ocX12_childs_0 (k := 5) rfl
theorem dX12_childs_10 : decode cX12_childs 10 = .ok (.ireturn, 1) := chk_nth ocX12_childs_0 (k := 6) rfl
theorem dX12_childs_11 : decode cX12_childs 11 = .ok (.iload 5, 2) := chk_nth ocX12_childs_0 (k := 7) rfl
theorem dX12_childs_13 : decode cX12_childs 13 = .ok (.ifCond .ne 5, 3) := chk_nth ocX12_childs_0 (k := 8) rfl
theorem dX12_childs_16 : decode cX12_childs 16 = .ok (.iconst 0, 1) := chk_nth ocX12_childs_0 (k := 9) rfl
theorem dX12_childs_17 : decode cX12_childs 17 = .ok (.ireturn, 1) := chk_nth ocX12_childs_0 (k := 10) rfl
theorem dX12_childs_18 : decode cX12_childs 18 = .ok (.iconst 0, 1) := chk_nth ocX12_childs_0 (k := 11) rfl
theorem dX12_childs_19 : decode cX12_childs 19 = .ok (.istore 6, 2) := chk_nth ocX12_childs_0 (k := 12) rfl
theorem dX12_childs_21 : decode cX12_childs 21 = .ok (.iload 6, 2) := chk_nth ocX12_childs_0 (k := 13) rfl
theorem dX12_childs_23 : decode cX12_childs 23 = .ok (.aload_n 0, 1) := chk_nth ocX12_childs_0 (k := 14) rfl
theorem dX12_childs_24 : decode cX12_childs 24 = .ok (.getfield 13, 3) := chk_nth ocX12_childs_0 (k := 15) rfl
theorem dX12_childs_27 : decode cX12_childs 27 = .ok (.iconst 2, 1) := chk_nth ocX12_childs_0 (k := 16) rfl
theorem dX12_childs_28 : decode cX12_childs 28 = .ok (.iaload, 1) := chk_nth ocX12_childs_0 (k := 17) rfl
theorem dX12_childs_29 : decode cX12_childs 29 = .ok (.if_icmp .ge 27, 3) := chk_nth ocX12_childs_0 (k := 18) rfl
theorem dX12_childs_32 : decode cX12_childs 32 = .ok (.aload_n 0, 1) := chk_nth ocX12_childs_0 (k := 19) rfl
theorem dX12_childs_33 : decode cX12_childs 33 = .ok (.iload_n 1, 1) := chk_nth ocX12_childs_0 (k := 20) rfl
theorem dX12_childs_34 : decode cX12_childs 34 = .ok (.iload_n 2, 1) := chk_nth ocX12_childs_0 (k := 21) rfl
theorem dX12_childs_35 : decode cX12_childs 35 = .ok (.iload_n 3, 1) := chk_nth ocX12_childs_0 (k := 22) rfl
theorem dX12_childs_36 : decode cX12_childs 36 = .ok (.iload 6, 2) := chk_nth ocX12_childs_0 (k := 23) rfl
def tcX12_childs_1 : List (Instr × Nat) := [(.iload 4, 2), (.iload 5, 2), (.invokevirtual 418, 3), (.ifCond .eq 5, 3), (.iconst 1, 1), (.ireturn, 1), (.iinc 6 1, 3), (.goto (-32), 3), (.aload_n 0, 1), (.iload_n 1, 1), (.iload_n 2, 1), (.iload_n 3, 1), (.iload 4, 2), (.iload 5, 2), (.iconst 1, 1), (.isub, 1), (.invokevirtual 422, 3), (.ireturn, 1)]
theorem ocX12_childs_1 : chk (cX12_childs.data.toList.drop 38) tcX12_childs_1 = true := by decide +kernel
theorem dX12_childs_38 : decode cX12_childs 38 = .ok (.iload 4, 2) := chk_nth ocX12_childs_1 (k := 0) rfl
theorem dX12_childs_40 : decode cX12_childs 40 = .ok (.iload 5, 2) := chk_nth ocX12_childs_1 (k := 1) rfl
theorem dX12_childs_42 : decode cX12_childs 42 = .ok (.invokevirtual 418, 3) := chk_nth ocX12_childs_1 (k := 2) rfl
theorem dX12_childs_45 : decode cX12_childs 45 = .ok (.ifCond .eq 5, 3) := chk_nth ocX12_childs_1 (k := 3) rfl
theorem dX12_childs_48 : decode cX12_childs 48 = .ok (.iconst 1, 1) := chk_nth ocX12_childs_1 (k := 4) rfl
theorem dX12_childs_49 : decode cX12_childs 49 = .ok (.ireturn, 1) := chk_nth ocX12_childs_1 (k := 5) rfl
theorem dX12_childs_50 : decode cX12_childs 50 = .ok (.iinc 6 1, 3) := chk_nth ocX12_childs_1 (k := 6) rfl
theorem dX12_childs_53 : decode cX12_childs 53 = .ok (.goto (-32), 3) := chk_nth ocX12_childs_1 (k := 7) rfl
theorem dX12_childs_56 : decode cX12_childs 56 = .ok (.aload_n 0, 1) := chk_nth ocX12_childs_1 (k := 8) rfl
theorem dX12_childs_57 : decode cX12_childs 57 = .ok (.iload_n 1, 1) := chk_nth ocX12_childs_1 (k := 9) rfl
theorem dX12_childs_58 : decode cX12_childs 58 = .ok (.iload_n 2, 1) := chk_nth ocX12_childs_1 (k := 10) rfl
theorem dX12_childs_59 : decode cX12_childs 59 = .ok (.iload_n 3, 1) := chk_nth ocX12_childs_1 (k := 11) rfl
theorem dX12_childs_60 : decode cX12_childs 60 = .ok (.iload 4, 2) := chk_nth ocX12_childs_1 (k := 12) rfl
theorem dX12_childs_62 : decode cX12_childs 62 = .ok (.iload 5, 2) := chk_nth ocX12_childs_1 (k := 13) rfl
theorem dX12_childs_64 : decode cX12_childs 64 = .ok (.iconst 1, 1) := chk_nth ocX12_childs_1 (k := 14) rfl
theorem dX12_childs_65 : decode cX12_childs 65 = .ok (.isub, 1) := chk_nth ocX12_childs_1 (k := 15) rfl
theorem dX12_childs_66 : decode cX12_childs 66 = .ok (.invokevirtual 422, 3) := chk_nth ocX12_childs_1 (k := 16) rfl
theorem dX12_childs_69 : decode cX12_childs 69 = .ok (.ireturn, 1) := chk_nth ocX12_childs_1 (k := 17) rfl
def tcX12_childsBy_0 : List (Instr × Nat) := [(.iload_n 3, 1), (.i2l, 1), (.iload 4, 2), (.invokestatic 324, 3), (.ifCond .ne 51, 3), (.aload_n 0, 1), (.iload_n 1, 1), (.iload_n 2, 1), (.iload 4, 2), (.aload_n 0, 1), (.getfield 13, 3), (.bipush 40, 2), (.iload 4, 2), (.iadd, 1), (.iaload, 1), (.invokevirtual 242, 3), (.ifCond .ne 30, 3), (.aload_n 0, 1), (.iload_n 1, 1), (.aload_n 0, 1), (.iload_n 1, 1), (.iload_n 2, 1), (.iload 4, 2), (.invokevirtual 251, 3)]
theorem ocX12_childsBy_0 : chk (cX12_childsBy.data.toList.drop 0) tcX12_childsBy_0 = true := by decide +kernel
theorem dX12_childsBy_0 : decode cX12_childsBy 0 = .ok (.iload_n 3, 1) := chk_nth ocX12_childsBy_0 (k := 0) rfl
theorem dX12_childsBy_1 : decode cX12_childsBy 1 = .ok (.i2l, 1) := chk_nth ocX12_childsBy_0 (k := 1) rfl
theorem dX12_childsBy_2 : decode cX12_childsBy 2 = .ok (.iload 4, 2) := chk_nth ocX12_childsBy_0 (k := 2) rfl
theorem dX12_childsBy_4 : decode cX12_childsBy 4 = .ok (.invokestatic 324, 3) := chk_nth ocX12_childsBy_0 (k := 3) rfl
theorem dX12_childsBy_7 : decode cX12_childsBy 7 = .ok (.ifCond .ne 51, 3) := chk_nth ocX12_childsBy_0 (k := 4) rfl
theorem dX12_childsBy_10 : decode cX12_childsBy 10 = .ok (.aload_n 0, 1) := chk_nth ocX12_childsBy_0 (k := 5) rfl
theorem dX12_childsBy_11 : decode cX12_childsBy 11 = .ok (.iload_n 1, 1) := chk_nth ocX12_childsBy_0 (k := 6) rfl
theorem dX12_childsBy_12 : decode cX12_childsBy 12 = .ok (.iload_n 2, 1) := chk_nth ocX12_childsBy_0 (k := 7) rfl
theorem dX12_childsBy_13 : decode cX12_childsBy 13 = .ok (.iload 4, 2) := chk_nth ocX12_childsBy_0 (k := 8) rfl
theorem dX12_childsBy_15 : decode cX12_childsBy 15 = .ok (.aload_n 0, 1) := chk_nth ocX12_childsBy_0 (k := 9) rfl
theorem dX12_childsBy_16 : decode cX12_childsBy 16 = .ok (.getfield 13, 3) := chk_nth ocX12_childsBy_0 (k := 10) rfl
theorem dX12_childsBy_19 : decode cX12_childsBy 19 = .ok (.bipush 40, 2) := chk_nth ocX12_childsBy_0 (k := 11) rfl
theorem dX12_childsBy_21 : decode cX12_childsBy 21 = .ok (.iload 4, 2) := chk_nth ocX12_childsBy_0 (k := 12) rfl
theorem dX12_childsBy_23 : decode cX12_childsBy 23 = .ok (.iadd, 1) := chk_nth ocX12_childsBy_0 (k := 13) rfl
theorem dX12_childsBy_24 : decode cX12_childsBy 24 = .ok (.iaload, 1) := chk_nth ocX12_childsBy_0 (k := 14) rfl
theorem dX12_childsBy_25 : decode cX12_childsBy 25 = .ok (.invokevirtual 242, 3) := chk_nth ocX12_childsBy_0 (k := 15) rfl
theorem dX12_childsBy_28 : decode cX12_childsBy 28 = .ok (.ifCond .ne 30, 3) := chk_nth ocX12_childsBy_0 (k := 16) rfl
theorem dX12_childsBy_31 : decode cX12_childsBy 31 = .ok (.aload_n 0, 1) := chk_nth ocX12_childsBy_0 (k := 17) rfl
theorem dX12_childsBy_32 : decode cX12_childsBy 32 = .ok (.iload_n 1, 1) := chk_nth ocX12_childsBy_0 (k := 18) rfl
theorem dX12_childsBy_33 : decode cX12_childsBy 33 = .ok (.aload_n 0, 1) := chk_nth ocX12_childsBy_0 (k := 19) rfl
theorem dX12_childsBy_34 : decode cX12_childsBy 34 = .ok (.iload_n 1, 1) := chk_nth ocX12_childsBy_0 (k := 20) rfl
theorem dX12_childsBy_35 : decode cX12_childsBy 35 = .ok (.iload_n 2, 1) := chk_nth ocX12_childsBy_0 (k := 21) rfl
theorem dX12_childsBy_36 : decode cX12_childsBy 36 = .ok (.iload 4, 2) := chk_nth ocX12_childsBy_0 (k := 22) rfl
theorem dX12_childsBy_38 : decode cX12_childsBy 38 = .ok (.invokevirtual 251, 3) := chk_nth ocX12_childsBy_0 (k := 23) rfl
def tcX12_childsBy_1 : List (Instr × Nat) := [(.iload_n 3, 1), (.iload 5, 2), (.iload 6, 2), (.iconst 1, 1), (.isub, 1), (.invokevirtual 422, 3), (.ifCond .eq 7, 3), (.iconst 1, 1), (.goto 4, 3), (.iconst 0, 1), (.ireturn, 1)]
theorem ocX12_childsBy_1 : chk (cX12_childsBy.data.toList.drop 41) tcX12_childsBy_1 = true := by decide +kernel
theorem dX12_childsBy_41 : decode cX12_childsBy 41 = .ok (.iload_n 3, 1) := chk_nth ocX12_childsBy_1 (k := 0) rfl
theorem dX12_childsBy_42 : decode cX12_childsBy 42 = .ok (.iload 5, 2) := chk_nth ocX12_childsBy_1 (k := 1) rfl
theorem dX12_childsBy_44 : decode cX12_childsBy 44 = .ok (.iload 6, 2) := chk_nth ocX12_childsBy_1 (k := 2) rfl
theorem dX12_childsBy_46 : decode cX12_childsBy 46 = .ok (.iconst 1, 1) := chk_nth ocX12_childsBy_1 (k := 3) rfl
theorem dX12_childsBy_47 : decode cX12_childsBy 47 = .ok (.isub, 1) := chk_nth ocX12_childsBy_1 (k := 4) rfl
theorem dX12_childsBy_48 : decode cX12_childsBy 48 = .ok (.invokevirtual 422, 3) := chk_nth ocX12_childsBy_1 (k := 5) rfl
theorem dX12_childsBy_51 : decode cX12_childsBy 51 = .ok (.ifCond .eq 7, 3) := chk_nth ocX12_childsBy_1 (k := 6) rfl
theorem dX12_childsBy_54 : decode cX12_childsBy 54 = .ok (.iconst 1, 1) := chk_nth ocX12_childsBy_1 (k := 7) rfl
theorem dX12_childsBy_55 : decode cX12_childsBy 55 = .ok (.goto 4, 3) := chk_nth ocX12_childsBy_1 (k := 8) rfl
theorem dX12_childsBy_58 : decode cX12_childsBy 58 = .ok (.iconst 0, 1) := chk_nth ocX12_childsBy_1 (k := 9) rfl
theorem dX12_childsBy_59 : decode cX12_childsBy 59 = .ok (.ireturn, 1) := chk_nth ocX12_childsBy_1 (k := 10) rfl
def tcX12_wardens_0 : List (Instr × Nat) := [(.iload_n 2, 1), (.bipush 20, 2), (.idiv, 1), (.iload 4, 2), (.if_icmp .ne 5, 3), (.iconst 1, 1), (.ireturn, 1), (.iload 5, 2), (.ifCond .eq 17, 3), (.aload_n 0, 1), (.iload_n 1, 1), (.iload_n 2, 1), (.iload_n 3, 1), (.iload 4, 2), (.iload 5, 2), (.invokevirtual 426, 3), (.ifCond .ne 5, 3), (.iconst 0, 1), (.ireturn, 1), (.iconst 0, 1), (.istore 6, 2), (.iload 6, 2), (.aload_n 0, 1), (.getfield 13, 3)]
theorem ocX12_wardens_0 : chk (cX12_wardens.data.toList.drop 0) tcX12_wardens_0 = true := by decide +kernel
theorem dX12_wardens_0 : decode cX12_wardens 0 = .ok (.iload_n 2, 1) := chk_nth ocX12_wardens_0 (k := 0) rfl
theorem dX12_wardens_1 : decode cX12_wardens 1 = .ok (.bipush 20, 2) := chk_nth ocX12_wardens_0 (k := 1) rfl
theorem dX12_wardens_3 : decode cX12_wardens 3 = .ok (.idiv, 1) := chk_nth ocX12_wardens_0 (k := 2) rfl
theorem dX12_wardens_4 : decode cX12_wardens 4 = .ok (.iload 4, 2) := chk_nth ocX12_wardens_0 (k := 3) rfl
theorem dX12_wardens_6 : decode cX12_wardens 6 = .ok (.if_icmp .ne 5, 3) := chk_nth ocX12_wardens_0 (k := 4) rfl
theorem dX12_wardens_9 : decode cX12_wardens 9 = .ok (.iconst 1, 1) := chk_nth ocX12_wardens_0 (k := 5) rfl
theorem dX12_wardens_10 : decode cX12_wardens 10 = .ok (.ireturn, 1) := chk_nth ocX12_wardens_0 (k := 6) rfl
theorem dX12_wardens_11 : decode cX12_wardens 11 = .ok (.iload 5, 2) := chk_nth ocX12_wardens_0 (k := 7) rfl
theorem dX12_wardens_13 : decode cX12_wardens 13 = .ok (.ifCond .eq 17, 3) := chk_nth ocX12_wardens_0 (k := 8) rfl
theorem dX12_wardens_16 : decode cX12_wardens 16 = .ok (.aload_n 0, 1) := chk_nth ocX12_wardens_0 (k := 9) rfl
theorem dX12_wardens_17 : decode cX12_wardens 17 = .ok (.iload_n 1, 1) := chk_nth ocX12_wardens_0 (k := 10) rfl
theorem dX12_wardens_18 : decode cX12_wardens 18 = .ok (.iload_n 2, 1) := chk_nth ocX12_wardens_0 (k := 11) rfl
theorem dX12_wardens_19 : decode cX12_wardens 19 = .ok (.iload_n 3, 1) := chk_nth ocX12_wardens_0 (k := 12) rfl
theorem dX12_wardens_20 : decode cX12_wardens 20 = .ok (.iload 4, 2) := chk_nth ocX12_wardens_0 (k := 13) rfl
theorem dX12_wardens_22 : decode cX12_wardens 22 = .ok (.iload 5, 2) := chk_nth ocX12_wardens_0 (k := 14) rfl
theorem dX12_wardens_24 : decode cX12_wardens 24 = .ok (.invokevirtual 426, 3) := chk_nth ocX12_wardens_0 (k := 15) rfl
theorem dX12_wardens_27 : decode cX12_wardens 27 = .ok (.ifCond .ne 5, 3) := chk_nth ocX12_wardens_0 (k := 16) rfl
theorem dX12_wardens_30 : decode cX12_wardens 30 = .ok (.iconst 0, 1) := chk_nth ocX12_wardens_0 (k := 17) rfl
theorem dX12_wardens_31 : decode cX12_wardens 31 = .ok (.ireturn, 1) := chk_nth ocX12_wardens_0 (k := 18) rfl
theorem dX12_wardens_32 : decode cX12_wardens 32 = .ok (.iconst 0, 1) := chk_nth ocX12_wardens_0 (k := 19) rfl
theorem dX12_wardens_33 : decode cX12_wardens 33 = .ok (.istore 6, 2) := chk_nth ocX12_wardens_0 (k := 20) rfl
theorem dX12_wardens_35 : decode cX12_wardens 35 = .ok (.iload 6, 2) := chk_nth ocX12_wardens_0 (k := 21) rfl
theorem dX12_wardens_37 : decode cX12_wardens 37 = .ok (.aload_n 0, 1) := chk_nth ocX12_wardens_0 (k := 22) rfl
theorem dX12_wardens_38 : decode cX12_wardens 38 = .ok (.getfield 13, 3) := chk_nth ocX12_wardens_0 (k := 23) rfl
def tcX12_wardens_1 : List (Instr × Nat) := [(.iconst 2, 1), (.iaload, 1), (.if_icmp .ge 54, 3), (.iload_n 3, 1), (.i2l, 1), (.iload 6, 2), (.invokestatic 324, 3), (.ifCond .ne 38, 3), (.aload_n 0, 1), (.getfield 13, 3), (.bipush 40, 2), (.iload 6, 2), (.iadd, 1), (.iaload, 1), (.iconst 3, 1), (.if_icmp .eq 24, 3), (.aload_n 0, 1), (.iload_n 1, 1), (.iload_n 2, 1), (.iload_n 3, 1), (.iconst 1, 1), (.iload 6, 2), (.ishl, 1), (.ior, 1)]
theorem ocX12_wardens_1 : chk (cX12_wardens.data.toList.drop 41) tcX12_wardens_1 = true := by decide +kernel
theorem dX12_wardens_41 : decode cX12_wardens 41 = .ok (.iconst 2, 1) := chk_nth ocX12_wardens_1 (k := 0) rfl
theorem dX12_wardens_42 : decode cX12_wardens 42 = .ok (.iaload, 1) := chk_nth ocX12_wardens_1 (k := 1) rfl
theorem dX12_wardens_43 : decode cX12_wardens 43 = .ok (.if_icmp .ge 54, 3) := chk_nth ocX12_wardens_1 (k := 2) rfl
theorem dX12_wardens_46 : decode cX12_wardens 46 = .ok (.iload_n 3, 1) := chk_nth ocX12_wardens_1 (k := 3) rfl
theorem dX12_wardens_47 : decode cX12_wardens 47 = .ok (.i2l, 1) := chk_nth ocX12_wardens_1 (k := 4) rfl
theorem dX12_wardens_48 : decode cX12_wardens 48 = .ok (.iload 6, 2) := chk_nth ocX12_wardens_1 (k := 5) rfl
theorem dX12_wardens_50 : decode cX12_wardens 50 = .ok (.invokestatic 324, 3) := chk_nth ocX12_wardens_1 (k := 6) rfl
theorem dX12_wardens_53 : decode cX12_wardens 53 = .ok (.ifCond .ne 38, 3) := chk_nth ocX12_wardens_1 (k := 7) rfl
theorem dX12_wardens_56 : decode cX12_wardens 56 = .ok (.aload_n 0, 1) := chk_nth ocX12_wardens_1 (k := 8) rfl
theorem dX12_wardens_57 : decode cX12_wardens 57 = .ok (.getfield 13, 3) := chk_nth ocX12_wardens_1 (k := 9) rfl
theorem dX12_wardens_60 : decode cX12_wardens 60 = .ok (.bipush 40, 2) := chk_nth ocX12_wardens_1 (k := 10) rfl
theorem dX12_wardens_62 : decode cX12_wardens 62 = .ok (.iload 6, 2) := chk_nth ocX12_wardens_1 (k := 11) rfl
theorem dX12_wardens_64 : decode cX12_wardens 64 = .ok (.iadd, 1) := chk_nth ocX12_wardens_1 (k := 12) rfl
theorem dX12_wardens_65 : decode cX12_wardens 65 = .ok (.iaload, 1) := chk_nth ocX12_wardens_1 (k := 13) rfl
theorem dX12_wardens_66 : decode cX12_wardens 66 = .ok (.iconst 3, 1) := chk_nth ocX12_wardens_1 (k := 14) rfl
theorem dX12_wardens_67 : decode cX12_wardens 67 = .ok (.if_icmp .eq 24, 3) := chk_nth ocX12_wardens_1 (k := 15) rfl
theorem dX12_wardens_70 : decode cX12_wardens 70 = .ok (.aload_n 0, 1) := chk_nth ocX12_wardens_1 (k := 16) rfl
theorem dX12_wardens_71 : decode cX12_wardens 71 = .ok (.iload_n 1, 1) := chk_nth ocX12_wardens_1 (k := 17) rfl
theorem dX12_wardens_72 : decode cX12_wardens 72 = .ok (.iload_n 2, 1) := chk_nth ocX12_wardens_1 (k := 18) rfl
theorem dX12_wardens_73 : decode cX12_wardens 73 = .ok (.iload_n 3, 1) := chk_nth ocX12_wardens_1 (k := 19) rfl
theorem dX12_wardens_74 : decode cX12_wardens 74 = .ok (.iconst 1, 1) := chk_nth ocX12_wardens_1 (k := 20) rfl
theorem dX12_wardens_75 : decode cX12_wardens 75 = .ok (.iload 6, 2) := chk_nth ocX12_wardens_1 (k := 21) rfl
theorem dX12_wardens_77 : decode cX12_wardens 77 = .ok (.ishl, 1) := chk_nth ocX12_wardens_1 (k := 22) rfl
theorem dX12_wardens_78 : decode cX12_wardens 78 = .ok (.ior, 1) := chk_nth ocX12_wardens_1 (k := 23) rfl
def tcX12_wardens_2 : List (Instr × Nat) := [(.iload 4, 2), (.iload 5, 2), (.invokevirtual 426, 3), (.ifCond .ne 5, 3), (.iconst 0, 1), (.ireturn, 1), (.iinc 6 1, 3), (.goto (-59), 3), (.iconst 1, 1), (.ireturn, 1)]
theorem ocX12_wardens_2 : chk (cX12_wardens.data.toList.drop 79) tcX12_wardens_2 = true := by decide +kernel
theorem dX12_wardens_79 : decode cX12_wardens 79 = .ok (.iload 4, 2) := chk_nth ocX12_wardens_2 (k := 0) rfl
theorem dX12_wardens_81 : decode cX12_wardens 81 = .ok (.iload 5, 2) := chk_nth ocX12_wardens_2 (k := 1) rfl
theorem dX12_wardens_83 : decode cX12_wardens 83 = .ok (.invokevirtual 426, 3) := chk_nth ocX12_wardens_2 (k := 2) rfl
theorem dX12_wardens_86 : decode cX12_wardens 86 = .ok (.ifCond .ne 5, 3) := chk_nth ocX12_wardens_2 (k := 3) rfl
theorem dX12_wardens_89 : decode cX12_wardens 89 = .ok (.iconst 0, 1) := chk_nth ocX12_wardens_2 (k := 4) rfl
theorem dX12_wardens_90 : decode cX12_wardens 90 = .ok (.ireturn, 1) := chk_nth ocX12_wardens_2 (k := 5) rfl
theorem dX12_wardens_91 : decode cX12_wardens 91 = .ok (.iinc 6 1, 3) := chk_nth ocX12_wardens_2 (k := 6) rfl
theorem dX12_wardens_94 : decode cX12_wardens 94 = .ok (.goto (-59), 3) := chk_nth ocX12_wardens_2 (k := 7) rfl
theorem dX12_wardens_97 : decode cX12_wardens 97 = .ok (.iconst 1, 1) := chk_nth ocX12_wardens_2 (k := 8) rfl
theorem dX12_wardens_98 : decode cX12_wardens 98 = .ok (.ireturn, 1) := chk_nth ocX12_wardens_2 (k := 9) rfl
def tcX12_forcedIn_0 : List (Instr × Nat) := [(.iconst 0, 1), (.istore_n 3, 1), (.iload_n 3, 1), (.iconst 3, 1), (.if_icmp .gt 27, 3), (.aload_n 0, 1), (.iload_n 1, 1), (.aload_n 0, 1), (.iload_n 1, 1), (.invokevirtual 239, 3), (.iconst 0, 1), (.iload_n 2, 1), (.iload_n 3, 1), (.invokevirtual 426, 3), (.ifCond .eq 5, 3), (.iload_n 3, 1), (.ireturn, 1), (.iinc 3 1, 3), (.goto (-26), 3), (.iconst (-1), 1), (.ireturn, 1)]
theorem ocX12_forcedIn_0 : chk (cX12_forcedIn.data.toList.drop 0) tcX12_forcedIn_0 = true := by decide +kernel
theorem dX12_forcedIn_0 : decode cX12_forcedIn 0 = .ok (.iconst 0, 1) := chk_nth ocX12_forcedIn_0 (k := 0) rfl
theorem dX12_forcedIn_1 : decode cX12_forcedIn 1 = .ok (.istore_n 3, 1) := chk_nth ocX12_forcedIn_0 (k := 1) rfl
theorem dX12_forcedIn_2 : decode cX12_forcedIn 2 = .ok (.iload_n 3, 1) := chk_nth ocX12_forcedIn_0 (k := 2) rfl
theorem dX12_forcedIn_3 : decode cX12_forcedIn 3 = .ok (.iconst 3, 1) := chk_nth ocX12_forcedIn_0 (k := 3) rfl
theorem dX12_forcedIn_4 : decode cX12_forcedIn 4 = .ok (.if_icmp .gt 27, 3) := chk_nth ocX12_forcedIn_0 (k := 4) rfl
theorem dX12_forcedIn_7 : decode cX12_forcedIn 7 = .ok (.aload_n 0, 1) := chk_nth ocX12_forcedIn_0 (k := 5) rfl
theorem dX12_forcedIn_8 : decode cX12_forcedIn 8 = .ok (.iload_n 1, 1) := chk_nth ocX12_forcedIn_0 (k := 6) rfl
theorem dX12_forcedIn_9 : decode cX12_forcedIn 9 = .ok (.aload_n 0, 1) := chk_nth ocX12_forcedIn_0 (k := 7) rfl
theorem dX12_forcedIn_10 : decode cX12_forcedIn 10 = .ok (.iload_n 1, 1) := chk_nth ocX12_forcedIn_0 (k := 8) rfl
theorem dX12_forcedIn_11 : decode cX12_forcedIn 11 = .ok (.invokevirtual 239, 3) := chk_nth ocX12_forcedIn_0 (k := 9) rfl
theorem dX12_forcedIn_14 : decode cX12_forcedIn 14 = .ok (.iconst 0, 1) := chk_nth ocX12_forcedIn_0 (k := 10) rfl
theorem dX12_forcedIn_15 : decode cX12_forcedIn 15 = .ok (.iload_n 2, 1) := chk_nth ocX12_forcedIn_0 (k := 11) rfl
theorem dX12_forcedIn_16 : decode cX12_forcedIn 16 = .ok (.iload_n 3, 1) := chk_nth ocX12_forcedIn_0 (k := 12) rfl
theorem dX12_forcedIn_17 : decode cX12_forcedIn 17 = .ok (.invokevirtual 426, 3) := chk_nth ocX12_forcedIn_0 (k := 13) rfl
theorem dX12_forcedIn_20 : decode cX12_forcedIn 20 = .ok (.ifCond .eq 5, 3) := chk_nth ocX12_forcedIn_0 (k := 14) rfl
theorem dX12_forcedIn_23 : decode cX12_forcedIn 23 = .ok (.iload_n 3, 1) := chk_nth ocX12_forcedIn_0 (k := 15) rfl
theorem dX12_forcedIn_24 : decode cX12_forcedIn 24 = .ok (.ireturn, 1) := chk_nth ocX12_forcedIn_0 (k := 16) rfl
theorem dX12_forcedIn_25 : decode cX12_forcedIn 25 = .ok (.iinc 3 1, 3) := chk_nth ocX12_forcedIn_0 (k := 17) rfl
theorem dX12_forcedIn_28 : decode cX12_forcedIn 28 = .ok (.goto (-26), 3) := chk_nth ocX12_forcedIn_0 (k := 18) rfl
theorem dX12_forcedIn_31 : decode cX12_forcedIn 31 = .ok (.iconst (-1), 1) := chk_nth ocX12_forcedIn_0 (k := 19) rfl
theorem dX12_forcedIn_32 : decode cX12_forcedIn 32 = .ok (.ireturn, 1) := chk_nth ocX12_forcedIn_0 (k := 20) rfl
def tcX12_forces_0 : List (Instr × Nat) := [(.aload_n 0, 1), (.iconst 0, 1), (.putfield 1, 3), (.aload_n 0, 1), (.iload_n 1, 1), (.i2l, 1), (.invokevirtual 233, 3), (.ifCond .eq 21, 3), (.aload_n 0, 1), (.iload_n 2, 1), (.i2l, 1), (.invokevirtual 268, 3), (.ifCond .eq 12, 3), (.aload_n 0, 1), (.iload_n 1, 1), (.iload_n 2, 1), (.invokevirtual 429, 3), (.goto 5, 3), (.bipush (-2), 2), (.ireturn, 1)]
theorem ocX12_forces_0 : chk (cX12_forces.data.toList.drop 0) tcX12_forces_0 = true := by decide +kernel
theorem dX12_forces_0 : decode cX12_forces 0 = .ok (.aload_n 0, 1) := chk_nth ocX12_forces_0 (k := 0) rfl
theorem dX12_forces_1 : decode cX12_forces 1 = .ok (.iconst 0, 1) := chk_nth ocX12_forces_0 (k := 1) rfl
theorem dX12_forces_2 : decode cX12_forces 2 = .ok (.putfield 1, 3) := chk_nth ocX12_forces_0 (k := 2) rfl
theorem dX12_forces_5 : decode cX12_forces 5 = .ok (.aload_n 0, 1) := chk_nth ocX12_forces_0 (k := 3) rfl
theorem dX12_forces_6 : decode cX12_forces 6 = .ok (.iload_n 1, 1) := chk_nth ocX12_forces_0 (k := 4) rfl
theorem dX12_forces_7 : decode cX12_forces 7 = .ok (.i2l, 1) := chk_nth ocX12_forces_0 (k := 5) rfl
theorem dX12_forces_8 : decode cX12_forces 8 = .ok (.invokevirtual 233, 3) := chk_nth ocX12_forces_0 (k := 6) rfl
theorem dX12_forces_11 : decode cX12_forces 11 = .ok (.ifCond .eq 21, 3) := chk_nth ocX12_forces_0 (k := 7) rfl
theorem dX12_forces_14 : decode cX12_forces 14 = .ok (.aload_n 0, 1) := chk_nth ocX12_forces_0 (k := 8) rfl
theorem dX12_forces_15 : decode cX12_forces 15 = .ok (.iload_n 2, 1) := chk_nth ocX12_forces_0 (k := 9) rfl
theorem dX12_forces_16 : decode cX12_forces 16 = .ok (.i2l, 1) := chk_nth ocX12_forces_0 (k := 10) rfl
theorem dX12_forces_17 : decode cX12_forces 17 = .ok (.invokevirtual 268, 3) := chk_nth ocX12_forces_0 (k := 11) rfl
theorem dX12_forces_20 : decode cX12_forces 20 = .ok (.ifCond .eq 12, 3) := chk_nth ocX12_forces_0 (k := 12) rfl
theorem dX12_forces_23 : decode cX12_forces 23 = .ok (.aload_n 0, 1) := chk_nth ocX12_forces_0 (k := 13) rfl
theorem dX12_forces_24 : decode cX12_forces 24 = .ok (.iload_n 1, 1) := chk_nth ocX12_forces_0 (k := 14) rfl
theorem dX12_forces_25 : decode cX12_forces 25 = .ok (.iload_n 2, 1) := chk_nth ocX12_forces_0 (k := 15) rfl
theorem dX12_forces_26 : decode cX12_forces 26 = .ok (.invokevirtual 429, 3) := chk_nth ocX12_forces_0 (k := 16) rfl
theorem dX12_forces_29 : decode cX12_forces 29 = .ok (.goto 5, 3) := chk_nth ocX12_forces_0 (k := 17) rfl
theorem dX12_forces_32 : decode cX12_forces 32 = .ok (.bipush (-2), 2) := chk_nth ocX12_forces_0 (k := 18) rfl
theorem dX12_forces_34 : decode cX12_forces 34 = .ok (.ireturn, 1) := chk_nth ocX12_forces_0 (k := 19) rfl
def tcX12_best_0 : List (Instr × Nat) := [(.aload_n 0, 1), (.iconst 0, 1), (.putfield 1, 3), (.aload_n 0, 1), (.iload_n 1, 1), (.i2l, 1), (.invokevirtual 233, 3), (.ifCond .eq 12, 3), (.aload_n 0, 1), (.iload_n 2, 1), (.i2l, 1), (.invokevirtual 268, 3), (.ifCond .ne 6, 3), (.bipush (-2), 2), (.ireturn, 1), (.aload_n 0, 1), (.iload_n 1, 1), (.iload_n 2, 1), (.invokevirtual 429, 3), (.istore_n 3, 1), (.iload_n 3, 1), (.iconst 1, 1), (.if_icmp .ge 5, 3), (.iconst (-1), 1)]
theorem ocX12_best_0 : chk (cX12_best.data.toList.drop 0) tcX12_best_0 = true := by decide +kernel
theorem dX12_best_0 : decode cX12_best 0 = .ok (.aload_n 0, 1) := chk_nth ocX12_best_0 (k := 0) rfl
theorem dX12_best_1 : decode cX12_best 1 = .ok (.iconst 0, 1) := chk_nth ocX12_best_0 (k := 1) rfl
theorem dX12_best_2 : decode cX12_best 2 = .ok (.putfield 1, 3) := chk_nth ocX12_best_0 (k := 2) rfl
theorem dX12_best_5 : decode cX12_best 5 = .ok (.aload_n 0, 1) := chk_nth ocX12_best_0 (k := 3) rfl
theorem dX12_best_6 : decode cX12_best 6 = .ok (.iload_n 1, 1) := chk_nth ocX12_best_0 (k := 4) rfl
theorem dX12_best_7 : decode cX12_best 7 = .ok (.i2l, 1) := chk_nth ocX12_best_0 (k := 5) rfl
theorem dX12_best_8 : decode cX12_best 8 = .ok (.invokevirtual 233, 3) := chk_nth ocX12_best_0 (k := 6) rfl
theorem dX12_best_11 : decode cX12_best 11 = .ok (.ifCond .eq 12, 3) := chk_nth ocX12_best_0 (k := 7) rfl
theorem dX12_best_14 : decode cX12_best 14 = .ok (.aload_n 0, 1) := chk_nth ocX12_best_0 (k := 8) rfl
theorem dX12_best_15 : decode cX12_best 15 = .ok (.iload_n 2, 1) := chk_nth ocX12_best_0 (k := 9) rfl
theorem dX12_best_16 : decode cX12_best 16 = .ok (.i2l, 1) := chk_nth ocX12_best_0 (k := 10) rfl
theorem dX12_best_17 : decode cX12_best 17 = .ok (.invokevirtual 268, 3) := chk_nth ocX12_best_0 (k := 11) rfl
theorem dX12_best_20 : decode cX12_best 20 = .ok (.ifCond .ne 6, 3) := chk_nth ocX12_best_0 (k := 12) rfl
theorem dX12_best_23 : decode cX12_best 23 = .ok (.bipush (-2), 2) := chk_nth ocX12_best_0 (k := 13) rfl
theorem dX12_best_25 : decode cX12_best 25 = .ok (.ireturn, 1) := chk_nth ocX12_best_0 (k := 14) rfl
theorem dX12_best_26 : decode cX12_best 26 = .ok (.aload_n 0, 1) := chk_nth ocX12_best_0 (k := 15) rfl
theorem dX12_best_27 : decode cX12_best 27 = .ok (.iload_n 1, 1) := chk_nth ocX12_best_0 (k := 16) rfl
theorem dX12_best_28 : decode cX12_best 28 = .ok (.iload_n 2, 1) := chk_nth ocX12_best_0 (k := 17) rfl
theorem dX12_best_29 : decode cX12_best 29 = .ok (.invokevirtual 429, 3) := chk_nth ocX12_best_0 (k := 18) rfl
theorem dX12_best_32 : decode cX12_best 32 = .ok (.istore_n 3, 1) := chk_nth ocX12_best_0 (k := 19) rfl
theorem dX12_best_33 : decode cX12_best 33 = .ok (.iload_n 3, 1) := chk_nth ocX12_best_0 (k := 20) rfl
theorem dX12_best_34 : decode cX12_best 34 = .ok (.iconst 1, 1) := chk_nth ocX12_best_0 (k := 21) rfl
theorem dX12_best_35 : decode cX12_best 35 = .ok (.if_icmp .ge 5, 3) := chk_nth ocX12_best_0 (k := 22) rfl
theorem dX12_best_38 : decode cX12_best 38 = .ok (.iconst (-1), 1) := chk_nth ocX12_best_0 (k := 23) rfl
def tcX12_best_1 : List (Instr × Nat) := [(.ireturn, 1), (.iconst 0, 1), (.istore 4, 2), (.iload 4, 2), (.aload_n 0, 1), (.getfield 13, 3), (.iconst 2, 1), (.iaload, 1), (.if_icmp .ge 30, 3), (.aload_n 0, 1), (.iload_n 1, 1), (.aload_n 0, 1), (.iload_n 1, 1), (.invokevirtual 239, 3), (.iconst 0, 1), (.iload 4, 2), (.iload_n 2, 1), (.iload_n 3, 1), (.invokevirtual 418, 3), (.ifCond .eq 6, 3), (.iload 4, 2), (.ireturn, 1), (.iinc 4 1, 3), (.goto (-35), 3)]
theorem ocX12_best_1 : chk (cX12_best.data.toList.drop 39) tcX12_best_1 = true := by decide +kernel
theorem dX12_best_39 : decode cX12_best 39 = .ok (.ireturn, 1) := chk_nth ocX12_best_1 (k := 0) rfl
theorem dX12_best_40 : decode cX12_best 40 = .ok (.iconst 0, 1) := chk_nth ocX12_best_1 (k := 1) rfl
theorem dX12_best_41 : decode cX12_best 41 = .ok (.istore 4, 2) := chk_nth ocX12_best_1 (k := 2) rfl
theorem dX12_best_43 : decode cX12_best 43 = .ok (.iload 4, 2) := chk_nth ocX12_best_1 (k := 3) rfl
theorem dX12_best_45 : decode cX12_best 45 = .ok (.aload_n 0, 1) := chk_nth ocX12_best_1 (k := 4) rfl
theorem dX12_best_46 : decode cX12_best 46 = .ok (.getfield 13, 3) := chk_nth ocX12_best_1 (k := 5) rfl
theorem dX12_best_49 : decode cX12_best 49 = .ok (.iconst 2, 1) := chk_nth ocX12_best_1 (k := 6) rfl
theorem dX12_best_50 : decode cX12_best 50 = .ok (.iaload, 1) := chk_nth ocX12_best_1 (k := 7) rfl
theorem dX12_best_51 : decode cX12_best 51 = .ok (.if_icmp .ge 30, 3) := chk_nth ocX12_best_1 (k := 8) rfl
theorem dX12_best_54 : decode cX12_best 54 = .ok (.aload_n 0, 1) := chk_nth ocX12_best_1 (k := 9) rfl
theorem dX12_best_55 : decode cX12_best 55 = .ok (.iload_n 1, 1) := chk_nth ocX12_best_1 (k := 10) rfl
theorem dX12_best_56 : decode cX12_best 56 = .ok (.aload_n 0, 1) := chk_nth ocX12_best_1 (k := 11) rfl
theorem dX12_best_57 : decode cX12_best 57 = .ok (.iload_n 1, 1) := chk_nth ocX12_best_1 (k := 12) rfl
theorem dX12_best_58 : decode cX12_best 58 = .ok (.invokevirtual 239, 3) := chk_nth ocX12_best_1 (k := 13) rfl
theorem dX12_best_61 : decode cX12_best 61 = .ok (.iconst 0, 1) := chk_nth ocX12_best_1 (k := 14) rfl
theorem dX12_best_62 : decode cX12_best 62 = .ok (.iload 4, 2) := chk_nth ocX12_best_1 (k := 15) rfl
theorem dX12_best_64 : decode cX12_best 64 = .ok (.iload_n 2, 1) := chk_nth ocX12_best_1 (k := 16) rfl
theorem dX12_best_65 : decode cX12_best 65 = .ok (.iload_n 3, 1) := chk_nth ocX12_best_1 (k := 17) rfl
theorem dX12_best_66 : decode cX12_best 66 = .ok (.invokevirtual 418, 3) := chk_nth ocX12_best_1 (k := 18) rfl
theorem dX12_best_69 : decode cX12_best 69 = .ok (.ifCond .eq 6, 3) := chk_nth ocX12_best_1 (k := 19) rfl
theorem dX12_best_72 : decode cX12_best 72 = .ok (.iload 4, 2) := chk_nth ocX12_best_1 (k := 20) rfl
theorem dX12_best_74 : decode cX12_best 74 = .ok (.ireturn, 1) := chk_nth ocX12_best_1 (k := 21) rfl
theorem dX12_best_75 : decode cX12_best 75 = .ok (.iinc 4 1, 3) := chk_nth ocX12_best_1 (k := 22) rfl
theorem dX12_best_78 : decode cX12_best 78 = .ok (.goto (-35), 3) := chk_nth ocX12_best_1 (k := 23) rfl
def tcX12_best_2 : List (Instr × Nat) := [(.bipush 99, 2), (.ireturn, 1)]
theorem ocX12_best_2 : chk (cX12_best.data.toList.drop 81) tcX12_best_2 = true := by decide +kernel
theorem dX12_best_81 : decode cX12_best 81 = .ok (.bipush 99, 2) := chk_nth ocX12_best_2 (k := 0) rfl
theorem dX12_best_83 : decode cX12_best 83 = .ok (.ireturn, 1) := chk_nth ocX12_best_2 (k := 1) rfl
def tcX12_laysLikely_0 : List (Instr × Nat) := [(.aload_n 0, 1), (.iload_n 1, 1), (.invokevirtual 358, 3), (.iconst 1, 1), (.istore_n 3, 1), (.iconst 0, 1), (.istore 4, 2), (.iload 4, 2), (.iload_n 2, 1), (.if_icmp .ge 32, 3), (.aload_n 0, 1), (.getfield 13, 3), (.iconst 2, 1), (.iaload, 1), (.ifCond .le 23, 3), (.aload_n 0, 1), (.iconst 1, 1), (.invokevirtual 361, 3), (.iload_n 3, 1), (.aload_n 0, 1), (.getfield 13, 3), (.iconst 2, 1), (.iaload, 1), (.imul, 1)]
theorem ocX12_laysLikely_0 : chk (cX12_laysLikely.data.toList.drop 0) tcX12_laysLikely_0 = true := by decide +kernel
theorem dX12_laysLikely_0 : decode cX12_laysLikely 0 = .ok (.aload_n 0, 1) := chk_nth ocX12_laysLikely_0 (k := 0) rfl
theorem dX12_laysLikely_1 : decode cX12_laysLikely 1 = .ok (.iload_n 1, 1) := chk_nth ocX12_laysLikely_0 (k := 1) rfl
theorem dX12_laysLikely_2 : decode cX12_laysLikely 2 = .ok (.invokevirtual 358, 3) := chk_nth ocX12_laysLikely_0 (k := 2) rfl
theorem dX12_laysLikely_5 : decode cX12_laysLikely 5 = .ok (.iconst 1, 1) := chk_nth ocX12_laysLikely_0 (k := 3) rfl
theorem dX12_laysLikely_6 : decode cX12_laysLikely 6 = .ok (.istore_n 3, 1) := chk_nth ocX12_laysLikely_0 (k := 4) rfl
theorem dX12_laysLikely_7 : decode cX12_laysLikely 7 = .ok (.iconst 0, 1) := chk_nth ocX12_laysLikely_0 (k := 5) rfl
theorem dX12_laysLikely_8 : decode cX12_laysLikely 8 = .ok (.istore 4, 2) := chk_nth ocX12_laysLikely_0 (k := 6) rfl
theorem dX12_laysLikely_10 : decode cX12_laysLikely 10 = .ok (.iload 4, 2) := chk_nth ocX12_laysLikely_0 (k := 7) rfl
theorem dX12_laysLikely_12 : decode cX12_laysLikely 12 = .ok (.iload_n 2, 1) := chk_nth ocX12_laysLikely_0 (k := 8) rfl
theorem dX12_laysLikely_13 : decode cX12_laysLikely 13 = .ok (.if_icmp .ge 32, 3) := chk_nth ocX12_laysLikely_0 (k := 9) rfl
theorem dX12_laysLikely_16 : decode cX12_laysLikely 16 = .ok (.aload_n 0, 1) := chk_nth ocX12_laysLikely_0 (k := 10) rfl
theorem dX12_laysLikely_17 : decode cX12_laysLikely 17 = .ok (.getfield 13, 3) := chk_nth ocX12_laysLikely_0 (k := 11) rfl
theorem dX12_laysLikely_20 : decode cX12_laysLikely 20 = .ok (.iconst 2, 1) := chk_nth ocX12_laysLikely_0 (k := 12) rfl
theorem dX12_laysLikely_21 : decode cX12_laysLikely 21 = .ok (.iaload, 1) := chk_nth ocX12_laysLikely_0 (k := 13) rfl
theorem dX12_laysLikely_22 : decode cX12_laysLikely 22 = .ok (.ifCond .le 23, 3) := chk_nth ocX12_laysLikely_0 (k := 14) rfl
theorem dX12_laysLikely_25 : decode cX12_laysLikely 25 = .ok (.aload_n 0, 1) := chk_nth ocX12_laysLikely_0 (k := 15) rfl
theorem dX12_laysLikely_26 : decode cX12_laysLikely 26 = .ok (.iconst 1, 1) := chk_nth ocX12_laysLikely_0 (k := 16) rfl
theorem dX12_laysLikely_27 : decode cX12_laysLikely 27 = .ok (.invokevirtual 361, 3) := chk_nth ocX12_laysLikely_0 (k := 17) rfl
theorem dX12_laysLikely_30 : decode cX12_laysLikely 30 = .ok (.iload_n 3, 1) := chk_nth ocX12_laysLikely_0 (k := 18) rfl
theorem dX12_laysLikely_31 : decode cX12_laysLikely 31 = .ok (.aload_n 0, 1) := chk_nth ocX12_laysLikely_0 (k := 19) rfl
theorem dX12_laysLikely_32 : decode cX12_laysLikely 32 = .ok (.getfield 13, 3) := chk_nth ocX12_laysLikely_0 (k := 20) rfl
theorem dX12_laysLikely_35 : decode cX12_laysLikely 35 = .ok (.iconst 2, 1) := chk_nth ocX12_laysLikely_0 (k := 21) rfl
theorem dX12_laysLikely_36 : decode cX12_laysLikely 36 = .ok (.iaload, 1) := chk_nth ocX12_laysLikely_0 (k := 22) rfl
theorem dX12_laysLikely_37 : decode cX12_laysLikely 37 = .ok (.imul, 1) := chk_nth ocX12_laysLikely_0 (k := 23) rfl
def tcX12_laysLikely_1 : List (Instr × Nat) := [(.istore_n 3, 1), (.iinc 4 1, 3), (.goto (-32), 3), (.iload_n 3, 1), (.ireturn, 1)]
theorem ocX12_laysLikely_1 : chk (cX12_laysLikely.data.toList.drop 38) tcX12_laysLikely_1 = true := by decide +kernel
theorem dX12_laysLikely_38 : decode cX12_laysLikely 38 = .ok (.istore_n 3, 1) := chk_nth ocX12_laysLikely_1 (k := 0) rfl
theorem dX12_laysLikely_39 : decode cX12_laysLikely 39 = .ok (.iinc 4 1, 3) := chk_nth ocX12_laysLikely_1 (k := 1) rfl
theorem dX12_laysLikely_42 : decode cX12_laysLikely 42 = .ok (.goto (-32), 3) := chk_nth ocX12_laysLikely_1 (k := 2) rfl
theorem dX12_laysLikely_45 : decode cX12_laysLikely 45 = .ok (.iload_n 3, 1) := chk_nth ocX12_laysLikely_1 (k := 3) rfl
theorem dX12_laysLikely_46 : decode cX12_laysLikely 46 = .ok (.ireturn, 1) := chk_nth ocX12_laysLikely_1 (k := 4) rfl
def tcX12_common_0 : List (Instr × Nat) := [(.iload_n 1, 1), (.ifCond .ne 7, 3), (.iload_n 0, 1), (.goto 10, 3), (.iload_n 1, 1), (.iload_n 0, 1), (.iload_n 1, 1), (.irem, 1), (.invokestatic 432, 3), (.ireturn, 1)]
theorem ocX12_common_0 : chk (cX12_common.data.toList.drop 0) tcX12_common_0 = true := by decide +kernel
theorem dX12_common_0 : decode cX12_common 0 = .ok (.iload_n 1, 1) := chk_nth ocX12_common_0 (k := 0) rfl
theorem dX12_common_1 : decode cX12_common 1 = .ok (.ifCond .ne 7, 3) := chk_nth ocX12_common_0 (k := 1) rfl
theorem dX12_common_4 : decode cX12_common 4 = .ok (.iload_n 0, 1) := chk_nth ocX12_common_0 (k := 2) rfl
theorem dX12_common_5 : decode cX12_common 5 = .ok (.goto 10, 3) := chk_nth ocX12_common_0 (k := 3) rfl
theorem dX12_common_8 : decode cX12_common 8 = .ok (.iload_n 1, 1) := chk_nth ocX12_common_0 (k := 4) rfl
theorem dX12_common_9 : decode cX12_common 9 = .ok (.iload_n 0, 1) := chk_nth ocX12_common_0 (k := 5) rfl
theorem dX12_common_10 : decode cX12_common 10 = .ok (.iload_n 1, 1) := chk_nth ocX12_common_0 (k := 6) rfl
theorem dX12_common_11 : decode cX12_common 11 = .ok (.irem, 1) := chk_nth ocX12_common_0 (k := 7) rfl
theorem dX12_common_12 : decode cX12_common 12 = .ok (.invokestatic 432, 3) := chk_nth ocX12_common_0 (k := 8) rfl
theorem dX12_common_15 : decode cX12_common 15 = .ok (.ireturn, 1) := chk_nth ocX12_common_0 (k := 9) rfl
def tcX12_part_0 : List (Instr × Nat) := [(.lload_n 0, 1), (.l2i, 1), (.istore 4, 2), (.iload_n 3, 1), (.ifCond .ne 8, 3), (.iload 4, 2), (.goto 4, 3), (.iload_n 2, 1), (.iload 4, 2), (.iload_n 2, 1), (.invokestatic 432, 3), (.idiv, 1), (.ireturn, 1)]
theorem ocX12_part_0 : chk (cX12_part.data.toList.drop 0) tcX12_part_0 = true := by decide +kernel
theorem dX12_part_0 : decode cX12_part 0 = .ok (.lload_n 0, 1) := chk_nth ocX12_part_0 (k := 0) rfl
theorem dX12_part_1 : decode cX12_part 1 = .ok (.l2i, 1) := chk_nth ocX12_part_0 (k := 1) rfl
theorem dX12_part_2 : decode cX12_part 2 = .ok (.istore 4, 2) := chk_nth ocX12_part_0 (k := 2) rfl
theorem dX12_part_4 : decode cX12_part 4 = .ok (.iload_n 3, 1) := chk_nth ocX12_part_0 (k := 3) rfl
theorem dX12_part_5 : decode cX12_part 5 = .ok (.ifCond .ne 8, 3) := chk_nth ocX12_part_0 (k := 4) rfl
theorem dX12_part_8 : decode cX12_part 8 = .ok (.iload 4, 2) := chk_nth ocX12_part_0 (k := 5) rfl
theorem dX12_part_10 : decode cX12_part 10 = .ok (.goto 4, 3) := chk_nth ocX12_part_0 (k := 6) rfl
theorem dX12_part_13 : decode cX12_part 13 = .ok (.iload_n 2, 1) := chk_nth ocX12_part_0 (k := 7) rfl
theorem dX12_part_14 : decode cX12_part 14 = .ok (.iload 4, 2) := chk_nth ocX12_part_0 (k := 8) rfl
theorem dX12_part_16 : decode cX12_part 16 = .ok (.iload_n 2, 1) := chk_nth ocX12_part_0 (k := 9) rfl
theorem dX12_part_17 : decode cX12_part 17 = .ok (.invokestatic 432, 3) := chk_nth ocX12_part_0 (k := 10) rfl
theorem dX12_part_20 : decode cX12_part 20 = .ok (.idiv, 1) := chk_nth ocX12_part_0 (k := 11) rfl
theorem dX12_part_21 : decode cX12_part 21 = .ok (.ireturn, 1) := chk_nth ocX12_part_0 (k := 12) rfl
def tcX12_likelyAt_0 : List (Instr × Nat) := [(.lconst 0, 1), (.lstore_n 2, 1), (.iconst 0, 1), (.istore 4, 2), (.iload 4, 2), (.bipush 20, 2), (.if_icmp .ge 24, 3), (.lload_n 2, 1), (.aload_n 0, 1), (.getfield 51, 3), (.bipush 20, 2), (.iload_n 1, 1), (.imul, 1), (.iload 4, 2), (.iadd, 1), (.laload, 1), (.ladd, 1), (.lstore_n 2, 1), (.iinc 4 1, 3), (.goto (-25), 3), (.lload_n 2, 1), (.lreturn, 1)]
theorem ocX12_likelyAt_0 : chk (cX12_likelyAt.data.toList.drop 0) tcX12_likelyAt_0 = true := by decide +kernel
theorem dX12_likelyAt_0 : decode cX12_likelyAt 0 = .ok (.lconst 0, 1) := chk_nth ocX12_likelyAt_0 (k := 0) rfl
theorem dX12_likelyAt_1 : decode cX12_likelyAt 1 = .ok (.lstore_n 2, 1) := chk_nth ocX12_likelyAt_0 (k := 1) rfl
theorem dX12_likelyAt_2 : decode cX12_likelyAt 2 = .ok (.iconst 0, 1) := chk_nth ocX12_likelyAt_0 (k := 2) rfl
theorem dX12_likelyAt_3 : decode cX12_likelyAt 3 = .ok (.istore 4, 2) := chk_nth ocX12_likelyAt_0 (k := 3) rfl
theorem dX12_likelyAt_5 : decode cX12_likelyAt 5 = .ok (.iload 4, 2) := chk_nth ocX12_likelyAt_0 (k := 4) rfl
theorem dX12_likelyAt_7 : decode cX12_likelyAt 7 = .ok (.bipush 20, 2) := chk_nth ocX12_likelyAt_0 (k := 5) rfl
theorem dX12_likelyAt_9 : decode cX12_likelyAt 9 = .ok (.if_icmp .ge 24, 3) := chk_nth ocX12_likelyAt_0 (k := 6) rfl
theorem dX12_likelyAt_12 : decode cX12_likelyAt 12 = .ok (.lload_n 2, 1) := chk_nth ocX12_likelyAt_0 (k := 7) rfl
theorem dX12_likelyAt_13 : decode cX12_likelyAt 13 = .ok (.aload_n 0, 1) := chk_nth ocX12_likelyAt_0 (k := 8) rfl
theorem dX12_likelyAt_14 : decode cX12_likelyAt 14 = .ok (.getfield 51, 3) := chk_nth ocX12_likelyAt_0 (k := 9) rfl
theorem dX12_likelyAt_17 : decode cX12_likelyAt 17 = .ok (.bipush 20, 2) := chk_nth ocX12_likelyAt_0 (k := 10) rfl
theorem dX12_likelyAt_19 : decode cX12_likelyAt 19 = .ok (.iload_n 1, 1) := chk_nth ocX12_likelyAt_0 (k := 11) rfl
theorem dX12_likelyAt_20 : decode cX12_likelyAt 20 = .ok (.imul, 1) := chk_nth ocX12_likelyAt_0 (k := 12) rfl
theorem dX12_likelyAt_21 : decode cX12_likelyAt 21 = .ok (.iload 4, 2) := chk_nth ocX12_likelyAt_0 (k := 13) rfl
theorem dX12_likelyAt_23 : decode cX12_likelyAt 23 = .ok (.iadd, 1) := chk_nth ocX12_likelyAt_0 (k := 14) rfl
theorem dX12_likelyAt_24 : decode cX12_likelyAt 24 = .ok (.laload, 1) := chk_nth ocX12_likelyAt_0 (k := 15) rfl
theorem dX12_likelyAt_25 : decode cX12_likelyAt 25 = .ok (.ladd, 1) := chk_nth ocX12_likelyAt_0 (k := 16) rfl
theorem dX12_likelyAt_26 : decode cX12_likelyAt 26 = .ok (.lstore_n 2, 1) := chk_nth ocX12_likelyAt_0 (k := 17) rfl
theorem dX12_likelyAt_27 : decode cX12_likelyAt 27 = .ok (.iinc 4 1, 3) := chk_nth ocX12_likelyAt_0 (k := 18) rfl
theorem dX12_likelyAt_30 : decode cX12_likelyAt 30 = .ok (.goto (-25), 3) := chk_nth ocX12_likelyAt_0 (k := 19) rfl
theorem dX12_likelyAt_33 : decode cX12_likelyAt 33 = .ok (.lload_n 2, 1) := chk_nth ocX12_likelyAt_0 (k := 20) rfl
theorem dX12_likelyAt_34 : decode cX12_likelyAt 34 = .ok (.lreturn, 1) := chk_nth ocX12_likelyAt_0 (k := 21) rfl
def tcX12_chance_0 : List (Instr × Nat) := [(.aload_n 0, 1), (.iconst 0, 1), (.putfield 1, 3), (.aload_n 0, 1), (.iload_n 1, 1), (.i2l, 1), (.invokevirtual 233, 3), (.ifCond .eq 23, 3), (.aload_n 0, 1), (.iload_n 2, 1), (.i2l, 1), (.invokevirtual 268, 3), (.ifCond .eq 14, 3), (.iload 4, 2), (.i2l, 1), (.lconst 0, 1), (.lconst 1, 1), (.invokestatic 142, 3), (.ifCond .ne 6, 3), (.bipush (-2), 2), (.ireturn, 1), (.iload_n 3, 1), (.i2l, 1), (.lconst 0, 1)]
theorem ocX12_chance_0 : chk (cX12_chance.data.toList.drop 0) tcX12_chance_0 = true := by decide +kernel
theorem dX12_chance_0 : decode cX12_chance 0 = .ok (.aload_n 0, 1) := chk_nth ocX12_chance_0 (k := 0) rfl
theorem dX12_chance_1 : decode cX12_chance 1 = .ok (.iconst 0, 1) := chk_nth ocX12_chance_0 (k := 1) rfl
theorem dX12_chance_2 : decode cX12_chance 2 = .ok (.putfield 1, 3) := chk_nth ocX12_chance_0 (k := 2) rfl
theorem dX12_chance_5 : decode cX12_chance 5 = .ok (.aload_n 0, 1) := chk_nth ocX12_chance_0 (k := 3) rfl
theorem dX12_chance_6 : decode cX12_chance 6 = .ok (.iload_n 1, 1) := chk_nth ocX12_chance_0 (k := 4) rfl
theorem dX12_chance_7 : decode cX12_chance 7 = .ok (.i2l, 1) := chk_nth ocX12_chance_0 (k := 5) rfl
theorem dX12_chance_8 : decode cX12_chance 8 = .ok (.invokevirtual 233, 3) := chk_nth ocX12_chance_0 (k := 6) rfl
theorem dX12_chance_11 : decode cX12_chance 11 = .ok (.ifCond .eq 23, 3) := chk_nth ocX12_chance_0 (k := 7) rfl
theorem dX12_chance_14 : decode cX12_chance 14 = .ok (.aload_n 0, 1) := chk_nth ocX12_chance_0 (k := 8) rfl
theorem dX12_chance_15 : decode cX12_chance 15 = .ok (.iload_n 2, 1) := chk_nth ocX12_chance_0 (k := 9) rfl
theorem dX12_chance_16 : decode cX12_chance 16 = .ok (.i2l, 1) := chk_nth ocX12_chance_0 (k := 10) rfl
theorem dX12_chance_17 : decode cX12_chance 17 = .ok (.invokevirtual 268, 3) := chk_nth ocX12_chance_0 (k := 11) rfl
theorem dX12_chance_20 : decode cX12_chance 20 = .ok (.ifCond .eq 14, 3) := chk_nth ocX12_chance_0 (k := 12) rfl
theorem dX12_chance_23 : decode cX12_chance 23 = .ok (.iload 4, 2) := chk_nth ocX12_chance_0 (k := 13) rfl
theorem dX12_chance_25 : decode cX12_chance 25 = .ok (.i2l, 1) := chk_nth ocX12_chance_0 (k := 14) rfl
theorem dX12_chance_26 : decode cX12_chance 26 = .ok (.lconst 0, 1) := chk_nth ocX12_chance_0 (k := 15) rfl
theorem dX12_chance_27 : decode cX12_chance 27 = .ok (.lconst 1, 1) := chk_nth ocX12_chance_0 (k := 16) rfl
theorem dX12_chance_28 : decode cX12_chance 28 = .ok (.invokestatic 142, 3) := chk_nth ocX12_chance_0 (k := 17) rfl
theorem dX12_chance_31 : decode cX12_chance 31 = .ok (.ifCond .ne 6, 3) := chk_nth ocX12_chance_0 (k := 18) rfl
theorem dX12_chance_34 : decode cX12_chance 34 = .ok (.bipush (-2), 2) := chk_nth ocX12_chance_0 (k := 19) rfl
theorem dX12_chance_36 : decode cX12_chance 36 = .ok (.ireturn, 1) := chk_nth ocX12_chance_0 (k := 20) rfl
theorem dX12_chance_37 : decode cX12_chance 37 = .ok (.iload_n 3, 1) := chk_nth ocX12_chance_0 (k := 21) rfl
theorem dX12_chance_38 : decode cX12_chance 38 = .ok (.i2l, 1) := chk_nth ocX12_chance_0 (k := 22) rfl
theorem dX12_chance_39 : decode cX12_chance 39 = .ok (.lconst 0, 1) := chk_nth ocX12_chance_0 (k := 23) rfl
def tcX12_chance_1 : List (Instr × Nat) := [(.ldc2_w 435, 3), (.invokestatic 142, 3), (.ifCond .ne 6, 3), (.bipush (-3), 2), (.ireturn, 1), (.aload_n 0, 1), (.iload_n 1, 1), (.iload_n 3, 1), (.invokevirtual 437, 3), (.istore 5, 2), (.aload_n 0, 1), (.iload_n 2, 1), (.invokevirtual 440, 3), (.iload 5, 2), (.iload 4, 2), (.invokestatic 444, 3), (.ireturn, 1)]
theorem ocX12_chance_1 : chk (cX12_chance.data.toList.drop 40) tcX12_chance_1 = true := by decide +kernel
theorem dX12_chance_40 : decode cX12_chance 40 = .ok (.ldc2_w 435, 3) := chk_nth ocX12_chance_1 (k := 0) rfl
theorem dX12_chance_43 : decode cX12_chance 43 = .ok (.invokestatic 142, 3) := chk_nth ocX12_chance_1 (k := 1) rfl
theorem dX12_chance_46 : decode cX12_chance 46 = .ok (.ifCond .ne 6, 3) := chk_nth ocX12_chance_1 (k := 2) rfl
theorem dX12_chance_49 : decode cX12_chance 49 = .ok (.bipush (-3), 2) := chk_nth ocX12_chance_1 (k := 3) rfl
theorem dX12_chance_51 : decode cX12_chance 51 = .ok (.ireturn, 1) := chk_nth ocX12_chance_1 (k := 4) rfl
theorem dX12_chance_52 : decode cX12_chance 52 = .ok (.aload_n 0, 1) := chk_nth ocX12_chance_1 (k := 5) rfl
theorem dX12_chance_53 : decode cX12_chance 53 = .ok (.iload_n 1, 1) := chk_nth ocX12_chance_1 (k := 6) rfl
theorem dX12_chance_54 : decode cX12_chance 54 = .ok (.iload_n 3, 1) := chk_nth ocX12_chance_1 (k := 7) rfl
theorem dX12_chance_55 : decode cX12_chance 55 = .ok (.invokevirtual 437, 3) := chk_nth ocX12_chance_1 (k := 8) rfl
theorem dX12_chance_58 : decode cX12_chance 58 = .ok (.istore 5, 2) := chk_nth ocX12_chance_1 (k := 9) rfl
theorem dX12_chance_60 : decode cX12_chance 60 = .ok (.aload_n 0, 1) := chk_nth ocX12_chance_1 (k := 10) rfl
theorem dX12_chance_61 : decode cX12_chance 61 = .ok (.iload_n 2, 1) := chk_nth ocX12_chance_1 (k := 11) rfl
theorem dX12_chance_62 : decode cX12_chance 62 = .ok (.invokevirtual 440, 3) := chk_nth ocX12_chance_1 (k := 12) rfl
theorem dX12_chance_65 : decode cX12_chance 65 = .ok (.iload 5, 2) := chk_nth ocX12_chance_1 (k := 13) rfl
theorem dX12_chance_67 : decode cX12_chance 67 = .ok (.iload 4, 2) := chk_nth ocX12_chance_1 (k := 14) rfl
theorem dX12_chance_69 : decode cX12_chance 69 = .ok (.invokestatic 444, 3) := chk_nth ocX12_chance_1 (k := 15) rfl
theorem dX12_chance_72 : decode cX12_chance 72 = .ok (.ireturn, 1) := chk_nth ocX12_chance_1 (k := 16) rfl
def tcX12_mean_0 : List (Instr × Nat) := [(.aload_n 0, 1), (.iconst 0, 1), (.putfield 1, 3), (.aload_n 0, 1), (.iload_n 1, 1), (.i2l, 1), (.invokevirtual 233, 3), (.ifCond .eq 13, 3), (.iload_n 3, 1), (.i2l, 1), (.lconst 0, 1), (.lconst 1, 1), (.invokestatic 142, 3), (.ifCond .ne 6, 3), (.bipush (-2), 2), (.ireturn, 1), (.iload_n 2, 1), (.i2l, 1), (.lconst 0, 1), (.ldc2_w 435, 3), (.invokestatic 142, 3), (.ifCond .ne 6, 3), (.bipush (-3), 2), (.ireturn, 1)]
theorem ocX12_mean_0 : chk (cX12_mean.data.toList.drop 0) tcX12_mean_0 = true := by decide +kernel
theorem dX12_mean_0 : decode cX12_mean 0 = .ok (.aload_n 0, 1) := chk_nth ocX12_mean_0 (k := 0) rfl
theorem dX12_mean_1 : decode cX12_mean 1 = .ok (.iconst 0, 1) := chk_nth ocX12_mean_0 (k := 1) rfl
theorem dX12_mean_2 : decode cX12_mean 2 = .ok (.putfield 1, 3) := chk_nth ocX12_mean_0 (k := 2) rfl
theorem dX12_mean_5 : decode cX12_mean 5 = .ok (.aload_n 0, 1) := chk_nth ocX12_mean_0 (k := 3) rfl
theorem dX12_mean_6 : decode cX12_mean 6 = .ok (.iload_n 1, 1) := chk_nth ocX12_mean_0 (k := 4) rfl
theorem dX12_mean_7 : decode cX12_mean 7 = .ok (.i2l, 1) := chk_nth ocX12_mean_0 (k := 5) rfl
theorem dX12_mean_8 : decode cX12_mean 8 = .ok (.invokevirtual 233, 3) := chk_nth ocX12_mean_0 (k := 6) rfl
theorem dX12_mean_11 : decode cX12_mean 11 = .ok (.ifCond .eq 13, 3) := chk_nth ocX12_mean_0 (k := 7) rfl
theorem dX12_mean_14 : decode cX12_mean 14 = .ok (.iload_n 3, 1) := chk_nth ocX12_mean_0 (k := 8) rfl
theorem dX12_mean_15 : decode cX12_mean 15 = .ok (.i2l, 1) := chk_nth ocX12_mean_0 (k := 9) rfl
theorem dX12_mean_16 : decode cX12_mean 16 = .ok (.lconst 0, 1) := chk_nth ocX12_mean_0 (k := 10) rfl
theorem dX12_mean_17 : decode cX12_mean 17 = .ok (.lconst 1, 1) := chk_nth ocX12_mean_0 (k := 11) rfl
theorem dX12_mean_18 : decode cX12_mean 18 = .ok (.invokestatic 142, 3) := chk_nth ocX12_mean_0 (k := 12) rfl
theorem dX12_mean_21 : decode cX12_mean 21 = .ok (.ifCond .ne 6, 3) := chk_nth ocX12_mean_0 (k := 13) rfl
theorem dX12_mean_24 : decode cX12_mean 24 = .ok (.bipush (-2), 2) := chk_nth ocX12_mean_0 (k := 14) rfl
theorem dX12_mean_26 : decode cX12_mean 26 = .ok (.ireturn, 1) := chk_nth ocX12_mean_0 (k := 15) rfl
theorem dX12_mean_27 : decode cX12_mean 27 = .ok (.iload_n 2, 1) := chk_nth ocX12_mean_0 (k := 16) rfl
theorem dX12_mean_28 : decode cX12_mean 28 = .ok (.i2l, 1) := chk_nth ocX12_mean_0 (k := 17) rfl
theorem dX12_mean_29 : decode cX12_mean 29 = .ok (.lconst 0, 1) := chk_nth ocX12_mean_0 (k := 18) rfl
theorem dX12_mean_30 : decode cX12_mean 30 = .ok (.ldc2_w 435, 3) := chk_nth ocX12_mean_0 (k := 19) rfl
theorem dX12_mean_33 : decode cX12_mean 33 = .ok (.invokestatic 142, 3) := chk_nth ocX12_mean_0 (k := 20) rfl
theorem dX12_mean_36 : decode cX12_mean 36 = .ok (.ifCond .ne 6, 3) := chk_nth ocX12_mean_0 (k := 21) rfl
theorem dX12_mean_39 : decode cX12_mean 39 = .ok (.bipush (-3), 2) := chk_nth ocX12_mean_0 (k := 22) rfl
theorem dX12_mean_41 : decode cX12_mean 41 = .ok (.ireturn, 1) := chk_nth ocX12_mean_0 (k := 23) rfl
def tcX12_mean_1 : List (Instr × Nat) := [(.aload_n 0, 1), (.iload_n 1, 1), (.iload_n 2, 1), (.invokevirtual 437, 3), (.istore 4, 2), (.lconst 0, 1), (.lstore 5, 2), (.iconst 0, 1), (.istore 7, 2), (.iload 7, 2), (.bipush 120, 2), (.if_icmp .ge 28, 3), (.lload 5, 2), (.aload_n 0, 1), (.getfield 51, 3), (.iload 7, 2), (.laload, 1), (.iload 7, 2), (.bipush 20, 2), (.irem, 1), (.i2l, 1), (.lmul, 1), (.ladd, 1), (.lstore 5, 2)]
theorem ocX12_mean_1 : chk (cX12_mean.data.toList.drop 42) tcX12_mean_1 = true := by decide +kernel
theorem dX12_mean_42 : decode cX12_mean 42 = .ok (.aload_n 0, 1) := chk_nth ocX12_mean_1 (k := 0) rfl
theorem dX12_mean_43 : decode cX12_mean 43 = .ok (.iload_n 1, 1) := chk_nth ocX12_mean_1 (k := 1) rfl
theorem dX12_mean_44 : decode cX12_mean 44 = .ok (.iload_n 2, 1) := chk_nth ocX12_mean_1 (k := 2) rfl
theorem dX12_mean_45 : decode cX12_mean 45 = .ok (.invokevirtual 437, 3) := chk_nth ocX12_mean_1 (k := 3) rfl
theorem dX12_mean_48 : decode cX12_mean 48 = .ok (.istore 4, 2) := chk_nth ocX12_mean_1 (k := 4) rfl
theorem dX12_mean_50 : decode cX12_mean 50 = .ok (.lconst 0, 1) := chk_nth ocX12_mean_1 (k := 5) rfl
theorem dX12_mean_51 : decode cX12_mean 51 = .ok (.lstore 5, 2) := chk_nth ocX12_mean_1 (k := 6) rfl
theorem dX12_mean_53 : decode cX12_mean 53 = .ok (.iconst 0, 1) := chk_nth ocX12_mean_1 (k := 7) rfl
theorem dX12_mean_54 : decode cX12_mean 54 = .ok (.istore 7, 2) := chk_nth ocX12_mean_1 (k := 8) rfl
theorem dX12_mean_56 : decode cX12_mean 56 = .ok (.iload 7, 2) := chk_nth ocX12_mean_1 (k := 9) rfl
theorem dX12_mean_58 : decode cX12_mean 58 = .ok (.bipush 120, 2) := chk_nth ocX12_mean_1 (k := 10) rfl
theorem dX12_mean_60 : decode cX12_mean 60 = .ok (.if_icmp .ge 28, 3) := chk_nth ocX12_mean_1 (k := 11) rfl
theorem dX12_mean_63 : decode cX12_mean 63 = .ok (.lload 5, 2) := chk_nth ocX12_mean_1 (k := 12) rfl
theorem dX12_mean_65 : decode cX12_mean 65 = .ok (.aload_n 0, 1) := chk_nth ocX12_mean_1 (k := 13) rfl
theorem dX12_mean_66 : decode cX12_mean 66 = .ok (.getfield 51, 3) := chk_nth ocX12_mean_1 (k := 14) rfl
theorem dX12_mean_69 : decode cX12_mean 69 = .ok (.iload 7, 2) := chk_nth ocX12_mean_1 (k := 15) rfl
theorem dX12_mean_71 : decode cX12_mean 71 = .ok (.laload, 1) := chk_nth ocX12_mean_1 (k := 16) rfl
theorem dX12_mean_72 : decode cX12_mean 72 = .ok (.iload 7, 2) := chk_nth ocX12_mean_1 (k := 17) rfl
theorem dX12_mean_74 : decode cX12_mean 74 = .ok (.bipush 20, 2) := chk_nth ocX12_mean_1 (k := 18) rfl
theorem dX12_mean_76 : decode cX12_mean 76 = .ok (.irem, 1) := chk_nth ocX12_mean_1 (k := 19) rfl
theorem dX12_mean_77 : decode cX12_mean 77 = .ok (.i2l, 1) := chk_nth ocX12_mean_1 (k := 20) rfl
theorem dX12_mean_78 : decode cX12_mean 78 = .ok (.lmul, 1) := chk_nth ocX12_mean_1 (k := 21) rfl
theorem dX12_mean_79 : decode cX12_mean 79 = .ok (.ladd, 1) := chk_nth ocX12_mean_1 (k := 22) rfl
theorem dX12_mean_80 : decode cX12_mean 80 = .ok (.lstore 5, 2) := chk_nth ocX12_mean_1 (k := 23) rfl
def tcX12_mean_2 : List (Instr × Nat) := [(.iinc 7 1, 3), (.goto (-29), 3), (.lload 5, 2), (.iload 4, 2), (.iload_n 3, 1), (.invokestatic 444, 3), (.ireturn, 1)]
theorem ocX12_mean_2 : chk (cX12_mean.data.toList.drop 82) tcX12_mean_2 = true := by decide +kernel
theorem dX12_mean_82 : decode cX12_mean 82 = .ok (.iinc 7 1, 3) := chk_nth ocX12_mean_2 (k := 0) rfl
theorem dX12_mean_85 : decode cX12_mean 85 = .ok (.goto (-29), 3) := chk_nth ocX12_mean_2 (k := 1) rfl
theorem dX12_mean_88 : decode cX12_mean 88 = .ok (.lload 5, 2) := chk_nth ocX12_mean_2 (k := 2) rfl
theorem dX12_mean_90 : decode cX12_mean 90 = .ok (.iload 4, 2) := chk_nth ocX12_mean_2 (k := 3) rfl
theorem dX12_mean_92 : decode cX12_mean 92 = .ok (.iload_n 3, 1) := chk_nth ocX12_mean_2 (k := 4) rfl
theorem dX12_mean_93 : decode cX12_mean 93 = .ok (.invokestatic 444, 3) := chk_nth ocX12_mean_2 (k := 5) rfl
theorem dX12_mean_96 : decode cX12_mean 96 = .ok (.ireturn, 1) := chk_nth ocX12_mean_2 (k := 6) rfl
def tcX12_likeliest_0 : List (Instr × Nat) := [(.aload_n 0, 1), (.iconst 0, 1), (.putfield 1, 3), (.aload_n 0, 1), (.iload_n 1, 1), (.i2l, 1), (.invokevirtual 233, 3), (.ifCond .ne 6, 3), (.bipush (-2), 2), (.ireturn, 1), (.iload_n 2, 1), (.i2l, 1), (.lconst 0, 1), (.ldc2_w 435, 3), (.invokestatic 142, 3), (.ifCond .ne 6, 3), (.bipush (-3), 2), (.ireturn, 1), (.aload_n 0, 1), (.iload_n 1, 1), (.iload_n 2, 1), (.invokevirtual 437, 3), (.pop, 1), (.iconst 0, 1)]
theorem ocX12_likeliest_0 : chk (cX12_likeliest.data.toList.drop 0) tcX12_likeliest_0 = true := by decide +kernel
theorem dX12_likeliest_0 : decode cX12_likeliest 0 = .ok (.aload_n 0, 1) := chk_nth ocX12_likeliest_0 (k := 0) rfl
theorem dX12_likeliest_1 : decode cX12_likeliest 1 = .ok (.iconst 0, 1) := chk_nth ocX12_likeliest_0 (k := 1) rfl
theorem dX12_likeliest_2 : decode cX12_likeliest 2 = .ok (.putfield 1, 3) := chk_nth ocX12_likeliest_0 (k := 2) rfl
theorem dX12_likeliest_5 : decode cX12_likeliest 5 = .ok (.aload_n 0, 1) := chk_nth ocX12_likeliest_0 (k := 3) rfl
theorem dX12_likeliest_6 : decode cX12_likeliest 6 = .ok (.iload_n 1, 1) := chk_nth ocX12_likeliest_0 (k := 4) rfl
theorem dX12_likeliest_7 : decode cX12_likeliest 7 = .ok (.i2l, 1) := chk_nth ocX12_likeliest_0 (k := 5) rfl
theorem dX12_likeliest_8 : decode cX12_likeliest 8 = .ok (.invokevirtual 233, 3) := chk_nth ocX12_likeliest_0 (k := 6) rfl
theorem dX12_likeliest_11 : decode cX12_likeliest 11 = .ok (.ifCond .ne 6, 3) := chk_nth ocX12_likeliest_0 (k := 7) rfl
theorem dX12_likeliest_14 : decode cX12_likeliest 14 = .ok (.bipush (-2), 2) := chk_nth ocX12_likeliest_0 (k := 8) rfl
theorem dX12_likeliest_16 : decode cX12_likeliest 16 = .ok (.ireturn, 1) := chk_nth ocX12_likeliest_0 (k := 9) rfl
theorem dX12_likeliest_17 : decode cX12_likeliest 17 = .ok (.iload_n 2, 1) := chk_nth ocX12_likeliest_0 (k := 10) rfl
theorem dX12_likeliest_18 : decode cX12_likeliest 18 = .ok (.i2l, 1) := chk_nth ocX12_likeliest_0 (k := 11) rfl
theorem dX12_likeliest_19 : decode cX12_likeliest 19 = .ok (.lconst 0, 1) := chk_nth ocX12_likeliest_0 (k := 12) rfl
theorem dX12_likeliest_20 : decode cX12_likeliest 20 = .ok (.ldc2_w 435, 3) := chk_nth ocX12_likeliest_0 (k := 13) rfl
theorem dX12_likeliest_23 : decode cX12_likeliest 23 = .ok (.invokestatic 142, 3) := chk_nth ocX12_likeliest_0 (k := 14) rfl
theorem dX12_likeliest_26 : decode cX12_likeliest 26 = .ok (.ifCond .ne 6, 3) := chk_nth ocX12_likeliest_0 (k := 15) rfl
theorem dX12_likeliest_29 : decode cX12_likeliest 29 = .ok (.bipush (-3), 2) := chk_nth ocX12_likeliest_0 (k := 16) rfl
theorem dX12_likeliest_31 : decode cX12_likeliest 31 = .ok (.ireturn, 1) := chk_nth ocX12_likeliest_0 (k := 17) rfl
theorem dX12_likeliest_32 : decode cX12_likeliest 32 = .ok (.aload_n 0, 1) := chk_nth ocX12_likeliest_0 (k := 18) rfl
theorem dX12_likeliest_33 : decode cX12_likeliest 33 = .ok (.iload_n 1, 1) := chk_nth ocX12_likeliest_0 (k := 19) rfl
theorem dX12_likeliest_34 : decode cX12_likeliest 34 = .ok (.iload_n 2, 1) := chk_nth ocX12_likeliest_0 (k := 20) rfl
theorem dX12_likeliest_35 : decode cX12_likeliest 35 = .ok (.invokevirtual 437, 3) := chk_nth ocX12_likeliest_0 (k := 21) rfl
theorem dX12_likeliest_38 : decode cX12_likeliest 38 = .ok (.pop, 1) := chk_nth ocX12_likeliest_0 (k := 22) rfl
theorem dX12_likeliest_39 : decode cX12_likeliest 39 = .ok (.iconst 0, 1) := chk_nth ocX12_likeliest_0 (k := 23) rfl
def tcX12_likeliest_1 : List (Instr × Nat) := [(.istore_n 3, 1), (.iconst 1, 1), (.istore 4, 2), (.iload 4, 2), (.aload_n 0, 1), (.getfield 13, 3), (.iconst 1, 1), (.iaload, 1), (.if_icmp .ge 27, 3), (.aload_n 0, 1), (.iload 4, 2), (.invokevirtual 440, 3), (.aload_n 0, 1), (.iload_n 3, 1), (.invokevirtual 440, 3), (.lcmp, 1), (.ifCond .le 6, 3), (.iload 4, 2), (.istore_n 3, 1), (.iinc 4 1, 3), (.goto (-32), 3), (.iload_n 3, 1), (.ireturn, 1)]
theorem ocX12_likeliest_1 : chk (cX12_likeliest.data.toList.drop 40) tcX12_likeliest_1 = true := by decide +kernel
theorem dX12_likeliest_40 : decode cX12_likeliest 40 = .ok (.istore_n 3, 1) := chk_nth ocX12_likeliest_1 (k := 0) rfl
theorem dX12_likeliest_41 : decode cX12_likeliest 41 = .ok (.iconst 1, 1) := chk_nth ocX12_likeliest_1 (k := 1) rfl
theorem dX12_likeliest_42 : decode cX12_likeliest 42 = .ok (.istore 4, 2) := chk_nth ocX12_likeliest_1 (k := 2) rfl
theorem dX12_likeliest_44 : decode cX12_likeliest 44 = .ok (.iload 4, 2) := chk_nth ocX12_likeliest_1 (k := 3) rfl
theorem dX12_likeliest_46 : decode cX12_likeliest 46 = .ok (.aload_n 0, 1) := chk_nth ocX12_likeliest_1 (k := 4) rfl
theorem dX12_likeliest_47 : decode cX12_likeliest 47 = .ok (.getfield 13, 3) := chk_nth ocX12_likeliest_1 (k := 5) rfl
theorem dX12_likeliest_50 : decode cX12_likeliest 50 = .ok (.iconst 1, 1) := chk_nth ocX12_likeliest_1 (k := 6) rfl
theorem dX12_likeliest_51 : decode cX12_likeliest 51 = .ok (.iaload, 1) := chk_nth ocX12_likeliest_1 (k := 7) rfl
theorem dX12_likeliest_52 : decode cX12_likeliest 52 = .ok (.if_icmp .ge 27, 3) := chk_nth ocX12_likeliest_1 (k := 8) rfl
theorem dX12_likeliest_55 : decode cX12_likeliest 55 = .ok (.aload_n 0, 1) := chk_nth ocX12_likeliest_1 (k := 9) rfl
theorem dX12_likeliest_56 : decode cX12_likeliest 56 = .ok (.iload 4, 2) := chk_nth ocX12_likeliest_1 (k := 10) rfl
theorem dX12_likeliest_58 : decode cX12_likeliest 58 = .ok (.invokevirtual 440, 3) := chk_nth ocX12_likeliest_1 (k := 11) rfl
theorem dX12_likeliest_61 : decode cX12_likeliest 61 = .ok (.aload_n 0, 1) := chk_nth ocX12_likeliest_1 (k := 12) rfl
theorem dX12_likeliest_62 : decode cX12_likeliest 62 = .ok (.iload_n 3, 1) := chk_nth ocX12_likeliest_1 (k := 13) rfl
theorem dX12_likeliest_63 : decode cX12_likeliest 63 = .ok (.invokevirtual 440, 3) := chk_nth ocX12_likeliest_1 (k := 14) rfl
theorem dX12_likeliest_66 : decode cX12_likeliest 66 = .ok (.lcmp, 1) := chk_nth ocX12_likeliest_1 (k := 15) rfl
theorem dX12_likeliest_67 : decode cX12_likeliest 67 = .ok (.ifCond .le 6, 3) := chk_nth ocX12_likeliest_1 (k := 16) rfl
theorem dX12_likeliest_70 : decode cX12_likeliest 70 = .ok (.iload 4, 2) := chk_nth ocX12_likeliest_1 (k := 17) rfl
theorem dX12_likeliest_72 : decode cX12_likeliest 72 = .ok (.istore_n 3, 1) := chk_nth ocX12_likeliest_1 (k := 18) rfl
theorem dX12_likeliest_73 : decode cX12_likeliest 73 = .ok (.iinc 4 1, 3) := chk_nth ocX12_likeliest_1 (k := 19) rfl
theorem dX12_likeliest_76 : decode cX12_likeliest 76 = .ok (.goto (-32), 3) := chk_nth ocX12_likeliest_1 (k := 20) rfl
theorem dX12_likeliest_79 : decode cX12_likeliest 79 = .ok (.iload_n 3, 1) := chk_nth ocX12_likeliest_1 (k := 21) rfl
theorem dX12_likeliest_80 : decode cX12_likeliest 80 = .ok (.ireturn, 1) := chk_nth ocX12_likeliest_1 (k := 22) rfl
def tcX12_cut_0 : List (Instr × Nat) := [(.iload_n 2, 1), (.ifCond .ne 10, 3), (.lload_n 0, 1), (.l2i, 1), (.i2b, 1), (.i2l, 1), (.goto 27, 3), (.iload_n 2, 1), (.iconst 1, 1), (.if_icmp .ne 10, 3), (.lload_n 0, 1), (.l2i, 1), (.i2s, 1), (.i2l, 1), (.goto 15, 3), (.iload_n 2, 1), (.iconst 2, 1), (.if_icmp .ne 9, 3), (.lload_n 0, 1), (.l2i, 1), (.i2l, 1), (.goto 4, 3), (.lload_n 0, 1), (.lreturn, 1)]
theorem ocX12_cut_0 : chk (cX12_cut.data.toList.drop 0) tcX12_cut_0 = true := by decide +kernel
theorem dX12_cut_0 : decode cX12_cut 0 = .ok (.iload_n 2, 1) := chk_nth ocX12_cut_0 (k := 0) rfl
theorem dX12_cut_1 : decode cX12_cut 1 = .ok (.ifCond .ne 10, 3) := chk_nth ocX12_cut_0 (k := 1) rfl
theorem dX12_cut_4 : decode cX12_cut 4 = .ok (.lload_n 0, 1) := chk_nth ocX12_cut_0 (k := 2) rfl
theorem dX12_cut_5 : decode cX12_cut 5 = .ok (.l2i, 1) := chk_nth ocX12_cut_0 (k := 3) rfl
theorem dX12_cut_6 : decode cX12_cut 6 = .ok (.i2b, 1) := chk_nth ocX12_cut_0 (k := 4) rfl
theorem dX12_cut_7 : decode cX12_cut 7 = .ok (.i2l, 1) := chk_nth ocX12_cut_0 (k := 5) rfl
theorem dX12_cut_8 : decode cX12_cut 8 = .ok (.goto 27, 3) := chk_nth ocX12_cut_0 (k := 6) rfl
theorem dX12_cut_11 : decode cX12_cut 11 = .ok (.iload_n 2, 1) := chk_nth ocX12_cut_0 (k := 7) rfl
theorem dX12_cut_12 : decode cX12_cut 12 = .ok (.iconst 1, 1) := chk_nth ocX12_cut_0 (k := 8) rfl
theorem dX12_cut_13 : decode cX12_cut 13 = .ok (.if_icmp .ne 10, 3) := chk_nth ocX12_cut_0 (k := 9) rfl
theorem dX12_cut_16 : decode cX12_cut 16 = .ok (.lload_n 0, 1) := chk_nth ocX12_cut_0 (k := 10) rfl
theorem dX12_cut_17 : decode cX12_cut 17 = .ok (.l2i, 1) := chk_nth ocX12_cut_0 (k := 11) rfl
theorem dX12_cut_18 : decode cX12_cut 18 = .ok (.i2s, 1) := chk_nth ocX12_cut_0 (k := 12) rfl
theorem dX12_cut_19 : decode cX12_cut 19 = .ok (.i2l, 1) := chk_nth ocX12_cut_0 (k := 13) rfl
theorem dX12_cut_20 : decode cX12_cut 20 = .ok (.goto 15, 3) := chk_nth ocX12_cut_0 (k := 14) rfl
theorem dX12_cut_23 : decode cX12_cut 23 = .ok (.iload_n 2, 1) := chk_nth ocX12_cut_0 (k := 15) rfl
theorem dX12_cut_24 : decode cX12_cut 24 = .ok (.iconst 2, 1) := chk_nth ocX12_cut_0 (k := 16) rfl
theorem dX12_cut_25 : decode cX12_cut 25 = .ok (.if_icmp .ne 9, 3) := chk_nth ocX12_cut_0 (k := 17) rfl
theorem dX12_cut_28 : decode cX12_cut 28 = .ok (.lload_n 0, 1) := chk_nth ocX12_cut_0 (k := 18) rfl
theorem dX12_cut_29 : decode cX12_cut 29 = .ok (.l2i, 1) := chk_nth ocX12_cut_0 (k := 19) rfl
theorem dX12_cut_30 : decode cX12_cut 30 = .ok (.i2l, 1) := chk_nth ocX12_cut_0 (k := 20) rfl
theorem dX12_cut_31 : decode cX12_cut 31 = .ok (.goto 4, 3) := chk_nth ocX12_cut_0 (k := 21) rfl
theorem dX12_cut_34 : decode cX12_cut 34 = .ok (.lload_n 0, 1) := chk_nth ocX12_cut_0 (k := 22) rfl
theorem dX12_cut_35 : decode cX12_cut 35 = .ok (.lreturn, 1) := chk_nth ocX12_cut_0 (k := 23) rfl
def tcX12_numbers_0 : List (Instr × Nat) := [(.aload_n 0, 1), (.iconst 0, 1), (.putfield 1, 3), (.iload_n 1, 1), (.i2l, 1), (.lconst 0, 1), (.ldc2_w 264, 3), (.invokestatic 142, 3), (.ifCond .eq 15, 3), (.iload_n 2, 1), (.i2l, 1), (.lconst 0, 1), (.ldc2_w 264, 3), (.invokestatic 142, 3), (.ifCond .ne 6, 3), (.bipush (-2), 2), (.ireturn, 1), (.iload_n 3, 1), (.i2l, 1), (.lconst 0, 1), (.ldc2_w 319, 3), (.invokestatic 142, 3), (.ifCond .ne 6, 3), (.bipush (-3), 2)]
theorem ocX12_numbers_0 : chk (cX12_numbers.data.toList.drop 0) tcX12_numbers_0 = true := by decide +kernel
theorem dX12_numbers_0 : decode cX12_numbers 0 = .ok (.aload_n 0, 1) := chk_nth ocX12_numbers_0 (k := 0) rfl
theorem dX12_numbers_1 : decode cX12_numbers 1 = .ok (.iconst 0, 1) := chk_nth ocX12_numbers_0 (k := 1) rfl
theorem dX12_numbers_2 : decode cX12_numbers 2 = .ok (.putfield 1, 3) := chk_nth ocX12_numbers_0 (k := 2) rfl
theorem dX12_numbers_5 : decode cX12_numbers 5 = .ok (.iload_n 1, 1) := chk_nth ocX12_numbers_0 (k := 3) rfl
theorem dX12_numbers_6 : decode cX12_numbers 6 = .ok (.i2l, 1) := chk_nth ocX12_numbers_0 (k := 4) rfl
theorem dX12_numbers_7 : decode cX12_numbers 7 = .ok (.lconst 0, 1) := chk_nth ocX12_numbers_0 (k := 5) rfl
theorem dX12_numbers_8 : decode cX12_numbers 8 = .ok (.ldc2_w 264, 3) := chk_nth ocX12_numbers_0 (k := 6) rfl
theorem dX12_numbers_11 : decode cX12_numbers 11 = .ok (.invokestatic 142, 3) := chk_nth ocX12_numbers_0 (k := 7) rfl
theorem dX12_numbers_14 : decode cX12_numbers 14 = .ok (.ifCond .eq 15, 3) := chk_nth ocX12_numbers_0 (k := 8) rfl
theorem dX12_numbers_17 : decode cX12_numbers 17 = .ok (.iload_n 2, 1) := chk_nth ocX12_numbers_0 (k := 9) rfl
theorem dX12_numbers_18 : decode cX12_numbers 18 = .ok (.i2l, 1) := chk_nth ocX12_numbers_0 (k := 10) rfl
theorem dX12_numbers_19 : decode cX12_numbers 19 = .ok (.lconst 0, 1) := chk_nth ocX12_numbers_0 (k := 11) rfl
theorem dX12_numbers_20 : decode cX12_numbers 20 = .ok (.ldc2_w 264, 3) := chk_nth ocX12_numbers_0 (k := 12) rfl
theorem dX12_numbers_23 : decode cX12_numbers 23 = .ok (.invokestatic 142, 3) := chk_nth ocX12_numbers_0 (k := 13) rfl
theorem dX12_numbers_26 : decode cX12_numbers 26 = .ok (.ifCond .ne 6, 3) := chk_nth ocX12_numbers_0 (k := 14) rfl
theorem dX12_numbers_29 : decode cX12_numbers 29 = .ok (.bipush (-2), 2) := chk_nth ocX12_numbers_0 (k := 15) rfl
theorem dX12_numbers_31 : decode cX12_numbers 31 = .ok (.ireturn, 1) := chk_nth ocX12_numbers_0 (k := 16) rfl
theorem dX12_numbers_32 : decode cX12_numbers 32 = .ok (.iload_n 3, 1) := chk_nth ocX12_numbers_0 (k := 17) rfl
theorem dX12_numbers_33 : decode cX12_numbers 33 = .ok (.i2l, 1) := chk_nth ocX12_numbers_0 (k := 18) rfl
theorem dX12_numbers_34 : decode cX12_numbers 34 = .ok (.lconst 0, 1) := chk_nth ocX12_numbers_0 (k := 19) rfl
theorem dX12_numbers_35 : decode cX12_numbers 35 = .ok (.ldc2_w 319, 3) := chk_nth ocX12_numbers_0 (k := 20) rfl
theorem dX12_numbers_38 : decode cX12_numbers 38 = .ok (.invokestatic 142, 3) := chk_nth ocX12_numbers_0 (k := 21) rfl
theorem dX12_numbers_41 : decode cX12_numbers 41 = .ok (.ifCond .ne 6, 3) := chk_nth ocX12_numbers_0 (k := 22) rfl
theorem dX12_numbers_44 : decode cX12_numbers 44 = .ok (.bipush (-3), 2) := chk_nth ocX12_numbers_0 (k := 23) rfl
def tcX12_numbers_1 : List (Instr × Nat) := [(.ireturn, 1), (.aload_n 0, 1), (.getfield 67, 3), (.iload_n 1, 1), (.iload_n 2, 1), (.iastore, 1), (.aload_n 0, 1), (.getfield 70, 3), (.iload_n 1, 1), (.iload_n 3, 1), (.iastore, 1), (.iconst 0, 1), (.istore 4, 2), (.iload 4, 2), (.iload_n 3, 1), (.if_icmp .ge 22, 3), (.aload_n 0, 1), (.getfield 73, 3), (.bipush 40, 2), (.iload_n 1, 1), (.imul, 1), (.iload 4, 2), (.iadd, 1), (.lconst 0, 1)]
theorem ocX12_numbers_1 : chk (cX12_numbers.data.toList.drop 46) tcX12_numbers_1 = true := by decide +kernel
theorem dX12_numbers_46 : decode cX12_numbers 46 = .ok (.ireturn, 1) := chk_nth ocX12_numbers_1 (k := 0) rfl
theorem dX12_numbers_47 : decode cX12_numbers 47 = .ok (.aload_n 0, 1) := chk_nth ocX12_numbers_1 (k := 1) rfl
theorem dX12_numbers_48 : decode cX12_numbers 48 = .ok (.getfield 67, 3) := chk_nth ocX12_numbers_1 (k := 2) rfl
theorem dX12_numbers_51 : decode cX12_numbers 51 = .ok (.iload_n 1, 1) := chk_nth ocX12_numbers_1 (k := 3) rfl
theorem dX12_numbers_52 : decode cX12_numbers 52 = .ok (.iload_n 2, 1) := chk_nth ocX12_numbers_1 (k := 4) rfl
theorem dX12_numbers_53 : decode cX12_numbers 53 = .ok (.iastore, 1) := chk_nth ocX12_numbers_1 (k := 5) rfl
theorem dX12_numbers_54 : decode cX12_numbers 54 = .ok (.aload_n 0, 1) := chk_nth ocX12_numbers_1 (k := 6) rfl
theorem dX12_numbers_55 : decode cX12_numbers 55 = .ok (.getfield 70, 3) := chk_nth ocX12_numbers_1 (k := 7) rfl
theorem dX12_numbers_58 : decode cX12_numbers 58 = .ok (.iload_n 1, 1) := chk_nth ocX12_numbers_1 (k := 8) rfl
theorem dX12_numbers_59 : decode cX12_numbers 59 = .ok (.iload_n 3, 1) := chk_nth ocX12_numbers_1 (k := 9) rfl
theorem dX12_numbers_60 : decode cX12_numbers 60 = .ok (.iastore, 1) := chk_nth ocX12_numbers_1 (k := 10) rfl
theorem dX12_numbers_61 : decode cX12_numbers 61 = .ok (.iconst 0, 1) := chk_nth ocX12_numbers_1 (k := 11) rfl
theorem dX12_numbers_62 : decode cX12_numbers 62 = .ok (.istore 4, 2) := chk_nth ocX12_numbers_1 (k := 12) rfl
theorem dX12_numbers_64 : decode cX12_numbers 64 = .ok (.iload 4, 2) := chk_nth ocX12_numbers_1 (k := 13) rfl
theorem dX12_numbers_66 : decode cX12_numbers 66 = .ok (.iload_n 3, 1) := chk_nth ocX12_numbers_1 (k := 14) rfl
theorem dX12_numbers_67 : decode cX12_numbers 67 = .ok (.if_icmp .ge 22, 3) := chk_nth ocX12_numbers_1 (k := 15) rfl
theorem dX12_numbers_70 : decode cX12_numbers 70 = .ok (.aload_n 0, 1) := chk_nth ocX12_numbers_1 (k := 16) rfl
theorem dX12_numbers_71 : decode cX12_numbers 71 = .ok (.getfield 73, 3) := chk_nth ocX12_numbers_1 (k := 17) rfl
theorem dX12_numbers_74 : decode cX12_numbers 74 = .ok (.bipush 40, 2) := chk_nth ocX12_numbers_1 (k := 18) rfl
theorem dX12_numbers_76 : decode cX12_numbers 76 = .ok (.iload_n 1, 1) := chk_nth ocX12_numbers_1 (k := 19) rfl
theorem dX12_numbers_77 : decode cX12_numbers 77 = .ok (.imul, 1) := chk_nth ocX12_numbers_1 (k := 20) rfl
theorem dX12_numbers_78 : decode cX12_numbers 78 = .ok (.iload 4, 2) := chk_nth ocX12_numbers_1 (k := 21) rfl
theorem dX12_numbers_80 : decode cX12_numbers 80 = .ok (.iadd, 1) := chk_nth ocX12_numbers_1 (k := 22) rfl
theorem dX12_numbers_81 : decode cX12_numbers 81 = .ok (.lconst 0, 1) := chk_nth ocX12_numbers_1 (k := 23) rfl
def tcX12_numbers_2 : List (Instr × Nat) := [(.lastore, 1), (.iinc 4 1, 3), (.goto (-22), 3), (.iconst 0, 1), (.ireturn, 1)]
theorem ocX12_numbers_2 : chk (cX12_numbers.data.toList.drop 82) tcX12_numbers_2 = true := by decide +kernel
theorem dX12_numbers_82 : decode cX12_numbers 82 = .ok (.lastore, 1) := chk_nth ocX12_numbers_2 (k := 0) rfl
theorem dX12_numbers_83 : decode cX12_numbers 83 = .ok (.iinc 4 1, 3) := chk_nth ocX12_numbers_2 (k := 1) rfl
theorem dX12_numbers_86 : decode cX12_numbers 86 = .ok (.goto (-22), 3) := chk_nth ocX12_numbers_2 (k := 2) rfl
theorem dX12_numbers_89 : decode cX12_numbers 89 = .ok (.iconst 0, 1) := chk_nth ocX12_numbers_2 (k := 3) rfl
theorem dX12_numbers_90 : decode cX12_numbers 90 = .ok (.ireturn, 1) := chk_nth ocX12_numbers_2 (k := 4) rfl
def tcX12_write_0 : List (Instr × Nat) := [(.aload_n 0, 1), (.iconst 0, 1), (.putfield 1, 3), (.aload_n 0, 1), (.iload_n 1, 1), (.invokevirtual 297, 3), (.istore 5, 2), (.iload 5, 2), (.ifCond .eq 7, 3), (.iload 5, 2), (.i2l, 1), (.lreturn, 1), (.iload_n 2, 1), (.i2l, 1), (.lconst 0, 1), (.aload_n 0, 1), (.getfield 70, 3), (.iload_n 1, 1), (.iaload, 1), (.iconst 1, 1), (.isub, 1), (.i2l, 1), (.invokestatic 142, 3), (.ifCond .ne 7, 3)]
theorem ocX12_write_0 : chk (cX12_write.data.toList.drop 0) tcX12_write_0 = true := by decide +kernel
theorem dX12_write_0 : decode cX12_write 0 = .ok (.aload_n 0, 1) := chk_nth ocX12_write_0 (k := 0) rfl
theorem dX12_write_1 : decode cX12_write 1 = .ok (.iconst 0, 1) := chk_nth ocX12_write_0 (k := 1) rfl
theorem dX12_write_2 : decode cX12_write 2 = .ok (.putfield 1, 3) := chk_nth ocX12_write_0 (k := 2) rfl
theorem dX12_write_5 : decode cX12_write 5 = .ok (.aload_n 0, 1) := chk_nth ocX12_write_0 (k := 3) rfl
theorem dX12_write_6 : decode cX12_write 6 = .ok (.iload_n 1, 1) := chk_nth ocX12_write_0 (k := 4) rfl
theorem dX12_write_7 : decode cX12_write 7 = .ok (.invokevirtual 297, 3) := chk_nth ocX12_write_0 (k := 5) rfl
theorem dX12_write_10 : decode cX12_write 10 = .ok (.istore 5, 2) := chk_nth ocX12_write_0 (k := 6) rfl
theorem dX12_write_12 : decode cX12_write 12 = .ok (.iload 5, 2) := chk_nth ocX12_write_0 (k := 7) rfl
theorem dX12_write_14 : decode cX12_write 14 = .ok (.ifCond .eq 7, 3) := chk_nth ocX12_write_0 (k := 8) rfl
theorem dX12_write_17 : decode cX12_write 17 = .ok (.iload 5, 2) := chk_nth ocX12_write_0 (k := 9) rfl
theorem dX12_write_19 : decode cX12_write 19 = .ok (.i2l, 1) := chk_nth ocX12_write_0 (k := 10) rfl
theorem dX12_write_20 : decode cX12_write 20 = .ok (.lreturn, 1) := chk_nth ocX12_write_0 (k := 11) rfl
theorem dX12_write_21 : decode cX12_write 21 = .ok (.iload_n 2, 1) := chk_nth ocX12_write_0 (k := 12) rfl
theorem dX12_write_22 : decode cX12_write 22 = .ok (.i2l, 1) := chk_nth ocX12_write_0 (k := 13) rfl
theorem dX12_write_23 : decode cX12_write 23 = .ok (.lconst 0, 1) := chk_nth ocX12_write_0 (k := 14) rfl
theorem dX12_write_24 : decode cX12_write 24 = .ok (.aload_n 0, 1) := chk_nth ocX12_write_0 (k := 15) rfl
theorem dX12_write_25 : decode cX12_write 25 = .ok (.getfield 70, 3) := chk_nth ocX12_write_0 (k := 16) rfl
theorem dX12_write_28 : decode cX12_write 28 = .ok (.iload_n 1, 1) := chk_nth ocX12_write_0 (k := 17) rfl
theorem dX12_write_29 : decode cX12_write 29 = .ok (.iaload, 1) := chk_nth ocX12_write_0 (k := 18) rfl
theorem dX12_write_30 : decode cX12_write 30 = .ok (.iconst 1, 1) := chk_nth ocX12_write_0 (k := 19) rfl
theorem dX12_write_31 : decode cX12_write 31 = .ok (.isub, 1) := chk_nth ocX12_write_0 (k := 20) rfl
theorem dX12_write_32 : decode cX12_write 32 = .ok (.i2l, 1) := chk_nth ocX12_write_0 (k := 21) rfl
theorem dX12_write_33 : decode cX12_write 33 = .ok (.invokestatic 142, 3) := chk_nth ocX12_write_0 (k := 22) rfl
theorem dX12_write_36 : decode cX12_write 36 = .ok (.ifCond .ne 7, 3) := chk_nth ocX12_write_0 (k := 23) rfl
def tcX12_write_1 : List (Instr × Nat) := [(.ldc2_w 448, 3), (.lreturn, 1), (.aload_n 0, 1), (.getfield 73, 3), (.bipush 40, 2), (.iload_n 1, 1), (.imul, 1), (.iload_n 2, 1), (.iadd, 1), (.lload_n 3, 1), (.aload_n 0, 1), (.getfield 67, 3), (.iload_n 1, 1), (.iaload, 1), (.invokestatic 450, 3), (.lastore, 1), (.aload_n 0, 1), (.getfield 73, 3), (.bipush 40, 2), (.iload_n 1, 1), (.imul, 1), (.iload_n 2, 1), (.iadd, 1), (.laload, 1)]
theorem ocX12_write_1 : chk (cX12_write.data.toList.drop 39) tcX12_write_1 = true := by decide +kernel
theorem dX12_write_39 : decode cX12_write 39 = .ok (.ldc2_w 448, 3) := chk_nth ocX12_write_1 (k := 0) rfl
theorem dX12_write_42 : decode cX12_write 42 = .ok (.lreturn, 1) := chk_nth ocX12_write_1 (k := 1) rfl
theorem dX12_write_43 : decode cX12_write 43 = .ok (.aload_n 0, 1) := chk_nth ocX12_write_1 (k := 2) rfl
theorem dX12_write_44 : decode cX12_write 44 = .ok (.getfield 73, 3) := chk_nth ocX12_write_1 (k := 3) rfl
theorem dX12_write_47 : decode cX12_write 47 = .ok (.bipush 40, 2) := chk_nth ocX12_write_1 (k := 4) rfl
theorem dX12_write_49 : decode cX12_write 49 = .ok (.iload_n 1, 1) := chk_nth ocX12_write_1 (k := 5) rfl
theorem dX12_write_50 : decode cX12_write 50 = .ok (.imul, 1) := chk_nth ocX12_write_1 (k := 6) rfl
theorem dX12_write_51 : decode cX12_write 51 = .ok (.iload_n 2, 1) := chk_nth ocX12_write_1 (k := 7) rfl
theorem dX12_write_52 : decode cX12_write 52 = .ok (.iadd, 1) := chk_nth ocX12_write_1 (k := 8) rfl
theorem dX12_write_53 : decode cX12_write 53 = .ok (.lload_n 3, 1) := chk_nth ocX12_write_1 (k := 9) rfl
theorem dX12_write_54 : decode cX12_write 54 = .ok (.aload_n 0, 1) := chk_nth ocX12_write_1 (k := 10) rfl
theorem dX12_write_55 : decode cX12_write 55 = .ok (.getfield 67, 3) := chk_nth ocX12_write_1 (k := 11) rfl
theorem dX12_write_58 : decode cX12_write 58 = .ok (.iload_n 1, 1) := chk_nth ocX12_write_1 (k := 12) rfl
theorem dX12_write_59 : decode cX12_write 59 = .ok (.iaload, 1) := chk_nth ocX12_write_1 (k := 13) rfl
theorem dX12_write_60 : decode cX12_write 60 = .ok (.invokestatic 450, 3) := chk_nth ocX12_write_1 (k := 14) rfl
theorem dX12_write_63 : decode cX12_write 63 = .ok (.lastore, 1) := chk_nth ocX12_write_1 (k := 15) rfl
theorem dX12_write_64 : decode cX12_write 64 = .ok (.aload_n 0, 1) := chk_nth ocX12_write_1 (k := 16) rfl
theorem dX12_write_65 : decode cX12_write 65 = .ok (.getfield 73, 3) := chk_nth ocX12_write_1 (k := 17) rfl
theorem dX12_write_68 : decode cX12_write 68 = .ok (.bipush 40, 2) := chk_nth ocX12_write_1 (k := 18) rfl
theorem dX12_write_70 : decode cX12_write 70 = .ok (.iload_n 1, 1) := chk_nth ocX12_write_1 (k := 19) rfl
theorem dX12_write_71 : decode cX12_write 71 = .ok (.imul, 1) := chk_nth ocX12_write_1 (k := 20) rfl
theorem dX12_write_72 : decode cX12_write 72 = .ok (.iload_n 2, 1) := chk_nth ocX12_write_1 (k := 21) rfl
theorem dX12_write_73 : decode cX12_write 73 = .ok (.iadd, 1) := chk_nth ocX12_write_1 (k := 22) rfl
theorem dX12_write_74 : decode cX12_write 74 = .ok (.laload, 1) := chk_nth ocX12_write_1 (k := 23) rfl
def tcX12_write_2 : List (Instr × Nat) := [(.lreturn, 1)]
theorem ocX12_write_2 : chk (cX12_write.data.toList.drop 75) tcX12_write_2 = true := by decide +kernel
theorem dX12_write_75 : decode cX12_write 75 = .ok (.lreturn, 1) := chk_nth ocX12_write_2 (k := 0) rfl
def tcX12_lists_0 : List (Instr × Nat) := [(.aload_n 0, 1), (.iconst 0, 1), (.putfield 1, 3), (.iload_n 1, 1), (.i2l, 1), (.lconst 0, 1), (.ldc2_w 264, 3), (.invokestatic 142, 3), (.ifCond .eq 21, 3), (.aload_n 0, 1), (.iload_n 2, 1), (.i2l, 1), (.invokevirtual 233, 3), (.ifCond .eq 12, 3), (.aload_n 0, 1), (.iload_n 3, 1), (.i2l, 1), (.invokevirtual 268, 3), (.ifCond .ne 6, 3), (.bipush (-2), 2), (.ireturn, 1), (.aload_n 0, 1), (.iload_n 1, 1), (.invokevirtual 297, 3)]
theorem ocX12_lists_0 : chk (cX12_lists.data.toList.drop 0) tcX12_lists_0 = true := by decide +kernel
theorem dX12_lists_0 : decode cX12_lists 0 = .ok (.aload_n 0, 1) := chk_nth ocX12_lists_0 (k := 0) rfl
theorem dX12_lists_1 : decode cX12_lists 1 = .ok (.iconst 0, 1) := chk_nth ocX12_lists_0 (k := 1) rfl
theorem dX12_lists_2 : decode cX12_lists 2 = .ok (.putfield 1, 3) := chk_nth ocX12_lists_0 (k := 2) rfl
theorem dX12_lists_5 : decode cX12_lists 5 = .ok (.iload_n 1, 1) := chk_nth ocX12_lists_0 (k := 3) rfl
theorem dX12_lists_6 : decode cX12_lists 6 = .ok (.i2l, 1) := chk_nth ocX12_lists_0 (k := 4) rfl
theorem dX12_lists_7 : decode cX12_lists 7 = .ok (.lconst 0, 1) := chk_nth ocX12_lists_0 (k := 5) rfl
theorem dX12_lists_8 : decode cX12_lists 8 = .ok (.ldc2_w 264, 3) := chk_nth ocX12_lists_0 (k := 6) rfl
theorem dX12_lists_11 : decode cX12_lists 11 = .ok (.invokestatic 142, 3) := chk_nth ocX12_lists_0 (k := 7) rfl
theorem dX12_lists_14 : decode cX12_lists 14 = .ok (.ifCond .eq 21, 3) := chk_nth ocX12_lists_0 (k := 8) rfl
theorem dX12_lists_17 : decode cX12_lists 17 = .ok (.aload_n 0, 1) := chk_nth ocX12_lists_0 (k := 9) rfl
theorem dX12_lists_18 : decode cX12_lists 18 = .ok (.iload_n 2, 1) := chk_nth ocX12_lists_0 (k := 10) rfl
theorem dX12_lists_19 : decode cX12_lists 19 = .ok (.i2l, 1) := chk_nth ocX12_lists_0 (k := 11) rfl
theorem dX12_lists_20 : decode cX12_lists 20 = .ok (.invokevirtual 233, 3) := chk_nth ocX12_lists_0 (k := 12) rfl
theorem dX12_lists_23 : decode cX12_lists 23 = .ok (.ifCond .eq 12, 3) := chk_nth ocX12_lists_0 (k := 13) rfl
theorem dX12_lists_26 : decode cX12_lists 26 = .ok (.aload_n 0, 1) := chk_nth ocX12_lists_0 (k := 14) rfl
theorem dX12_lists_27 : decode cX12_lists 27 = .ok (.iload_n 3, 1) := chk_nth ocX12_lists_0 (k := 15) rfl
theorem dX12_lists_28 : decode cX12_lists 28 = .ok (.i2l, 1) := chk_nth ocX12_lists_0 (k := 16) rfl
theorem dX12_lists_29 : decode cX12_lists 29 = .ok (.invokevirtual 268, 3) := chk_nth ocX12_lists_0 (k := 17) rfl
theorem dX12_lists_32 : decode cX12_lists 32 = .ok (.ifCond .ne 6, 3) := chk_nth ocX12_lists_0 (k := 18) rfl
theorem dX12_lists_35 : decode cX12_lists 35 = .ok (.bipush (-2), 2) := chk_nth ocX12_lists_0 (k := 19) rfl
theorem dX12_lists_37 : decode cX12_lists 37 = .ok (.ireturn, 1) := chk_nth ocX12_lists_0 (k := 20) rfl
theorem dX12_lists_38 : decode cX12_lists 38 = .ok (.aload_n 0, 1) := chk_nth ocX12_lists_0 (k := 21) rfl
theorem dX12_lists_39 : decode cX12_lists 39 = .ok (.iload_n 1, 1) := chk_nth ocX12_lists_0 (k := 22) rfl
theorem dX12_lists_40 : decode cX12_lists 40 = .ok (.invokevirtual 297, 3) := chk_nth ocX12_lists_0 (k := 23) rfl
def tcX12_lists_1 : List (Instr × Nat) := [(.istore 5, 2), (.iload 5, 2), (.ifCond .eq 6, 3), (.iload 5, 2), (.ireturn, 1), (.aload_n 0, 1), (.iload_n 2, 1), (.iload_n 3, 1), (.iload 4, 2), (.invokevirtual 342, 3), (.istore 5, 2), (.iload 5, 2), (.ifCond .eq 6, 3), (.iload 5, 2), (.ireturn, 1), (.aload_n 0, 1), (.iload_n 2, 1), (.iload_n 3, 1), (.iload 4, 2), (.invokevirtual 345, 3), (.istore 6, 2), (.iload 6, 2), (.ldc_w 328, 3), (.if_icmp .ne 6, 3)]
theorem ocX12_lists_1 : chk (cX12_lists.data.toList.drop 43) tcX12_lists_1 = true := by decide +kernel
theorem dX12_lists_43 : decode cX12_lists 43 = .ok (.istore 5, 2) := chk_nth ocX12_lists_1 (k := 0) rfl
theorem dX12_lists_45 : decode cX12_lists 45 = .ok (.iload 5, 2) := chk_nth ocX12_lists_1 (k := 1) rfl
theorem dX12_lists_47 : decode cX12_lists 47 = .ok (.ifCond .eq 6, 3) := chk_nth ocX12_lists_1 (k := 2) rfl
theorem dX12_lists_50 : decode cX12_lists 50 = .ok (.iload 5, 2) := chk_nth ocX12_lists_1 (k := 3) rfl
theorem dX12_lists_52 : decode cX12_lists 52 = .ok (.ireturn, 1) := chk_nth ocX12_lists_1 (k := 4) rfl
theorem dX12_lists_53 : decode cX12_lists 53 = .ok (.aload_n 0, 1) := chk_nth ocX12_lists_1 (k := 5) rfl
theorem dX12_lists_54 : decode cX12_lists 54 = .ok (.iload_n 2, 1) := chk_nth ocX12_lists_1 (k := 6) rfl
theorem dX12_lists_55 : decode cX12_lists 55 = .ok (.iload_n 3, 1) := chk_nth ocX12_lists_1 (k := 7) rfl
theorem dX12_lists_56 : decode cX12_lists 56 = .ok (.iload 4, 2) := chk_nth ocX12_lists_1 (k := 8) rfl
theorem dX12_lists_58 : decode cX12_lists 58 = .ok (.invokevirtual 342, 3) := chk_nth ocX12_lists_1 (k := 9) rfl
theorem dX12_lists_61 : decode cX12_lists 61 = .ok (.istore 5, 2) := chk_nth ocX12_lists_1 (k := 10) rfl
theorem dX12_lists_63 : decode cX12_lists 63 = .ok (.iload 5, 2) := chk_nth ocX12_lists_1 (k := 11) rfl
theorem dX12_lists_65 : decode cX12_lists 65 = .ok (.ifCond .eq 6, 3) := chk_nth ocX12_lists_1 (k := 12) rfl
theorem dX12_lists_68 : decode cX12_lists 68 = .ok (.iload 5, 2) := chk_nth ocX12_lists_1 (k := 13) rfl
theorem dX12_lists_70 : decode cX12_lists 70 = .ok (.ireturn, 1) := chk_nth ocX12_lists_1 (k := 14) rfl
theorem dX12_lists_71 : decode cX12_lists 71 = .ok (.aload_n 0, 1) := chk_nth ocX12_lists_1 (k := 15) rfl
theorem dX12_lists_72 : decode cX12_lists 72 = .ok (.iload_n 2, 1) := chk_nth ocX12_lists_1 (k := 16) rfl
theorem dX12_lists_73 : decode cX12_lists 73 = .ok (.iload_n 3, 1) := chk_nth ocX12_lists_1 (k := 17) rfl
theorem dX12_lists_74 : decode cX12_lists 74 = .ok (.iload 4, 2) := chk_nth ocX12_lists_1 (k := 18) rfl
theorem dX12_lists_76 : decode cX12_lists 76 = .ok (.invokevirtual 345, 3) := chk_nth ocX12_lists_1 (k := 19) rfl
theorem dX12_lists_79 : decode cX12_lists 79 = .ok (.istore 6, 2) := chk_nth ocX12_lists_1 (k := 20) rfl
theorem dX12_lists_81 : decode cX12_lists 81 = .ok (.iload 6, 2) := chk_nth ocX12_lists_1 (k := 21) rfl
theorem dX12_lists_83 : decode cX12_lists 83 = .ok (.ldc_w 328, 3) := chk_nth ocX12_lists_1 (k := 22) rfl
theorem dX12_lists_86 : decode cX12_lists 86 = .ok (.if_icmp .ne 6, 3) := chk_nth ocX12_lists_1 (k := 23) rfl
def tcX12_lists_2 : List (Instr × Nat) := [(.bipush (-5), 2), (.ireturn, 1), (.iload 6, 2), (.aload_n 0, 1), (.getfield 70, 3), (.iload_n 1, 1), (.iaload, 1), (.if_icmp .ge 8, 3), (.iload 6, 2), (.goto 9, 3), (.aload_n 0, 1), (.getfield 70, 3), (.iload_n 1, 1), (.iaload, 1), (.istore 7, 2), (.iconst 0, 1), (.istore 8, 2), (.iload 8, 2), (.iload 7, 2), (.if_icmp .ge 29, 3), (.aload_n 0, 1), (.getfield 73, 3), (.bipush 40, 2), (.iload_n 1, 1)]
theorem ocX12_lists_2 : chk (cX12_lists.data.toList.drop 89) tcX12_lists_2 = true := by decide +kernel
theorem dX12_lists_89 : decode cX12_lists 89 = .ok (.bipush (-5), 2) := chk_nth ocX12_lists_2 (k := 0) rfl
theorem dX12_lists_91 : decode cX12_lists 91 = .ok (.ireturn, 1) := chk_nth ocX12_lists_2 (k := 1) rfl
theorem dX12_lists_92 : decode cX12_lists 92 = .ok (.iload 6, 2) := chk_nth ocX12_lists_2 (k := 2) rfl
theorem dX12_lists_94 : decode cX12_lists 94 = .ok (.aload_n 0, 1) := chk_nth ocX12_lists_2 (k := 3) rfl
theorem dX12_lists_95 : decode cX12_lists 95 = .ok (.getfield 70, 3) := chk_nth ocX12_lists_2 (k := 4) rfl
theorem dX12_lists_98 : decode cX12_lists 98 = .ok (.iload_n 1, 1) := chk_nth ocX12_lists_2 (k := 5) rfl
theorem dX12_lists_99 : decode cX12_lists 99 = .ok (.iaload, 1) := chk_nth ocX12_lists_2 (k := 6) rfl
theorem dX12_lists_100 : decode cX12_lists 100 = .ok (.if_icmp .ge 8, 3) := chk_nth ocX12_lists_2 (k := 7) rfl
theorem dX12_lists_103 : decode cX12_lists 103 = .ok (.iload 6, 2) := chk_nth ocX12_lists_2 (k := 8) rfl
theorem dX12_lists_105 : decode cX12_lists 105 = .ok (.goto 9, 3) := chk_nth ocX12_lists_2 (k := 9) rfl
theorem dX12_lists_108 : decode cX12_lists 108 = .ok (.aload_n 0, 1) := chk_nth ocX12_lists_2 (k := 10) rfl
theorem dX12_lists_109 : decode cX12_lists 109 = .ok (.getfield 70, 3) := chk_nth ocX12_lists_2 (k := 11) rfl
theorem dX12_lists_112 : decode cX12_lists 112 = .ok (.iload_n 1, 1) := chk_nth ocX12_lists_2 (k := 12) rfl
theorem dX12_lists_113 : decode cX12_lists 113 = .ok (.iaload, 1) := chk_nth ocX12_lists_2 (k := 13) rfl
theorem dX12_lists_114 : decode cX12_lists 114 = .ok (.istore 7, 2) := chk_nth ocX12_lists_2 (k := 14) rfl
theorem dX12_lists_116 : decode cX12_lists 116 = .ok (.iconst 0, 1) := chk_nth ocX12_lists_2 (k := 15) rfl
theorem dX12_lists_117 : decode cX12_lists 117 = .ok (.istore 8, 2) := chk_nth ocX12_lists_2 (k := 16) rfl
theorem dX12_lists_119 : decode cX12_lists 119 = .ok (.iload 8, 2) := chk_nth ocX12_lists_2 (k := 17) rfl
theorem dX12_lists_121 : decode cX12_lists 121 = .ok (.iload 7, 2) := chk_nth ocX12_lists_2 (k := 18) rfl
theorem dX12_lists_123 : decode cX12_lists 123 = .ok (.if_icmp .ge 29, 3) := chk_nth ocX12_lists_2 (k := 19) rfl
theorem dX12_lists_126 : decode cX12_lists 126 = .ok (.aload_n 0, 1) := chk_nth ocX12_lists_2 (k := 20) rfl
theorem dX12_lists_127 : decode cX12_lists 127 = .ok (.getfield 73, 3) := chk_nth ocX12_lists_2 (k := 21) rfl
theorem dX12_lists_130 : decode cX12_lists 130 = .ok (.bipush 40, 2) := chk_nth ocX12_lists_2 (k := 22) rfl
theorem dX12_lists_132 : decode cX12_lists 132 = .ok (.iload_n 1, 1) := chk_nth ocX12_lists_2 (k := 23) rfl
def tcX12_lists_3 : List (Instr × Nat) := [(.imul, 1), (.iload 8, 2), (.iadd, 1), (.aload_n 0, 1), (.iload_n 2, 1), (.iload 8, 2), (.invokevirtual 351, 3), (.i2l, 1), (.lastore, 1), (.iinc 8 1, 3), (.goto (-30), 3), (.iload 7, 2), (.ireturn, 1)]
theorem ocX12_lists_3 : chk (cX12_lists.data.toList.drop 133) tcX12_lists_3 = true := by decide +kernel
theorem dX12_lists_133 : decode cX12_lists 133 = .ok (.imul, 1) := chk_nth ocX12_lists_3 (k := 0) rfl
theorem dX12_lists_134 : decode cX12_lists 134 = .ok (.iload 8, 2) := chk_nth ocX12_lists_3 (k := 1) rfl
theorem dX12_lists_136 : decode cX12_lists 136 = .ok (.iadd, 1) := chk_nth ocX12_lists_3 (k := 2) rfl
theorem dX12_lists_137 : decode cX12_lists 137 = .ok (.aload_n 0, 1) := chk_nth ocX12_lists_3 (k := 3) rfl
theorem dX12_lists_138 : decode cX12_lists 138 = .ok (.iload_n 2, 1) := chk_nth ocX12_lists_3 (k := 4) rfl
theorem dX12_lists_139 : decode cX12_lists 139 = .ok (.iload 8, 2) := chk_nth ocX12_lists_3 (k := 5) rfl
theorem dX12_lists_141 : decode cX12_lists 141 = .ok (.invokevirtual 351, 3) := chk_nth ocX12_lists_3 (k := 6) rfl
theorem dX12_lists_144 : decode cX12_lists 144 = .ok (.i2l, 1) := chk_nth ocX12_lists_3 (k := 7) rfl
theorem dX12_lists_145 : decode cX12_lists 145 = .ok (.lastore, 1) := chk_nth ocX12_lists_3 (k := 8) rfl
theorem dX12_lists_146 : decode cX12_lists 146 = .ok (.iinc 8 1, 3) := chk_nth ocX12_lists_3 (k := 9) rfl
theorem dX12_lists_149 : decode cX12_lists 149 = .ok (.goto (-30), 3) := chk_nth ocX12_lists_3 (k := 10) rfl
theorem dX12_lists_152 : decode cX12_lists 152 = .ok (.iload 7, 2) := chk_nth ocX12_lists_3 (k := 11) rfl
theorem dX12_lists_154 : decode cX12_lists 154 = .ok (.ireturn, 1) := chk_nth ocX12_lists_3 (k := 12) rfl
def tcX12_image_0 : List (Instr × Nat) := [(.aload_n 0, 1), (.iconst 0, 1), (.putfield 1, 3), (.iload_n 1, 1), (.i2l, 1), (.lconst 0, 1), (.lconst 1, 1), (.invokestatic 142, 3), (.ifCond .ne 6, 3), (.bipush (-2), 2), (.ireturn, 1), (.iconst 0, 1), (.istore_n 2, 1), (.iload_n 2, 1), (.sipush 1101, 3), (.if_icmp .ge 29, 3), (.aload_n 0, 1), (.getfield 13, 3), (.sipush 1101, 3), (.iload_n 1, 1), (.iconst 1, 1), (.iadd, 1), (.imul, 1), (.iload_n 2, 1)]
theorem ocX12_image_0 : chk (cX12_image.data.toList.drop 0) tcX12_image_0 = true := by decide +kernel
theorem dX12_image_0 : decode cX12_image 0 = .ok (.aload_n 0, 1) := chk_nth ocX12_image_0 (k := 0) rfl
theorem dX12_image_1 : decode cX12_image 1 = .ok (.iconst 0, 1) := chk_nth ocX12_image_0 (k := 1) rfl
theorem dX12_image_2 : decode cX12_image 2 = .ok (.putfield 1, 3) := chk_nth ocX12_image_0 (k := 2) rfl
theorem dX12_image_5 : decode cX12_image 5 = .ok (.iload_n 1, 1) := chk_nth ocX12_image_0 (k := 3) rfl
theorem dX12_image_6 : decode cX12_image 6 = .ok (.i2l, 1) := chk_nth ocX12_image_0 (k := 4) rfl
theorem dX12_image_7 : decode cX12_image 7 = .ok (.lconst 0, 1) := chk_nth ocX12_image_0 (k := 5) rfl
theorem dX12_image_8 : decode cX12_image 8 = .ok (.lconst 1, 1) := chk_nth ocX12_image_0 (k := 6) rfl
theorem dX12_image_9 : decode cX12_image 9 = .ok (.invokestatic 142, 3) := chk_nth ocX12_image_0 (k := 7) rfl
theorem dX12_image_12 : decode cX12_image 12 = .ok (.ifCond .ne 6, 3) := chk_nth ocX12_image_0 (k := 8) rfl
theorem dX12_image_15 : decode cX12_image 15 = .ok (.bipush (-2), 2) := chk_nth ocX12_image_0 (k := 9) rfl
theorem dX12_image_17 : decode cX12_image 17 = .ok (.ireturn, 1) := chk_nth ocX12_image_0 (k := 10) rfl
theorem dX12_image_18 : decode cX12_image 18 = .ok (.iconst 0, 1) := chk_nth ocX12_image_0 (k := 11) rfl
theorem dX12_image_19 : decode cX12_image 19 = .ok (.istore_n 2, 1) := chk_nth ocX12_image_0 (k := 12) rfl
theorem dX12_image_20 : decode cX12_image 20 = .ok (.iload_n 2, 1) := chk_nth ocX12_image_0 (k := 13) rfl
theorem dX12_image_21 : decode cX12_image 21 = .ok (.sipush 1101, 3) := chk_nth ocX12_image_0 (k := 14) rfl
theorem dX12_image_24 : decode cX12_image 24 = .ok (.if_icmp .ge 29, 3) := chk_nth ocX12_image_0 (k := 15) rfl
theorem dX12_image_27 : decode cX12_image 27 = .ok (.aload_n 0, 1) := chk_nth ocX12_image_0 (k := 16) rfl
theorem dX12_image_28 : decode cX12_image 28 = .ok (.getfield 13, 3) := chk_nth ocX12_image_0 (k := 17) rfl
theorem dX12_image_31 : decode cX12_image 31 = .ok (.sipush 1101, 3) := chk_nth ocX12_image_0 (k := 18) rfl
theorem dX12_image_34 : decode cX12_image 34 = .ok (.iload_n 1, 1) := chk_nth ocX12_image_0 (k := 19) rfl
theorem dX12_image_35 : decode cX12_image 35 = .ok (.iconst 1, 1) := chk_nth ocX12_image_0 (k := 20) rfl
theorem dX12_image_36 : decode cX12_image 36 = .ok (.iadd, 1) := chk_nth ocX12_image_0 (k := 21) rfl
theorem dX12_image_37 : decode cX12_image 37 = .ok (.imul, 1) := chk_nth ocX12_image_0 (k := 22) rfl
theorem dX12_image_38 : decode cX12_image 38 = .ok (.iload_n 2, 1) := chk_nth ocX12_image_0 (k := 23) rfl
def tcX12_image_1 : List (Instr × Nat) := [(.iadd, 1), (.aload_n 0, 1), (.getfield 13, 3), (.iload_n 2, 1), (.iaload, 1), (.iastore, 1), (.iinc 2 1, 3), (.goto (-30), 3), (.aload_n 0, 1), (.getfield 17, 3), (.iload_n 1, 1), (.iconst 1, 1), (.bastore, 1), (.iconst 0, 1), (.ireturn, 1)]
theorem ocX12_image_1 : chk (cX12_image.data.toList.drop 39) tcX12_image_1 = true := by decide +kernel
theorem dX12_image_39 : decode cX12_image 39 = .ok (.iadd, 1) := chk_nth ocX12_image_1 (k := 0) rfl
theorem dX12_image_40 : decode cX12_image 40 = .ok (.aload_n 0, 1) := chk_nth ocX12_image_1 (k := 1) rfl
theorem dX12_image_41 : decode cX12_image 41 = .ok (.getfield 13, 3) := chk_nth ocX12_image_1 (k := 2) rfl
theorem dX12_image_44 : decode cX12_image 44 = .ok (.iload_n 2, 1) := chk_nth ocX12_image_1 (k := 3) rfl
theorem dX12_image_45 : decode cX12_image 45 = .ok (.iaload, 1) := chk_nth ocX12_image_1 (k := 4) rfl
theorem dX12_image_46 : decode cX12_image 46 = .ok (.iastore, 1) := chk_nth ocX12_image_1 (k := 5) rfl
theorem dX12_image_47 : decode cX12_image 47 = .ok (.iinc 2 1, 3) := chk_nth ocX12_image_1 (k := 6) rfl
theorem dX12_image_50 : decode cX12_image 50 = .ok (.goto (-30), 3) := chk_nth ocX12_image_1 (k := 7) rfl
theorem dX12_image_53 : decode cX12_image 53 = .ok (.aload_n 0, 1) := chk_nth ocX12_image_1 (k := 8) rfl
theorem dX12_image_54 : decode cX12_image 54 = .ok (.getfield 17, 3) := chk_nth ocX12_image_1 (k := 9) rfl
theorem dX12_image_57 : decode cX12_image 57 = .ok (.iload_n 1, 1) := chk_nth ocX12_image_1 (k := 10) rfl
theorem dX12_image_58 : decode cX12_image 58 = .ok (.iconst 1, 1) := chk_nth ocX12_image_1 (k := 11) rfl
theorem dX12_image_59 : decode cX12_image 59 = .ok (.bastore, 1) := chk_nth ocX12_image_1 (k := 12) rfl
theorem dX12_image_60 : decode cX12_image 60 = .ok (.iconst 0, 1) := chk_nth ocX12_image_1 (k := 13) rfl
theorem dX12_image_61 : decode cX12_image 61 = .ok (.ireturn, 1) := chk_nth ocX12_image_1 (k := 14) rfl
def tcX12_restore_0 : List (Instr × Nat) := [(.aload_n 0, 1), (.iconst 0, 1), (.putfield 1, 3), (.iload_n 1, 1), (.i2l, 1), (.lconst 0, 1), (.lconst 1, 1), (.invokestatic 142, 3), (.ifCond .ne 6, 3), (.bipush (-2), 2), (.ireturn, 1), (.aload_n 0, 1), (.getfield 17, 3), (.iload_n 1, 1), (.baload, 1), (.ifCond .ne 6, 3), (.bipush (-5), 2), (.ireturn, 1), (.iconst 0, 1), (.istore_n 2, 1), (.iload_n 2, 1), (.sipush 1101, 3), (.if_icmp .ge 29, 3), (.aload_n 0, 1)]
theorem ocX12_restore_0 : chk (cX12_restore.data.toList.drop 0) tcX12_restore_0 = true := by decide +kernel
theorem dX12_restore_0 : decode cX12_restore 0 = .ok (.aload_n 0, 1) := chk_nth ocX12_restore_0 (k := 0) rfl
theorem dX12_restore_1 : decode cX12_restore 1 = .ok (.iconst 0, 1) := chk_nth ocX12_restore_0 (k := 1) rfl
theorem dX12_restore_2 : decode cX12_restore 2 = .ok (.putfield 1, 3) := chk_nth ocX12_restore_0 (k := 2) rfl
theorem dX12_restore_5 : decode cX12_restore 5 = .ok (.iload_n 1, 1) := chk_nth ocX12_restore_0 (k := 3) rfl
theorem dX12_restore_6 : decode cX12_restore 6 = .ok (.i2l, 1) := chk_nth ocX12_restore_0 (k := 4) rfl
theorem dX12_restore_7 : decode cX12_restore 7 = .ok (.lconst 0, 1) := chk_nth ocX12_restore_0 (k := 5) rfl
theorem dX12_restore_8 : decode cX12_restore 8 = .ok (.lconst 1, 1) := chk_nth ocX12_restore_0 (k := 6) rfl
theorem dX12_restore_9 : decode cX12_restore 9 = .ok (.invokestatic 142, 3) := chk_nth ocX12_restore_0 (k := 7) rfl
theorem dX12_restore_12 : decode cX12_restore 12 = .ok (.ifCond .ne 6, 3) := chk_nth ocX12_restore_0 (k := 8) rfl
theorem dX12_restore_15 : decode cX12_restore 15 = .ok (.bipush (-2), 2) := chk_nth ocX12_restore_0 (k := 9) rfl
theorem dX12_restore_17 : decode cX12_restore 17 = .ok (.ireturn, 1) := chk_nth ocX12_restore_0 (k := 10) rfl
theorem dX12_restore_18 : decode cX12_restore 18 = .ok (.aload_n 0, 1) := chk_nth ocX12_restore_0 (k := 11) rfl
theorem dX12_restore_19 : decode cX12_restore 19 = .ok (.getfield 17, 3) := chk_nth ocX12_restore_0 (k := 12) rfl
theorem dX12_restore_22 : decode cX12_restore 22 = .ok (.iload_n 1, 1) := chk_nth ocX12_restore_0 (k := 13) rfl
theorem dX12_restore_23 : decode cX12_restore 23 = .ok (.baload, 1) := chk_nth ocX12_restore_0 (k := 14) rfl
theorem dX12_restore_24 : decode cX12_restore 24 = .ok (.ifCond .ne 6, 3) := chk_nth ocX12_restore_0 (k := 15) rfl
theorem dX12_restore_27 : decode cX12_restore 27 = .ok (.bipush (-5), 2) := chk_nth ocX12_restore_0 (k := 16) rfl
theorem dX12_restore_29 : decode cX12_restore 29 = .ok (.ireturn, 1) := chk_nth ocX12_restore_0 (k := 17) rfl
theorem dX12_restore_30 : decode cX12_restore 30 = .ok (.iconst 0, 1) := chk_nth ocX12_restore_0 (k := 18) rfl
theorem dX12_restore_31 : decode cX12_restore 31 = .ok (.istore_n 2, 1) := chk_nth ocX12_restore_0 (k := 19) rfl
theorem dX12_restore_32 : decode cX12_restore 32 = .ok (.iload_n 2, 1) := chk_nth ocX12_restore_0 (k := 20) rfl
theorem dX12_restore_33 : decode cX12_restore 33 = .ok (.sipush 1101, 3) := chk_nth ocX12_restore_0 (k := 21) rfl
theorem dX12_restore_36 : decode cX12_restore 36 = .ok (.if_icmp .ge 29, 3) := chk_nth ocX12_restore_0 (k := 22) rfl
theorem dX12_restore_39 : decode cX12_restore 39 = .ok (.aload_n 0, 1) := chk_nth ocX12_restore_0 (k := 23) rfl
def tcX12_restore_1 : List (Instr × Nat) := [(.getfield 13, 3), (.iload_n 2, 1), (.aload_n 0, 1), (.getfield 13, 3), (.sipush 1101, 3), (.iload_n 1, 1), (.iconst 1, 1), (.iadd, 1), (.imul, 1), (.iload_n 2, 1), (.iadd, 1), (.iaload, 1), (.iastore, 1), (.iinc 2 1, 3), (.goto (-30), 3), (.aload_n 0, 1), (.getfield 13, 3), (.bipush 49, 2), (.iconst 0, 1), (.iastore, 1), (.iconst 0, 1), (.ireturn, 1)]
theorem ocX12_restore_1 : chk (cX12_restore.data.toList.drop 40) tcX12_restore_1 = true := by decide +kernel
theorem dX12_restore_40 : decode cX12_restore 40 = .ok (.getfield 13, 3) := chk_nth ocX12_restore_1 (k := 0) rfl
theorem dX12_restore_43 : decode cX12_restore 43 = .ok (.iload_n 2, 1) := chk_nth ocX12_restore_1 (k := 1) rfl
theorem dX12_restore_44 : decode cX12_restore 44 = .ok (.aload_n 0, 1) := chk_nth ocX12_restore_1 (k := 2) rfl
theorem dX12_restore_45 : decode cX12_restore 45 = .ok (.getfield 13, 3) := chk_nth ocX12_restore_1 (k := 3) rfl
theorem dX12_restore_48 : decode cX12_restore 48 = .ok (.sipush 1101, 3) := chk_nth ocX12_restore_1 (k := 4) rfl
theorem dX12_restore_51 : decode cX12_restore 51 = .ok (.iload_n 1, 1) := chk_nth ocX12_restore_1 (k := 5) rfl
theorem dX12_restore_52 : decode cX12_restore 52 = .ok (.iconst 1, 1) := chk_nth ocX12_restore_1 (k := 6) rfl
theorem dX12_restore_53 : decode cX12_restore 53 = .ok (.iadd, 1) := chk_nth ocX12_restore_1 (k := 7) rfl
theorem dX12_restore_54 : decode cX12_restore 54 = .ok (.imul, 1) := chk_nth ocX12_restore_1 (k := 8) rfl
theorem dX12_restore_55 : decode cX12_restore 55 = .ok (.iload_n 2, 1) := chk_nth ocX12_restore_1 (k := 9) rfl
theorem dX12_restore_56 : decode cX12_restore 56 = .ok (.iadd, 1) := chk_nth ocX12_restore_1 (k := 10) rfl
theorem dX12_restore_57 : decode cX12_restore 57 = .ok (.iaload, 1) := chk_nth ocX12_restore_1 (k := 11) rfl
theorem dX12_restore_58 : decode cX12_restore 58 = .ok (.iastore, 1) := chk_nth ocX12_restore_1 (k := 12) rfl
theorem dX12_restore_59 : decode cX12_restore 59 = .ok (.iinc 2 1, 3) := chk_nth ocX12_restore_1 (k := 13) rfl
theorem dX12_restore_62 : decode cX12_restore 62 = .ok (.goto (-30), 3) := chk_nth ocX12_restore_1 (k := 14) rfl
theorem dX12_restore_65 : decode cX12_restore 65 = .ok (.aload_n 0, 1) := chk_nth ocX12_restore_1 (k := 15) rfl
theorem dX12_restore_66 : decode cX12_restore 66 = .ok (.getfield 13, 3) := chk_nth ocX12_restore_1 (k := 16) rfl
theorem dX12_restore_69 : decode cX12_restore 69 = .ok (.bipush 49, 2) := chk_nth ocX12_restore_1 (k := 17) rfl
theorem dX12_restore_71 : decode cX12_restore 71 = .ok (.iconst 0, 1) := chk_nth ocX12_restore_1 (k := 18) rfl
theorem dX12_restore_72 : decode cX12_restore 72 = .ok (.iastore, 1) := chk_nth ocX12_restore_1 (k := 19) rfl
theorem dX12_restore_73 : decode cX12_restore 73 = .ok (.iconst 0, 1) := chk_nth ocX12_restore_1 (k := 20) rfl
theorem dX12_restore_74 : decode cX12_restore 74 = .ok (.ireturn, 1) := chk_nth ocX12_restore_1 (k := 21) rfl
def tcX12_count_0 : List (Instr × Nat) := [(.aload_n 0, 1), (.iconst 0, 1), (.putfield 1, 3), (.iload_n 1, 1)]
theorem ocX12_count_0 : chk (cX12_count.data.toList.drop 0) tcX12_count_0 = true := by decide +kernel
theorem dX12_count_0 : decode cX12_count 0 = .ok (.aload_n 0, 1) := chk_nth ocX12_count_0 (k := 0) rfl
theorem dX12_count_1 : decode cX12_count 1 = .ok (.iconst 0, 1) := chk_nth ocX12_count_0 (k := 1) rfl
theorem dX12_count_2 : decode cX12_count 2 = .ok (.putfield 1, 3) := chk_nth ocX12_count_0 (k := 2) rfl
theorem dX12_count_5 : decode cX12_count 5 = .ok (.iload_n 1, 1) := chk_nth ocX12_count_0 (k := 3) rfl
theorem dX12_count_6 : decode cX12_count 6 = .ok (.tableswitch 109 0 8 #[50, 57, 64, 71, 79, 84, 89, 97, 102], 50) := by decide +kernel
def tcX12_count_1 : List (Instr × Nat) := [(.aload_n 0, 1), (.getfield 13, 3), (.iconst 1, 1), (.iaload, 1), (.ireturn, 1), (.aload_n 0, 1), (.getfield 13, 3), (.iconst 2, 1), (.iaload, 1), (.ireturn, 1), (.aload_n 0, 1), (.getfield 13, 3), (.iconst 3, 1), (.iaload, 1), (.ireturn, 1), (.aload_n 0, 1), (.getfield 13, 3), (.bipush 48, 2), (.iaload, 1), (.ireturn, 1), (.aload_n 0, 1), (.invokevirtual 384, 3), (.ireturn, 1), (.aload_n 0, 1)]
theorem ocX12_count_1 : chk (cX12_count.data.toList.drop 56) tcX12_count_1 = true := by decide +kernel
theorem dX12_count_56 : decode cX12_count 56 = .ok (.aload_n 0, 1) := chk_nth ocX12_count_1 (k := 0) rfl
theorem dX12_count_57 : decode cX12_count 57 = .ok (.getfield 13, 3) := chk_nth ocX12_count_1 (k := 1) rfl
theorem dX12_count_60 : decode cX12_count 60 = .ok (.iconst 1, 1) := chk_nth ocX12_count_1 (k := 2) rfl
theorem dX12_count_61 : decode cX12_count 61 = .ok (.iaload, 1) := chk_nth ocX12_count_1 (k := 3) rfl
theorem dX12_count_62 : decode cX12_count 62 = .ok (.ireturn, 1) := chk_nth ocX12_count_1 (k := 4) rfl
theorem dX12_count_63 : decode cX12_count 63 = .ok (.aload_n 0, 1) := chk_nth ocX12_count_1 (k := 5) rfl
theorem dX12_count_64 : decode cX12_count 64 = .ok (.getfield 13, 3) := chk_nth ocX12_count_1 (k := 6) rfl
theorem dX12_count_67 : decode cX12_count 67 = .ok (.iconst 2, 1) := chk_nth ocX12_count_1 (k := 7) rfl
theorem dX12_count_68 : decode cX12_count 68 = .ok (.iaload, 1) := chk_nth ocX12_count_1 (k := 8) rfl
theorem dX12_count_69 : decode cX12_count 69 = .ok (.ireturn, 1) := chk_nth ocX12_count_1 (k := 9) rfl
theorem dX12_count_70 : decode cX12_count 70 = .ok (.aload_n 0, 1) := chk_nth ocX12_count_1 (k := 10) rfl
theorem dX12_count_71 : decode cX12_count 71 = .ok (.getfield 13, 3) := chk_nth ocX12_count_1 (k := 11) rfl
theorem dX12_count_74 : decode cX12_count 74 = .ok (.iconst 3, 1) := chk_nth ocX12_count_1 (k := 12) rfl
theorem dX12_count_75 : decode cX12_count 75 = .ok (.iaload, 1) := chk_nth ocX12_count_1 (k := 13) rfl
theorem dX12_count_76 : decode cX12_count 76 = .ok (.ireturn, 1) := chk_nth ocX12_count_1 (k := 14) rfl
theorem dX12_count_77 : decode cX12_count 77 = .ok (.aload_n 0, 1) := chk_nth ocX12_count_1 (k := 15) rfl
theorem dX12_count_78 : decode cX12_count 78 = .ok (.getfield 13, 3) := chk_nth ocX12_count_1 (k := 16) rfl
theorem dX12_count_81 : decode cX12_count 81 = .ok (.bipush 48, 2) := chk_nth ocX12_count_1 (k := 17) rfl
theorem dX12_count_83 : decode cX12_count 83 = .ok (.iaload, 1) := chk_nth ocX12_count_1 (k := 18) rfl
theorem dX12_count_84 : decode cX12_count 84 = .ok (.ireturn, 1) := chk_nth ocX12_count_1 (k := 19) rfl
theorem dX12_count_85 : decode cX12_count 85 = .ok (.aload_n 0, 1) := chk_nth ocX12_count_1 (k := 20) rfl
theorem dX12_count_86 : decode cX12_count 86 = .ok (.invokevirtual 384, 3) := chk_nth ocX12_count_1 (k := 21) rfl
theorem dX12_count_89 : decode cX12_count 89 = .ok (.ireturn, 1) := chk_nth ocX12_count_1 (k := 22) rfl
theorem dX12_count_90 : decode cX12_count 90 = .ok (.aload_n 0, 1) := chk_nth ocX12_count_1 (k := 23) rfl
def tcX12_count_2 : List (Instr × Nat) := [(.invokevirtual 303, 3), (.ireturn, 1), (.aload_n 0, 1), (.getfield 13, 3), (.bipush 49, 2), (.iaload, 1), (.ireturn, 1), (.aload_n 0, 1), (.getfield 80, 3), (.ireturn, 1), (.aload_n 0, 1), (.getfield 13, 3), (.iconst 0, 1), (.iaload, 1), (.ireturn, 1), (.iconst (-1), 1), (.ireturn, 1)]
theorem ocX12_count_2 : chk (cX12_count.data.toList.drop 91) tcX12_count_2 = true := by decide +kernel
theorem dX12_count_91 : decode cX12_count 91 = .ok (.invokevirtual 303, 3) := chk_nth ocX12_count_2 (k := 0) rfl
theorem dX12_count_94 : decode cX12_count 94 = .ok (.ireturn, 1) := chk_nth ocX12_count_2 (k := 1) rfl
theorem dX12_count_95 : decode cX12_count 95 = .ok (.aload_n 0, 1) := chk_nth ocX12_count_2 (k := 2) rfl
theorem dX12_count_96 : decode cX12_count 96 = .ok (.getfield 13, 3) := chk_nth ocX12_count_2 (k := 3) rfl
theorem dX12_count_99 : decode cX12_count 99 = .ok (.bipush 49, 2) := chk_nth ocX12_count_2 (k := 4) rfl
theorem dX12_count_101 : decode cX12_count 101 = .ok (.iaload, 1) := chk_nth ocX12_count_2 (k := 5) rfl
theorem dX12_count_102 : decode cX12_count 102 = .ok (.ireturn, 1) := chk_nth ocX12_count_2 (k := 6) rfl
theorem dX12_count_103 : decode cX12_count 103 = .ok (.aload_n 0, 1) := chk_nth ocX12_count_2 (k := 7) rfl
theorem dX12_count_104 : decode cX12_count 104 = .ok (.getfield 80, 3) := chk_nth ocX12_count_2 (k := 8) rfl
theorem dX12_count_107 : decode cX12_count 107 = .ok (.ireturn, 1) := chk_nth ocX12_count_2 (k := 9) rfl
theorem dX12_count_108 : decode cX12_count 108 = .ok (.aload_n 0, 1) := chk_nth ocX12_count_2 (k := 10) rfl
theorem dX12_count_109 : decode cX12_count 109 = .ok (.getfield 13, 3) := chk_nth ocX12_count_2 (k := 11) rfl
theorem dX12_count_112 : decode cX12_count 112 = .ok (.iconst 0, 1) := chk_nth ocX12_count_2 (k := 12) rfl
theorem dX12_count_113 : decode cX12_count 113 = .ok (.iaload, 1) := chk_nth ocX12_count_2 (k := 13) rfl
theorem dX12_count_114 : decode cX12_count 114 = .ok (.ireturn, 1) := chk_nth ocX12_count_2 (k := 14) rfl
theorem dX12_count_115 : decode cX12_count 115 = .ok (.iconst (-1), 1) := chk_nth ocX12_count_2 (k := 15) rfl
theorem dX12_count_116 : decode cX12_count 116 = .ok (.ireturn, 1) := chk_nth ocX12_count_2 (k := 16) rfl
