theorem e_0 : q_ckw 0 = true := by decide +kernel
theorem e_1 : q_ckw 1 = true := by decide +kernel
theorem e_2 : q_ckw 2 = true := by decide +kernel
theorem e_3 : q_ckw 3 = true := by decide +kernel
theorem e_4 : q_ckw 4 = true := by decide +kernel
theorem e_5 : q_ckw 5 = true := by decide +kernel
theorem e_6 : q_ckw 6 = true := by decide +kernel
theorem e_7 : q_ckw 7 = true := by decide +kernel
theorem e_8 : q_ckw 8 = true := by decide +kernel
theorem e_9 : q_ckw 9 = true := by decide +kernel
theorem e_10 : q_ckw 10 = true := by decide +kernel
theorem e_11 : q_ckw 11 = true := by decide +kernel
theorem e_12 : q_ckw 12 = true := by decide +kernel
theorem e_13 : q_ckw 13 = true := by decide +kernel
theorem e_14 : q_ckw 14 = true := by decide +kernel
theorem e_15 : q_ckw 15 = true := by decide +kernel
theorem e_16 : q_ckw 16 = true := by decide +kernel
theorem e_17 : q_ckw 17 = true := by decide +kernel
theorem e_18 : q_ckw 18 = true := by decide +kernel
theorem e_19 : q_ckw 19 = true := by decide +kernel
theorem e_20 : q_ckw 20 = true := by decide +kernel
theorem e_21 : q_ckw 21 = true := by decide +kernel
theorem e_22 : q_ckw 22 = true := by decide +kernel
theorem e_23 : q_ckw 23 = true := by decide +kernel
theorem e_24 : q_ckw 24 = true := by decide +kernel
theorem e_25 : q_ckw 25 = true := by decide +kernel
theorem e_26 : q_ckw 26 = true := by decide +kernel
theorem e_27 : q_ckw 27 = true := by decide +kernel
theorem e_28 : q_ckw 28 = true := by decide +kernel
theorem e_29 : q_ckw 29 = true := by decide +kernel
theorem e_30 : q_ckw 30 = true := by decide +kernel
theorem e_31 : q_ckw 31 = true := by decide +kernel
theorem e_32 : q_ckw 32 = true := by decide +kernel
theorem e_33 : q_ckw 33 = true := by decide +kernel
theorem e_34 : q_ckw 34 = true := by decide +kernel
theorem e_35 : q_ckw 35 = true := by decide +kernel
theorem e_36 : q_ckw 36 = true := by decide +kernel
theorem e_37 : q_ckw 37 = true := by decide +kernel
theorem e_38 : q_ckw 38 = true := by decide +kernel
theorem e_39 : q_ckw 39 = true := by decide +kernel
theorem e_40 : q_ckw 40 = true := by decide +kernel
theorem e_41 : q_ckw 41 = true := by decide +kernel
theorem e_42 : q_ckw 42 = true := by decide +kernel
theorem e_43 : q_ckw 43 = true := by decide +kernel
theorem e_44 : q_ckw 44 = true := by decide +kernel
theorem e_45 : q_ckw 45 = true := by decide +kernel
theorem e_46 : q_ckw 46 = true := by decide +kernel
theorem e_47 : q_ckw 47 = true := by decide +kernel
theorem e_48 : q_ckw 48 = true := by decide +kernel
theorem e_49 : q_ckw 49 = true := by decide +kernel
theorem e_50 : q_ckw 50 = true := by decide +kernel
theorem e_51 : q_ckw 51 = true := by decide +kernel
theorem e_52 : q_ckw 52 = true := by decide +kernel
theorem e_53 : q_ckw 53 = true := by decide +kernel
theorem e_54 : q_ckw 54 = true := by decide +kernel
theorem e_55 : q_ckw 55 = true := by decide +kernel
theorem e_56 : q_ckw 56 = true := by decide +kernel
theorem e_57 : q_ckw 57 = true := by decide +kernel
theorem e_58 : q_ckw 58 = true := by decide +kernel
theorem e_59 : q_ckw 59 = true := by decide +kernel
theorem e_60 : q_ckw 60 = true := by decide +kernel
theorem e_61 : q_ckw 61 = true := by decide +kernel
theorem e_62 : q_ckw 62 = true := by decide +kernel
theorem e_63 : q_ckw 63 = true := by decide +kernel
theorem e_64 : q_ckw 64 = true := by decide +kernel
theorem e_65 : q_ckw 65 = true := by decide +kernel
theorem e_66 : q_ckw 66 = true := by decide +kernel
theorem e_67 : q_ckw 67 = true := by decide +kernel
theorem e_68 : q_ckw 68 = true := by decide +kernel
theorem e_69 : q_ckw 69 = true := by decide +kernel
theorem e_70 : q_ckw 70 = true := by decide +kernel
theorem e_71 : q_ckw 71 = true := by decide +kernel
theorem e_72 : q_ckw 72 = true := by decide +kernel
theorem e_73 : q_ckw 73 = true := by decide +kernel
theorem e_74 : q_ckw 74 = true := by decide +kernel
theorem e_75 : q_ckw 75 = true := by decide +kernel
theorem e_76 : q_ckw 76 = true := by decide +kernel
theorem e_77 : q_ckw 77 = true := by decide +kernel
theorem e_78 : q_ckw 78 = true := by decide +kernel
theorem e_79 : q_ckw 79 = true := by decide +kernel
theorem e_80 : q_ckw 80 = true := by decide +kernel
theorem e_81 : q_ckw 81 = true := by decide +kernel
theorem e_82 : q_ckw 82 = true := by decide +kernel
theorem e_83 : q_ckw 83 = true := by decide +kernel
theorem e_84 : q_ckw 84 = true := by decide +kernel
theorem e_85 : q_ckw 85 = true := by decide +kernel
theorem e_86 : q_ckw 86 = true := by decide +kernel
theorem e_87 : q_ckw 87 = true := by decide +kernel
theorem e_88 : q_ckw 88 = true := by decide +kernel
theorem e_89 : q_ckw 89 = true := by decide +kernel
theorem e_90 : q_ckw 90 = true := by decide +kernel
theorem e_91 : q_ckw 91 = true := by decide +kernel
theorem e_92 : q_ckw 92 = true := by decide +kernel
theorem e_93 : q_ckw 93 = true := by decide +kernel
theorem e_94 : q_ckw 94 = true := by decide +kernel
theorem e_95 : q_ckw 95 = true := by decide +kernel
theorem e_96 : q_ckw 96 = true := by decide +kernel
theorem e_97 : q_ckw 97 = true := by decide +kernel
theorem e_98 : q_ckw 98 = true := by decide +kernel
theorem e_99 : q_ckw 99 = true := by decide +kernel
theorem e_100 : q_ckw 100 = true := by decide +kernel
theorem e_101 : q_ckw 101 = true := by decide +kernel
theorem e_102 : q_ckw 102 = true := by decide +kernel
theorem e_103 : q_ckw 103 = true := by decide +kernel
theorem e_104 : q_ckw 104 = true := by decide +kernel
theorem e_105 : q_ckw 105 = true := by decide +kernel
theorem e_106 : q_ckw 106 = true := by decide +kernel
theorem e_107 : q_ckw 107 = true := by decide +kernel
theorem e_108 : q_ckw 108 = true := by decide +kernel
theorem e_109 : q_ckw 109 = true := by decide +kernel
theorem e_110 : q_ckw 110 = true := by decide +kernel
theorem e_111 : q_ckw 111 = true := by decide +kernel
theorem e_112 : q_ckw 112 = true := by decide +kernel
theorem e_113 : q_ckw 113 = true := by decide +kernel
theorem e_114 : q_ckw 114 = true := by decide +kernel
theorem e_115 : q_ckw 115 = true := by decide +kernel
theorem e_116 : q_ckw 116 = true := by decide +kernel
theorem e_117 : q_ckw 117 = true := by decide +kernel
theorem e_118 : q_ckw 118 = true := by decide +kernel
theorem e_119 : q_ckw 119 = true := by decide +kernel
theorem e_120 : q_ckw 120 = true := by decide +kernel
theorem e_121 : q_ckw 121 = true := by decide +kernel
theorem e_122 : q_ckw 122 = true := by decide +kernel
theorem e_123 : q_ckw 123 = true := by decide +kernel
theorem e_124 : q_ckw 124 = true := by decide +kernel
theorem e_125 : q_ckw 125 = true := by decide +kernel
theorem e_126 : q_ckw 126 = true := by decide +kernel
theorem e_127 : q_ckw 127 = true := by decide +kernel
theorem e_128 : q_ckw 128 = true := by decide +kernel
theorem e_129 : q_ckw 129 = true := by decide +kernel
theorem e_130 : q_ckw 130 = true := by decide +kernel
theorem e_131 : q_ckw 131 = true := by decide +kernel
theorem e_132 : q_ckw 132 = true := by decide +kernel
theorem e_133 : q_ckw 133 = true := by decide +kernel
theorem e_134 : q_ckw 134 = true := by decide +kernel
theorem e_135 : q_ckw 135 = true := by decide +kernel
theorem e_136 : q_ckw 136 = true := by decide +kernel
theorem e_137 : q_ckw 137 = true := by decide +kernel
theorem e_138 : q_ckw 138 = true := by decide +kernel
theorem e_139 : q_ckw 139 = true := by decide +kernel
theorem e_140 : q_ckw 140 = true := by decide +kernel
theorem e_141 : q_ckw 141 = true := by decide +kernel
theorem e_142 : q_ckw 142 = true := by decide +kernel
theorem e_143 : q_ckw 143 = true := by decide +kernel
theorem e_144 : q_ckw 144 = true := by decide +kernel
theorem e_145 : q_ckw 145 = true := by decide +kernel
theorem e_146 : q_ckw 146 = true := by decide +kernel
theorem e_147 : q_ckw 147 = true := by decide +kernel
theorem e_148 : q_ckw 148 = true := by decide +kernel
theorem e_149 : q_ckw 149 = true := by decide +kernel
theorem e_150 : q_ckw 150 = true := by decide +kernel
theorem e_151 : q_ckw 151 = true := by decide +kernel
theorem e_152 : q_ckw 152 = true := by decide +kernel
theorem e_153 : q_ckw 153 = true := by decide +kernel
theorem e_154 : q_ckw 154 = true := by decide +kernel
theorem e_155 : q_ckw 155 = true := by decide +kernel
theorem e_156 : q_ckw 156 = true := by decide +kernel
theorem e_157 : q_ckw 157 = true := by decide +kernel
theorem e_158 : q_ckw 158 = true := by decide +kernel
theorem e_159 : q_ckw 159 = true := by decide +kernel
theorem e_160 : q_ckw 160 = true := by decide +kernel
theorem e_161 : q_ckw 161 = true := by decide +kernel
theorem e_162 : q_ckw 162 = true := by decide +kernel
theorem e_163 : q_ckw 163 = true := by decide +kernel
theorem e_164 : q_ckw 164 = true := by decide +kernel
theorem e_165 : q_ckw 165 = true := by decide +kernel
theorem e_166 : q_ckw 166 = true := by decide +kernel
theorem e_167 : q_ckw 167 = true := by decide +kernel
theorem e_168 : q_ckw 168 = true := by decide +kernel
theorem e_169 : q_ckw 169 = true := by decide +kernel
theorem e_170 : q_ckw 170 = true := by decide +kernel
theorem e_171 : q_ckw 171 = true := by decide +kernel
theorem e_172 : q_ckw 172 = true := by decide +kernel
theorem e_173 : q_ckw 173 = true := by decide +kernel
theorem e_174 : q_ckw 174 = true := by decide +kernel
theorem e_175 : q_ckw 175 = true := by decide +kernel
theorem e_176 : q_ckw 176 = true := by decide +kernel
theorem q_ckm_all_g0 : ∀ i ∈ [0, 1, 2, 3, 4, 5, 6, 7, 8, 9, 10, 11, 12, 13, 14, 15], q_ckm i = true := List.forall_mem_cons.mpr ⟨d_0, List.forall_mem_cons.mpr ⟨d_1, List.forall_mem_cons.mpr ⟨d_2, List.forall_mem_cons.mpr ⟨d_3, List.forall_mem_cons.mpr ⟨d_4, List.forall_mem_cons.mpr ⟨d_5, List.forall_mem_cons.mpr ⟨d_6, List.forall_mem_cons.mpr ⟨d_7, List.forall_mem_cons.mpr ⟨d_8, List.forall_mem_cons.mpr ⟨d_9, List.forall_mem_cons.mpr ⟨d_10, List.forall_mem_cons.mpr ⟨d_11, List.forall_mem_cons.mpr ⟨d_12, List.forall_mem_cons.mpr ⟨d_13, List.forall_mem_cons.mpr ⟨d_14, List.forall_mem_cons.mpr ⟨d_15, fun _ h => absurd h List.not_mem_nil⟩⟩⟩⟩⟩⟩⟩⟩⟩⟩⟩⟩⟩⟩⟩⟩
theorem q_ckm_all_g1 : ∀ i ∈ [16, 17, 18, 19, 20, 21, 22, 23, 24, 25, 26, 27, 28, 29, 30, 31], q_ckm i = true := List.forall_mem_cons.mpr ⟨d_16, List.forall_mem_cons.mpr ⟨d_17, List.forall_mem_cons.mpr ⟨d_18, List.forall_mem_cons.mpr ⟨d_19, List.forall_mem_cons.mpr ⟨d_20, List.forall_mem_cons.mpr ⟨d_21, List.forall_mem_cons.mpr ⟨d_22, List.forall_mem_cons.mpr ⟨d_23, List.forall_mem_cons.mpr ⟨d_24, List.forall_mem_cons.mpr ⟨d_25, List.forall_mem_cons.mpr ⟨d_26, List.forall_mem_cons.mpr ⟨d_27, List.forall_mem_cons.mpr ⟨d_28, List.forall_mem_cons.mpr ⟨d_29, List.forall_mem_cons.mpr ⟨d_30, List.forall_mem_cons.mpr ⟨d_31, fun _ h => absurd h List.not_mem_nil⟩⟩⟩⟩⟩⟩⟩⟩⟩⟩⟩⟩⟩⟩⟩⟩
theorem q_ckm_all_g2 : ∀ i ∈ [32, 33, 34, 35, 36, 37, 38, 39, 40, 41, 42, 43, 44, 45, 46, 47], q_ckm i = true := List.forall_mem_cons.mpr ⟨d_32, List.forall_mem_cons.mpr ⟨d_33, List.forall_mem_cons.mpr ⟨d_34, List.forall_mem_cons.mpr ⟨d_35, List.forall_mem_cons.mpr ⟨d_36, List.forall_mem_cons.mpr ⟨d_37, List.forall_mem_cons.mpr ⟨d_38, List.forall_mem_cons.mpr ⟨d_39, List.forall_mem_cons.mpr ⟨d_40, List.forall_mem_cons.mpr ⟨d_41, List.forall_mem_cons.mpr ⟨d_42, List.forall_mem_cons.mpr ⟨d_43, List.forall_mem_cons.mpr ⟨d_44, List.forall_mem_cons.mpr ⟨d_45, List.forall_mem_cons.mpr ⟨d_46, List.forall_mem_cons.mpr ⟨d_47, fun _ h => absurd h List.not_mem_nil⟩⟩⟩⟩⟩⟩⟩⟩⟩⟩⟩⟩⟩⟩⟩⟩
theorem q_ckm_all_g3 : ∀ i ∈ [48, 49, 50, 51, 52, 53, 54, 55, 56, 57, 58, 59, 60, 61, 62, 63], q_ckm i = true := List.forall_mem_cons.mpr ⟨d_48, List.forall_mem_cons.mpr ⟨d_49, List.forall_mem_cons.mpr ⟨d_50, List.forall_mem_cons.mpr ⟨d_51, List.forall_mem_cons.mpr ⟨d_52, List.forall_mem_cons.mpr ⟨d_53, List.forall_mem_cons.mpr ⟨d_54, List.forall_mem_cons.mpr ⟨d_55, List.forall_mem_cons.mpr ⟨d_56, List.forall_mem_cons.mpr ⟨d_57, List.forall_mem_cons.mpr ⟨d_58, List.forall_mem_cons.mpr ⟨d_59, List.forall_mem_cons.mpr ⟨d_60, List.forall_mem_cons.mpr ⟨d_61, List.forall_mem_cons.mpr ⟨d_62, List.forall_mem_cons.mpr ⟨d_63, fun _ h => absurd h List.not_mem_nil⟩⟩⟩⟩⟩⟩⟩⟩⟩⟩⟩⟩⟩⟩⟩⟩
theorem q_ckm_all_g4 : ∀ i ∈ [64, 65, 66, 67, 68, 69, 70, 71, 72, 73, 74, 75, 76, 77, 78, 79], q_ckm i = true := List.forall_mem_cons.mpr ⟨d_64, List.forall_mem_cons.mpr ⟨d_65, List.forall_mem_cons.mpr ⟨d_66, List.forall_mem_cons.mpr ⟨d_67, List.forall_mem_cons.mpr ⟨d_68, List.forall_mem_cons.mpr ⟨d_69, List.forall_mem_cons.mpr ⟨d_70, List.forall_mem_cons.mpr ⟨d_71, List.forall_mem_cons.mpr ⟨d_72, List.forall_mem_cons.mpr ⟨d_73, List.forall_mem_cons.mpr ⟨d_74, List.forall_mem_cons.mpr ⟨d_75, List.forall_mem_cons.mpr ⟨d_76, List.forall_mem_cons.mpr ⟨d_77, List.forall_mem_cons.mpr ⟨d_78, List.forall_mem_cons.mpr ⟨d_79, fun _ h => absurd h List.not_mem_nil⟩⟩⟩⟩⟩⟩⟩⟩⟩⟩⟩⟩⟩⟩⟩⟩
theorem q_ckm_all_g5 : ∀ i ∈ [80, 81, 82, 83, 84, 85, 86, 87, 88, 89, 90, 91, 92, 93, 94, 95], q_ckm i = true := List.forall_mem_cons.mpr ⟨d_80, List.forall_mem_cons.mpr ⟨d_81, List.forall_mem_cons.mpr ⟨d_82, List.forall_mem_cons.mpr ⟨d_83, List.forall_mem_cons.mpr ⟨d_84, List.forall_mem_cons.mpr ⟨d_85, List.forall_mem_cons.mpr ⟨d_86, List.forall_mem_cons.mpr ⟨d_87, List.forall_mem_cons.mpr ⟨d_88, List.forall_mem_cons.mpr ⟨d_89, List.forall_mem_cons.mpr ⟨d_90, List.forall_mem_cons.mpr ⟨d_91, List.forall_mem_cons.mpr ⟨d_92, List.forall_mem_cons.mpr ⟨d_93, List.forall_mem_cons.mpr ⟨d_94, List.forall_mem_cons.mpr ⟨d_95, fun _ h => absurd h List.not_mem_nil⟩⟩⟩⟩⟩⟩⟩⟩⟩⟩⟩⟩⟩⟩⟩⟩
theorem q_ckm_all_g6 : ∀ i ∈ [96, 97, 98, 99, 100, 101, 102, 103, 104, 105, 106, 107, 108, 109, 110, 111], q_ckm i = true := List.forall_mem_cons.mpr ⟨d_96, List.forall_mem_cons.mpr ⟨d_97, List.forall_mem_cons.mpr ⟨d_98, List.forall_mem_cons.mpr ⟨d_99, List.forall_mem_cons.mpr ⟨d_100, List.forall_mem_cons.mpr ⟨d_101, List.forall_mem_cons.mpr ⟨d_102, List.forall_mem_cons.mpr ⟨d_103, List.forall_mem_cons.mpr ⟨d_104, List.forall_mem_cons.mpr ⟨d_105, List.forall_mem_cons.mpr ⟨d_106, List.forall_mem_cons.mpr ⟨d_107, List.forall_mem_cons.mpr ⟨d_108, List.forall_mem_cons.mpr ⟨d_109, List.forall_mem_cons.mpr ⟨d_110, List.forall_mem_cons.mpr ⟨d_111, fun _ h => absurd h List.not_mem_nil⟩⟩⟩⟩⟩⟩⟩⟩⟩⟩⟩⟩⟩⟩⟩⟩
theorem q_ckm_all_g7 : ∀ i ∈ [112, 113, 114, 115, 116, 117, 118, 119, 120, 121, 122, 123, 124, 125, 126, 127], q_ckm i = true := List.forall_mem_cons.mpr ⟨d_112, List.forall_mem_cons.mpr ⟨d_113, List.forall_mem_cons.mpr ⟨d_114, List.forall_mem_cons.mpr ⟨d_115, List.forall_mem_cons.mpr ⟨d_116, List.forall_mem_cons.mpr ⟨d_117, List.forall_mem_cons.mpr ⟨d_118, List.forall_mem_cons.mpr ⟨d_119, List.forall_mem_cons.mpr ⟨d_120, List.forall_mem_cons.mpr ⟨d_121, List.forall_mem_cons.mpr ⟨d_122, List.forall_mem_cons.mpr ⟨d_123, List.forall_mem_cons.mpr ⟨d_124, List.forall_mem_cons.mpr ⟨d_125, List.forall_mem_cons.mpr ⟨d_126, List.forall_mem_cons.mpr ⟨d_127, fun _ h => absurd h List.not_mem_nil⟩⟩⟩⟩⟩⟩⟩⟩⟩⟩⟩⟩⟩⟩⟩⟩
theorem q_ckm_all_g8 : ∀ i ∈ [128, 129, 130, 131, 132, 133, 134, 135, 136, 137, 138, 139, 140, 141, 142, 143], q_ckm i = true := List.forall_mem_cons.mpr ⟨d_128, List.forall_mem_cons.mpr ⟨d_129, List.forall_mem_cons.mpr ⟨d_130, List.forall_mem_cons.mpr ⟨d_131, List.forall_mem_cons.mpr ⟨d_132, List.forall_mem_cons.mpr ⟨d_133, List.forall_mem_cons.mpr ⟨d_134, List.forall_mem_cons.mpr ⟨d_135, List.forall_mem_cons.mpr ⟨d_136, List.forall_mem_cons.mpr ⟨d_137, List.forall_mem_cons.mpr ⟨d_138, List.forall_mem_cons.mpr ⟨d_139, List.forall_mem_cons.mpr ⟨d_140, List.forall_mem_cons.mpr ⟨d_141, List.forall_mem_cons.mpr ⟨d_142, List.forall_mem_cons.mpr ⟨d_143, fun _ h => absurd h List.not_mem_nil⟩⟩⟩⟩⟩⟩⟩⟩⟩⟩⟩⟩⟩⟩⟩⟩
theorem q_ckm_all_g9 : ∀ i ∈ [144, 145, 146, 147, 148, 149, 150, 151, 152, 153, 154, 155, 156, 157, 158, 159], q_ckm i = true := List.forall_mem_cons.mpr ⟨d_144, List.forall_mem_cons.mpr ⟨d_145, List.forall_mem_cons.mpr ⟨d_146, List.forall_mem_cons.mpr ⟨d_147, List.forall_mem_cons.mpr ⟨d_148, List.forall_mem_cons.mpr ⟨d_149, List.forall_mem_cons.mpr ⟨d_150, List.forall_mem_cons.mpr ⟨d_151, List.forall_mem_cons.mpr ⟨d_152, List.forall_mem_cons.mpr ⟨d_153, List.forall_mem_cons.mpr ⟨d_154, List.forall_mem_cons.mpr ⟨d_155, List.forall_mem_cons.mpr ⟨d_156, List.forall_mem_cons.mpr ⟨d_157, List.forall_mem_cons.mpr ⟨d_158, List.forall_mem_cons.mpr ⟨d_159, fun _ h => absurd h List.not_mem_nil⟩⟩⟩⟩⟩⟩⟩⟩⟩⟩⟩⟩⟩⟩⟩⟩
theorem q_ckm_all_g10 : ∀ i ∈ [160, 161, 162, 163, 164, 165, 166, 167, 168, 169, 170, 171, 172, 173, 174, 175], q_ckm i = true := List.forall_mem_cons.mpr ⟨d_160, List.forall_mem_cons.mpr ⟨d_161, List.forall_mem_cons.mpr ⟨d_162, List.forall_mem_cons.mpr ⟨d_163, List.forall_mem_cons.mpr ⟨d_164, List.forall_mem_cons.mpr ⟨d_165, List.forall_mem_cons.mpr ⟨d_166, List.forall_mem_cons.mpr ⟨d_167, List.forall_mem_cons.mpr ⟨d_168, List.forall_mem_cons.mpr ⟨d_169, List.forall_mem_cons.mpr ⟨d_170, List.forall_mem_cons.mpr ⟨d_171, List.forall_mem_cons.mpr ⟨d_172, List.forall_mem_cons.mpr ⟨d_173, List.forall_mem_cons.mpr ⟨d_174, List.forall_mem_cons.mpr ⟨d_175, fun _ h => absurd h List.not_mem_nil⟩⟩⟩⟩⟩⟩⟩⟩⟩⟩⟩⟩⟩⟩⟩⟩
theorem q_ckm_all_g11 : ∀ i ∈ [176], q_ckm i = true := List.forall_mem_cons.mpr ⟨d_176, fun _ h => absurd h List.not_mem_nil⟩
theorem q_ckm_all : ∀ i, i < 177 → q_ckm i = true := by
  intro i hi
  have h : i ∈ List.range 177 := List.mem_range.mpr hi
  have e : List.range 177 = [0, 1, 2, 3, 4, 5, 6, 7, 8, 9, 10, 11, 12, 13, 14, 15] ++ [16, 17, 18, 19, 20, 21, 22, 23, 24, 25, 26, 27, 28, 29, 30, 31] ++ [32, 33, 34, 35, 36, 37, 38, 39, 40, 41, 42, 43, 44, 45, 46, 47] ++ [48, 49, 50, 51, 52, 53, 54, 55, 56, 57, 58, 59, 60, 61, 62, 63] ++ [64, 65, 66, 67, 68, 69, 70, 71, 72, 73, 74, 75, 76, 77, 78, 79] ++ [80, 81, 82, 83, 84, 85, 86, 87, 88, 89, 90, 91, 92, 93, 94, 95] ++ [96, 97, 98, 99, 100, 101, 102, 103, 104, 105, 106, 107, 108, 109, 110, 111] ++ [112, 113, 114, 115, 116, 117, 118, 119, 120, 121, 122, 123, 124, 125, 126, 127] ++ [128, 129, 130, 131, 132, 133, 134, 135, 136, 137, 138, 139, 140, 141, 142, 143] ++ [144, 145, 146, 147, 148, 149, 150, 151, 152, 153, 154, 155, 156, 157, 158, 159] ++ [160, 161, 162, 163, 164, 165, 166, 167, 168, 169, 170, 171, 172, 173, 174, 175] ++ [176] := by decide +kernel
  rw [e] at h
  simp only [List.mem_append] at h
  rcases h with ((((((((((h | h) | h) | h) | h) | h) | h) | h) | h) | h) | h) | h
  · exact q_ckm_all_g0 i h
  · exact q_ckm_all_g1 i h
  · exact q_ckm_all_g2 i h
  · exact q_ckm_all_g3 i h
  · exact q_ckm_all_g4 i h
  · exact q_ckm_all_g5 i h
  · exact q_ckm_all_g6 i h
  · exact q_ckm_all_g7 i h
  · exact q_ckm_all_g8 i h
  · exact q_ckm_all_g9 i h
  · exact q_ckm_all_g10 i h
  · exact q_ckm_all_g11 i h
theorem q_ckw_all_g0 : ∀ i ∈ [0, 1, 2, 3, 4, 5, 6, 7, 8, 9, 10, 11, 12, 13, 14, 15], q_ckw i = true := List.forall_mem_cons.mpr ⟨e_0, List.forall_mem_cons.mpr ⟨e_1, List.forall_mem_cons.mpr ⟨e_2, List.forall_mem_cons.mpr ⟨e_3, List.forall_mem_cons.mpr ⟨e_4, List.forall_mem_cons.mpr ⟨e_5, List.forall_mem_cons.mpr ⟨e_6, List.forall_mem_cons.mpr ⟨e_7, List.forall_mem_cons.mpr ⟨e_8, List.forall_mem_cons.mpr ⟨e_9, List.forall_mem_cons.mpr ⟨e_10, List.forall_mem_cons.mpr ⟨e_11, List.forall_mem_cons.mpr ⟨e_12, List.forall_mem_cons.mpr ⟨e_13, List.forall_mem_cons.mpr ⟨e_14, List.forall_mem_cons.mpr ⟨e_15, fun _ h => absurd h List.not_mem_nil⟩⟩⟩⟩⟩⟩⟩⟩⟩⟩⟩⟩⟩⟩⟩⟩
theorem q_ckw_all_g1 : ∀ i ∈ [16, 17, 18, 19, 20, 21, 22, 23, 24, 25, 26, 27, 28, 29, 30, 31], q_ckw i = true := List.forall_mem_cons.mpr ⟨e_16, List.forall_mem_cons.mpr ⟨e_17, List.forall_mem_cons.mpr ⟨e_18, List.forall_mem_cons.mpr ⟨e_19, List.forall_mem_cons.mpr ⟨e_20, List.forall_mem_cons.mpr ⟨e_21, List.forall_mem_cons.mpr ⟨e_22, List.forall_mem_cons.mpr ⟨e_23, List.forall_mem_cons.mpr ⟨e_24, List.forall_mem_cons.mpr ⟨e_25, List.forall_mem_cons.mpr ⟨e_26, List.forall_mem_cons.mpr ⟨e_27, List.forall_mem_cons.mpr ⟨e_28, List.forall_mem_cons.mpr ⟨e_29, List.forall_mem_cons.mpr ⟨e_30, List.forall_mem_cons.mpr ⟨e_31, fun _ h => absurd h List.not_mem_nil⟩⟩⟩⟩⟩⟩⟩⟩⟩⟩⟩⟩⟩⟩⟩⟩
theorem q_ckw_all_g2 : ∀ i ∈ [32, 33, 34, 35, 36, 37, 38, 39, 40, 41, 42, 43, 44, 45, 46, 47], q_ckw i = true := List.forall_mem_cons.mpr ⟨e_32, List.forall_mem_cons.mpr ⟨e_33, List.forall_mem_cons.mpr ⟨e_34, List.forall_mem_cons.mpr ⟨e_35, List.forall_mem_cons.mpr ⟨e_36, List.forall_mem_cons.mpr ⟨e_37, List.forall_mem_cons.mpr ⟨e_38, List.forall_mem_cons.mpr ⟨e_39, List.forall_mem_cons.mpr ⟨e_40, List.forall_mem_cons.mpr ⟨e_41, List.forall_mem_cons.mpr ⟨e_42, List.forall_mem_cons.mpr ⟨e_43, List.forall_mem_cons.mpr ⟨e_44, List.forall_mem_cons.mpr ⟨e_45, List.forall_mem_cons.mpr ⟨e_46, List.forall_mem_cons.mpr ⟨e_47, fun _ h => absurd h List.not_mem_nil⟩⟩⟩⟩⟩⟩⟩⟩⟩⟩⟩⟩⟩⟩⟩⟩
theorem q_ckw_all_g3 : ∀ i ∈ [48, 49, 50, 51, 52, 53, 54, 55, 56, 57, 58, 59, 60, 61, 62, 63], q_ckw i = true := List.forall_mem_cons.mpr ⟨e_48, List.forall_mem_cons.mpr ⟨e_49, List.forall_mem_cons.mpr ⟨e_50, List.forall_mem_cons.mpr ⟨e_51, List.forall_mem_cons.mpr ⟨e_52, List.forall_mem_cons.mpr ⟨e_53, List.forall_mem_cons.mpr ⟨e_54, List.forall_mem_cons.mpr ⟨e_55, List.forall_mem_cons.mpr ⟨e_56, List.forall_mem_cons.mpr ⟨e_57, List.forall_mem_cons.mpr ⟨e_58, List.forall_mem_cons.mpr ⟨e_59, List.forall_mem_cons.mpr ⟨e_60, List.forall_mem_cons.mpr ⟨e_61, List.forall_mem_cons.mpr ⟨e_62, List.forall_mem_cons.mpr ⟨e_63, fun _ h => absurd h List.not_mem_nil⟩⟩⟩⟩⟩⟩⟩⟩⟩⟩⟩⟩⟩⟩⟩⟩
theorem q_ckw_all_g4 : ∀ i ∈ [64, 65, 66, 67, 68, 69, 70, 71, 72, 73, 74, 75, 76, 77, 78, 79], q_ckw i = true := List.forall_mem_cons.mpr ⟨e_64, List.forall_mem_cons.mpr ⟨e_65, List.forall_mem_cons.mpr ⟨e_66, List.forall_mem_cons.mpr ⟨e_67, List.forall_mem_cons.mpr ⟨e_68, List.forall_mem_cons.mpr ⟨e_69, List.forall_mem_cons.mpr ⟨e_70, List.forall_mem_cons.mpr ⟨e_71, List.forall_mem_cons.mpr ⟨e_72, List.forall_mem_cons.mpr ⟨e_73, List.forall_mem_cons.mpr ⟨e_74, List.forall_mem_cons.mpr ⟨e_75, List.forall_mem_cons.mpr ⟨e_76, List.forall_mem_cons.mpr ⟨e_77, List.forall_mem_cons.mpr ⟨e_78, List.forall_mem_cons.mpr ⟨e_79, fun _ h => absurd h List.not_mem_nil⟩⟩⟩⟩⟩⟩⟩⟩⟩⟩⟩⟩⟩⟩⟩⟩
theorem q_ckw_all_g5 : ∀ i ∈ [80, 81, 82, 83, 84, 85, 86, 87, 88, 89, 90, 91, 92, 93, 94, 95], q_ckw i = true := List.forall_mem_cons.mpr ⟨e_80, List.forall_mem_cons.mpr ⟨e_81, List.forall_mem_cons.mpr ⟨e_82, List.forall_mem_cons.mpr ⟨e_83, List.forall_mem_cons.mpr ⟨e_84, List.forall_mem_cons.mpr ⟨e_85, List.forall_mem_cons.mpr ⟨e_86, List.forall_mem_cons.mpr ⟨e_87, List.forall_mem_cons.mpr ⟨e_88, List.forall_mem_cons.mpr ⟨e_89, List.forall_mem_cons.mpr ⟨e_90, List.forall_mem_cons.mpr ⟨e_91, List.forall_mem_cons.mpr ⟨e_92, List.forall_mem_cons.mpr ⟨e_93, List.forall_mem_cons.mpr ⟨e_94, List.forall_mem_cons.mpr ⟨e_95, fun _ h => absurd h List.not_mem_nil⟩⟩⟩⟩⟩⟩⟩⟩⟩⟩⟩⟩⟩⟩⟩⟩
theorem q_ckw_all_g6 : ∀ i ∈ [96, 97, 98, 99, 100, 101, 102, 103, 104, 105, 106, 107, 108, 109, 110, 111], q_ckw i = true := List.forall_mem_cons.mpr ⟨e_96, List.forall_mem_cons.mpr ⟨e_97, List.forall_mem_cons.mpr ⟨e_98, List.forall_mem_cons.mpr ⟨e_99, List.forall_mem_cons.mpr ⟨e_100, List.forall_mem_cons.mpr ⟨e_101, List.forall_mem_cons.mpr ⟨e_102, List.forall_mem_cons.mpr ⟨e_103, List.forall_mem_cons.mpr ⟨e_104, List.forall_mem_cons.mpr ⟨e_105, List.forall_mem_cons.mpr ⟨e_106, List.forall_mem_cons.mpr ⟨e_107, List.forall_mem_cons.mpr ⟨e_108, List.forall_mem_cons.mpr ⟨e_109, List.forall_mem_cons.mpr ⟨e_110, List.forall_mem_cons.mpr ⟨e_111, fun _ h => absurd h List.not_mem_nil⟩⟩⟩⟩⟩⟩⟩⟩⟩⟩⟩⟩⟩⟩⟩⟩
theorem q_ckw_all_g7 : ∀ i ∈ [112, 113, 114, 115, 116, 117, 118, 119, 120, 121, 122, 123, 124, 125, 126, 127], q_ckw i = true := List.forall_mem_cons.mpr ⟨e_112, List.forall_mem_cons.mpr ⟨e_113, List.forall_mem_cons.mpr ⟨e_114, List.forall_mem_cons.mpr ⟨e_115, List.forall_mem_cons.mpr ⟨e_116, List.forall_mem_cons.mpr ⟨e_117, List.forall_mem_cons.mpr ⟨e_118, List.forall_mem_cons.mpr ⟨e_119, List.forall_mem_cons.mpr ⟨e_120, List.forall_mem_cons.mpr ⟨e_121, List.forall_mem_cons.mpr ⟨e_122, List.forall_mem_cons.mpr ⟨e_123, List.forall_mem_cons.mpr ⟨e_124, List.forall_mem_cons.mpr ⟨e_125, List.forall_mem_cons.mpr ⟨e_126, List.forall_mem_cons.mpr ⟨e_127, fun _ h => absurd h List.not_mem_nil⟩⟩⟩⟩⟩⟩⟩⟩⟩⟩⟩⟩⟩⟩⟩⟩
theorem q_ckw_all_g8 : ∀ i ∈ [128, 129, 130, 131, 132, 133, 134, 135, 136, 137, 138, 139, 140, 141, 142, 143], q_ckw i = true := List.forall_mem_cons.mpr ⟨e_128, List.forall_mem_cons.mpr ⟨e_129, List.forall_mem_cons.mpr ⟨e_130, List.forall_mem_cons.mpr ⟨e_131, List.forall_mem_cons.mpr ⟨e_132, List.forall_mem_cons.mpr ⟨e_133, List.forall_mem_cons.mpr ⟨e_134, List.forall_mem_cons.mpr ⟨e_135, List.forall_mem_cons.mpr ⟨e_136, List.forall_mem_cons.mpr ⟨e_137, List.forall_mem_cons.mpr ⟨e_138, List.forall_mem_cons.mpr ⟨e_139, List.forall_mem_cons.mpr ⟨e_140, List.forall_mem_cons.mpr ⟨e_141, List.forall_mem_cons.mpr ⟨e_142, List.forall_mem_cons.mpr ⟨e_143, fun _ h => absurd h List.not_mem_nil⟩⟩⟩⟩⟩⟩⟩⟩⟩⟩⟩⟩⟩⟩⟩⟩
theorem q_ckw_all_g9 : ∀ i ∈ [144, 145, 146, 147, 148, 149, 150, 151, 152, 153, 154, 155, 156, 157, 158, 159], q_ckw i = true := List.forall_mem_cons.mpr ⟨e_144, List.forall_mem_cons.mpr ⟨e_145, List.forall_mem_cons.mpr ⟨e_146, List.forall_mem_cons.mpr ⟨e_147, List.forall_mem_cons.mpr ⟨e_148, List.forall_mem_cons.mpr ⟨e_149, List.forall_mem_cons.mpr ⟨e_150, List.forall_mem_cons.mpr ⟨e_151, List.forall_mem_cons.mpr ⟨e_152, List.forall_mem_cons.mpr ⟨e_153, List.forall_mem_cons.mpr ⟨e_154, List.forall_mem_cons.mpr ⟨e_155, List.forall_mem_cons.mpr ⟨e_156, List.forall_mem_cons.mpr ⟨e_157, List.forall_mem_cons.mpr ⟨e_158, List.forall_mem_cons.mpr ⟨e_159, fun _ h => absurd h List.not_mem_nil⟩⟩⟩⟩⟩⟩⟩⟩⟩⟩⟩⟩⟩⟩⟩⟩
theorem q_ckw_all_g10 : ∀ i ∈ [160, 161, 162, 163, 164, 165, 166, 167, 168, 169, 170, 171, 172, 173, 174, 175], q_ckw i = true := List.forall_mem_cons.mpr ⟨e_160, List.forall_mem_cons.mpr ⟨e_161, List.forall_mem_cons.mpr ⟨e_162, List.forall_mem_cons.mpr ⟨e_163, List.forall_mem_cons.mpr ⟨e_164, List.forall_mem_cons.mpr ⟨e_165, List.forall_mem_cons.mpr ⟨e_166, List.forall_mem_cons.mpr ⟨e_167, List.forall_mem_cons.mpr ⟨e_168, List.forall_mem_cons.mpr ⟨e_169, List.forall_mem_cons.mpr ⟨e_170, List.forall_mem_cons.mpr ⟨e_171, List.forall_mem_cons.mpr ⟨e_172, List.forall_mem_cons.mpr ⟨e_173, List.forall_mem_cons.mpr ⟨e_174, List.forall_mem_cons.mpr ⟨e_175, fun _ h => absurd h List.not_mem_nil⟩⟩⟩⟩⟩⟩⟩⟩⟩⟩⟩⟩⟩⟩⟩⟩
theorem q_ckw_all_g11 : ∀ i ∈ [176], q_ckw i = true := List.forall_mem_cons.mpr ⟨e_176, fun _ h => absurd h List.not_mem_nil⟩
theorem q_ckw_all : ∀ i, i < 177 → q_ckw i = true := by
  intro i hi
  have h : i ∈ List.range 177 := List.mem_range.mpr hi
  have e : List.range 177 = [0, 1, 2, 3, 4, 5, 6, 7, 8, 9, 10, 11, 12, 13, 14, 15] ++ [16, 17, 18, 19, 20, 21, 22, 23, 24, 25, 26, 27, 28, 29, 30, 31] ++ [32, 33, 34, 35, 36, 37, 38, 39, 40, 41, 42, 43, 44, 45, 46, 47] ++ [48, 49, 50, 51, 52, 53, 54, 55, 56, 57, 58, 59, 60, 61, 62, 63] ++ [64, 65, 66, 67, 68, 69, 70, 71, 72, 73, 74, 75, 76, 77, 78, 79] ++ [80, 81, 82, 83, 84, 85, 86, 87, 88, 89, 90, 91, 92, 93, 94, 95] ++ [96, 97, 98, 99, 100, 101, 102, 103, 104, 105, 106, 107, 108, 109, 110, 111] ++ [112, 113, 114, 115, 116, 117, 118, 119, 120, 121, 122, 123, 124, 125, 126, 127] ++ [128, 129, 130, 131, 132, 133, 134, 135, 136, 137, 138, 139, 140, 141, 142, 143] ++ [144, 145, 146, 147, 148, 149, 150, 151, 152, 153, 154, 155, 156, 157, 158, 159] ++ [160, 161, 162, 163, 164, 165, 166, 167, 168, 169, 170, 171, 172, 173, 174, 175] ++ [176] := by decide +kernel
  rw [e] at h
  simp only [List.mem_append] at h
  rcases h with ((((((((((h | h) | h) | h) | h) | h) | h) | h) | h) | h) | h) | h
  · exact q_ckw_all_g0 i h
  · exact q_ckw_all_g1 i h
  · exact q_ckw_all_g2 i h
  · exact q_ckw_all_g3 i h
  · exact q_ckw_all_g4 i h
  · exact q_ckw_all_g5 i h
  · exact q_ckw_all_g6 i h
  · exact q_ckw_all_g7 i h
  · exact q_ckw_all_g8 i h
  · exact q_ckw_all_g9 i h
  · exact q_ckw_all_g10 i h
  · exact q_ckw_all_g11 i h
