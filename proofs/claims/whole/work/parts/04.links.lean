/-! what the tables say of each link and each method (by program) -/
def vlinkF (own : String) (idx : Nat) (q : vw_C) (k : Nat) : Prop := Cond.fieldLink own idx (q.2.1 k).1 (q.2.1 k).2.1 (q.2.1 k).2.2.1 ∈ vWS ∨ ∃ host, Cond.fieldLinkNest own idx (q.2.1 k).1 (q.2.1 k).2.1 (q.2.1 k).2.2.1 host ∈ lw_tbl
def vlinkM (own : String) (idx : Nat) (y : MethodName) : Prop := Cond.methodLink own idx y ∈ vWS ∨ ∃ host, Cond.methodLinkNest own idx y host ∈ lw_tbl
def vfOk (e : Nat × Nat × Nat × Nat) : Prop := ∃ q, vcl[e.2.2.1]? = some q ∧ e.2.2.2 < q.2.2 ∧ vlinkF (vcname e.1) e.2.1 q e.2.2.2
theorem vf_0_14 : vfOk (0, 14, 0, 0) := ⟨_, rfl, by decide, Or.inl vw1_200⟩
theorem vf_0_21 : vfOk (0, 21, 0, 1) := ⟨_, rfl, by decide, Or.inl vw1_201⟩
theorem vf_0_25 : vfOk (0, 25, 0, 2) := ⟨_, rfl, by decide, Or.inl vw1_202⟩
theorem vf_0_31 : vfOk (0, 31, 0, 3) := ⟨_, rfl, by decide, Or.inl vw1_203⟩
theorem vf_0_35 : vfOk (0, 35, 0, 4) := ⟨_, rfl, by decide, Or.inl vw1_204⟩
theorem vf_0_48 : vfOk (0, 48, 0, 5) := ⟨_, rfl, by decide, Or.inl vw1_205⟩
theorem vf_0_52 : vfOk (0, 52, 0, 6) := ⟨_, rfl, by decide, Or.inl vw1_206⟩
theorem vf_0_58 : vfOk (0, 58, 0, 7) := ⟨_, rfl, by decide, Or.inl vw1_207⟩
theorem vf_0_62 : vfOk (0, 62, 0, 8) := ⟨_, rfl, by decide, Or.inl vw1_208⟩
theorem vf_0_70 : vfOk (0, 70, 0, 9) := ⟨_, rfl, by decide, Or.inl vw1_209⟩
theorem vf_0_79 : vfOk (0, 79, 0, 10) := ⟨_, rfl, by decide, Or.inl vw1_210⟩
theorem vf_1_7 : vfOk (1, 7, 1, 0) := ⟨_, rfl, by decide, Or.inl vw1_30⟩
theorem vf_1_13 : vfOk (1, 13, 1, 1) := ⟨_, rfl, by decide, Or.inl vw1_31⟩
theorem vf_2_7 : vfOk (2, 7, 2, 0) := ⟨_, rfl, by decide, Or.inl vw1_81⟩
theorem vf_2_13 : vfOk (2, 13, 2, 1) := ⟨_, rfl, by decide, Or.inl vw1_82⟩
theorem vf_3_14 : vfOk (3, 14, 3, 0) := ⟨_, rfl, by decide, Or.inl vw1_53⟩
theorem vf_3_20 : vfOk (3, 20, 3, 1) := ⟨_, rfl, by decide, Or.inl vw1_54⟩
theorem vf_3_24 : vfOk (3, 24, 3, 2) := ⟨_, rfl, by decide, Or.inl vw1_55⟩
theorem vf_4_9 : vfOk (4, 9, 4, 0) := ⟨_, rfl, by decide, Or.inl vw1_63⟩
theorem vf_4_16 : vfOk (4, 16, 4, 1) := ⟨_, rfl, by decide, Or.inl vw1_64⟩
theorem vf_5_7 : vfOk (5, 7, 5, 0) := ⟨_, rfl, by decide, Or.inl vw1_94⟩
theorem vf_5_13 : vfOk (5, 13, 5, 1) := ⟨_, rfl, by decide, Or.inl vw1_95⟩
theorem vf_5_17 : vfOk (5, 17, 5, 2) := ⟨_, rfl, by decide, Or.inl vw1_96⟩
theorem vf_6_9 : vfOk (6, 9, 6, 0) := ⟨_, rfl, by decide, Or.inl vw1_113⟩
theorem vf_6_15 : vfOk (6, 15, 6, 1) := ⟨_, rfl, by decide, Or.inl vw1_114⟩
theorem vf_6_19 : vfOk (6, 19, 6, 2) := ⟨_, rfl, by decide, Or.inl vw1_115⟩
theorem vf_6_23 : vfOk (6, 23, 6, 3) := ⟨_, rfl, by decide, Or.inl vw1_116⟩
theorem vf_6_26 : vfOk (6, 26, 6, 4) := ⟨_, rfl, by decide, Or.inl vw1_117⟩
theorem vf_6_35 : vfOk (6, 35, 6, 5) := ⟨_, rfl, by decide, Or.inl vw1_118⟩
theorem vf_6_38 : vfOk (6, 38, 6, 6) := ⟨_, rfl, by decide, Or.inl vw1_119⟩
theorem vf_6_41 : vfOk (6, 41, 6, 7) := ⟨_, rfl, by decide, Or.inl vw1_120⟩
theorem vf_7_14 : vfOk (7, 14, 7, 0) := ⟨_, rfl, by decide, Or.inl vw1_155⟩
theorem vf_7_23 : vfOk (7, 23, 7, 1) := ⟨_, rfl, by decide, Or.inl vw1_157⟩
theorem vf_7_27 : vfOk (7, 27, 7, 3) := ⟨_, rfl, by decide, Or.inl vw1_160⟩
theorem vf_7_35 : vfOk (7, 35, 7, 6) := ⟨_, rfl, by decide, Or.inl vw1_164⟩
theorem vf_8_9 : vfOk (8, 9, 8, 0) := ⟨_, rfl, by decide, Or.inl vw1_181⟩
theorem vf_8_15 : vfOk (8, 15, 8, 1) := ⟨_, rfl, by decide, Or.inl vw1_182⟩
theorem vf_8_21 : vfOk (8, 21, 8, 2) := ⟨_, rfl, by decide, Or.inl vw1_183⟩
theorem vf_8_26 : vfOk (8, 26, 8, 3) := ⟨_, rfl, by decide, Or.inl vw1_184⟩
theorem vf_8_30 : vfOk (8, 30, 8, 4) := ⟨_, rfl, by decide, Or.inl vw1_185⟩
theorem vf_8_33 : vfOk (8, 33, 8, 5) := ⟨_, rfl, by decide, Or.inl vw1_186⟩
theorem vf_8_70 : vfOk (8, 70, 7, 2) := ⟨_, rfl, by decide, Or.inr ⟨_, vw1_159⟩⟩
theorem vf_8_73 : vfOk (8, 73, 7, 3) := ⟨_, rfl, by decide, Or.inr ⟨_, vw1_161⟩⟩
theorem vf_8_76 : vfOk (8, 76, 7, 4) := ⟨_, rfl, by decide, Or.inr ⟨_, vw1_162⟩⟩
theorem vf_8_88 : vfOk (8, 88, 7, 5) := ⟨_, rfl, by decide, Or.inr ⟨_, vw1_163⟩⟩
theorem vf_8_94 : vfOk (8, 94, 7, 0) := ⟨_, rfl, by decide, Or.inr ⟨_, vw1_156⟩⟩
theorem vf_8_123 : vfOk (8, 123, 7, 6) := ⟨_, rfl, by decide, Or.inr ⟨_, vw1_165⟩⟩
theorem vf_8_140 : vfOk (8, 140, 7, 1) := ⟨_, rfl, by decide, Or.inr ⟨_, vw1_158⟩⟩
theorem vf_9_7 : vfOk (9, 7, 9, 0) := ⟨_, rfl, by decide, Or.inl vw3_228⟩
theorem vf_9_13 : vfOk (9, 13, 9, 2) := ⟨_, rfl, by decide, Or.inl vw3_230⟩
theorem vf_9_16 : vfOk (9, 16, 9, 3) := ⟨_, rfl, by decide, Or.inl vw3_231⟩
theorem vf_9_19 : vfOk (9, 19, 9, 4) := ⟨_, rfl, by decide, Or.inl vw3_232⟩
theorem vf_9_22 : vfOk (9, 22, 9, 5) := ⟨_, rfl, by decide, Or.inl vw3_233⟩
theorem vf_9_25 : vfOk (9, 25, 9, 6) := ⟨_, rfl, by decide, Or.inl vw3_234⟩
theorem vf_9_29 : vfOk (9, 29, 9, 8) := ⟨_, rfl, by decide, Or.inl vw3_236⟩
theorem vf_9_32 : vfOk (9, 32, 9, 9) := ⟨_, rfl, by decide, Or.inl vw3_237⟩
theorem vf_9_35 : vfOk (9, 35, 9, 12) := ⟨_, rfl, by decide, Or.inl vw4_0⟩
theorem vf_9_38 : vfOk (9, 38, 9, 14) := ⟨_, rfl, by decide, Or.inl vw4_2⟩
theorem vf_9_41 : vfOk (9, 41, 9, 15) := ⟨_, rfl, by decide, Or.inl vw4_3⟩
theorem vf_9_44 : vfOk (9, 44, 9, 17) := ⟨_, rfl, by decide, Or.inl vw4_5⟩
theorem vf_9_47 : vfOk (9, 47, 9, 20) := ⟨_, rfl, by decide, Or.inl vw4_8⟩
theorem vf_9_50 : vfOk (9, 50, 9, 21) := ⟨_, rfl, by decide, Or.inl vw4_9⟩
theorem vf_9_53 : vfOk (9, 53, 9, 22) := ⟨_, rfl, by decide, Or.inl vw4_10⟩
theorem vf_9_56 : vfOk (9, 56, 9, 23) := ⟨_, rfl, by decide, Or.inl vw4_11⟩
theorem vf_9_59 : vfOk (9, 59, 9, 24) := ⟨_, rfl, by decide, Or.inl vw4_12⟩
theorem vf_9_67 : vfOk (9, 67, 9, 1) := ⟨_, rfl, by decide, Or.inl vw3_229⟩
theorem vf_9_85 : vfOk (9, 85, 9, 7) := ⟨_, rfl, by decide, Or.inl vw3_235⟩
theorem vf_9_108 : vfOk (9, 108, 9, 10) := ⟨_, rfl, by decide, Or.inl vw3_238⟩
theorem vf_9_111 : vfOk (9, 111, 9, 11) := ⟨_, rfl, by decide, Or.inl vw3_239⟩
theorem vf_9_114 : vfOk (9, 114, 9, 16) := ⟨_, rfl, by decide, Or.inl vw4_4⟩
theorem vf_9_133 : vfOk (9, 133, 9, 13) := ⟨_, rfl, by decide, Or.inl vw4_1⟩
theorem vf_9_154 : vfOk (9, 154, 9, 18) := ⟨_, rfl, by decide, Or.inl vw4_6⟩
theorem vf_9_165 : vfOk (9, 165, 9, 19) := ⟨_, rfl, by decide, Or.inl vw4_7⟩
set_option maxRecDepth 100000 in
theorem vfl_ok : ∀ e ∈ vfl, vfOk e := List.forall_mem_cons.mpr ⟨vf_0_14, List.forall_mem_cons.mpr ⟨vf_0_21, List.forall_mem_cons.mpr ⟨vf_0_25, List.forall_mem_cons.mpr ⟨vf_0_31, List.forall_mem_cons.mpr ⟨vf_0_35, List.forall_mem_cons.mpr ⟨vf_0_48, List.forall_mem_cons.mpr ⟨vf_0_52, List.forall_mem_cons.mpr ⟨vf_0_58, List.forall_mem_cons.mpr ⟨vf_0_62, List.forall_mem_cons.mpr ⟨vf_0_70, List.forall_mem_cons.mpr ⟨vf_0_79, List.forall_mem_cons.mpr ⟨vf_1_7, List.forall_mem_cons.mpr ⟨vf_1_13, List.forall_mem_cons.mpr ⟨vf_2_7, List.forall_mem_cons.mpr ⟨vf_2_13, List.forall_mem_cons.mpr ⟨vf_3_14, List.forall_mem_cons.mpr ⟨vf_3_20, List.forall_mem_cons.mpr ⟨vf_3_24, List.forall_mem_cons.mpr ⟨vf_4_9, List.forall_mem_cons.mpr ⟨vf_4_16, List.forall_mem_cons.mpr ⟨vf_5_7, List.forall_mem_cons.mpr ⟨vf_5_13, List.forall_mem_cons.mpr ⟨vf_5_17, List.forall_mem_cons.mpr ⟨vf_6_9, List.forall_mem_cons.mpr ⟨vf_6_15, List.forall_mem_cons.mpr ⟨vf_6_19, List.forall_mem_cons.mpr ⟨vf_6_23, List.forall_mem_cons.mpr ⟨vf_6_26, List.forall_mem_cons.mpr ⟨vf_6_35, List.forall_mem_cons.mpr ⟨vf_6_38, List.forall_mem_cons.mpr ⟨vf_6_41, List.forall_mem_cons.mpr ⟨vf_7_14, List.forall_mem_cons.mpr ⟨vf_7_23, List.forall_mem_cons.mpr ⟨vf_7_27, List.forall_mem_cons.mpr ⟨vf_7_35, List.forall_mem_cons.mpr ⟨vf_8_9, List.forall_mem_cons.mpr ⟨vf_8_15, List.forall_mem_cons.mpr ⟨vf_8_21, List.forall_mem_cons.mpr ⟨vf_8_26, List.forall_mem_cons.mpr ⟨vf_8_30, List.forall_mem_cons.mpr ⟨vf_8_33, List.forall_mem_cons.mpr ⟨vf_8_70, List.forall_mem_cons.mpr ⟨vf_8_73, List.forall_mem_cons.mpr ⟨vf_8_76, List.forall_mem_cons.mpr ⟨vf_8_88, List.forall_mem_cons.mpr ⟨vf_8_94, List.forall_mem_cons.mpr ⟨vf_8_123, List.forall_mem_cons.mpr ⟨vf_8_140, List.forall_mem_cons.mpr ⟨vf_9_7, List.forall_mem_cons.mpr ⟨vf_9_13, List.forall_mem_cons.mpr ⟨vf_9_16, List.forall_mem_cons.mpr ⟨vf_9_19, List.forall_mem_cons.mpr ⟨vf_9_22, List.forall_mem_cons.mpr ⟨vf_9_25, List.forall_mem_cons.mpr ⟨vf_9_29, List.forall_mem_cons.mpr ⟨vf_9_32, List.forall_mem_cons.mpr ⟨vf_9_35, List.forall_mem_cons.mpr ⟨vf_9_38, List.forall_mem_cons.mpr ⟨vf_9_41, List.forall_mem_cons.mpr ⟨vf_9_44, List.forall_mem_cons.mpr ⟨vf_9_47, List.forall_mem_cons.mpr ⟨vf_9_50, List.forall_mem_cons.mpr ⟨vf_9_53, List.forall_mem_cons.mpr ⟨vf_9_56, List.forall_mem_cons.mpr ⟨vf_9_59, List.forall_mem_cons.mpr ⟨vf_9_67, List.forall_mem_cons.mpr ⟨vf_9_85, List.forall_mem_cons.mpr ⟨vf_9_108, List.forall_mem_cons.mpr ⟨vf_9_111, List.forall_mem_cons.mpr ⟨vf_9_114, List.forall_mem_cons.mpr ⟨vf_9_133, List.forall_mem_cons.mpr ⟨vf_9_154, List.forall_mem_cons.mpr ⟨vf_9_165, fun _ h => absurd h List.not_mem_nil⟩⟩⟩⟩⟩⟩⟩⟩⟩⟩⟩⟩⟩⟩⟩⟩⟩⟩⟩⟩⟩⟩⟩⟩⟩⟩⟩⟩⟩⟩⟩⟩⟩⟩⟩⟩⟩⟩⟩⟩⟩⟩⟩⟩⟩⟩⟩⟩⟩⟩⟩⟩⟩⟩⟩⟩⟩⟩⟩⟩⟩⟩⟩⟩⟩⟩⟩⟩⟩⟩⟩⟩⟩
def vmOk (e : Nat × Nat × Nat) : Prop := vlinkM (vcname e.1) e.2.1 (vy e.2.2)
theorem vm_0_11 : vmOk (0, 11, 141) := Or.inl vw1_26
theorem vm_0_20 : vmOk (0, 20, 157) := Or.inl vw1_40
theorem vm_0_30 : vmOk (0, 30, 96) := Or.inr ⟨_, vw1_71⟩
theorem vm_0_39 : vmOk (0, 39, 167) := Or.inl vw1_72
theorem vm_0_47 : vmOk (0, 47, 91) := Or.inl vw1_77
theorem vm_0_57 : vmOk (0, 57, 75) := Or.inl vw1_90
theorem vm_0_67 : vmOk (0, 67, 131) := Or.inl vw1_107
theorem vm_0_76 : vmOk (0, 76, 109) := Or.inl vw1_140
theorem vm_0_83 : vmOk (0, 83, 143) := Or.inl vw1_238
theorem vm_0_87 : vmOk (0, 87, 147) := Or.inl vw2_2
theorem vm_0_90 : vmOk (0, 90, 151) := Or.inl vw2_10
theorem vm_0_94 : vmOk (0, 94, 152) := Or.inl vw2_18
theorem vm_0_98 : vmOk (0, 98, 142) := Or.inl vw2_26
theorem vm_0_101 : vmOk (0, 101, 144) := Or.inl vw2_34
theorem vm_0_105 : vmOk (0, 105, 100) := Or.inl vw2_42
theorem vm_0_108 : vmOk (0, 108, 98) := Or.inl vw2_75
theorem vm_0_111 : vmOk (0, 111, 162) := Or.inl vw2_79
theorem vm_0_114 : vmOk (0, 114, 160) := Or.inl vw2_84
theorem vm_0_117 : vmOk (0, 117, 102) := Or.inl vw2_88
theorem vm_0_121 : vmOk (0, 121, 159) := Or.inl vw2_96
theorem vm_0_122 : vmOk (0, 122, 104) := Or.inl vw2_100
theorem vm_0_126 : vmOk (0, 126, 165) := Or.inl vw2_109
theorem vm_0_129 : vmOk (0, 129, 163) := Or.inl vw2_139
theorem vm_0_133 : vmOk (0, 133, 146) := Or.inl vw2_148
theorem vm_0_136 : vmOk (0, 136, 97) := Or.inl vw2_153
theorem vm_0_139 : vmOk (0, 139, 19) := Or.inl vw2_162
theorem vm_0_142 : vmOk (0, 142, 95) := Or.inl vw2_166
theorem vm_0_144 : vmOk (0, 144, 92) := Or.inl vw2_178
theorem vm_0_145 : vmOk (0, 145, 78) := Or.inl vw2_182
theorem vm_0_146 : vmOk (0, 146, 93) := Or.inl vw2_186
theorem vm_0_147 : vmOk (0, 147, 79) := Or.inl vw2_190
theorem vm_0_151 : vmOk (0, 151, 94) := Or.inl vw2_206
theorem vm_0_152 : vmOk (0, 152, 132) := Or.inl vw2_210
theorem vm_0_156 : vmOk (0, 156, 111) := Or.inl vw3_53
theorem vm_0_159 : vmOk (0, 159, 110) := Or.inl vw3_117
theorem vm_0_162 : vmOk (0, 162, 123) := Or.inl vw3_121
theorem vm_0_165 : vmOk (0, 165, 126) := Or.inl vw3_152
theorem vm_0_168 : vmOk (0, 168, 128) := Or.inl vw3_166
theorem vm_0_171 : vmOk (0, 171, 130) := Or.inl vw3_174
theorem vm_0_174 : vmOk (0, 174, 158) := Or.inl vw3_184
theorem vm_0_177 : vmOk (0, 177, 161) := Or.inl vw3_185
theorem vm_0_178 : vmOk (0, 178, 21) := Or.inl vw3_193
theorem vm_0_182 : vmOk (0, 182, 99) := Or.inl vw3_205
theorem vm_0_186 : vmOk (0, 186, 20) := Or.inl vw3_197
theorem vm_0_190 : vmOk (0, 190, 76) := Or.inl vw3_214
theorem vm_1_17 : vmOk (1, 17, 144) := Or.inl vw2_129
theorem vm_1_21 : vmOk (1, 21, 147) := Or.inl vw3_42
theorem vm_1_31 : vmOk (1, 31, 149) := Or.inl vw2_54
theorem vm_1_35 : vmOk (1, 35, 22) := Or.inr ⟨_, vw2_74⟩
theorem vm_3_11 : vmOk (3, 11, 141) := Or.inl vw1_52
theorem vm_3_27 : vmOk (3, 27, 146) := Or.inl vw2_46
theorem vm_3_30 : vmOk (3, 30, 150) := Or.inl vw2_50
theorem vm_3_34 : vmOk (3, 34, 101) := Or.inl vw2_61
theorem vm_3_37 : vmOk (3, 37, 22) := Or.inr ⟨_, vw2_65⟩
theorem vm_3_41 : vmOk (3, 41, 142) := Or.inl vw2_69
theorem vm_3_45 : vmOk (3, 45, 154) := Or.inl vw2_70
theorem vm_3_48 : vmOk (3, 48, 153) := Or.inl vw2_92
theorem vm_3_52 : vmOk (3, 52, 102) := Or.inl vw3_165
theorem vm_3_55 : vmOk (3, 55, 105) := Or.inl vw2_104
theorem vm_3_59 : vmOk (3, 59, 144) := Or.inl vw2_108
theorem vm_3_63 : vmOk (3, 63, 145) := Or.inl vw2_125
theorem vm_4_15 : vmOk (4, 15, 96) := Or.inr ⟨_, vw1_47⟩
theorem vm_4_20 : vmOk (4, 20, 98) := Or.inl vw2_83
theorem vm_4_24 : vmOk (4, 24, 97) := Or.inl vw2_131
theorem vm_4_27 : vmOk (4, 27, 99) := Or.inl vw2_143
theorem vm_4_31 : vmOk (4, 31, 100) := Or.inl vw2_147
theorem vm_4_35 : vmOk (4, 35, 107) := Or.inl vw2_121
theorem vm_4_39 : vmOk (4, 39, 162) := Or.inl vw2_130
theorem vm_4_42 : vmOk (4, 42, 108) := Or.inl vw2_135
theorem vm_4_46 : vmOk (4, 46, 106) := Or.inl vw2_113
theorem vm_4_49 : vmOk (4, 49, 164) := Or.inl vw2_117
theorem vm_5_21 : vmOk (5, 21, 162) := Or.inl vw2_194
theorem vm_5_27 : vmOk (5, 27, 81) := Or.inl vw2_195
theorem vm_5_31 : vmOk (5, 31, 160) := Or.inl vw2_199
theorem vm_5_35 : vmOk (5, 35, 80) := Or.inl vw2_200
theorem vm_5_39 : vmOk (5, 39, 106) := Or.inl vw2_204
theorem vm_5_45 : vmOk (5, 45, 164) := Or.inl vw2_205
theorem vm_6_32 : vmOk (6, 32, 141) := Or.inl vw1_112
theorem vm_6_44 : vmOk (6, 44, 133) := Or.inl vw2_214
theorem vm_6_48 : vmOk (6, 48, 146) := Or.inl vw2_228
theorem vm_6_51 : vmOk (6, 51, 147) := Or.inl vw2_229
theorem vm_6_54 : vmOk (6, 54, 134) := Or.inl vw2_230
theorem vm_6_57 : vmOk (6, 57, 142) := Or.inl vw2_234
theorem vm_6_61 : vmOk (6, 61, 154) := Or.inl vw3_48
theorem vm_6_65 : vmOk (6, 65, 148) := Or.inl vw3_38
theorem vm_6_68 : vmOk (6, 68, 158) := Or.inl vw2_218
theorem vm_6_73 : vmOk (6, 73, 77) := Or.inl vw2_222
theorem vm_6_79 : vmOk (6, 79, 160) := Or.inl vw2_226
theorem vm_6_83 : vmOk (6, 83, 97) := Or.inl vw2_227
theorem vm_6_88 : vmOk (6, 88, 99) := Or.inl vw2_235
theorem vm_6_92 : vmOk (6, 92, 137) := Or.inl vw2_236
theorem vm_6_96 : vmOk (6, 96, 139) := Or.inl vw2_239
theorem vm_6_102 : vmOk (6, 102, 135) := Or.inl vw3_16
theorem vm_6_106 : vmOk (6, 106, 136) := Or.inl vw3_43
theorem vm_6_109 : vmOk (6, 109, 150) := Or.inl vw3_47
theorem vm_6_113 : vmOk (6, 113, 82) := Or.inl vw3_20
theorem vm_7_11 : vmOk (7, 11, 141) := Or.inl vw1_152
theorem vm_7_22 : vmOk (7, 22, 96) := Or.inr ⟨_, vw1_154⟩
theorem vm_7_31 : vmOk (7, 31, 88) := Or.inl vw3_129
theorem vm_7_39 : vmOk (7, 39, 100) := Or.inl vw3_130
theorem vm_8_25 : vmOk (8, 25, 87) := Or.inr ⟨_, vw1_147⟩
theorem vm_8_36 : vmOk (8, 36, 113) := Or.inl vw3_57
theorem vm_8_40 : vmOk (8, 40, 115) := Or.inl vw3_66
theorem vm_8_44 : vmOk (8, 44, 121) := Or.inl vw3_107
theorem vm_8_47 : vmOk (8, 47, 122) := Or.inl vw3_112
theorem vm_8_50 : vmOk (8, 50, 144) := Or.inl vw3_65
theorem vm_8_56 : vmOk (8, 56, 112) := Or.inl vw3_61
theorem vm_8_60 : vmOk (8, 60, 116) := Or.inl vw3_70
theorem vm_8_64 : vmOk (8, 64, 117) := Or.inl vw3_86
theorem vm_8_67 : vmOk (8, 67, 119) := Or.inl vw3_94
theorem vm_8_79 : vmOk (8, 79, 89) := Or.inl vw3_74
theorem vm_8_82 : vmOk (8, 82, 114) := Or.inl vw3_78
theorem vm_8_85 : vmOk (8, 85, 88) := Or.inl vw3_82
theorem vm_8_91 : vmOk (8, 91, 118) := Or.inl vw3_90
theorem vm_8_97 : vmOk (8, 97, 146) := Or.inl vw3_98
theorem vm_8_100 : vmOk (8, 100, 138) := Or.inl vw3_99
theorem vm_8_105 : vmOk (8, 105, 120) := Or.inl vw3_102
theorem vm_8_109 : vmOk (8, 109, 147) := Or.inl vw3_106
theorem vm_8_113 : vmOk (8, 113, 154) := Or.inl vw3_111
theorem vm_8_116 : vmOk (8, 116, 142) := Or.inl vw3_116
theorem vm_8_120 : vmOk (8, 120, 90) := Or.inl vw3_125
theorem vm_8_127 : vmOk (8, 127, 124) := Or.inl vw3_131
theorem vm_8_130 : vmOk (8, 130, 125) := Or.inl vw3_135
theorem vm_8_134 : vmOk (8, 134, 99) := Or.inl vw3_142
theorem vm_8_144 : vmOk (8, 144, 85) := Or.inl vw3_143
theorem vm_8_150 : vmOk (8, 150, 97) := Or.inl vw3_150
theorem vm_8_152 : vmOk (8, 152, 101) := Or.inl vw3_151
theorem vm_8_155 : vmOk (8, 155, 98) := Or.inl vw3_139
theorem vm_8_158 : vmOk (8, 158, 162) := Or.inl vw3_140
theorem vm_8_163 : vmOk (8, 163, 160) := Or.inl vw3_141
theorem vm_8_166 : vmOk (8, 166, 104) := Or.inl vw3_156
theorem vm_8_169 : vmOk (8, 169, 127) := Or.inl vw3_157
theorem vm_8_172 : vmOk (8, 172, 103) := Or.inl vw3_161
theorem vm_8_176 : vmOk (8, 176, 129) := Or.inl vw3_170
theorem vm_8_179 : vmOk (8, 179, 158) := Or.inl vw3_178
theorem vm_8_182 : vmOk (8, 182, 163) := Or.inl vw3_179
theorem vm_9_63 : vmOk (9, 63, 24) := Or.inl vw4_68
theorem vm_9_71 : vmOk (9, 71, 25) := Or.inl vw4_95
theorem vm_9_75 : vmOk (9, 75, 32) := Or.inl vw4_103
theorem vm_9_79 : vmOk (9, 79, 31) := Or.inl vw4_91
theorem vm_9_82 : vmOk (9, 82, 33) := Or.inl vw4_99
theorem vm_9_89 : vmOk (9, 89, 36) := Or.inl vw4_114
theorem vm_9_92 : vmOk (9, 92, 37) := Or.inl vw4_118
theorem vm_9_96 : vmOk (9, 96, 35) := Or.inl vw4_106
theorem vm_9_100 : vmOk (9, 100, 34) := Or.inl vw4_110
theorem vm_9_104 : vmOk (9, 104, 41) := Or.inl vw4_122
theorem vm_9_117 : vmOk (9, 117, 47) := Or.inl vw4_182
theorem vm_9_120 : vmOk (9, 120, 46) := Or.inl vw4_162
theorem vm_9_124 : vmOk (9, 124, 49) := Or.inl vw4_174
theorem vm_9_127 : vmOk (9, 127, 50) := Or.inl vw4_170
theorem vm_9_130 : vmOk (9, 130, 48) := Or.inl vw4_178
theorem vm_9_136 : vmOk (9, 136, 39) := Or.inl vw4_150
theorem vm_9_139 : vmOk (9, 139, 38) := Or.inl vw4_154
theorem vm_9_142 : vmOk (9, 142, 54) := Or.inl vw4_146
theorem vm_9_145 : vmOk (9, 145, 52) := Or.inl vw4_158
theorem vm_9_148 : vmOk (9, 148, 51) := Or.inl vw4_166
theorem vm_9_151 : vmOk (9, 151, 53) := Or.inl vw4_186
theorem vm_9_157 : vmOk (9, 157, 56) := Or.inl vw4_198
theorem vm_9_161 : vmOk (9, 161, 57) := Or.inl vw4_202
theorem vm_9_168 : vmOk (9, 168, 58) := Or.inl vw4_206
theorem vm_9_171 : vmOk (9, 171, 59) := Or.inl vw4_210
theorem vm_9_174 : vmOk (9, 174, 60) := Or.inl vw4_214
theorem vm_9_177 : vmOk (9, 177, 64) := Or.inl vw4_222
theorem vm_9_180 : vmOk (9, 180, 63) := Or.inl vw4_226
theorem vm_9_183 : vmOk (9, 183, 62) := Or.inl vw4_230
theorem vm_9_186 : vmOk (9, 186, 61) := Or.inl vw4_194
theorem vm_9_190 : vmOk (9, 190, 65) := Or.inl vw4_218
theorem vm_9_193 : vmOk (9, 193, 66) := Or.inl vw4_234
theorem vm_9_196 : vmOk (9, 196, 69) := Or.inl vw5_6
theorem vm_10_9 : vmOk (10, 9, 142) := Or.inl vw3_2
theorem vm_10_15 : vmOk (10, 15, 155) := Or.inl vw3_3
theorem vm_10_25 : vmOk (10, 25, 147) := Or.inl vw3_10
theorem vm_10_29 : vmOk (10, 29, 144) := Or.inl vw3_11
theorem vm_10_32 : vmOk (10, 32, 140) := Or.inl vw3_12
theorem vm_10_36 : vmOk (10, 36, 149) := Or.inl vw3_15
theorem vm_11_7 : vmOk (11, 7, 146) := Or.inl vw3_23
theorem vm_11_12 : vmOk (11, 12, 142) := Or.inl vw3_24
theorem vm_11_16 : vmOk (11, 16, 147) := Or.inl vw3_25
theorem vm_11_20 : vmOk (11, 20, 84) := Or.inl vw3_26
theorem vm_11_26 : vmOk (11, 26, 156) := Or.inl vw3_29
theorem vm_11_30 : vmOk (11, 30, 83) := Or.inl vw3_34
theorem vm_11_34 : vmOk (11, 34, 149) := Or.inl vw3_37
theorem vm_11_38 : vmOk (11, 38, 144) := Or.inl vw3_146
theorem vm_11_42 : vmOk (11, 42, 86) := Or.inl vw3_147
theorem vm_12_9 : vmOk (12, 9, 0) := Or.inl vw1_18
theorem vm_12_12 : vmOk (12, 12, 23) := Or.inl vw3_224
theorem vm_12_13 : vmOk (12, 13, 1) := Or.inl vw1_234
theorem vm_12_17 : vmOk (12, 17, 26) := Or.inl vw4_64
theorem vm_12_18 : vmOk (12, 18, 2) := Or.inl vw2_6
theorem vm_12_21 : vmOk (12, 21, 27) := Or.inl vw4_71
theorem vm_12_22 : vmOk (12, 22, 3) := Or.inl vw2_14
theorem vm_12_26 : vmOk (12, 26, 28) := Or.inl vw4_75
theorem vm_12_27 : vmOk (12, 27, 4) := Or.inl vw2_22
theorem vm_12_31 : vmOk (12, 31, 29) := Or.inl vw4_79
theorem vm_12_32 : vmOk (12, 32, 5) := Or.inl vw2_30
theorem vm_12_36 : vmOk (12, 36, 30) := Or.inl vw4_83
theorem vm_12_37 : vmOk (12, 37, 6) := Or.inl vw2_38
theorem vm_12_40 : vmOk (12, 40, 40) := Or.inl vw4_87
theorem vm_12_41 : vmOk (12, 41, 7) := Or.inl vw2_149
theorem vm_12_44 : vmOk (12, 44, 42) := Or.inl vw4_126
theorem vm_12_45 : vmOk (12, 45, 8) := Or.inl vw2_154
theorem vm_12_48 : vmOk (12, 48, 43) := Or.inl vw4_130
theorem vm_12_49 : vmOk (12, 49, 9) := Or.inl vw2_158
theorem vm_12_52 : vmOk (12, 52, 44) := Or.inl vw4_134
theorem vm_12_53 : vmOk (12, 53, 10) := Or.inl vw2_170
theorem vm_12_56 : vmOk (12, 56, 45) := Or.inl vw4_138
theorem vm_12_57 : vmOk (12, 57, 11) := Or.inl vw2_174
theorem vm_12_60 : vmOk (12, 60, 55) := Or.inl vw4_142
theorem vm_12_61 : vmOk (12, 61, 12) := Or.inl vw3_49
theorem vm_12_64 : vmOk (12, 64, 67) := Or.inl vw4_190
theorem vm_12_65 : vmOk (12, 65, 13) := Or.inl vw3_180
theorem vm_12_68 : vmOk (12, 68, 68) := Or.inl vw4_238
theorem vm_12_69 : vmOk (12, 69, 14) := Or.inl vw3_189
theorem vm_12_73 : vmOk (12, 73, 70) := Or.inl vw5_2
theorem vm_12_74 : vmOk (12, 74, 15) := Or.inl vw3_201
theorem vm_12_77 : vmOk (12, 77, 71) := Or.inl vw5_10
theorem vm_12_78 : vmOk (12, 78, 16) := Or.inl vw3_206
theorem vm_12_82 : vmOk (12, 82, 72) := Or.inl vw5_14
theorem vm_12_83 : vmOk (12, 83, 17) := Or.inl vw3_210
theorem vm_12_86 : vmOk (12, 86, 73) := Or.inl vw5_18
theorem vm_12_87 : vmOk (12, 87, 18) := Or.inl vw3_218
theorem vm_12_90 : vmOk (12, 90, 74) := Or.inl vw5_22
set_option maxRecDepth 100000 in
theorem vml_ok : ∀ e ∈ vml, vmOk e := List.forall_mem_cons.mpr ⟨vm_0_11, List.forall_mem_cons.mpr ⟨vm_0_20, List.forall_mem_cons.mpr ⟨vm_0_30, List.forall_mem_cons.mpr ⟨vm_0_39, List.forall_mem_cons.mpr ⟨vm_0_47, List.forall_mem_cons.mpr ⟨vm_0_57, List.forall_mem_cons.mpr ⟨vm_0_67, List.forall_mem_cons.mpr ⟨vm_0_76, List.forall_mem_cons.mpr ⟨vm_0_83, List.forall_mem_cons.mpr ⟨vm_0_87, List.forall_mem_cons.mpr ⟨vm_0_90, List.forall_mem_cons.mpr ⟨vm_0_94, List.forall_mem_cons.mpr ⟨vm_0_98, List.forall_mem_cons.mpr ⟨vm_0_101, List.forall_mem_cons.mpr ⟨vm_0_105, List.forall_mem_cons.mpr ⟨vm_0_108, List.forall_mem_cons.mpr ⟨vm_0_111, List.forall_mem_cons.mpr ⟨vm_0_114, List.forall_mem_cons.mpr ⟨vm_0_117, List.forall_mem_cons.mpr ⟨vm_0_121, List.forall_mem_cons.mpr ⟨vm_0_122, List.forall_mem_cons.mpr ⟨vm_0_126, List.forall_mem_cons.mpr ⟨vm_0_129, List.forall_mem_cons.mpr ⟨vm_0_133, List.forall_mem_cons.mpr ⟨vm_0_136, List.forall_mem_cons.mpr ⟨vm_0_139, List.forall_mem_cons.mpr ⟨vm_0_142, List.forall_mem_cons.mpr ⟨vm_0_144, List.forall_mem_cons.mpr ⟨vm_0_145, List.forall_mem_cons.mpr ⟨vm_0_146, List.forall_mem_cons.mpr ⟨vm_0_147, List.forall_mem_cons.mpr ⟨vm_0_151, List.forall_mem_cons.mpr ⟨vm_0_152, List.forall_mem_cons.mpr ⟨vm_0_156, List.forall_mem_cons.mpr ⟨vm_0_159, List.forall_mem_cons.mpr ⟨vm_0_162, List.forall_mem_cons.mpr ⟨vm_0_165, List.forall_mem_cons.mpr ⟨vm_0_168, List.forall_mem_cons.mpr ⟨vm_0_171, List.forall_mem_cons.mpr ⟨vm_0_174, List.forall_mem_cons.mpr ⟨vm_0_177, List.forall_mem_cons.mpr ⟨vm_0_178, List.forall_mem_cons.mpr ⟨vm_0_182, List.forall_mem_cons.mpr ⟨vm_0_186, List.forall_mem_cons.mpr ⟨vm_0_190, List.forall_mem_cons.mpr ⟨vm_1_17, List.forall_mem_cons.mpr ⟨vm_1_21, List.forall_mem_cons.mpr ⟨vm_1_31, List.forall_mem_cons.mpr ⟨vm_1_35, List.forall_mem_cons.mpr ⟨vm_3_11, List.forall_mem_cons.mpr ⟨vm_3_27, List.forall_mem_cons.mpr ⟨vm_3_30, List.forall_mem_cons.mpr ⟨vm_3_34, List.forall_mem_cons.mpr ⟨vm_3_37, List.forall_mem_cons.mpr ⟨vm_3_41, List.forall_mem_cons.mpr ⟨vm_3_45, List.forall_mem_cons.mpr ⟨vm_3_48, List.forall_mem_cons.mpr ⟨vm_3_52, List.forall_mem_cons.mpr ⟨vm_3_55, List.forall_mem_cons.mpr ⟨vm_3_59, List.forall_mem_cons.mpr ⟨vm_3_63, List.forall_mem_cons.mpr ⟨vm_4_15, List.forall_mem_cons.mpr ⟨vm_4_20, List.forall_mem_cons.mpr ⟨vm_4_24, List.forall_mem_cons.mpr ⟨vm_4_27, List.forall_mem_cons.mpr ⟨vm_4_31, List.forall_mem_cons.mpr ⟨vm_4_35, List.forall_mem_cons.mpr ⟨vm_4_39, List.forall_mem_cons.mpr ⟨vm_4_42, List.forall_mem_cons.mpr ⟨vm_4_46, List.forall_mem_cons.mpr ⟨vm_4_49, List.forall_mem_cons.mpr ⟨vm_5_21, List.forall_mem_cons.mpr ⟨vm_5_27, List.forall_mem_cons.mpr ⟨vm_5_31, List.forall_mem_cons.mpr ⟨vm_5_35, List.forall_mem_cons.mpr ⟨vm_5_39, List.forall_mem_cons.mpr ⟨vm_5_45, List.forall_mem_cons.mpr ⟨vm_6_32, List.forall_mem_cons.mpr ⟨vm_6_44, List.forall_mem_cons.mpr ⟨vm_6_48, List.forall_mem_cons.mpr ⟨vm_6_51, List.forall_mem_cons.mpr ⟨vm_6_54, List.forall_mem_cons.mpr ⟨vm_6_57, List.forall_mem_cons.mpr ⟨vm_6_61, List.forall_mem_cons.mpr ⟨vm_6_65, List.forall_mem_cons.mpr ⟨vm_6_68, List.forall_mem_cons.mpr ⟨vm_6_73, List.forall_mem_cons.mpr ⟨vm_6_79, List.forall_mem_cons.mpr ⟨vm_6_83, List.forall_mem_cons.mpr ⟨vm_6_88, List.forall_mem_cons.mpr ⟨vm_6_92, List.forall_mem_cons.mpr ⟨vm_6_96, List.forall_mem_cons.mpr ⟨vm_6_102, List.forall_mem_cons.mpr ⟨vm_6_106, List.forall_mem_cons.mpr ⟨vm_6_109, List.forall_mem_cons.mpr ⟨vm_6_113, List.forall_mem_cons.mpr ⟨vm_7_11, List.forall_mem_cons.mpr ⟨vm_7_22, List.forall_mem_cons.mpr ⟨vm_7_31, List.forall_mem_cons.mpr ⟨vm_7_39, List.forall_mem_cons.mpr ⟨vm_8_25, List.forall_mem_cons.mpr ⟨vm_8_36, List.forall_mem_cons.mpr ⟨vm_8_40, List.forall_mem_cons.mpr ⟨vm_8_44, List.forall_mem_cons.mpr ⟨vm_8_47, List.forall_mem_cons.mpr ⟨vm_8_50, List.forall_mem_cons.mpr ⟨vm_8_56, List.forall_mem_cons.mpr ⟨vm_8_60, List.forall_mem_cons.mpr ⟨vm_8_64, List.forall_mem_cons.mpr ⟨vm_8_67, List.forall_mem_cons.mpr ⟨vm_8_79, List.forall_mem_cons.mpr ⟨vm_8_82, List.forall_mem_cons.mpr ⟨vm_8_85, List.forall_mem_cons.mpr ⟨vm_8_91, List.forall_mem_cons.mpr ⟨vm_8_97, List.forall_mem_cons.mpr ⟨vm_8_100, List.forall_mem_cons.mpr ⟨vm_8_105, List.forall_mem_cons.mpr ⟨vm_8_109, List.forall_mem_cons.mpr ⟨vm_8_113, List.forall_mem_cons.mpr ⟨vm_8_116, List.forall_mem_cons.mpr ⟨vm_8_120, List.forall_mem_cons.mpr ⟨vm_8_127, List.forall_mem_cons.mpr ⟨vm_8_130, List.forall_mem_cons.mpr ⟨vm_8_134, List.forall_mem_cons.mpr ⟨vm_8_144, List.forall_mem_cons.mpr ⟨vm_8_150, List.forall_mem_cons.mpr ⟨vm_8_152, List.forall_mem_cons.mpr ⟨vm_8_155, List.forall_mem_cons.mpr ⟨vm_8_158, List.forall_mem_cons.mpr ⟨vm_8_163, List.forall_mem_cons.mpr ⟨vm_8_166, List.forall_mem_cons.mpr ⟨vm_8_169, List.forall_mem_cons.mpr ⟨vm_8_172, List.forall_mem_cons.mpr ⟨vm_8_176, List.forall_mem_cons.mpr ⟨vm_8_179, List.forall_mem_cons.mpr ⟨vm_8_182, List.forall_mem_cons.mpr ⟨vm_9_63, List.forall_mem_cons.mpr ⟨vm_9_71, List.forall_mem_cons.mpr ⟨vm_9_75, List.forall_mem_cons.mpr ⟨vm_9_79, List.forall_mem_cons.mpr ⟨vm_9_82, List.forall_mem_cons.mpr ⟨vm_9_89, List.forall_mem_cons.mpr ⟨vm_9_92, List.forall_mem_cons.mpr ⟨vm_9_96, List.forall_mem_cons.mpr ⟨vm_9_100, List.forall_mem_cons.mpr ⟨vm_9_104, List.forall_mem_cons.mpr ⟨vm_9_117, List.forall_mem_cons.mpr ⟨vm_9_120, List.forall_mem_cons.mpr ⟨vm_9_124, List.forall_mem_cons.mpr ⟨vm_9_127, List.forall_mem_cons.mpr ⟨vm_9_130, List.forall_mem_cons.mpr ⟨vm_9_136, List.forall_mem_cons.mpr ⟨vm_9_139, List.forall_mem_cons.mpr ⟨vm_9_142, List.forall_mem_cons.mpr ⟨vm_9_145, List.forall_mem_cons.mpr ⟨vm_9_148, List.forall_mem_cons.mpr ⟨vm_9_151, List.forall_mem_cons.mpr ⟨vm_9_157, List.forall_mem_cons.mpr ⟨vm_9_161, List.forall_mem_cons.mpr ⟨vm_9_168, List.forall_mem_cons.mpr ⟨vm_9_171, List.forall_mem_cons.mpr ⟨vm_9_174, List.forall_mem_cons.mpr ⟨vm_9_177, List.forall_mem_cons.mpr ⟨vm_9_180, List.forall_mem_cons.mpr ⟨vm_9_183, List.forall_mem_cons.mpr ⟨vm_9_186, List.forall_mem_cons.mpr ⟨vm_9_190, List.forall_mem_cons.mpr ⟨vm_9_193, List.forall_mem_cons.mpr ⟨vm_9_196, List.forall_mem_cons.mpr ⟨vm_10_9, List.forall_mem_cons.mpr ⟨vm_10_15, List.forall_mem_cons.mpr ⟨vm_10_25, List.forall_mem_cons.mpr ⟨vm_10_29, List.forall_mem_cons.mpr ⟨vm_10_32, List.forall_mem_cons.mpr ⟨vm_10_36, List.forall_mem_cons.mpr ⟨vm_11_7, List.forall_mem_cons.mpr ⟨vm_11_12, List.forall_mem_cons.mpr ⟨vm_11_16, List.forall_mem_cons.mpr ⟨vm_11_20, List.forall_mem_cons.mpr ⟨vm_11_26, List.forall_mem_cons.mpr ⟨vm_11_30, List.forall_mem_cons.mpr ⟨vm_11_34, List.forall_mem_cons.mpr ⟨vm_11_38, List.forall_mem_cons.mpr ⟨vm_11_42, List.forall_mem_cons.mpr ⟨vm_12_9, List.forall_mem_cons.mpr ⟨vm_12_12, List.forall_mem_cons.mpr ⟨vm_12_13, List.forall_mem_cons.mpr ⟨vm_12_17, List.forall_mem_cons.mpr ⟨vm_12_18, List.forall_mem_cons.mpr ⟨vm_12_21, List.forall_mem_cons.mpr ⟨vm_12_22, List.forall_mem_cons.mpr ⟨vm_12_26, List.forall_mem_cons.mpr ⟨vm_12_27, List.forall_mem_cons.mpr ⟨vm_12_31, List.forall_mem_cons.mpr ⟨vm_12_32, List.forall_mem_cons.mpr ⟨vm_12_36, List.forall_mem_cons.mpr ⟨vm_12_37, List.forall_mem_cons.mpr ⟨vm_12_40, List.forall_mem_cons.mpr ⟨vm_12_41, List.forall_mem_cons.mpr ⟨vm_12_44, List.forall_mem_cons.mpr ⟨vm_12_45, List.forall_mem_cons.mpr ⟨vm_12_48, List.forall_mem_cons.mpr ⟨vm_12_49, List.forall_mem_cons.mpr ⟨vm_12_52, List.forall_mem_cons.mpr ⟨vm_12_53, List.forall_mem_cons.mpr ⟨vm_12_56, List.forall_mem_cons.mpr ⟨vm_12_57, List.forall_mem_cons.mpr ⟨vm_12_60, List.forall_mem_cons.mpr ⟨vm_12_61, List.forall_mem_cons.mpr ⟨vm_12_64, List.forall_mem_cons.mpr ⟨vm_12_65, List.forall_mem_cons.mpr ⟨vm_12_68, List.forall_mem_cons.mpr ⟨vm_12_69, List.forall_mem_cons.mpr ⟨vm_12_73, List.forall_mem_cons.mpr ⟨vm_12_74, List.forall_mem_cons.mpr ⟨vm_12_77, List.forall_mem_cons.mpr ⟨vm_12_78, List.forall_mem_cons.mpr ⟨vm_12_82, List.forall_mem_cons.mpr ⟨vm_12_83, List.forall_mem_cons.mpr ⟨vm_12_86, List.forall_mem_cons.mpr ⟨vm_12_87, List.forall_mem_cons.mpr ⟨vm_12_90, fun _ h => absurd h List.not_mem_nil⟩⟩⟩⟩⟩⟩⟩⟩⟩⟩⟩⟩⟩⟩⟩⟩⟩⟩⟩⟩⟩⟩⟩⟩⟩⟩⟩⟩⟩⟩⟩⟩⟩⟩⟩⟩⟩⟩⟩⟩⟩⟩⟩⟩⟩⟩⟩⟩⟩⟩⟩⟩⟩⟩⟩⟩⟩⟩⟩⟩⟩⟩⟩⟩⟩⟩⟩⟩⟩⟩⟩⟩⟩⟩⟩⟩⟩⟩⟩⟩⟩⟩⟩⟩⟩⟩⟩⟩⟩⟩⟩⟩⟩⟩⟩⟩⟩⟩⟩⟩⟩⟩⟩⟩⟩⟩⟩⟩⟩⟩⟩⟩⟩⟩⟩⟩⟩⟩⟩⟩⟩⟩⟩⟩⟩⟩⟩⟩⟩⟩⟩⟩⟩⟩⟩⟩⟩⟩⟩⟩⟩⟩⟩⟩⟩⟩⟩⟩⟩⟩⟩⟩⟩⟩⟩⟩⟩⟩⟩⟩⟩⟩⟩⟩⟩⟩⟩⟩⟩⟩⟩⟩⟩⟩⟩⟩⟩⟩⟩⟩⟩⟩⟩⟩⟩⟩⟩⟩⟩⟩⟩⟩⟩⟩⟩⟩⟩⟩⟩⟩⟩⟩⟩⟩⟩⟩⟩⟩⟩⟩⟩⟩⟩⟩⟩⟩⟩⟩⟩⟩⟩⟩
def vnName (r : Nat) : MethodName := match r with
  | 1000 => Lib.objectInit
  | 1001 => arraycopyName
  | _ => Lib.Math.min.name
def vnOk (e : Nat × Nat × Nat) : Prop := Cond.methodLink (vcname e.1) e.2.1 (vnName e.2.2) ∈ vWS
set_option maxRecDepth 100000 in
theorem vnl_ok : ∀ e ∈ vnl, vnOk e := List.forall_mem_cons.mpr ⟨vw1_21, List.forall_mem_cons.mpr ⟨vw1_29, List.forall_mem_cons.mpr ⟨vw2_58, List.forall_mem_cons.mpr ⟨vw3_33, List.forall_mem_cons.mpr ⟨vw1_80, List.forall_mem_cons.mpr ⟨vw1_50, List.forall_mem_cons.mpr ⟨vw1_43, List.forall_mem_cons.mpr ⟨vw1_93, List.forall_mem_cons.mpr ⟨vw1_110, List.forall_mem_cons.mpr ⟨vw1_150, List.forall_mem_cons.mpr ⟨vw1_143, List.forall_mem_cons.mpr ⟨vw3_227, List.forall_mem_cons.mpr ⟨vw3_7, fun _ h => absurd h List.not_mem_nil⟩⟩⟩⟩⟩⟩⟩⟩⟩⟩⟩⟩⟩
def vwOk (e : Nat × Nat × Nat) : Prop := ∃ q, vcl[e.2.2]? = some q ∧ Cond.classLink (vcname e.1) e.2.1 q.1 ∈ vWS ∧ Cond.instantiable q.1 q.2.2 ∈ vWS ∧ Cond.initialized q.1 ∈ vWS
set_option maxRecDepth 100000 in
theorem vnw_ok : ∀ e ∈ vnw, vwOk e := List.forall_mem_cons.mpr ⟨⟨_, rfl, vw1_38, vw1_39, vw1_3⟩, List.forall_mem_cons.mpr ⟨⟨_, rfl, vw1_70, vw1_46, vw1_4⟩, List.forall_mem_cons.mpr ⟨⟨_, rfl, vw1_75, vw1_76, vw1_6⟩, List.forall_mem_cons.mpr ⟨⟨_, rfl, vw1_88, vw1_89, vw1_7⟩, List.forall_mem_cons.mpr ⟨⟨_, rfl, vw1_105, vw1_106, vw1_8⟩, List.forall_mem_cons.mpr ⟨⟨_, rfl, vw1_24, vw1_25, vw1_2⟩, List.forall_mem_cons.mpr ⟨⟨_, rfl, vw1_138, vw1_139, vw1_9⟩, List.forall_mem_cons.mpr ⟨⟨_, rfl, vw3_222, vw3_223, vw1_11⟩, List.forall_mem_cons.mpr ⟨⟨_, rfl, vw1_16, vw1_17, vw1_1⟩, List.forall_mem_cons.mpr ⟨⟨_, rfl, vw1_51, vw1_25, vw1_2⟩, List.forall_mem_cons.mpr ⟨⟨_, rfl, vw1_44, vw1_46, vw1_4⟩, List.forall_mem_cons.mpr ⟨⟨_, rfl, vw1_111, vw1_25, vw1_2⟩, List.forall_mem_cons.mpr ⟨⟨_, rfl, vw1_153, vw1_46, vw1_4⟩, List.forall_mem_cons.mpr ⟨⟨_, rfl, vw1_151, vw1_25, vw1_2⟩, List.forall_mem_cons.mpr ⟨⟨_, rfl, vw1_144, vw1_146, vw1_10⟩, fun _ h => absurd h List.not_mem_nil⟩⟩⟩⟩⟩⟩⟩⟩⟩⟩⟩⟩⟩⟩⟩
def vaOk (e : Nat × Nat × Nat) : Prop := Cond.classLink (vcname e.1) e.2.1 (vcn e.2.2) ∈ vWS
set_option maxRecDepth 100000 in
theorem van_ok : ∀ e ∈ van, vaOk e := List.forall_mem_cons.mpr ⟨vw1_44, List.forall_mem_cons.mpr ⟨vw1_144, fun _ h => absurd h List.not_mem_nil⟩⟩
def vcOk (e : Nat × Nat × Nat) : Prop := Cond.constant (vcname e.1) e.2.1 (Int32.ofNat e.2.2) ∈ vWS
set_option maxRecDepth 100000 in
theorem vld_ok : ∀ e ∈ vld0, vcOk e := List.forall_mem_cons.mpr ⟨vw2_68, List.forall_mem_cons.mpr ⟨vw4_98, fun _ h => absurd h List.not_mem_nil⟩⟩
theorem voi : Cond.instanceMethod Lib.objectInit ∈ vWS ∧ Cond.code Lib.objectInit ⟨#[0xb1]⟩ 1 none ∈ vWS := ⟨vw1_22, vw1_23⟩
theorem vac : Cond.native arraycopyName ∈ vWS ∧ Cond.static arraycopyName ∈ vWS ∧ Cond.initialized "java/lang/System" ∈ vWS := ⟨vw2_60, vw2_59, vw1_12⟩
theorem vmm : Cond.static Lib.Math.min.name ∈ vWS ∧ Cond.initialized "java/lang/Math" ∈ vWS ∧ Cond.code Lib.Math.min.name Lib.Math.min.code 2 (some .int) ∈ vWS := ⟨vw3_8, vw1_14, vw3_9⟩
theorem vaw : Cond.arrayClass .int ∈ vWS ∧ Cond.arrayClass .boolean ∈ vWS ∧ Cond.arrayOver (.object (vcn 102)) ∈ lw_tbl ∧ Cond.arrayOver (.object (vcn 103)) ∈ lw_tbl := ⟨vw1_37, vw1_104, vw1_45, vw1_145⟩
/-- a method of the table: words, name, number of parameters -/
def vstat (i : Nat) : Prop := plainName (vy i).cls = true ∧ (vy i).cls = vown i ∧ (vkd i = 2 → (vy i).name = "<init>" ∧ vret i = none) ∧ ((vy i).cls ≠ "java/lang/invoke/MethodHandle" ∧ (vy i).cls ≠ "java/lang/invoke/VarHandle") ∧ Cond.code (vy i) (vbytes i) (vmaxL i) (vret i) ∈ vWS ∧ Cond.initialized (vy i).cls ∈ vWS ∧ (vkd i = 0 → Cond.static (vy i) ∈ vWS) ∧ (vkd i ≠ 0 → Cond.instanceMethod (vy i) ∈ vWS) ∧ (vkd i = 1 → Cond.selects (vy i).cls (vy i) (vy i) ∈ vWS ∧ ∃ q, vcl[vci i]? = some q ∧ q.1 = (vy i).cls)
theorem vs0 : vstat 0 := ⟨by decide +kernel, rfl, fun _ => ⟨rfl, rfl⟩, ⟨by decide +kernel, by decide +kernel⟩, vw1_20, vw1_1, fun h => absurd h (by decide), fun _ => vw1_19, fun h => absurd h (by decide)⟩
theorem vs1 : vstat 1 := ⟨by decide +kernel, rfl, fun h => absurd h (by decide), ⟨by decide +kernel, by decide +kernel⟩, vw1_237, vw1_1, fun h => absurd h (by decide), fun _ => vw1_235, fun _ => ⟨vw1_236, _, rfl, rfl⟩⟩
theorem vs2 : vstat 2 := ⟨by decide +kernel, rfl, fun h => absurd h (by decide), ⟨by decide +kernel, by decide +kernel⟩, vw2_9, vw1_1, fun h => absurd h (by decide), fun _ => vw2_7, fun _ => ⟨vw2_8, _, rfl, rfl⟩⟩
theorem vs3 : vstat 3 := ⟨by decide +kernel, rfl, fun h => absurd h (by decide), ⟨by decide +kernel, by decide +kernel⟩, vw2_17, vw1_1, fun h => absurd h (by decide), fun _ => vw2_15, fun _ => ⟨vw2_16, _, rfl, rfl⟩⟩
theorem vs4 : vstat 4 := ⟨by decide +kernel, rfl, fun h => absurd h (by decide), ⟨by decide +kernel, by decide +kernel⟩, vw2_25, vw1_1, fun h => absurd h (by decide), fun _ => vw2_23, fun _ => ⟨vw2_24, _, rfl, rfl⟩⟩
theorem vs5 : vstat 5 := ⟨by decide +kernel, rfl, fun h => absurd h (by decide), ⟨by decide +kernel, by decide +kernel⟩, vw2_33, vw1_1, fun h => absurd h (by decide), fun _ => vw2_31, fun _ => ⟨vw2_32, _, rfl, rfl⟩⟩
theorem vs6 : vstat 6 := ⟨by decide +kernel, rfl, fun h => absurd h (by decide), ⟨by decide +kernel, by decide +kernel⟩, vw2_41, vw1_1, fun h => absurd h (by decide), fun _ => vw2_39, fun _ => ⟨vw2_40, _, rfl, rfl⟩⟩
theorem vs7 : vstat 7 := ⟨by decide +kernel, rfl, fun h => absurd h (by decide), ⟨by decide +kernel, by decide +kernel⟩, vw2_152, vw1_1, fun h => absurd h (by decide), fun _ => vw2_150, fun _ => ⟨vw2_151, _, rfl, rfl⟩⟩
theorem vs8 : vstat 8 := ⟨by decide +kernel, rfl, fun h => absurd h (by decide), ⟨by decide +kernel, by decide +kernel⟩, vw2_157, vw1_1, fun h => absurd h (by decide), fun _ => vw2_155, fun _ => ⟨vw2_156, _, rfl, rfl⟩⟩
theorem vs9 : vstat 9 := ⟨by decide +kernel, rfl, fun h => absurd h (by decide), ⟨by decide +kernel, by decide +kernel⟩, vw2_161, vw1_1, fun h => absurd h (by decide), fun _ => vw2_159, fun _ => ⟨vw2_160, _, rfl, rfl⟩⟩
theorem vs10 : vstat 10 := ⟨by decide +kernel, rfl, fun h => absurd h (by decide), ⟨by decide +kernel, by decide +kernel⟩, vw2_173, vw1_1, fun h => absurd h (by decide), fun _ => vw2_171, fun _ => ⟨vw2_172, _, rfl, rfl⟩⟩
theorem vs11 : vstat 11 := ⟨by decide +kernel, rfl, fun h => absurd h (by decide), ⟨by decide +kernel, by decide +kernel⟩, vw2_177, vw1_1, fun h => absurd h (by decide), fun _ => vw2_175, fun _ => ⟨vw2_176, _, rfl, rfl⟩⟩
theorem vs12 : vstat 12 := ⟨by decide +kernel, rfl, fun h => absurd h (by decide), ⟨by decide +kernel, by decide +kernel⟩, vw3_52, vw1_1, fun h => absurd h (by decide), fun _ => vw3_50, fun _ => ⟨vw3_51, _, rfl, rfl⟩⟩
theorem vs13 : vstat 13 := ⟨by decide +kernel, rfl, fun h => absurd h (by decide), ⟨by decide +kernel, by decide +kernel⟩, vw3_183, vw1_1, fun h => absurd h (by decide), fun _ => vw3_181, fun _ => ⟨vw3_182, _, rfl, rfl⟩⟩
theorem vs14 : vstat 14 := ⟨by decide +kernel, rfl, fun h => absurd h (by decide), ⟨by decide +kernel, by decide +kernel⟩, vw3_192, vw1_1, fun h => absurd h (by decide), fun _ => vw3_190, fun _ => ⟨vw3_191, _, rfl, rfl⟩⟩
theorem vs15 : vstat 15 := ⟨by decide +kernel, rfl, fun h => absurd h (by decide), ⟨by decide +kernel, by decide +kernel⟩, vw3_204, vw1_1, fun h => absurd h (by decide), fun _ => vw3_202, fun _ => ⟨vw3_203, _, rfl, rfl⟩⟩
theorem vs16 : vstat 16 := ⟨by decide +kernel, rfl, fun h => absurd h (by decide), ⟨by decide +kernel, by decide +kernel⟩, vw3_209, vw1_1, fun h => absurd h (by decide), fun _ => vw3_207, fun _ => ⟨vw3_208, _, rfl, rfl⟩⟩
theorem vs17 : vstat 17 := ⟨by decide +kernel, rfl, fun h => absurd h (by decide), ⟨by decide +kernel, by decide +kernel⟩, vw3_213, vw1_1, fun h => absurd h (by decide), fun _ => vw3_211, fun _ => ⟨vw3_212, _, rfl, rfl⟩⟩
theorem vs18 : vstat 18 := ⟨by decide +kernel, rfl, fun h => absurd h (by decide), ⟨by decide +kernel, by decide +kernel⟩, vw3_221, vw1_1, fun h => absurd h (by decide), fun _ => vw3_219, fun _ => ⟨vw3_220, _, rfl, rfl⟩⟩
theorem vs19 : vstat 19 := ⟨by decide +kernel, rfl, fun h => absurd h (by decide), ⟨by decide +kernel, by decide +kernel⟩, vw2_165, vw1_1, fun h => absurd h (by decide), fun _ => vw2_164, fun _ => ⟨vp1, _, rfl, rfl⟩⟩
theorem vs20 : vstat 20 := ⟨by decide +kernel, rfl, fun h => absurd h (by decide), ⟨by decide +kernel, by decide +kernel⟩, vw3_200, vw1_1, fun h => absurd h (by decide), fun _ => vw3_199, fun _ => ⟨vp24, _, rfl, rfl⟩⟩
theorem vs21 : vstat 21 := ⟨by decide +kernel, rfl, fun h => absurd h (by decide), ⟨by decide +kernel, by decide +kernel⟩, vw3_196, vw1_1, fun h => absurd h (by decide), fun _ => vw3_195, fun _ => ⟨vp23, _, rfl, rfl⟩⟩
theorem vs22 : vstat 22 := ⟨by decide +kernel, rfl, fun h => absurd h (by decide), ⟨by decide +kernel, by decide +kernel⟩, vw2_67, vw1_1, fun _ => vw2_66, fun h => absurd rfl h, fun h => absurd h (by decide)⟩
theorem vs23 : vstat 23 := ⟨by decide +kernel, rfl, fun _ => ⟨rfl, rfl⟩, ⟨by decide +kernel, by decide +kernel⟩, vw3_226, vw1_11, fun h => absurd h (by decide), fun _ => vw3_225, fun h => absurd h (by decide)⟩
theorem vs24 : vstat 24 := ⟨by decide +kernel, rfl, fun h => absurd h (by decide), ⟨by decide +kernel, by decide +kernel⟩, vw4_70, vw1_11, fun _ => vw4_69, fun h => absurd rfl h, fun h => absurd h (by decide)⟩
theorem vs25 : vstat 25 := ⟨by decide +kernel, rfl, fun h => absurd h (by decide), ⟨by decide +kernel, by decide +kernel⟩, vw4_97, vw1_11, fun _ => vw4_96, fun h => absurd rfl h, fun h => absurd h (by decide)⟩
theorem vs26 : vstat 26 := ⟨by decide +kernel, rfl, fun h => absurd h (by decide), ⟨by decide +kernel, by decide +kernel⟩, vw4_67, vw1_11, fun h => absurd h (by decide), fun _ => vw4_65, fun _ => ⟨vw4_66, _, rfl, rfl⟩⟩
theorem vs27 : vstat 27 := ⟨by decide +kernel, rfl, fun h => absurd h (by decide), ⟨by decide +kernel, by decide +kernel⟩, vw4_74, vw1_11, fun h => absurd h (by decide), fun _ => vw4_72, fun _ => ⟨vw4_73, _, rfl, rfl⟩⟩
theorem vs28 : vstat 28 := ⟨by decide +kernel, rfl, fun h => absurd h (by decide), ⟨by decide +kernel, by decide +kernel⟩, vw4_78, vw1_11, fun h => absurd h (by decide), fun _ => vw4_76, fun _ => ⟨vw4_77, _, rfl, rfl⟩⟩
theorem vs29 : vstat 29 := ⟨by decide +kernel, rfl, fun h => absurd h (by decide), ⟨by decide +kernel, by decide +kernel⟩, vw4_82, vw1_11, fun h => absurd h (by decide), fun _ => vw4_80, fun _ => ⟨vw4_81, _, rfl, rfl⟩⟩
theorem vs30 : vstat 30 := ⟨by decide +kernel, rfl, fun h => absurd h (by decide), ⟨by decide +kernel, by decide +kernel⟩, vw4_86, vw1_11, fun h => absurd h (by decide), fun _ => vw4_84, fun _ => ⟨vw4_85, _, rfl, rfl⟩⟩
theorem vs31 : vstat 31 := ⟨by decide +kernel, rfl, fun h => absurd h (by decide), ⟨by decide +kernel, by decide +kernel⟩, vw4_94, vw1_11, fun h => absurd h (by decide), fun _ => vw4_93, fun _ => ⟨vp25, _, rfl, rfl⟩⟩
theorem vs32 : vstat 32 := ⟨by decide +kernel, rfl, fun h => absurd h (by decide), ⟨by decide +kernel, by decide +kernel⟩, vw4_105, vw1_11, fun _ => vw4_104, fun h => absurd rfl h, fun h => absurd h (by decide)⟩
theorem vs33 : vstat 33 := ⟨by decide +kernel, rfl, fun h => absurd h (by decide), ⟨by decide +kernel, by decide +kernel⟩, vw4_102, vw1_11, fun h => absurd h (by decide), fun _ => vw4_101, fun _ => ⟨vp26, _, rfl, rfl⟩⟩
theorem vs34 : vstat 34 := ⟨by decide +kernel, rfl, fun h => absurd h (by decide), ⟨by decide +kernel, by decide +kernel⟩, vw4_113, vw1_11, fun h => absurd h (by decide), fun _ => vw4_112, fun _ => ⟨vp28, _, rfl, rfl⟩⟩
theorem vs35 : vstat 35 := ⟨by decide +kernel, rfl, fun h => absurd h (by decide), ⟨by decide +kernel, by decide +kernel⟩, vw4_109, vw1_11, fun h => absurd h (by decide), fun _ => vw4_108, fun _ => ⟨vp27, _, rfl, rfl⟩⟩
theorem vs36 : vstat 36 := ⟨by decide +kernel, rfl, fun h => absurd h (by decide), ⟨by decide +kernel, by decide +kernel⟩, vw4_117, vw1_11, fun h => absurd h (by decide), fun _ => vw4_116, fun _ => ⟨vp29, _, rfl, rfl⟩⟩
theorem vs37 : vstat 37 := ⟨by decide +kernel, rfl, fun h => absurd h (by decide), ⟨by decide +kernel, by decide +kernel⟩, vw4_121, vw1_11, fun h => absurd h (by decide), fun _ => vw4_120, fun _ => ⟨vp30, _, rfl, rfl⟩⟩
theorem vs38 : vstat 38 := ⟨by decide +kernel, rfl, fun h => absurd h (by decide), ⟨by decide +kernel, by decide +kernel⟩, vw4_157, vw1_11, fun h => absurd h (by decide), fun _ => vw4_156, fun _ => ⟨vp34, _, rfl, rfl⟩⟩
theorem vs39 : vstat 39 := ⟨by decide +kernel, rfl, fun h => absurd h (by decide), ⟨by decide +kernel, by decide +kernel⟩, vw4_153, vw1_11, fun h => absurd h (by decide), fun _ => vw4_152, fun _ => ⟨vp33, _, rfl, rfl⟩⟩
theorem vs40 : vstat 40 := ⟨by decide +kernel, rfl, fun h => absurd h (by decide), ⟨by decide +kernel, by decide +kernel⟩, vw4_90, vw1_11, fun h => absurd h (by decide), fun _ => vw4_88, fun _ => ⟨vw4_89, _, rfl, rfl⟩⟩
theorem vs41 : vstat 41 := ⟨by decide +kernel, rfl, fun h => absurd h (by decide), ⟨by decide +kernel, by decide +kernel⟩, vw4_125, vw1_11, fun h => absurd h (by decide), fun _ => vw4_124, fun _ => ⟨vp31, _, rfl, rfl⟩⟩
theorem vs42 : vstat 42 := ⟨by decide +kernel, rfl, fun h => absurd h (by decide), ⟨by decide +kernel, by decide +kernel⟩, vw4_129, vw1_11, fun h => absurd h (by decide), fun _ => vw4_127, fun _ => ⟨vw4_128, _, rfl, rfl⟩⟩
theorem vs43 : vstat 43 := ⟨by decide +kernel, rfl, fun h => absurd h (by decide), ⟨by decide +kernel, by decide +kernel⟩, vw4_133, vw1_11, fun h => absurd h (by decide), fun _ => vw4_131, fun _ => ⟨vw4_132, _, rfl, rfl⟩⟩
theorem vs44 : vstat 44 := ⟨by decide +kernel, rfl, fun h => absurd h (by decide), ⟨by decide +kernel, by decide +kernel⟩, vw4_137, vw1_11, fun h => absurd h (by decide), fun _ => vw4_135, fun _ => ⟨vw4_136, _, rfl, rfl⟩⟩
theorem vs45 : vstat 45 := ⟨by decide +kernel, rfl, fun h => absurd h (by decide), ⟨by decide +kernel, by decide +kernel⟩, vw4_141, vw1_11, fun h => absurd h (by decide), fun _ => vw4_139, fun _ => ⟨vw4_140, _, rfl, rfl⟩⟩
theorem vs46 : vstat 46 := ⟨by decide +kernel, rfl, fun h => absurd h (by decide), ⟨by decide +kernel, by decide +kernel⟩, vw4_165, vw1_11, fun h => absurd h (by decide), fun _ => vw4_164, fun _ => ⟨vp36, _, rfl, rfl⟩⟩
theorem vs47 : vstat 47 := ⟨by decide +kernel, rfl, fun h => absurd h (by decide), ⟨by decide +kernel, by decide +kernel⟩, vw4_185, vw1_11, fun h => absurd h (by decide), fun _ => vw4_184, fun _ => ⟨vp41, _, rfl, rfl⟩⟩
theorem vs48 : vstat 48 := ⟨by decide +kernel, rfl, fun h => absurd h (by decide), ⟨by decide +kernel, by decide +kernel⟩, vw4_181, vw1_11, fun h => absurd h (by decide), fun _ => vw4_180, fun _ => ⟨vp40, _, rfl, rfl⟩⟩
theorem vs49 : vstat 49 := ⟨by decide +kernel, rfl, fun h => absurd h (by decide), ⟨by decide +kernel, by decide +kernel⟩, vw4_177, vw1_11, fun h => absurd h (by decide), fun _ => vw4_176, fun _ => ⟨vp39, _, rfl, rfl⟩⟩
theorem vs50 : vstat 50 := ⟨by decide +kernel, rfl, fun h => absurd h (by decide), ⟨by decide +kernel, by decide +kernel⟩, vw4_173, vw1_11, fun h => absurd h (by decide), fun _ => vw4_172, fun _ => ⟨vp38, _, rfl, rfl⟩⟩
theorem vs51 : vstat 51 := ⟨by decide +kernel, rfl, fun h => absurd h (by decide), ⟨by decide +kernel, by decide +kernel⟩, vw4_169, vw1_11, fun h => absurd h (by decide), fun _ => vw4_168, fun _ => ⟨vp37, _, rfl, rfl⟩⟩
theorem vs52 : vstat 52 := ⟨by decide +kernel, rfl, fun h => absurd h (by decide), ⟨by decide +kernel, by decide +kernel⟩, vw4_161, vw1_11, fun h => absurd h (by decide), fun _ => vw4_160, fun _ => ⟨vp35, _, rfl, rfl⟩⟩
theorem vs53 : vstat 53 := ⟨by decide +kernel, rfl, fun h => absurd h (by decide), ⟨by decide +kernel, by decide +kernel⟩, vw4_189, vw1_11, fun h => absurd h (by decide), fun _ => vw4_188, fun _ => ⟨vp42, _, rfl, rfl⟩⟩
theorem vs54 : vstat 54 := ⟨by decide +kernel, rfl, fun h => absurd h (by decide), ⟨by decide +kernel, by decide +kernel⟩, vw4_149, vw1_11, fun h => absurd h (by decide), fun _ => vw4_148, fun _ => ⟨vp32, _, rfl, rfl⟩⟩
theorem vs55 : vstat 55 := ⟨by decide +kernel, rfl, fun h => absurd h (by decide), ⟨by decide +kernel, by decide +kernel⟩, vw4_145, vw1_11, fun h => absurd h (by decide), fun _ => vw4_143, fun _ => ⟨vw4_144, _, rfl, rfl⟩⟩
theorem vs56 : vstat 56 := ⟨by decide +kernel, rfl, fun h => absurd h (by decide), ⟨by decide +kernel, by decide +kernel⟩, vw4_201, vw1_11, fun h => absurd h (by decide), fun _ => vw4_200, fun _ => ⟨vp44, _, rfl, rfl⟩⟩
theorem vs57 : vstat 57 := ⟨by decide +kernel, rfl, fun h => absurd h (by decide), ⟨by decide +kernel, by decide +kernel⟩, vw4_205, vw1_11, fun h => absurd h (by decide), fun _ => vw4_204, fun _ => ⟨vp45, _, rfl, rfl⟩⟩
theorem vs58 : vstat 58 := ⟨by decide +kernel, rfl, fun h => absurd h (by decide), ⟨by decide +kernel, by decide +kernel⟩, vw4_209, vw1_11, fun h => absurd h (by decide), fun _ => vw4_208, fun _ => ⟨vp46, _, rfl, rfl⟩⟩
theorem vs59 : vstat 59 := ⟨by decide +kernel, rfl, fun h => absurd h (by decide), ⟨by decide +kernel, by decide +kernel⟩, vw4_213, vw1_11, fun h => absurd h (by decide), fun _ => vw4_212, fun _ => ⟨vp47, _, rfl, rfl⟩⟩
theorem vs60 : vstat 60 := ⟨by decide +kernel, rfl, fun h => absurd h (by decide), ⟨by decide +kernel, by decide +kernel⟩, vw4_217, vw1_11, fun h => absurd h (by decide), fun _ => vw4_216, fun _ => ⟨vp48, _, rfl, rfl⟩⟩
theorem vs61 : vstat 61 := ⟨by decide +kernel, rfl, fun h => absurd h (by decide), ⟨by decide +kernel, by decide +kernel⟩, vw4_197, vw1_11, fun h => absurd h (by decide), fun _ => vw4_196, fun _ => ⟨vp43, _, rfl, rfl⟩⟩
theorem vs62 : vstat 62 := ⟨by decide +kernel, rfl, fun h => absurd h (by decide), ⟨by decide +kernel, by decide +kernel⟩, vw4_233, vw1_11, fun h => absurd h (by decide), fun _ => vw4_232, fun _ => ⟨vp52, _, rfl, rfl⟩⟩
theorem vs63 : vstat 63 := ⟨by decide +kernel, rfl, fun h => absurd h (by decide), ⟨by decide +kernel, by decide +kernel⟩, vw4_229, vw1_11, fun h => absurd h (by decide), fun _ => vw4_228, fun _ => ⟨vp51, _, rfl, rfl⟩⟩
theorem vs64 : vstat 64 := ⟨by decide +kernel, rfl, fun h => absurd h (by decide), ⟨by decide +kernel, by decide +kernel⟩, vw4_225, vw1_11, fun h => absurd h (by decide), fun _ => vw4_224, fun _ => ⟨vp50, _, rfl, rfl⟩⟩
theorem vs65 : vstat 65 := ⟨by decide +kernel, rfl, fun h => absurd h (by decide), ⟨by decide +kernel, by decide +kernel⟩, vw4_221, vw1_11, fun h => absurd h (by decide), fun _ => vw4_220, fun _ => ⟨vp49, _, rfl, rfl⟩⟩
theorem vs66 : vstat 66 := ⟨by decide +kernel, rfl, fun h => absurd h (by decide), ⟨by decide +kernel, by decide +kernel⟩, vw4_237, vw1_11, fun h => absurd h (by decide), fun _ => vw4_236, fun _ => ⟨vp53, _, rfl, rfl⟩⟩
theorem vs67 : vstat 67 := ⟨by decide +kernel, rfl, fun h => absurd h (by decide), ⟨by decide +kernel, by decide +kernel⟩, vw4_193, vw1_11, fun h => absurd h (by decide), fun _ => vw4_191, fun _ => ⟨vw4_192, _, rfl, rfl⟩⟩
theorem vs68 : vstat 68 := ⟨by decide +kernel, rfl, fun h => absurd h (by decide), ⟨by decide +kernel, by decide +kernel⟩, vw5_1, vw1_11, fun h => absurd h (by decide), fun _ => vw4_239, fun _ => ⟨vw5_0, _, rfl, rfl⟩⟩
theorem vs69 : vstat 69 := ⟨by decide +kernel, rfl, fun h => absurd h (by decide), ⟨by decide +kernel, by decide +kernel⟩, vw5_9, vw1_11, fun h => absurd h (by decide), fun _ => vw5_8, fun _ => ⟨vp54, _, rfl, rfl⟩⟩
theorem vs70 : vstat 70 := ⟨by decide +kernel, rfl, fun h => absurd h (by decide), ⟨by decide +kernel, by decide +kernel⟩, vw5_5, vw1_11, fun h => absurd h (by decide), fun _ => vw5_3, fun _ => ⟨vw5_4, _, rfl, rfl⟩⟩
theorem vs71 : vstat 71 := ⟨by decide +kernel, rfl, fun h => absurd h (by decide), ⟨by decide +kernel, by decide +kernel⟩, vw5_13, vw1_11, fun h => absurd h (by decide), fun _ => vw5_11, fun _ => ⟨vw5_12, _, rfl, rfl⟩⟩
theorem vs72 : vstat 72 := ⟨by decide +kernel, rfl, fun h => absurd h (by decide), ⟨by decide +kernel, by decide +kernel⟩, vw5_17, vw1_11, fun h => absurd h (by decide), fun _ => vw5_15, fun _ => ⟨vw5_16, _, rfl, rfl⟩⟩
theorem vs73 : vstat 73 := ⟨by decide +kernel, rfl, fun h => absurd h (by decide), ⟨by decide +kernel, by decide +kernel⟩, vw5_21, vw1_11, fun h => absurd h (by decide), fun _ => vw5_19, fun _ => ⟨vw5_20, _, rfl, rfl⟩⟩
theorem vs74 : vstat 74 := ⟨by decide +kernel, rfl, fun h => absurd h (by decide), ⟨by decide +kernel, by decide +kernel⟩, vw5_25, vw1_11, fun h => absurd h (by decide), fun _ => vw5_23, fun _ => ⟨vw5_24, _, rfl, rfl⟩⟩
theorem vs75 : vstat 75 := ⟨by decide +kernel, rfl, fun _ => ⟨rfl, rfl⟩, ⟨by decide +kernel, by decide +kernel⟩, vw1_92, vw1_7, fun h => absurd h (by decide), fun _ => vw1_91, fun h => absurd h (by decide)⟩
theorem vs76 : vstat 76 := ⟨by decide +kernel, rfl, fun h => absurd h (by decide), ⟨by decide +kernel, by decide +kernel⟩, vw3_217, vw1_7, fun h => absurd h (by decide), fun _ => vw3_215, fun _ => ⟨vw3_216, _, rfl, rfl⟩⟩
theorem vs77 : vstat 77 := ⟨by decide +kernel, rfl, fun h => absurd h (by decide), ⟨by decide +kernel, by decide +kernel⟩, vw2_225, vw1_7, fun h => absurd h (by decide), fun _ => vw2_223, fun _ => ⟨vw2_224, _, rfl, rfl⟩⟩
theorem vs78 : vstat 78 := ⟨by decide +kernel, rfl, fun h => absurd h (by decide), ⟨by decide +kernel, by decide +kernel⟩, vw2_185, vw1_7, fun h => absurd h (by decide), fun _ => vw2_183, fun _ => ⟨vw2_184, _, rfl, rfl⟩⟩
theorem vs79 : vstat 79 := ⟨by decide +kernel, rfl, fun h => absurd h (by decide), ⟨by decide +kernel, by decide +kernel⟩, vw2_193, vw1_7, fun h => absurd h (by decide), fun _ => vw2_191, fun _ => ⟨vw2_192, _, rfl, rfl⟩⟩
theorem vs80 : vstat 80 := ⟨by decide +kernel, rfl, fun h => absurd h (by decide), ⟨by decide +kernel, by decide +kernel⟩, vw2_203, vw1_7, fun h => absurd h (by decide), fun _ => vw2_202, fun _ => ⟨vp3, _, rfl, rfl⟩⟩
theorem vs81 : vstat 81 := ⟨by decide +kernel, rfl, fun h => absurd h (by decide), ⟨by decide +kernel, by decide +kernel⟩, vw2_198, vw1_7, fun h => absurd h (by decide), fun _ => vw2_197, fun _ => ⟨vp2, _, rfl, rfl⟩⟩
theorem vs82 : vstat 82 := ⟨by decide +kernel, rfl, fun h => absurd h (by decide), ⟨by decide +kernel, by decide +kernel⟩, vw3_22, vw1_15, fun _ => vw3_21, fun h => absurd rfl h, fun h => absurd h (by decide)⟩
theorem vs83 : vstat 83 := ⟨by decide +kernel, rfl, fun h => absurd h (by decide), ⟨by decide +kernel, by decide +kernel⟩, vw3_36, vw1_15, fun _ => vw3_35, fun h => absurd rfl h, fun h => absurd h (by decide)⟩
theorem vs84 : vstat 84 := ⟨by decide +kernel, rfl, fun h => absurd h (by decide), ⟨by decide +kernel, by decide +kernel⟩, vw3_28, vw1_15, fun _ => vw3_27, fun h => absurd rfl h, fun h => absurd h (by decide)⟩
theorem vs85 : vstat 85 := ⟨by decide +kernel, rfl, fun h => absurd h (by decide), ⟨by decide +kernel, by decide +kernel⟩, vw3_145, vw1_15, fun _ => vw3_144, fun h => absurd rfl h, fun h => absurd h (by decide)⟩
theorem vs86 : vstat 86 := ⟨by decide +kernel, rfl, fun h => absurd h (by decide), ⟨by decide +kernel, by decide +kernel⟩, vw3_149, vw1_15, fun _ => vw3_148, fun h => absurd rfl h, fun h => absurd h (by decide)⟩
theorem vs87 : vstat 87 := ⟨by decide +kernel, rfl, fun _ => ⟨rfl, rfl⟩, ⟨by decide +kernel, by decide +kernel⟩, vw1_149, vw1_10, fun h => absurd h (by decide), fun _ => vw1_148, fun h => absurd h (by decide)⟩
theorem vs88 : vstat 88 := ⟨by decide +kernel, rfl, fun h => absurd h (by decide), ⟨by decide +kernel, by decide +kernel⟩, vw3_85, vw1_10, fun h => absurd h (by decide), fun _ => vw3_83, fun _ => ⟨vw3_84, _, rfl, rfl⟩⟩
theorem vs89 : vstat 89 := ⟨by decide +kernel, rfl, fun h => absurd h (by decide), ⟨by decide +kernel, by decide +kernel⟩, vw3_77, vw1_10, fun h => absurd h (by decide), fun _ => vw3_75, fun _ => ⟨vw3_76, _, rfl, rfl⟩⟩
theorem vs90 : vstat 90 := ⟨by decide +kernel, rfl, fun h => absurd h (by decide), ⟨by decide +kernel, by decide +kernel⟩, vw3_128, vw1_10, fun h => absurd h (by decide), fun _ => vw3_126, fun _ => ⟨vw3_127, _, rfl, rfl⟩⟩
theorem vs91 : vstat 91 := ⟨by decide +kernel, rfl, fun _ => ⟨rfl, rfl⟩, ⟨by decide +kernel, by decide +kernel⟩, vw1_79, vw1_6, fun h => absurd h (by decide), fun _ => vw1_78, fun h => absurd h (by decide)⟩
theorem vs92 : vstat 92 := ⟨by decide +kernel, rfl, fun h => absurd h (by decide), ⟨by decide +kernel, by decide +kernel⟩, vw2_181, vw1_6, fun h => absurd h (by decide), fun _ => vw2_179, fun _ => ⟨vw2_180, _, rfl, rfl⟩⟩
theorem vs93 : vstat 93 := ⟨by decide +kernel, rfl, fun h => absurd h (by decide), ⟨by decide +kernel, by decide +kernel⟩, vw2_189, vw1_6, fun h => absurd h (by decide), fun _ => vw2_187, fun _ => ⟨vw2_188, _, rfl, rfl⟩⟩
theorem vs94 : vstat 94 := ⟨by decide +kernel, rfl, fun h => absurd h (by decide), ⟨by decide +kernel, by decide +kernel⟩, vw2_209, vw1_6, fun h => absurd h (by decide), fun _ => vw2_207, fun _ => ⟨vw2_208, _, rfl, rfl⟩⟩
theorem vs95 : vstat 95 := ⟨by decide +kernel, rfl, fun h => absurd h (by decide), ⟨by decide +kernel, by decide +kernel⟩, vw2_169, vw1_6, fun h => absurd h (by decide), fun _ => vw2_167, fun _ => ⟨vw2_168, _, rfl, rfl⟩⟩
theorem vs96 : vstat 96 := ⟨by decide +kernel, rfl, fun _ => ⟨rfl, rfl⟩, ⟨by decide +kernel, by decide +kernel⟩, vw1_49, vw1_4, fun h => absurd h (by decide), fun _ => vw1_48, fun h => absurd h (by decide)⟩
theorem vs97 : vstat 97 := ⟨by decide +kernel, rfl, fun h => absurd h (by decide), ⟨by decide +kernel, by decide +kernel⟩, vw2_134, vw1_4, fun h => absurd h (by decide), fun _ => vw2_132, fun _ => ⟨vw2_133, _, rfl, rfl⟩⟩
theorem vs98 : vstat 98 := ⟨by decide +kernel, rfl, fun h => absurd h (by decide), ⟨by decide +kernel, by decide +kernel⟩, vw2_78, vw1_4, fun h => absurd h (by decide), fun _ => vw2_76, fun _ => ⟨vw2_77, _, rfl, rfl⟩⟩
theorem vs99 : vstat 99 := ⟨by decide +kernel, rfl, fun h => absurd h (by decide), ⟨by decide +kernel, by decide +kernel⟩, vw2_146, vw1_4, fun h => absurd h (by decide), fun _ => vw2_144, fun _ => ⟨vw2_145, _, rfl, rfl⟩⟩
theorem vs100 : vstat 100 := ⟨by decide +kernel, rfl, fun h => absurd h (by decide), ⟨by decide +kernel, by decide +kernel⟩, vw2_45, vw1_4, fun h => absurd h (by decide), fun _ => vw2_43, fun _ => ⟨vw2_44, _, rfl, rfl⟩⟩
theorem vs101 : vstat 101 := ⟨by decide +kernel, rfl, fun h => absurd h (by decide), ⟨by decide +kernel, by decide +kernel⟩, vw2_64, vw1_4, fun h => absurd h (by decide), fun _ => vw2_62, fun _ => ⟨vw2_63, _, rfl, rfl⟩⟩
theorem vs102 : vstat 102 := ⟨by decide +kernel, rfl, fun h => absurd h (by decide), ⟨by decide +kernel, by decide +kernel⟩, vw2_91, vw1_4, fun h => absurd h (by decide), fun _ => vw2_89, fun _ => ⟨vw2_90, _, rfl, rfl⟩⟩
theorem vs103 : vstat 103 := ⟨by decide +kernel, rfl, fun h => absurd h (by decide), ⟨by decide +kernel, by decide +kernel⟩, vw3_164, vw1_4, fun h => absurd h (by decide), fun _ => vw3_162, fun _ => ⟨vw3_163, _, rfl, rfl⟩⟩
theorem vs104 : vstat 104 := ⟨by decide +kernel, rfl, fun h => absurd h (by decide), ⟨by decide +kernel, by decide +kernel⟩, vw2_103, vw1_4, fun h => absurd h (by decide), fun _ => vw2_101, fun _ => ⟨vw2_102, _, rfl, rfl⟩⟩
theorem vs105 : vstat 105 := ⟨by decide +kernel, rfl, fun h => absurd h (by decide), ⟨by decide +kernel, by decide +kernel⟩, vw2_107, vw1_4, fun h => absurd h (by decide), fun _ => vw2_106, fun _ => ⟨vp0, _, rfl, rfl⟩⟩
theorem vs106 : vstat 106 := ⟨by decide +kernel, rfl, fun h => absurd h (by decide), ⟨by decide +kernel, by decide +kernel⟩, vw2_116, vw1_4, fun h => absurd h (by decide), fun _ => vw2_114, fun _ => ⟨vw2_115, _, rfl, rfl⟩⟩
theorem vs107 : vstat 107 := ⟨by decide +kernel, rfl, fun h => absurd h (by decide), ⟨by decide +kernel, by decide +kernel⟩, vw2_124, vw1_4, fun h => absurd h (by decide), fun _ => vw2_122, fun _ => ⟨vw2_123, _, rfl, rfl⟩⟩
theorem vs108 : vstat 108 := ⟨by decide +kernel, rfl, fun h => absurd h (by decide), ⟨by decide +kernel, by decide +kernel⟩, vw2_138, vw1_4, fun h => absurd h (by decide), fun _ => vw2_136, fun _ => ⟨vw2_137, _, rfl, rfl⟩⟩
theorem vs109 : vstat 109 := ⟨by decide +kernel, rfl, fun _ => ⟨rfl, rfl⟩, ⟨by decide +kernel, by decide +kernel⟩, vw1_142, vw1_9, fun h => absurd h (by decide), fun _ => vw1_141, fun h => absurd h (by decide)⟩
theorem vs110 : vstat 110 := ⟨by decide +kernel, rfl, fun h => absurd h (by decide), ⟨by decide +kernel, by decide +kernel⟩, vw3_120, vw1_9, fun h => absurd h (by decide), fun _ => vw3_118, fun _ => ⟨vw3_119, _, rfl, rfl⟩⟩
theorem vs111 : vstat 111 := ⟨by decide +kernel, rfl, fun h => absurd h (by decide), ⟨by decide +kernel, by decide +kernel⟩, vw3_56, vw1_9, fun h => absurd h (by decide), fun _ => vw3_54, fun _ => ⟨vw3_55, _, rfl, rfl⟩⟩
theorem vs112 : vstat 112 := ⟨by decide +kernel, rfl, fun h => absurd h (by decide), ⟨by decide +kernel, by decide +kernel⟩, vw3_64, vw1_9, fun h => absurd h (by decide), fun _ => vw3_63, fun _ => ⟨vp9, _, rfl, rfl⟩⟩
theorem vs113 : vstat 113 := ⟨by decide +kernel, rfl, fun h => absurd h (by decide), ⟨by decide +kernel, by decide +kernel⟩, vw3_60, vw1_9, fun h => absurd h (by decide), fun _ => vw3_59, fun _ => ⟨vp8, _, rfl, rfl⟩⟩
theorem vs114 : vstat 114 := ⟨by decide +kernel, rfl, fun h => absurd h (by decide), ⟨by decide +kernel, by decide +kernel⟩, vw3_81, vw1_9, fun h => absurd h (by decide), fun _ => vw3_80, fun _ => ⟨vp12, _, rfl, rfl⟩⟩
theorem vs115 : vstat 115 := ⟨by decide +kernel, rfl, fun h => absurd h (by decide), ⟨by decide +kernel, by decide +kernel⟩, vw3_69, vw1_9, fun h => absurd h (by decide), fun _ => vw3_68, fun _ => ⟨vp10, _, rfl, rfl⟩⟩
theorem vs116 : vstat 116 := ⟨by decide +kernel, rfl, fun h => absurd h (by decide), ⟨by decide +kernel, by decide +kernel⟩, vw3_73, vw1_9, fun h => absurd h (by decide), fun _ => vw3_72, fun _ => ⟨vp11, _, rfl, rfl⟩⟩
theorem vs117 : vstat 117 := ⟨by decide +kernel, rfl, fun h => absurd h (by decide), ⟨by decide +kernel, by decide +kernel⟩, vw3_89, vw1_9, fun h => absurd h (by decide), fun _ => vw3_88, fun _ => ⟨vp13, _, rfl, rfl⟩⟩
theorem vs118 : vstat 118 := ⟨by decide +kernel, rfl, fun h => absurd h (by decide), ⟨by decide +kernel, by decide +kernel⟩, vw3_93, vw1_9, fun h => absurd h (by decide), fun _ => vw3_92, fun _ => ⟨vp14, _, rfl, rfl⟩⟩
theorem vs119 : vstat 119 := ⟨by decide +kernel, rfl, fun h => absurd h (by decide), ⟨by decide +kernel, by decide +kernel⟩, vw3_97, vw1_9, fun h => absurd h (by decide), fun _ => vw3_96, fun _ => ⟨vp15, _, rfl, rfl⟩⟩
theorem vs120 : vstat 120 := ⟨by decide +kernel, rfl, fun h => absurd h (by decide), ⟨by decide +kernel, by decide +kernel⟩, vw3_105, vw1_9, fun h => absurd h (by decide), fun _ => vw3_104, fun _ => ⟨vp16, _, rfl, rfl⟩⟩
theorem vs121 : vstat 121 := ⟨by decide +kernel, rfl, fun h => absurd h (by decide), ⟨by decide +kernel, by decide +kernel⟩, vw3_110, vw1_9, fun h => absurd h (by decide), fun _ => vw3_109, fun _ => ⟨vp17, _, rfl, rfl⟩⟩
theorem vs122 : vstat 122 := ⟨by decide +kernel, rfl, fun h => absurd h (by decide), ⟨by decide +kernel, by decide +kernel⟩, vw3_115, vw1_9, fun h => absurd h (by decide), fun _ => vw3_114, fun _ => ⟨vp18, _, rfl, rfl⟩⟩
theorem vs123 : vstat 123 := ⟨by decide +kernel, rfl, fun h => absurd h (by decide), ⟨by decide +kernel, by decide +kernel⟩, vw3_124, vw1_9, fun h => absurd h (by decide), fun _ => vw3_122, fun _ => ⟨vw3_123, _, rfl, rfl⟩⟩
theorem vs124 : vstat 124 := ⟨by decide +kernel, rfl, fun h => absurd h (by decide), ⟨by decide +kernel, by decide +kernel⟩, vw3_134, vw1_9, fun h => absurd h (by decide), fun _ => vw3_133, fun _ => ⟨vp19, _, rfl, rfl⟩⟩
theorem vs125 : vstat 125 := ⟨by decide +kernel, rfl, fun h => absurd h (by decide), ⟨by decide +kernel, by decide +kernel⟩, vw3_138, vw1_9, fun h => absurd h (by decide), fun _ => vw3_137, fun _ => ⟨vp20, _, rfl, rfl⟩⟩
theorem vs126 : vstat 126 := ⟨by decide +kernel, rfl, fun h => absurd h (by decide), ⟨by decide +kernel, by decide +kernel⟩, vw3_155, vw1_9, fun h => absurd h (by decide), fun _ => vw3_153, fun _ => ⟨vw3_154, _, rfl, rfl⟩⟩
theorem vs127 : vstat 127 := ⟨by decide +kernel, rfl, fun h => absurd h (by decide), ⟨by decide +kernel, by decide +kernel⟩, vw3_160, vw1_9, fun h => absurd h (by decide), fun _ => vw3_159, fun _ => ⟨vp21, _, rfl, rfl⟩⟩
theorem vs128 : vstat 128 := ⟨by decide +kernel, rfl, fun h => absurd h (by decide), ⟨by decide +kernel, by decide +kernel⟩, vw3_169, vw1_9, fun h => absurd h (by decide), fun _ => vw3_167, fun _ => ⟨vw3_168, _, rfl, rfl⟩⟩
theorem vs129 : vstat 129 := ⟨by decide +kernel, rfl, fun h => absurd h (by decide), ⟨by decide +kernel, by decide +kernel⟩, vw3_173, vw1_9, fun h => absurd h (by decide), fun _ => vw3_172, fun _ => ⟨vp22, _, rfl, rfl⟩⟩
theorem vs130 : vstat 130 := ⟨by decide +kernel, rfl, fun h => absurd h (by decide), ⟨by decide +kernel, by decide +kernel⟩, vw3_177, vw1_9, fun h => absurd h (by decide), fun _ => vw3_175, fun _ => ⟨vw3_176, _, rfl, rfl⟩⟩
theorem vs131 : vstat 131 := ⟨by decide +kernel, rfl, fun _ => ⟨rfl, rfl⟩, ⟨by decide +kernel, by decide +kernel⟩, vw1_109, vw1_8, fun h => absurd h (by decide), fun _ => vw1_108, fun h => absurd h (by decide)⟩
theorem vs132 : vstat 132 := ⟨by decide +kernel, rfl, fun h => absurd h (by decide), ⟨by decide +kernel, by decide +kernel⟩, vw2_213, vw1_8, fun h => absurd h (by decide), fun _ => vw2_211, fun _ => ⟨vw2_212, _, rfl, rfl⟩⟩
theorem vs133 : vstat 133 := ⟨by decide +kernel, rfl, fun h => absurd h (by decide), ⟨by decide +kernel, by decide +kernel⟩, vw2_217, vw1_8, fun h => absurd h (by decide), fun _ => vw2_216, fun _ => ⟨vp4, _, rfl, rfl⟩⟩
theorem vs134 : vstat 134 := ⟨by decide +kernel, rfl, fun h => absurd h (by decide), ⟨by decide +kernel, by decide +kernel⟩, vw2_233, vw1_8, fun h => absurd h (by decide), fun _ => vw2_232, fun _ => ⟨vp5, _, rfl, rfl⟩⟩
theorem vs135 : vstat 135 := ⟨by decide +kernel, rfl, fun h => absurd h (by decide), ⟨by decide +kernel, by decide +kernel⟩, vw3_19, vw1_8, fun h => absurd h (by decide), fun _ => vw3_18, fun _ => ⟨vp6, _, rfl, rfl⟩⟩
theorem vs136 : vstat 136 := ⟨by decide +kernel, rfl, fun h => absurd h (by decide), ⟨by decide +kernel, by decide +kernel⟩, vw3_46, vw1_8, fun h => absurd h (by decide), fun _ => vw3_45, fun _ => ⟨vp7, _, rfl, rfl⟩⟩
theorem vs137 : vstat 137 := ⟨by decide +kernel, rfl, fun h => absurd h (by decide), ⟨by decide +kernel, by decide +kernel⟩, vw2_238, vw1_8, fun _ => vw2_237, fun h => absurd rfl h, fun h => absurd h (by decide)⟩
theorem vs138 : vstat 138 := ⟨by decide +kernel, rfl, fun h => absurd h (by decide), ⟨by decide +kernel, by decide +kernel⟩, vw3_101, vw1_13, fun _ => vw3_100, fun h => absurd rfl h, fun h => absurd h (by decide)⟩
theorem vs139 : vstat 139 := ⟨by decide +kernel, rfl, fun h => absurd h (by decide), ⟨by decide +kernel, by decide +kernel⟩, vw3_1, vw1_13, fun _ => vw3_0, fun h => absurd rfl h, fun h => absurd h (by decide)⟩
theorem vs140 : vstat 140 := ⟨by decide +kernel, rfl, fun h => absurd h (by decide), ⟨by decide +kernel, by decide +kernel⟩, vw3_14, vw1_13, fun _ => vw3_13, fun h => absurd rfl h, fun h => absurd h (by decide)⟩
theorem vs141 : vstat 141 := ⟨by decide +kernel, rfl, fun _ => ⟨rfl, rfl⟩, ⟨by decide +kernel, by decide +kernel⟩, vw1_28, vw1_2, fun h => absurd h (by decide), fun _ => vw1_27, fun h => absurd h (by decide)⟩
theorem vs142 : vstat 142 := ⟨by decide +kernel, rfl, fun h => absurd h (by decide), ⟨by decide +kernel, by decide +kernel⟩, vw2_29, vw1_2, fun h => absurd h (by decide), fun _ => vw2_27, fun _ => ⟨vw2_28, _, rfl, rfl⟩⟩
theorem vs143 : vstat 143 := ⟨by decide +kernel, rfl, fun h => absurd h (by decide), ⟨by decide +kernel, by decide +kernel⟩, vw2_1, vw1_2, fun h => absurd h (by decide), fun _ => vw1_239, fun _ => ⟨vw2_0, _, rfl, rfl⟩⟩
theorem vs144 : vstat 144 := ⟨by decide +kernel, rfl, fun h => absurd h (by decide), ⟨by decide +kernel, by decide +kernel⟩, vw2_37, vw1_2, fun h => absurd h (by decide), fun _ => vw2_35, fun _ => ⟨vw2_36, _, rfl, rfl⟩⟩
theorem vs145 : vstat 145 := ⟨by decide +kernel, rfl, fun h => absurd h (by decide), ⟨by decide +kernel, by decide +kernel⟩, vw2_128, vw1_2, fun h => absurd h (by decide), fun _ => vw2_126, fun _ => ⟨vw2_127, _, rfl, rfl⟩⟩
theorem vs146 : vstat 146 := ⟨by decide +kernel, rfl, fun h => absurd h (by decide), ⟨by decide +kernel, by decide +kernel⟩, vw2_49, vw1_2, fun h => absurd h (by decide), fun _ => vw2_47, fun _ => ⟨vw2_48, _, rfl, rfl⟩⟩
theorem vs147 : vstat 147 := ⟨by decide +kernel, rfl, fun h => absurd h (by decide), ⟨by decide +kernel, by decide +kernel⟩, vw2_5, vw1_2, fun h => absurd h (by decide), fun _ => vw2_3, fun _ => ⟨vw2_4, _, rfl, rfl⟩⟩
theorem vs148 : vstat 148 := ⟨by decide +kernel, rfl, fun h => absurd h (by decide), ⟨by decide +kernel, by decide +kernel⟩, vw3_41, vw1_2, fun h => absurd h (by decide), fun _ => vw3_39, fun _ => ⟨vw3_40, _, rfl, rfl⟩⟩
theorem vs149 : vstat 149 := ⟨by decide +kernel, rfl, fun h => absurd h (by decide), ⟨by decide +kernel, by decide +kernel⟩, vw2_57, vw1_2, fun h => absurd h (by decide), fun _ => vw2_55, fun _ => ⟨vw2_56, _, rfl, rfl⟩⟩
theorem vs150 : vstat 150 := ⟨by decide +kernel, rfl, fun h => absurd h (by decide), ⟨by decide +kernel, by decide +kernel⟩, vw2_53, vw1_2, fun h => absurd h (by decide), fun _ => vw2_51, fun _ => ⟨vw2_52, _, rfl, rfl⟩⟩
theorem vs151 : vstat 151 := ⟨by decide +kernel, rfl, fun h => absurd h (by decide), ⟨by decide +kernel, by decide +kernel⟩, vw2_13, vw1_2, fun h => absurd h (by decide), fun _ => vw2_11, fun _ => ⟨vw2_12, _, rfl, rfl⟩⟩
theorem vs152 : vstat 152 := ⟨by decide +kernel, rfl, fun h => absurd h (by decide), ⟨by decide +kernel, by decide +kernel⟩, vw2_21, vw1_2, fun h => absurd h (by decide), fun _ => vw2_19, fun _ => ⟨vw2_20, _, rfl, rfl⟩⟩
theorem vs153 : vstat 153 := ⟨by decide +kernel, rfl, fun h => absurd h (by decide), ⟨by decide +kernel, by decide +kernel⟩, vw2_95, vw1_2, fun h => absurd h (by decide), fun _ => vw2_93, fun _ => ⟨vw2_94, _, rfl, rfl⟩⟩
theorem vs154 : vstat 154 := ⟨by decide +kernel, rfl, fun h => absurd h (by decide), ⟨by decide +kernel, by decide +kernel⟩, vw2_73, vw1_2, fun h => absurd h (by decide), fun _ => vw2_71, fun _ => ⟨vw2_72, _, rfl, rfl⟩⟩
theorem vs155 : vstat 155 := ⟨by decide +kernel, rfl, fun h => absurd h (by decide), ⟨by decide +kernel, by decide +kernel⟩, vw3_6, vw1_2, fun h => absurd h (by decide), fun _ => vw3_4, fun _ => ⟨vw3_5, _, rfl, rfl⟩⟩
theorem vs156 : vstat 156 := ⟨by decide +kernel, rfl, fun h => absurd h (by decide), ⟨by decide +kernel, by decide +kernel⟩, vw3_32, vw1_2, fun h => absurd h (by decide), fun _ => vw3_30, fun _ => ⟨vw3_31, _, rfl, rfl⟩⟩
theorem vs157 : vstat 157 := ⟨by decide +kernel, rfl, fun _ => ⟨rfl, rfl⟩, ⟨by decide +kernel, by decide +kernel⟩, vw1_42, vw1_3, fun h => absurd h (by decide), fun _ => vw1_41, fun h => absurd h (by decide)⟩
theorem vs158 : vstat 158 := ⟨by decide +kernel, rfl, fun h => absurd h (by decide), ⟨by decide +kernel, by decide +kernel⟩, vw2_221, vw1_3, fun h => absurd h (by decide), fun _ => vw2_219, fun _ => ⟨vw2_220, _, rfl, rfl⟩⟩
theorem vs159 : vstat 159 := ⟨by decide +kernel, rfl, fun h => absurd h (by decide), ⟨by decide +kernel, by decide +kernel⟩, vw2_99, vw1_3, fun h => absurd h (by decide), fun _ => vw2_97, fun _ => ⟨vw2_98, _, rfl, rfl⟩⟩
theorem vs160 : vstat 160 := ⟨by decide +kernel, rfl, fun h => absurd h (by decide), ⟨by decide +kernel, by decide +kernel⟩, vw2_87, vw1_3, fun h => absurd h (by decide), fun _ => vw2_85, fun _ => ⟨vw2_86, _, rfl, rfl⟩⟩
theorem vs161 : vstat 161 := ⟨by decide +kernel, rfl, fun h => absurd h (by decide), ⟨by decide +kernel, by decide +kernel⟩, vw3_188, vw1_3, fun h => absurd h (by decide), fun _ => vw3_186, fun _ => ⟨vw3_187, _, rfl, rfl⟩⟩
theorem vs162 : vstat 162 := ⟨by decide +kernel, rfl, fun h => absurd h (by decide), ⟨by decide +kernel, by decide +kernel⟩, vw2_82, vw1_3, fun h => absurd h (by decide), fun _ => vw2_80, fun _ => ⟨vw2_81, _, rfl, rfl⟩⟩
theorem vs163 : vstat 163 := ⟨by decide +kernel, rfl, fun h => absurd h (by decide), ⟨by decide +kernel, by decide +kernel⟩, vw2_142, vw1_3, fun h => absurd h (by decide), fun _ => vw2_140, fun _ => ⟨vw2_141, _, rfl, rfl⟩⟩
theorem vs164 : vstat 164 := ⟨by decide +kernel, rfl, fun h => absurd h (by decide), ⟨by decide +kernel, by decide +kernel⟩, vw2_120, vw1_3, fun h => absurd h (by decide), fun _ => vw2_118, fun _ => ⟨vw2_119, _, rfl, rfl⟩⟩
theorem vs165 : vstat 165 := ⟨by decide +kernel, rfl, fun h => absurd h (by decide), ⟨by decide +kernel, by decide +kernel⟩, vw2_112, vw1_3, fun h => absurd h (by decide), fun _ => vw2_110, fun _ => ⟨vw2_111, _, rfl, rfl⟩⟩
theorem vs167 : vstat 167 := ⟨by decide +kernel, rfl, fun h => absurd h (by decide), ⟨by decide +kernel, by decide +kernel⟩, vw1_74, vw1_5, fun _ => vw1_73, fun h => absurd rfl h, fun h => absurd h (by decide)⟩
def vids : List Nat := [0, 1, 2, 3, 4, 5, 6, 7, 8, 9, 10, 11, 12, 13, 14, 15, 16, 17, 18, 19, 20, 21, 22, 23, 24, 25, 26, 27, 28, 29, 30, 31, 32, 33, 34, 35, 36, 37, 38, 39, 40, 41, 42, 43, 44, 45, 46, 47, 48, 49, 50, 51, 52, 53, 54, 55, 56, 57, 58, 59, 60, 61, 62, 63, 64, 65, 66, 67, 68, 69, 70, 71, 72, 73, 74, 75, 76, 77, 78, 79, 80, 81, 82, 83, 84, 85, 86, 87, 88, 89, 90, 91, 92, 93, 94, 95, 96, 97, 98, 99, 100, 101, 102, 103, 104, 105, 106, 107, 108, 109, 110, 111, 112, 113, 114, 115, 116, 117, 118, 119, 120, 121, 122, 123, 124, 125, 126, 127, 128, 129, 130, 131, 132, 133, 134, 135, 136, 137, 138, 139, 140, 141, 142, 143, 144, 145, 146, 147, 148, 149, 150, 151, 152, 153, 154, 155, 156, 157, 158, 159, 160, 161, 162, 163, 164, 165, 167]
set_option maxRecDepth 100000 in
theorem vids_ok : ∀ e ∈ vids, vstat e := List.forall_mem_cons.mpr ⟨vs0, List.forall_mem_cons.mpr ⟨vs1, List.forall_mem_cons.mpr ⟨vs2, List.forall_mem_cons.mpr ⟨vs3, List.forall_mem_cons.mpr ⟨vs4, List.forall_mem_cons.mpr ⟨vs5, List.forall_mem_cons.mpr ⟨vs6, List.forall_mem_cons.mpr ⟨vs7, List.forall_mem_cons.mpr ⟨vs8, List.forall_mem_cons.mpr ⟨vs9, List.forall_mem_cons.mpr ⟨vs10, List.forall_mem_cons.mpr ⟨vs11, List.forall_mem_cons.mpr ⟨vs12, List.forall_mem_cons.mpr ⟨vs13, List.forall_mem_cons.mpr ⟨vs14, List.forall_mem_cons.mpr ⟨vs15, List.forall_mem_cons.mpr ⟨vs16, List.forall_mem_cons.mpr ⟨vs17, List.forall_mem_cons.mpr ⟨vs18, List.forall_mem_cons.mpr ⟨vs19, List.forall_mem_cons.mpr ⟨vs20, List.forall_mem_cons.mpr ⟨vs21, List.forall_mem_cons.mpr ⟨vs22, List.forall_mem_cons.mpr ⟨vs23, List.forall_mem_cons.mpr ⟨vs24, List.forall_mem_cons.mpr ⟨vs25, List.forall_mem_cons.mpr ⟨vs26, List.forall_mem_cons.mpr ⟨vs27, List.forall_mem_cons.mpr ⟨vs28, List.forall_mem_cons.mpr ⟨vs29, List.forall_mem_cons.mpr ⟨vs30, List.forall_mem_cons.mpr ⟨vs31, List.forall_mem_cons.mpr ⟨vs32, List.forall_mem_cons.mpr ⟨vs33, List.forall_mem_cons.mpr ⟨vs34, List.forall_mem_cons.mpr ⟨vs35, List.forall_mem_cons.mpr ⟨vs36, List.forall_mem_cons.mpr ⟨vs37, List.forall_mem_cons.mpr ⟨vs38, List.forall_mem_cons.mpr ⟨vs39, List.forall_mem_cons.mpr ⟨vs40, List.forall_mem_cons.mpr ⟨vs41, List.forall_mem_cons.mpr ⟨vs42, List.forall_mem_cons.mpr ⟨vs43, List.forall_mem_cons.mpr ⟨vs44, List.forall_mem_cons.mpr ⟨vs45, List.forall_mem_cons.mpr ⟨vs46, List.forall_mem_cons.mpr ⟨vs47, List.forall_mem_cons.mpr ⟨vs48, List.forall_mem_cons.mpr ⟨vs49, List.forall_mem_cons.mpr ⟨vs50, List.forall_mem_cons.mpr ⟨vs51, List.forall_mem_cons.mpr ⟨vs52, List.forall_mem_cons.mpr ⟨vs53, List.forall_mem_cons.mpr ⟨vs54, List.forall_mem_cons.mpr ⟨vs55, List.forall_mem_cons.mpr ⟨vs56, List.forall_mem_cons.mpr ⟨vs57, List.forall_mem_cons.mpr ⟨vs58, List.forall_mem_cons.mpr ⟨vs59, List.forall_mem_cons.mpr ⟨vs60, List.forall_mem_cons.mpr ⟨vs61, List.forall_mem_cons.mpr ⟨vs62, List.forall_mem_cons.mpr ⟨vs63, List.forall_mem_cons.mpr ⟨vs64, List.forall_mem_cons.mpr ⟨vs65, List.forall_mem_cons.mpr ⟨vs66, List.forall_mem_cons.mpr ⟨vs67, List.forall_mem_cons.mpr ⟨vs68, List.forall_mem_cons.mpr ⟨vs69, List.forall_mem_cons.mpr ⟨vs70, List.forall_mem_cons.mpr ⟨vs71, List.forall_mem_cons.mpr ⟨vs72, List.forall_mem_cons.mpr ⟨vs73, List.forall_mem_cons.mpr ⟨vs74, List.forall_mem_cons.mpr ⟨vs75, List.forall_mem_cons.mpr ⟨vs76, List.forall_mem_cons.mpr ⟨vs77, List.forall_mem_cons.mpr ⟨vs78, List.forall_mem_cons.mpr ⟨vs79, List.forall_mem_cons.mpr ⟨vs80, List.forall_mem_cons.mpr ⟨vs81, List.forall_mem_cons.mpr ⟨vs82, List.forall_mem_cons.mpr ⟨vs83, List.forall_mem_cons.mpr ⟨vs84, List.forall_mem_cons.mpr ⟨vs85, List.forall_mem_cons.mpr ⟨vs86, List.forall_mem_cons.mpr ⟨vs87, List.forall_mem_cons.mpr ⟨vs88, List.forall_mem_cons.mpr ⟨vs89, List.forall_mem_cons.mpr ⟨vs90, List.forall_mem_cons.mpr ⟨vs91, List.forall_mem_cons.mpr ⟨vs92, List.forall_mem_cons.mpr ⟨vs93, List.forall_mem_cons.mpr ⟨vs94, List.forall_mem_cons.mpr ⟨vs95, List.forall_mem_cons.mpr ⟨vs96, List.forall_mem_cons.mpr ⟨vs97, List.forall_mem_cons.mpr ⟨vs98, List.forall_mem_cons.mpr ⟨vs99, List.forall_mem_cons.mpr ⟨vs100, List.forall_mem_cons.mpr ⟨vs101, List.forall_mem_cons.mpr ⟨vs102, List.forall_mem_cons.mpr ⟨vs103, List.forall_mem_cons.mpr ⟨vs104, List.forall_mem_cons.mpr ⟨vs105, List.forall_mem_cons.mpr ⟨vs106, List.forall_mem_cons.mpr ⟨vs107, List.forall_mem_cons.mpr ⟨vs108, List.forall_mem_cons.mpr ⟨vs109, List.forall_mem_cons.mpr ⟨vs110, List.forall_mem_cons.mpr ⟨vs111, List.forall_mem_cons.mpr ⟨vs112, List.forall_mem_cons.mpr ⟨vs113, List.forall_mem_cons.mpr ⟨vs114, List.forall_mem_cons.mpr ⟨vs115, List.forall_mem_cons.mpr ⟨vs116, List.forall_mem_cons.mpr ⟨vs117, List.forall_mem_cons.mpr ⟨vs118, List.forall_mem_cons.mpr ⟨vs119, List.forall_mem_cons.mpr ⟨vs120, List.forall_mem_cons.mpr ⟨vs121, List.forall_mem_cons.mpr ⟨vs122, List.forall_mem_cons.mpr ⟨vs123, List.forall_mem_cons.mpr ⟨vs124, List.forall_mem_cons.mpr ⟨vs125, List.forall_mem_cons.mpr ⟨vs126, List.forall_mem_cons.mpr ⟨vs127, List.forall_mem_cons.mpr ⟨vs128, List.forall_mem_cons.mpr ⟨vs129, List.forall_mem_cons.mpr ⟨vs130, List.forall_mem_cons.mpr ⟨vs131, List.forall_mem_cons.mpr ⟨vs132, List.forall_mem_cons.mpr ⟨vs133, List.forall_mem_cons.mpr ⟨vs134, List.forall_mem_cons.mpr ⟨vs135, List.forall_mem_cons.mpr ⟨vs136, List.forall_mem_cons.mpr ⟨vs137, List.forall_mem_cons.mpr ⟨vs138, List.forall_mem_cons.mpr ⟨vs139, List.forall_mem_cons.mpr ⟨vs140, List.forall_mem_cons.mpr ⟨vs141, List.forall_mem_cons.mpr ⟨vs142, List.forall_mem_cons.mpr ⟨vs143, List.forall_mem_cons.mpr ⟨vs144, List.forall_mem_cons.mpr ⟨vs145, List.forall_mem_cons.mpr ⟨vs146, List.forall_mem_cons.mpr ⟨vs147, List.forall_mem_cons.mpr ⟨vs148, List.forall_mem_cons.mpr ⟨vs149, List.forall_mem_cons.mpr ⟨vs150, List.forall_mem_cons.mpr ⟨vs151, List.forall_mem_cons.mpr ⟨vs152, List.forall_mem_cons.mpr ⟨vs153, List.forall_mem_cons.mpr ⟨vs154, List.forall_mem_cons.mpr ⟨vs155, List.forall_mem_cons.mpr ⟨vs156, List.forall_mem_cons.mpr ⟨vs157, List.forall_mem_cons.mpr ⟨vs158, List.forall_mem_cons.mpr ⟨vs159, List.forall_mem_cons.mpr ⟨vs160, List.forall_mem_cons.mpr ⟨vs161, List.forall_mem_cons.mpr ⟨vs162, List.forall_mem_cons.mpr ⟨vs163, List.forall_mem_cons.mpr ⟨vs164, List.forall_mem_cons.mpr ⟨vs165, List.forall_mem_cons.mpr ⟨vs167, fun _ h => absurd h List.not_mem_nil⟩⟩⟩⟩⟩⟩⟩⟩⟩⟩⟩⟩⟩⟩⟩⟩⟩⟩⟩⟩⟩⟩⟩⟩⟩⟩⟩⟩⟩⟩⟩⟩⟩⟩⟩⟩⟩⟩⟩⟩⟩⟩⟩⟩⟩⟩⟩⟩⟩⟩⟩⟩⟩⟩⟩⟩⟩⟩⟩⟩⟩⟩⟩⟩⟩⟩⟩⟩⟩⟩⟩⟩⟩⟩⟩⟩⟩⟩⟩⟩⟩⟩⟩⟩⟩⟩⟩⟩⟩⟩⟩⟩⟩⟩⟩⟩⟩⟩⟩⟩⟩⟩⟩⟩⟩⟩⟩⟩⟩⟩⟩⟩⟩⟩⟩⟩⟩⟩⟩⟩⟩⟩⟩⟩⟩⟩⟩⟩⟩⟩⟩⟩⟩⟩⟩⟩⟩⟩⟩⟩⟩⟩⟩⟩⟩⟩⟩⟩⟩⟩⟩⟩⟩⟩⟩⟩⟩⟩⟩⟩⟩⟩⟩⟩⟩⟩⟩
theorem vlay0 : ∀ w ∈ u_ws "PackStore" vT_0 11, w ∈ vWS := List.forall_mem_cons.mpr ⟨vw1_211, List.forall_mem_cons.mpr ⟨vw1_213, List.forall_mem_cons.mpr ⟨vw1_215, List.forall_mem_cons.mpr ⟨vw1_217, List.forall_mem_cons.mpr ⟨vw1_219, List.forall_mem_cons.mpr ⟨vw1_221, List.forall_mem_cons.mpr ⟨vw1_223, List.forall_mem_cons.mpr ⟨vw1_225, List.forall_mem_cons.mpr ⟨vw1_227, List.forall_mem_cons.mpr ⟨vw1_229, List.forall_mem_cons.mpr ⟨vw1_231, fun _ h => absurd h List.not_mem_nil⟩⟩⟩⟩⟩⟩⟩⟩⟩⟩⟩
theorem vtyo0 : ∀ k, k < 11 → parseFieldDescriptor (vT_0 k).2.2.1 = some (vt_0 k) := by decide +kernel
theorem vnmo0 : ∀ a, a < 11 → ∀ b, b < 11 → a ≠ b → (vT_0 a).2.1 ≠ (vT_0 b).2.1 := by decide +kernel
theorem vdfo0 : ∀ k, k < 11 → defaultValue (vt_0 k) = vp_V (vdef 0) k := by decide +kernel
theorem vlay1 : ∀ w ∈ u_ws "PackStore$Row" vT_1 2, w ∈ vWS := List.forall_mem_cons.mpr ⟨vw1_32, List.forall_mem_cons.mpr ⟨vw1_34, fun _ h => absurd h List.not_mem_nil⟩⟩
theorem vtyo1 : ∀ k, k < 2 → parseFieldDescriptor (vT_1 k).2.2.1 = some (vt_1 k) := by decide +kernel
theorem vnmo1 : ∀ a, a < 2 → ∀ b, b < 2 → a ≠ b → (vT_1 a).2.1 ≠ (vT_1 b).2.1 := by decide +kernel
theorem vdfo1 : ∀ k, k < 2 → defaultValue (vt_1 k) = vp_V (vdef 1) k := by decide +kernel
theorem vlay2 : ∀ w ∈ u_ws "PackStore$IdList" vT_2 2, w ∈ vWS := List.forall_mem_cons.mpr ⟨vw1_83, List.forall_mem_cons.mpr ⟨vw1_85, fun _ h => absurd h List.not_mem_nil⟩⟩
theorem vtyo2 : ∀ k, k < 2 → parseFieldDescriptor (vT_2 k).2.2.1 = some (vt_2 k) := by decide +kernel
theorem vnmo2 : ∀ a, a < 2 → ∀ b, b < 2 → a ≠ b → (vT_2 a).2.1 ≠ (vT_2 b).2.1 := by decide +kernel
theorem vdfo2 : ∀ k, k < 2 → defaultValue (vt_2 k) = vp_V (vdef 2) k := by decide +kernel
theorem vlay3 : ∀ w ∈ u_ws "PackStore$Item" vT_3 3, w ∈ vWS := List.forall_mem_cons.mpr ⟨vw1_56, List.forall_mem_cons.mpr ⟨vw1_58, List.forall_mem_cons.mpr ⟨vw1_60, fun _ h => absurd h List.not_mem_nil⟩⟩⟩
theorem vtyo3 : ∀ k, k < 3 → parseFieldDescriptor (vT_3 k).2.2.1 = some (vt_3 k) := by decide +kernel
theorem vnmo3 : ∀ a, a < 3 → ∀ b, b < 3 → a ≠ b → (vT_3 a).2.1 ≠ (vT_3 b).2.1 := by decide +kernel
theorem vdfo3 : ∀ k, k < 3 → defaultValue (vt_3 k) = vp_V (vdef 3) k := by decide +kernel
theorem vlay4 : ∀ w ∈ u_ws "PackStore$Shelf" vT_4 2, w ∈ vWS := List.forall_mem_cons.mpr ⟨vw1_65, List.forall_mem_cons.mpr ⟨vw1_67, fun _ h => absurd h List.not_mem_nil⟩⟩
theorem vtyo4 : ∀ k, k < 2 → parseFieldDescriptor (vT_4 k).2.2.1 = some (vt_4 k) := by decide +kernel
theorem vnmo4 : ∀ a, a < 2 → ∀ b, b < 2 → a ≠ b → (vT_4 a).2.1 ≠ (vT_4 b).2.1 := by decide +kernel
theorem vdfo4 : ∀ k, k < 2 → defaultValue (vt_4 k) = vp_V (vdef 4) k := by decide +kernel
theorem vlay5 : ∀ w ∈ u_ws "PackStore$Closure" vT_5 3, w ∈ vWS := List.forall_mem_cons.mpr ⟨vw1_97, List.forall_mem_cons.mpr ⟨vw1_99, List.forall_mem_cons.mpr ⟨vw1_101, fun _ h => absurd h List.not_mem_nil⟩⟩⟩
theorem vtyo5 : ∀ k, k < 3 → parseFieldDescriptor (vT_5 k).2.2.1 = some (vt_5 k) := by decide +kernel
theorem vnmo5 : ∀ a, a < 3 → ∀ b, b < 3 → a ≠ b → (vT_5 a).2.1 ≠ (vT_5 b).2.1 := by decide +kernel
theorem vdfo5 : ∀ k, k < 3 → defaultValue (vt_5 k) = vp_V (vdef 5) k := by decide +kernel
theorem vlay6 : ∀ w ∈ u_ws "PackStore$PackWriter" vT_6 8, w ∈ vWS := List.forall_mem_cons.mpr ⟨vw1_121, List.forall_mem_cons.mpr ⟨vw1_123, List.forall_mem_cons.mpr ⟨vw1_125, List.forall_mem_cons.mpr ⟨vw1_127, List.forall_mem_cons.mpr ⟨vw1_129, List.forall_mem_cons.mpr ⟨vw1_131, List.forall_mem_cons.mpr ⟨vw1_133, List.forall_mem_cons.mpr ⟨vw1_135, fun _ h => absurd h List.not_mem_nil⟩⟩⟩⟩⟩⟩⟩⟩
theorem vtyo6 : ∀ k, k < 8 → parseFieldDescriptor (vT_6 k).2.2.1 = some (vt_6 k) := by decide +kernel
theorem vnmo6 : ∀ a, a < 8 → ∀ b, b < 8 → a ≠ b → (vT_6 a).2.1 ≠ (vT_6 b).2.1 := by decide +kernel
theorem vdfo6 : ∀ k, k < 8 → defaultValue (vt_6 k) = vp_V (vdef 6) k := by decide +kernel
theorem vlay7 : ∀ w ∈ u_ws "PackStore$Entry" vT_7 7, w ∈ vWS := List.forall_mem_cons.mpr ⟨vw1_166, List.forall_mem_cons.mpr ⟨vw1_168, List.forall_mem_cons.mpr ⟨vw1_170, List.forall_mem_cons.mpr ⟨vw1_172, List.forall_mem_cons.mpr ⟨vw1_174, List.forall_mem_cons.mpr ⟨vw1_176, List.forall_mem_cons.mpr ⟨vw1_178, fun _ h => absurd h List.not_mem_nil⟩⟩⟩⟩⟩⟩⟩
theorem vtyo7 : ∀ k, k < 7 → parseFieldDescriptor (vT_7 k).2.2.1 = some (vt_7 k) := by decide +kernel
theorem vnmo7 : ∀ a, a < 7 → ∀ b, b < 7 → a ≠ b → (vT_7 a).2.1 ≠ (vT_7 b).2.1 := by decide +kernel
theorem vdfo7 : ∀ k, k < 7 → defaultValue (vt_7 k) = vp_V (vdef 7) k := by decide +kernel
theorem vlay8 : ∀ w ∈ u_ws "PackStore$PackReader" vT_8 6, w ∈ vWS := List.forall_mem_cons.mpr ⟨vw1_187, List.forall_mem_cons.mpr ⟨vw1_189, List.forall_mem_cons.mpr ⟨vw1_191, List.forall_mem_cons.mpr ⟨vw1_193, List.forall_mem_cons.mpr ⟨vw1_195, List.forall_mem_cons.mpr ⟨vw1_197, fun _ h => absurd h List.not_mem_nil⟩⟩⟩⟩⟩⟩
theorem vtyo8 : ∀ k, k < 6 → parseFieldDescriptor (vT_8 k).2.2.1 = some (vt_8 k) := by decide +kernel
theorem vnmo8 : ∀ a, a < 6 → ∀ b, b < 6 → a ≠ b → (vT_8 a).2.1 ≠ (vT_8 b).2.1 := by decide +kernel
theorem vdfo8 : ∀ k, k < 6 → defaultValue (vt_8 k) = vp_V (vdef 8) k := by decide +kernel
theorem vlay9 : ∀ w ∈ u_ws "PackStoreModel" vT_9 25, w ∈ vWS := List.forall_mem_cons.mpr ⟨vw4_13, List.forall_mem_cons.mpr ⟨vw4_15, List.forall_mem_cons.mpr ⟨vw4_17, List.forall_mem_cons.mpr ⟨vw4_19, List.forall_mem_cons.mpr ⟨vw4_21, List.forall_mem_cons.mpr ⟨vw4_23, List.forall_mem_cons.mpr ⟨vw4_25, List.forall_mem_cons.mpr ⟨vw4_27, List.forall_mem_cons.mpr ⟨vw4_29, List.forall_mem_cons.mpr ⟨vw4_31, List.forall_mem_cons.mpr ⟨vw4_33, List.forall_mem_cons.mpr ⟨vw4_35, List.forall_mem_cons.mpr ⟨vw4_37, List.forall_mem_cons.mpr ⟨vw4_39, List.forall_mem_cons.mpr ⟨vw4_41, List.forall_mem_cons.mpr ⟨vw4_43, List.forall_mem_cons.mpr ⟨vw4_45, List.forall_mem_cons.mpr ⟨vw4_47, List.forall_mem_cons.mpr ⟨vw4_49, List.forall_mem_cons.mpr ⟨vw4_51, List.forall_mem_cons.mpr ⟨vw4_53, List.forall_mem_cons.mpr ⟨vw4_55, List.forall_mem_cons.mpr ⟨vw4_57, List.forall_mem_cons.mpr ⟨vw4_59, List.forall_mem_cons.mpr ⟨vw4_61, fun _ h => absurd h List.not_mem_nil⟩⟩⟩⟩⟩⟩⟩⟩⟩⟩⟩⟩⟩⟩⟩⟩⟩⟩⟩⟩⟩⟩⟩⟩⟩
theorem vtyo9 : ∀ k, k < 25 → parseFieldDescriptor (vT_9 k).2.2.1 = some (vt_9 k) := by decide +kernel
theorem vnmo9 : ∀ a, a < 25 → ∀ b, b < 25 → a ≠ b → (vT_9 a).2.1 ≠ (vT_9 b).2.1 := by decide +kernel
theorem vdfo9 : ∀ k, k < 25 → defaultValue (vt_9 k) = vp_V (vdef 9) k := by decide +kernel
theorem vcl_lt {t : Nat} {q : vw_C} (hq : vcl[t]? = some q) : t < 50 := by
  have ht : t < 10 := (List.getElem?_eq_some_iff.mp hq).1
  omega
theorem vcl_in {t : Nat} {q : vw_C} (hq : vcl[t]? = some q) : ∀ w ∈ u_ws q.1 q.2.1 q.2.2, w ∈ vWS := by
  have ht : t < 10 := (List.getElem?_eq_some_iff.mp hq).1
  match t, ht, hq with
  | 0, _, hq => cases hq; exact vlay0
  | 1, _, hq => cases hq; exact vlay1
  | 2, _, hq => cases hq; exact vlay2
  | 3, _, hq => cases hq; exact vlay3
  | 4, _, hq => cases hq; exact vlay4
  | 5, _, hq => cases hq; exact vlay5
  | 6, _, hq => cases hq; exact vlay6
  | 7, _, hq => cases hq; exact vlay7
  | 8, _, hq => cases hq; exact vlay8
  | 9, _, hq => cases hq; exact vlay9
theorem vcl_ty {t : Nat} {q : vw_C} (hq : vcl[t]? = some q) : ∀ k, k < q.2.2 → parseFieldDescriptor (q.2.1 k).2.2.1 = some (vty t k) := by
  have ht : t < 10 := (List.getElem?_eq_some_iff.mp hq).1
  match t, ht, hq with
  | 0, _, hq => cases hq; exact vtyo0
  | 1, _, hq => cases hq; exact vtyo1
  | 2, _, hq => cases hq; exact vtyo2
  | 3, _, hq => cases hq; exact vtyo3
  | 4, _, hq => cases hq; exact vtyo4
  | 5, _, hq => cases hq; exact vtyo5
  | 6, _, hq => cases hq; exact vtyo6
  | 7, _, hq => cases hq; exact vtyo7
  | 8, _, hq => cases hq; exact vtyo8
  | 9, _, hq => cases hq; exact vtyo9
theorem vcl_nm {t : Nat} {q : vw_C} (hq : vcl[t]? = some q) : ∀ a, a < q.2.2 → ∀ b, b < q.2.2 → a ≠ b → (q.2.1 a).2.1 ≠ (q.2.1 b).2.1 := by
  have ht : t < 10 := (List.getElem?_eq_some_iff.mp hq).1
  match t, ht, hq with
  | 0, _, hq => cases hq; exact vnmo0
  | 1, _, hq => cases hq; exact vnmo1
  | 2, _, hq => cases hq; exact vnmo2
  | 3, _, hq => cases hq; exact vnmo3
  | 4, _, hq => cases hq; exact vnmo4
  | 5, _, hq => cases hq; exact vnmo5
  | 6, _, hq => cases hq; exact vnmo6
  | 7, _, hq => cases hq; exact vnmo7
  | 8, _, hq => cases hq; exact vnmo8
  | 9, _, hq => cases hq; exact vnmo9
theorem vdef_len {t : Nat} {q : vw_C} (hq : vcl[t]? = some q) : (vdef t).length = q.2.2 := by
  have ht : t < 10 := (List.getElem?_eq_some_iff.mp hq).1
  match t, ht, hq with
  | 0, _, hq => cases hq; exact rfl
  | 1, _, hq => cases hq; exact rfl
  | 2, _, hq => cases hq; exact rfl
  | 3, _, hq => cases hq; exact rfl
  | 4, _, hq => cases hq; exact rfl
  | 5, _, hq => cases hq; exact rfl
  | 6, _, hq => cases hq; exact rfl
  | 7, _, hq => cases hq; exact rfl
  | 8, _, hq => cases hq; exact rfl
  | 9, _, hq => cases hq; exact rfl
theorem vdef_ok {t : Nat} {q : vw_C} (hq : vcl[t]? = some q) : ∀ k, k < q.2.2 → defaultValue (vty t k) = vp_V (vdef t) k := by
  have ht : t < 10 := (List.getElem?_eq_some_iff.mp hq).1
  match t, ht, hq with
  | 0, _, hq => cases hq; exact vdfo0
  | 1, _, hq => cases hq; exact vdfo1
  | 2, _, hq => cases hq; exact vdfo2
  | 3, _, hq => cases hq; exact vdfo3
  | 4, _, hq => cases hq; exact vdfo4
  | 5, _, hq => cases hq; exact vdfo5
  | 6, _, hq => cases hq; exact vdfo6
  | 7, _, hq => cases hq; exact vdfo7
  | 8, _, hq => cases hq; exact vdfo8
  | 9, _, hq => cases hq; exact vdfo9
theorem vdef_sh : ∀ t, t < 10 → ∀ v ∈ vdef t, v = .null ∨ v = .int 0 := by decide +kernel
theorem vcomp_ok {t : Nat} (ht : t = 102 ∨ t = 103) : ∃ q, vcl[vcomp t]? = some q ∧ q.1 = vcn t := by
  rcases ht with rfl | rfl
  · exact ⟨_, rfl, rfl⟩
  · exact ⟨_, rfl, rfl⟩
def vlen (i : Jvm.ClassFile.Instr) : Nat := match i with
  | .tableswitch .. => 0
  | .lookupswitch .. => 0
  | .iload _ | .aload _ | .istore _ | .astore _ | .bipush _ | .ldc _ | .newarray _ => 2
  | .sipush _ | .ldc_w _ | .if_icmp _ _ | .ifCond _ _ | .ifnull _ | .ifnonnull _ | .goto _ | .iinc _ _ | .getfield _ | .putfield _ | .invokevirtual _ | .invokestatic _ | .invokespecial _ | .new _ | .anewarray _ => 3
  | _ => 1
def vmemB (e : Nat × Nat × Nat) (l : List (Nat × Nat × Nat)) : Bool := l.any fun z => z.1 == e.1 && z.2.1 == e.2.1 && z.2.2 == e.2.2
def vokB (mi : Nat) (y : Nat × vI) : Bool :=
  let pc := y.1
  let r1 := y.2.2.2.1
  let r2 := y.2.2.2.2
  (vlen y.2.1 == 0 || vlen y.2.1 == y.2.2.1) && 1 ≤ vrk mi && (match y.2.1 with
  | .getfield idx => vfl.any fun z => z.1 == vco mi && z.2.1 == idx && z.2.2.1 == r1 && z.2.2.2 == r2
  | .putfield idx => (vfl.any fun z => z.1 == vco mi && z.2.1 == idx && z.2.2.1 == r1 && z.2.2.2 == r2) && (match vcl[r1]? with
    | some q => !(q.2.1 r2).2.2.2 || (vkd mi == 2 && r1 == vco mi)
    | none => false)
  | .new idx => vmemB (vco mi, idx, r1) vnw
  | .anewarray idx => vmemB (vco mi, idx, r1) van
  | .newarray t => t == .int || t == .boolean
  | .ldc idx => vmemB (vco mi, idx, r1) vld0
  | .ldc_w idx => vmemB (vco mi, idx, r1) vld0
  | .if_icmp _ off => decide (0 ≤ (pc : Int) + off)
  | .ifCond _ off => decide (0 ≤ (pc : Int) + off)
  | .invokevirtual idx => vmemB (vco mi, idx, r1) vml && vids.contains r1 && vkd r1 == 1 && decide (1 ≤ r2) && decide (r2 ≤ vmaxL r1) && decide (vrk r1 < vrk mi) && decide (8 + (vmaxL r1 + 11) + vlo r1 ≤ vlo mi)
  | .invokestatic idx => if r1 == 1001 then vmemB (vco mi, idx, r1) vnl && decide (26 ≤ vlo mi) else if r1 == 1002 then vmemB (vco mi, idx, r1) vnl && decide (21 ≤ vlo mi) else vmemB (vco mi, idx, r1) vml && vids.contains r1 && vkd r1 == 0 && decide (r2 ≤ vmaxL r1) && decide (vrk r1 < vrk mi) && decide (8 + (vmaxL r1 + 11) + vlo r1 ≤ vlo mi)
  | .invokespecial idx => if r1 == 1000 then vmemB (vco mi, idx, r1) vnl && decide (20 ≤ vlo mi) else vmemB (vco mi, idx, r1) vml && vids.contains r1 && vkd r1 == 2 && decide (1 ≤ r2) && decide (r2 ≤ vmaxL r1) && decide (vrk r1 < vrk mi) && decide (8 + (vmaxL r1 + 11) + vlo r1 ≤ vlo mi)
  | _ => true)
def vdecB (mi : Nat) (y : Nat × vI) : Bool := decide (decode (vbytes mi) y.1 = .ok (y.2.1, y.2.2.1))
def vparB (y : Nat × vI) : Bool := match y.2.1 with
  | .invokevirtual _ => decide ((parseMethodDescriptor (vy y.2.2.2.1).desc).map (fun d => d.parameters.length) = some (y.2.2.2.2 - 1))
  | .invokestatic _ => decide (1000 ≤ y.2.2.2.1) || decide ((parseMethodDescriptor (vy y.2.2.2.1).desc).map (fun d => d.parameters.length) = some y.2.2.2.2)
  | .invokespecial _ => decide (1000 ≤ y.2.2.2.1) || decide ((parseMethodDescriptor (vy y.2.2.2.1).desc).map (fun d => d.parameters.length) = some (y.2.2.2.2 - 1))
  | _ => true
