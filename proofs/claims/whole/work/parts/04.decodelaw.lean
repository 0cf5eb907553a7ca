set_option maxRecDepth 100000 in
theorem jv_217_0 : jV2 cL_law jP_217 0 60 = true := by decide +kernel
theorem jvs_217_0 : jV cL_law jP_217 60 = true := jV_add (a := 0) (n := 60) jV_0 jv_217_0
set_option maxRecDepth 100000 in
theorem jv_217_1 : jV2 cL_law jP_217 60 60 = true := by decide +kernel
theorem jvs_217_1 : jV cL_law jP_217 120 = true := jV_add (a := 60) (n := 60) jvs_217_0 jv_217_1
set_option maxRecDepth 100000 in
theorem jv_217_2 : jV2 cL_law jP_217 120 60 = true := by decide +kernel
theorem jvs_217_2 : jV cL_law jP_217 180 = true := jV_add (a := 120) (n := 60) jvs_217_1 jv_217_2
set_option maxRecDepth 100000 in
theorem jv_217_3 : jV2 cL_law jP_217 180 60 = true := by decide +kernel
theorem jvs_217_3 : jV cL_law jP_217 240 = true := jV_add (a := 180) (n := 60) jvs_217_2 jv_217_3
set_option maxRecDepth 100000 in
theorem jv_217_4 : jV2 cL_law jP_217 240 60 = true := by decide +kernel
theorem jvs_217_4 : jV cL_law jP_217 300 = true := jV_add (a := 240) (n := 60) jvs_217_3 jv_217_4
set_option maxRecDepth 100000 in
theorem jv_217_5 : jV2 cL_law jP_217 300 60 = true := by decide +kernel
theorem jvs_217_5 : jV cL_law jP_217 360 = true := jV_add (a := 300) (n := 60) jvs_217_4 jv_217_5
set_option maxRecDepth 100000 in
theorem jv_217_6 : jV2 cL_law jP_217 360 60 = true := by decide +kernel
theorem jvs_217_6 : jV cL_law jP_217 420 = true := jV_add (a := 360) (n := 60) jvs_217_5 jv_217_6
set_option maxRecDepth 100000 in
theorem jv_217_7 : jV2 cL_law jP_217 420 60 = true := by decide +kernel
theorem jvs_217_7 : jV cL_law jP_217 480 = true := jV_add (a := 420) (n := 60) jvs_217_6 jv_217_7
set_option maxRecDepth 100000 in
theorem jv_217_8 : jV2 cL_law jP_217 480 60 = true := by decide +kernel
theorem jvs_217_8 : jV cL_law jP_217 540 = true := jV_add (a := 480) (n := 60) jvs_217_7 jv_217_8
set_option maxRecDepth 100000 in
theorem jv_217_9 : jV2 cL_law jP_217 540 60 = true := by decide +kernel
theorem jvs_217_9 : jV cL_law jP_217 600 = true := jV_add (a := 540) (n := 60) jvs_217_8 jv_217_9
set_option maxRecDepth 100000 in
theorem jv_217_10 : jV2 cL_law jP_217 600 60 = true := by decide +kernel
theorem jvs_217_10 : jV cL_law jP_217 660 = true := jV_add (a := 600) (n := 60) jvs_217_9 jv_217_10
set_option maxRecDepth 100000 in
theorem jv_217_11 : jV2 cL_law jP_217 660 60 = true := by decide +kernel
theorem jvs_217_11 : jV cL_law jP_217 720 = true := jV_add (a := 660) (n := 60) jvs_217_10 jv_217_11
set_option maxRecDepth 100000 in
theorem jv_217_12 : jV2 cL_law jP_217 720 60 = true := by decide +kernel
theorem jvs_217_12 : jV cL_law jP_217 780 = true := jV_add (a := 720) (n := 60) jvs_217_11 jv_217_12
set_option maxRecDepth 100000 in
theorem jv_217_13 : jV2 cL_law jP_217 780 60 = true := by decide +kernel
theorem jvs_217_13 : jV cL_law jP_217 840 = true := jV_add (a := 780) (n := 60) jvs_217_12 jv_217_13
set_option maxRecDepth 100000 in
theorem jv_217_14 : jV2 cL_law jP_217 840 60 = true := by decide +kernel
theorem jvs_217_14 : jV cL_law jP_217 900 = true := jV_add (a := 840) (n := 60) jvs_217_13 jv_217_14
set_option maxRecDepth 100000 in
theorem jv_217_15 : jV2 cL_law jP_217 900 60 = true := by decide +kernel
theorem jvs_217_15 : jV cL_law jP_217 960 = true := jV_add (a := 900) (n := 60) jvs_217_14 jv_217_15
set_option maxRecDepth 100000 in
theorem jv_217_16 : jV2 cL_law jP_217 960 60 = true := by decide +kernel
theorem jvs_217_16 : jV cL_law jP_217 1020 = true := jV_add (a := 960) (n := 60) jvs_217_15 jv_217_16
set_option maxRecDepth 100000 in
theorem jv_217_17 : jV2 cL_law jP_217 1020 60 = true := by decide +kernel
theorem jvs_217_17 : jV cL_law jP_217 1080 = true := jV_add (a := 1020) (n := 60) jvs_217_16 jv_217_17
set_option maxRecDepth 100000 in
theorem jv_217_18 : jV2 cL_law jP_217 1080 4 = true := by decide +kernel
theorem jv_217 : jV cL_law jP_217 1084 = true := jV_add (a := 1080) (n := 4) jvs_217_17 jv_217_18
theorem jq_217 : ∀ pc r, jP 217 pc = some r → decode (jB 217) pc = .ok r := fun pc r h => jV_ok jv_217 (jV_out (fun _ => rfl)) pc r h
def jIx_0 : List Nat := [0, 1, 2, 3, 4, 5, 6, 7, 8, 9, 10, 11, 12, 13, 14, 15, 16, 17, 18, 19, 20, 21, 22, 23, 24, 25, 26, 27, 28, 29, 30, 31, 32, 33, 34, 35, 36, 37, 38, 39]
theorem jqs_0 : ∀ mi ∈ jIx_0, ∀ pc r, jP mi pc = some r → decode (jB mi) pc = .ok r := List.forall_mem_cons.mpr ⟨jq_0, List.forall_mem_cons.mpr ⟨jq_1, List.forall_mem_cons.mpr ⟨jq_2, List.forall_mem_cons.mpr ⟨jq_3, List.forall_mem_cons.mpr ⟨jq_4, List.forall_mem_cons.mpr ⟨jq_5, List.forall_mem_cons.mpr ⟨jq_6, List.forall_mem_cons.mpr ⟨jq_7, List.forall_mem_cons.mpr ⟨jq_8, List.forall_mem_cons.mpr ⟨jq_9, List.forall_mem_cons.mpr ⟨jq_10, List.forall_mem_cons.mpr ⟨jq_11, List.forall_mem_cons.mpr ⟨jq_12, List.forall_mem_cons.mpr ⟨jq_13, List.forall_mem_cons.mpr ⟨jq_14, List.forall_mem_cons.mpr ⟨jq_15, List.forall_mem_cons.mpr ⟨jq_16, List.forall_mem_cons.mpr ⟨jq_17, List.forall_mem_cons.mpr ⟨jq_18, List.forall_mem_cons.mpr ⟨jq_19, List.forall_mem_cons.mpr ⟨jq_20, List.forall_mem_cons.mpr ⟨jq_21, List.forall_mem_cons.mpr ⟨jq_22, List.forall_mem_cons.mpr ⟨jq_23, List.forall_mem_cons.mpr ⟨jq_24, List.forall_mem_cons.mpr ⟨jq_25, List.forall_mem_cons.mpr ⟨jq_26, List.forall_mem_cons.mpr ⟨jq_27, List.forall_mem_cons.mpr ⟨jq_28, List.forall_mem_cons.mpr ⟨jq_29, List.forall_mem_cons.mpr ⟨jq_30, List.forall_mem_cons.mpr ⟨jq_31, List.forall_mem_cons.mpr ⟨jq_32, List.forall_mem_cons.mpr ⟨jq_33, List.forall_mem_cons.mpr ⟨jq_34, List.forall_mem_cons.mpr ⟨jq_35, List.forall_mem_cons.mpr ⟨jq_36, List.forall_mem_cons.mpr ⟨jq_37, List.forall_mem_cons.mpr ⟨jq_38, List.forall_mem_cons.mpr ⟨jq_39, fun _ h => absurd h List.not_mem_nil⟩⟩⟩⟩⟩⟩⟩⟩⟩⟩⟩⟩⟩⟩⟩⟩⟩⟩⟩⟩⟩⟩⟩⟩⟩⟩⟩⟩⟩⟩⟩⟩⟩⟩⟩⟩⟩⟩⟩⟩
def jIx_1 : List Nat := [40, 41, 42, 43, 44, 45, 46, 47, 48, 49, 50, 51, 52, 53, 54, 55, 56, 57, 58, 59, 60, 61, 62, 63, 64, 65, 66, 67, 68, 69, 70, 71, 72, 73, 74, 75, 76, 77, 78, 79]
theorem jqs_1 : ∀ mi ∈ jIx_1, ∀ pc r, jP mi pc = some r → decode (jB mi) pc = .ok r := List.forall_mem_cons.mpr ⟨jq_40, List.forall_mem_cons.mpr ⟨jq_41, List.forall_mem_cons.mpr ⟨jq_42, List.forall_mem_cons.mpr ⟨jq_43, List.forall_mem_cons.mpr ⟨jq_44, List.forall_mem_cons.mpr ⟨jq_45, List.forall_mem_cons.mpr ⟨jq_46, List.forall_mem_cons.mpr ⟨jq_47, List.forall_mem_cons.mpr ⟨jq_48, List.forall_mem_cons.mpr ⟨jq_49, List.forall_mem_cons.mpr ⟨jq_50, List.forall_mem_cons.mpr ⟨jq_51, List.forall_mem_cons.mpr ⟨jq_52, List.forall_mem_cons.mpr ⟨jq_53, List.forall_mem_cons.mpr ⟨jq_54, List.forall_mem_cons.mpr ⟨jq_55, List.forall_mem_cons.mpr ⟨jq_56, List.forall_mem_cons.mpr ⟨jq_57, List.forall_mem_cons.mpr ⟨jq_58, List.forall_mem_cons.mpr ⟨jq_59, List.forall_mem_cons.mpr ⟨jq_60, List.forall_mem_cons.mpr ⟨jq_61, List.forall_mem_cons.mpr ⟨jq_62, List.forall_mem_cons.mpr ⟨jq_63, List.forall_mem_cons.mpr ⟨jq_64, List.forall_mem_cons.mpr ⟨jq_65, List.forall_mem_cons.mpr ⟨jq_66, List.forall_mem_cons.mpr ⟨jq_67, List.forall_mem_cons.mpr ⟨jq_68, List.forall_mem_cons.mpr ⟨jq_69, List.forall_mem_cons.mpr ⟨jq_70, List.forall_mem_cons.mpr ⟨jq_71, List.forall_mem_cons.mpr ⟨jq_72, List.forall_mem_cons.mpr ⟨jq_73, List.forall_mem_cons.mpr ⟨jq_74, List.forall_mem_cons.mpr ⟨jq_75, List.forall_mem_cons.mpr ⟨jq_76, List.forall_mem_cons.mpr ⟨jq_77, List.forall_mem_cons.mpr ⟨jq_78, List.forall_mem_cons.mpr ⟨jq_79, fun _ h => absurd h List.not_mem_nil⟩⟩⟩⟩⟩⟩⟩⟩⟩⟩⟩⟩⟩⟩⟩⟩⟩⟩⟩⟩⟩⟩⟩⟩⟩⟩⟩⟩⟩⟩⟩⟩⟩⟩⟩⟩⟩⟩⟩⟩
def jIx_2 : List Nat := [80, 81, 82, 83, 84, 85, 86, 87, 88, 89, 90, 91, 92, 93, 94, 95, 96, 97, 98, 99, 100, 101, 102, 103, 104, 105, 106, 107, 108, 109, 110, 111, 112, 113, 114, 115, 116, 117, 118, 119]
theorem jqs_2 : ∀ mi ∈ jIx_2, ∀ pc r, jP mi pc = some r → decode (jB mi) pc = .ok r := List.forall_mem_cons.mpr ⟨jq_80, List.forall_mem_cons.mpr ⟨jq_81, List.forall_mem_cons.mpr ⟨jq_82, List.forall_mem_cons.mpr ⟨jq_83, List.forall_mem_cons.mpr ⟨jq_84, List.forall_mem_cons.mpr ⟨jq_85, List.forall_mem_cons.mpr ⟨jq_86, List.forall_mem_cons.mpr ⟨jq_87, List.forall_mem_cons.mpr ⟨jq_88, List.forall_mem_cons.mpr ⟨jq_89, List.forall_mem_cons.mpr ⟨jq_90, List.forall_mem_cons.mpr ⟨jq_91, List.forall_mem_cons.mpr ⟨jq_92, List.forall_mem_cons.mpr ⟨jq_93, List.forall_mem_cons.mpr ⟨jq_94, List.forall_mem_cons.mpr ⟨jq_95, List.forall_mem_cons.mpr ⟨jq_96, List.forall_mem_cons.mpr ⟨jq_97, List.forall_mem_cons.mpr ⟨jq_98, List.forall_mem_cons.mpr ⟨jq_99, List.forall_mem_cons.mpr ⟨jq_100, List.forall_mem_cons.mpr ⟨jq_101, List.forall_mem_cons.mpr ⟨jq_102, List.forall_mem_cons.mpr ⟨jq_103, List.forall_mem_cons.mpr ⟨jq_104, List.forall_mem_cons.mpr ⟨jq_105, List.forall_mem_cons.mpr ⟨jq_106, List.forall_mem_cons.mpr ⟨jq_107, List.forall_mem_cons.mpr ⟨jq_108, List.forall_mem_cons.mpr ⟨jq_109, List.forall_mem_cons.mpr ⟨jq_110, List.forall_mem_cons.mpr ⟨jq_111, List.forall_mem_cons.mpr ⟨jq_112, List.forall_mem_cons.mpr ⟨jq_113, List.forall_mem_cons.mpr ⟨jq_114, List.forall_mem_cons.mpr ⟨jq_115, List.forall_mem_cons.mpr ⟨jq_116, List.forall_mem_cons.mpr ⟨jq_117, List.forall_mem_cons.mpr ⟨jq_118, List.forall_mem_cons.mpr ⟨jq_119, fun _ h => absurd h List.not_mem_nil⟩⟩⟩⟩⟩⟩⟩⟩⟩⟩⟩⟩⟩⟩⟩⟩⟩⟩⟩⟩⟩⟩⟩⟩⟩⟩⟩⟩⟩⟩⟩⟩⟩⟩⟩⟩⟩⟩⟩⟩
def jIx_3 : List Nat := [120, 121, 122, 123, 124, 125, 126, 127, 128, 129, 130, 131, 132, 133, 134, 135, 136, 137, 138, 139, 140, 141, 142, 143, 144, 145, 146, 147, 148, 149, 150, 151, 152, 153, 154, 155, 156, 157, 158, 159]
theorem jqs_3 : ∀ mi ∈ jIx_3, ∀ pc r, jP mi pc = some r → decode (jB mi) pc = .ok r := List.forall_mem_cons.mpr ⟨jq_120, List.forall_mem_cons.mpr ⟨jq_121, List.forall_mem_cons.mpr ⟨jq_122, List.forall_mem_cons.mpr ⟨jq_123, List.forall_mem_cons.mpr ⟨jq_124, List.forall_mem_cons.mpr ⟨jq_125, List.forall_mem_cons.mpr ⟨jq_126, List.forall_mem_cons.mpr ⟨jq_127, List.forall_mem_cons.mpr ⟨jq_128, List.forall_mem_cons.mpr ⟨jq_129, List.forall_mem_cons.mpr ⟨jq_130, List.forall_mem_cons.mpr ⟨jq_131, List.forall_mem_cons.mpr ⟨jq_132, List.forall_mem_cons.mpr ⟨jq_133, List.forall_mem_cons.mpr ⟨jq_134, List.forall_mem_cons.mpr ⟨jq_135, List.forall_mem_cons.mpr ⟨jq_136, List.forall_mem_cons.mpr ⟨jq_137, List.forall_mem_cons.mpr ⟨jq_138, List.forall_mem_cons.mpr ⟨jq_139, List.forall_mem_cons.mpr ⟨jq_140, List.forall_mem_cons.mpr ⟨jq_141, List.forall_mem_cons.mpr ⟨jq_142, List.forall_mem_cons.mpr ⟨jq_143, List.forall_mem_cons.mpr ⟨jq_144, List.forall_mem_cons.mpr ⟨jq_145, List.forall_mem_cons.mpr ⟨jq_146, List.forall_mem_cons.mpr ⟨jq_147, List.forall_mem_cons.mpr ⟨jq_148, List.forall_mem_cons.mpr ⟨jq_149, List.forall_mem_cons.mpr ⟨jq_150, List.forall_mem_cons.mpr ⟨jq_151, List.forall_mem_cons.mpr ⟨jq_152, List.forall_mem_cons.mpr ⟨jq_153, List.forall_mem_cons.mpr ⟨jq_154, List.forall_mem_cons.mpr ⟨jq_155, List.forall_mem_cons.mpr ⟨jq_156, List.forall_mem_cons.mpr ⟨jq_157, List.forall_mem_cons.mpr ⟨jq_158, List.forall_mem_cons.mpr ⟨jq_159, fun _ h => absurd h List.not_mem_nil⟩⟩⟩⟩⟩⟩⟩⟩⟩⟩⟩⟩⟩⟩⟩⟩⟩⟩⟩⟩⟩⟩⟩⟩⟩⟩⟩⟩⟩⟩⟩⟩⟩⟩⟩⟩⟩⟩⟩⟩
def jIx_4 : List Nat := [160, 161, 162, 163, 164, 165, 166, 167, 168, 169, 170, 171, 172, 173, 174, 175, 176, 177, 178, 179, 180, 181, 182, 183, 184, 185, 186, 187, 188, 189, 190, 191, 192, 193, 194, 195, 196, 197, 198, 199]
theorem jqs_4 : ∀ mi ∈ jIx_4, ∀ pc r, jP mi pc = some r → decode (jB mi) pc = .ok r := List.forall_mem_cons.mpr ⟨jq_160, List.forall_mem_cons.mpr ⟨jq_161, List.forall_mem_cons.mpr ⟨jq_162, List.forall_mem_cons.mpr ⟨jq_163, List.forall_mem_cons.mpr ⟨jq_164, List.forall_mem_cons.mpr ⟨jq_165, List.forall_mem_cons.mpr ⟨jq_166, List.forall_mem_cons.mpr ⟨jq_167, List.forall_mem_cons.mpr ⟨jq_168, List.forall_mem_cons.mpr ⟨jq_169, List.forall_mem_cons.mpr ⟨jq_170, List.forall_mem_cons.mpr ⟨jq_171, List.forall_mem_cons.mpr ⟨jq_172, List.forall_mem_cons.mpr ⟨jq_173, List.forall_mem_cons.mpr ⟨jq_174, List.forall_mem_cons.mpr ⟨jq_175, List.forall_mem_cons.mpr ⟨jq_176, List.forall_mem_cons.mpr ⟨jq_177, List.forall_mem_cons.mpr ⟨jq_178, List.forall_mem_cons.mpr ⟨jq_179, List.forall_mem_cons.mpr ⟨jq_180, List.forall_mem_cons.mpr ⟨jq_181, List.forall_mem_cons.mpr ⟨jq_182, List.forall_mem_cons.mpr ⟨jq_183, List.forall_mem_cons.mpr ⟨jq_184, List.forall_mem_cons.mpr ⟨jq_185, List.forall_mem_cons.mpr ⟨jq_186, List.forall_mem_cons.mpr ⟨jq_187, List.forall_mem_cons.mpr ⟨jq_188, List.forall_mem_cons.mpr ⟨jq_189, List.forall_mem_cons.mpr ⟨jq_190, List.forall_mem_cons.mpr ⟨jq_191, List.forall_mem_cons.mpr ⟨jq_192, List.forall_mem_cons.mpr ⟨jq_193, List.forall_mem_cons.mpr ⟨jq_194, List.forall_mem_cons.mpr ⟨jq_195, List.forall_mem_cons.mpr ⟨jq_196, List.forall_mem_cons.mpr ⟨jq_197, List.forall_mem_cons.mpr ⟨jq_198, List.forall_mem_cons.mpr ⟨jq_199, fun _ h => absurd h List.not_mem_nil⟩⟩⟩⟩⟩⟩⟩⟩⟩⟩⟩⟩⟩⟩⟩⟩⟩⟩⟩⟩⟩⟩⟩⟩⟩⟩⟩⟩⟩⟩⟩⟩⟩⟩⟩⟩⟩⟩⟩⟩
def jIx_5 : List Nat := [200, 201, 202, 203, 204, 205, 206, 207, 208, 209, 210, 211, 212, 213, 214, 215, 216, 217]
theorem jqs_5 : ∀ mi ∈ jIx_5, ∀ pc r, jP mi pc = some r → decode (jB mi) pc = .ok r := List.forall_mem_cons.mpr ⟨jq_200, List.forall_mem_cons.mpr ⟨jq_201, List.forall_mem_cons.mpr ⟨jq_202, List.forall_mem_cons.mpr ⟨jq_203, List.forall_mem_cons.mpr ⟨jq_204, List.forall_mem_cons.mpr ⟨jq_205, List.forall_mem_cons.mpr ⟨jq_206, List.forall_mem_cons.mpr ⟨jq_207, List.forall_mem_cons.mpr ⟨jq_208, List.forall_mem_cons.mpr ⟨jq_209, List.forall_mem_cons.mpr ⟨jq_210, List.forall_mem_cons.mpr ⟨jq_211, List.forall_mem_cons.mpr ⟨jq_212, List.forall_mem_cons.mpr ⟨jq_213, List.forall_mem_cons.mpr ⟨jq_214, List.forall_mem_cons.mpr ⟨jq_215, List.forall_mem_cons.mpr ⟨jq_216, List.forall_mem_cons.mpr ⟨jq_217, fun _ h => absurd h List.not_mem_nil⟩⟩⟩⟩⟩⟩⟩⟩⟩⟩⟩⟩⟩⟩⟩⟩⟩⟩
theorem jIx_all : ∀ mi, mi < 218 → mi ∈ jIx_0 ∨ mi ∈ jIx_1 ∨ mi ∈ jIx_2 ∨ mi ∈ jIx_3 ∨ mi ∈ jIx_4 ∨ mi ∈ jIx_5 := by decide +kernel
theorem jP_ok (mi pc : Nat) (r : Instr × Nat) (h : jP mi pc = some r) : decode (jB mi) pc = .ok r := by
  rcases Nat.lt_or_ge mi 218 with hl | hl
  · rcases jIx_all mi hl with q | q | q | q | q | q
    · exact jqs_0 mi q pc r h
    · exact jqs_1 mi q pc r h
    · exact jqs_2 mi q pc r h
    · exact jqs_3 mi q pc r h
    · exact jqs_4 mi q pc r h
    · exact jqs_5 mi q pc r h
  · have h0 : jP mi pc = none := by unfold jP; rw [show Nat.ble 218 mi = true from Nat.ble_eq.mpr hl]; rfl
    rw [h0] at h; cases h
