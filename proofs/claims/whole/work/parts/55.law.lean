def tbL_law_0 : List (Nat × Instr × Nat) := [(0, .new 8, 3), (3, .dup, 1), (4, .invokespecial 76, 3), (7, .astore_n 1, 1), (8, .new 77, 3), (11, .dup, 1), (12, .invokespecial 79, 3), (15, .astore_n 2, 1), (16, .iconst 1, 1), (17, .newarray .long, 2), (19, .astore_n 3, 1), (20, .iconst 0, 1), (21, .istore 4, 2), (23, .iload 4, 2), (25, .aload_n 0, 1), (26, .arraylength, 1), (27, .bipush 6, 2), (29, .isub, 1), (30, .if_icmp .gt 1551, 3), (33, .aload_n 0, 1), (34, .iload 4, 2), (36, .iaload, 1), (37, .bipush 31, 2), (39, .iand, 1), (40, .tableswitch 1535 0 25 #[120, 193, 249, 262, 342, 410, 423, 479, 547, 627, 683, 751, 819, 875, 900, 968, 1036, 1104, 1160, 1216, 1272, 1328, 1384, 1440, 1496, 1510], 120), (160, .aload_n 1, 1), (161, .aload_n 0, 1), (162, .iload 4, 2), (164, .iconst 1, 1), (165, .iadd, 1), (166, .iaload, 1), (167, .aload_n 0, 1), (168, .iload 4, 2), (170, .iconst 2, 1), (171, .iadd, 1), (172, .iaload, 1), (173, .aload_n 0, 1), (174, .iload 4, 2), (176, .iconst 3, 1), (177, .iadd, 1), (178, .iaload, 1), (179, .aload_n 0, 1), (180, .iload 4, 2), (182, .iconst 4, 1), (183, .iadd, 1), (184, .iaload, 1), (185, .aload_n 0, 1), (186, .iload 4, 2), (188, .iconst 5, 1), (189, .iadd, 1), (190, .iaload, 1), (191, .invokevirtual 80, 3), (194, .aload_n 2, 1), (195, .aload_n 0, 1), (196, .iload 4, 2), (198, .iconst 1, 1), (199, .iadd, 1), (200, .iaload, 1), (201, .aload_n 0, 1), (202, .iload 4, 2)]
theorem tbL_law_0_ok : tbL_law_0.all (fun q => decide (decode cL_law q.1 = .ok q.2)) = true := by decide +kernel
theorem dL_law_0 : decode cL_law 0 = .ok (.new 8, 3) := xdt tbL_law_0_ok 0 rfl
theorem dL_law_3 : decode cL_law 3 = .ok (.dup, 1) := xdt tbL_law_0_ok 1 rfl
theorem dL_law_4 : decode cL_law 4 = .ok (.invokespecial 76, 3) := xdt tbL_law_0_ok 2 rfl
theorem dL_law_7 : decode cL_law 7 = .ok (.astore_n 1, 1) := xdt tbL_law_0_ok 3 rfl
theorem dL_law_8 : decode cL_law 8 = .ok (.new 77, 3) := xdt tbL_law_0_ok 4 rfl
theorem dL_law_11 : decode cL_law 11 = .ok (.dup, 1) := xdt tbL_law_0_ok 5 rfl
theorem dL_law_12 : decode cL_law 12 = .ok (.invokespecial 79, 3) := xdt tbL_law_0_ok 6 rfl
theorem dL_law_15 : decode cL_law 15 = .ok (.astore_n 2, 1) := xdt tbL_law_0_ok 7 rfl
theorem dL_law_16 : decode cL_law 16 = .ok (.iconst 1, 1) := xdt tbL_law_0_ok 8 rfl
theorem dL_law_17 : decode cL_law 17 = .ok (.newarray .long, 2) := xdt tbL_law_0_ok 9 rfl
theorem dL_law_19 : decode cL_law 19 = .ok (.astore_n 3, 1) := xdt tbL_law_0_ok 10 rfl
theorem dL_law_20 : decode cL_law 20 = .ok (.iconst 0, 1) := xdt tbL_law_0_ok 11 rfl
theorem dL_law_21 : decode cL_law 21 = .ok (.istore 4, 2) := xdt tbL_law_0_ok 12 rfl
theorem dL_law_23 : decode cL_law 23 = .ok (.iload 4, 2) := xdt tbL_law_0_ok 13 rfl
theorem dL_law_25 : decode cL_law 25 = .ok (.aload_n 0, 1) := xdt tbL_law_0_ok 14 rfl
theorem dL_law_26 : decode cL_law 26 = .ok (.arraylength, 1) := xdt tbL_law_0_ok 15 rfl
theorem dL_law_27 : decode cL_law 27 = .ok (.bipush 6, 2) := xdt tbL_law_0_ok 16 rfl
theorem dL_law_29 : decode cL_law 29 = .ok (.isub, 1) := xdt tbL_law_0_ok 17 rfl
theorem dL_law_30 : decode cL_law 30 = .ok (.if_icmp .gt 1551, 3) := xdt tbL_law_0_ok 18 rfl
theorem dL_law_33 : decode cL_law 33 = .ok (.aload_n 0, 1) := xdt tbL_law_0_ok 19 rfl
theorem dL_law_34 : decode cL_law 34 = .ok (.iload 4, 2) := xdt tbL_law_0_ok 20 rfl
theorem dL_law_36 : decode cL_law 36 = .ok (.iaload, 1) := xdt tbL_law_0_ok 21 rfl
theorem dL_law_37 : decode cL_law 37 = .ok (.bipush 31, 2) := xdt tbL_law_0_ok 22 rfl
theorem dL_law_39 : decode cL_law 39 = .ok (.iand, 1) := xdt tbL_law_0_ok 23 rfl
theorem dL_law_40 : decode cL_law 40 = .ok (.tableswitch 1535 0 25 #[120, 193, 249, 262, 342, 410, 423, 479, 547, 627, 683, 751, 819, 875, 900, 968, 1036, 1104, 1160, 1216, 1272, 1328, 1384, 1440, 1496, 1510], 120) := xdt tbL_law_0_ok 24 rfl
theorem dL_law_160 : decode cL_law 160 = .ok (.aload_n 1, 1) := xdt tbL_law_0_ok 25 rfl
theorem dL_law_161 : decode cL_law 161 = .ok (.aload_n 0, 1) := xdt tbL_law_0_ok 26 rfl
theorem dL_law_162 : decode cL_law 162 = .ok (.iload 4, 2) := xdt tbL_law_0_ok 27 rfl
theorem dL_law_164 : decode cL_law 164 = .ok (.iconst 1, 1) := xdt tbL_law_0_ok 28 rfl
theorem dL_law_165 : decode cL_law 165 = .ok (.iadd, 1) := xdt tbL_law_0_ok 29 rfl
theorem dL_law_166 : decode cL_law 166 = .ok (.iaload, 1) := xdt tbL_law_0_ok 30 rfl
theorem dL_law_167 : decode cL_law 167 = .ok (.aload_n 0, 1) := xdt tbL_law_0_ok 31 rfl
theorem dL_law_168 : decode cL_law 168 = .ok (.iload 4, 2) := xdt tbL_law_0_ok 32 rfl
theorem dL_law_170 : decode cL_law 170 = .ok (.iconst 2, 1) := xdt tbL_law_0_ok 33 rfl
theorem dL_law_171 : decode cL_law 171 = .ok (.iadd, 1) := xdt tbL_law_0_ok 34 rfl
theorem dL_law_172 : decode cL_law 172 = .ok (.iaload, 1) := xdt tbL_law_0_ok 35 rfl
theorem dL_law_173 : decode cL_law 173 = .ok (.aload_n 0, 1) := xdt tbL_law_0_ok 36 rfl
theorem dL_law_174 : decode cL_law 174 = .ok (.iload 4, 2) := xdt tbL_law_0_ok 37 rfl
theorem dL_law_176 : decode cL_law 176 = .ok (.iconst 3, 1) := xdt tbL_law_0_ok 38 rfl
theorem dL_law_177 : decode cL_law 177 = .ok (.iadd, 1) := xdt tbL_law_0_ok 39 rfl
theorem dL_law_178 : decode cL_law 178 = .ok (.iaload, 1) := xdt tbL_law_0_ok 40 rfl
theorem dL_law_179 : decode cL_law 179 = .ok (.aload_n 0, 1) := xdt tbL_law_0_ok 41 rfl
theorem dL_law_180 : decode cL_law 180 = .ok (.iload 4, 2) := xdt tbL_law_0_ok 42 rfl
theorem dL_law_182 : decode cL_law 182 = .ok (.iconst 4, 1) := xdt tbL_law_0_ok 43 rfl
theorem dL_law_183 : decode cL_law 183 = .ok (.iadd, 1) := xdt tbL_law_0_ok 44 rfl
theorem dL_law_184 : decode cL_law 184 = .ok (.iaload, 1) := xdt tbL_law_0_ok 45 rfl
theorem dL_law_185 : decode cL_law 185 = .ok (.aload_n 0, 1) := xdt tbL_law_0_ok 46 rfl
theorem dL_law_186 : decode cL_law 186 = .ok (.iload 4, 2) := xdt tbL_law_0_ok 47 rfl
theorem dL_law_188 : decode cL_law 188 = .ok (.iconst 5, 1) := xdt tbL_law_0_ok 48 rfl
theorem dL_law_189 : decode cL_law 189 = .ok (.iadd, 1) := xdt tbL_law_0_ok 49 rfl
theorem dL_law_190 : decode cL_law 190 = .ok (.iaload, 1) := xdt tbL_law_0_ok 50 rfl
theorem dL_law_191 : decode cL_law 191 = .ok (.invokevirtual 80, 3) := xdt tbL_law_0_ok 51 rfl
theorem dL_law_194 : decode cL_law 194 = .ok (.aload_n 2, 1) := xdt tbL_law_0_ok 52 rfl
theorem dL_law_195 : decode cL_law 195 = .ok (.aload_n 0, 1) := xdt tbL_law_0_ok 53 rfl
theorem dL_law_196 : decode cL_law 196 = .ok (.iload 4, 2) := xdt tbL_law_0_ok 54 rfl
theorem dL_law_198 : decode cL_law 198 = .ok (.iconst 1, 1) := xdt tbL_law_0_ok 55 rfl
theorem dL_law_199 : decode cL_law 199 = .ok (.iadd, 1) := xdt tbL_law_0_ok 56 rfl
theorem dL_law_200 : decode cL_law 200 = .ok (.iaload, 1) := xdt tbL_law_0_ok 57 rfl
theorem dL_law_201 : decode cL_law 201 = .ok (.aload_n 0, 1) := xdt tbL_law_0_ok 58 rfl
theorem dL_law_202 : decode cL_law 202 = .ok (.iload 4, 2) := xdt tbL_law_0_ok 59 rfl
def tbL_law_60 : List (Nat × Instr × Nat) := [(204, .iconst 2, 1), (205, .iadd, 1), (206, .iaload, 1), (207, .aload_n 0, 1), (208, .iload 4, 2), (210, .iconst 3, 1), (211, .iadd, 1), (212, .iaload, 1), (213, .aload_n 0, 1), (214, .iload 4, 2), (216, .iconst 4, 1), (217, .iadd, 1), (218, .iaload, 1), (219, .aload_n 0, 1), (220, .iload 4, 2), (222, .iconst 5, 1), (223, .iadd, 1), (224, .iaload, 1), (225, .invokevirtual 84, 3), (228, .if_icmp .eq 1347, 3), (231, .iconst 0, 1), (232, .ireturn, 1), (233, .aload_n 1, 1), (234, .aload_n 0, 1), (235, .iload 4, 2), (237, .iconst 1, 1), (238, .iadd, 1), (239, .iaload, 1), (240, .aload_n 3, 1), (241, .invokestatic 85, 3), (244, .istore 5, 2), (246, .aload_n 2, 1), (247, .aload_n 0, 1), (248, .iload 4, 2), (250, .iconst 1, 1), (251, .iadd, 1), (252, .iaload, 1), (253, .invokevirtual 90, 3), (256, .istore 6, 2), (258, .aload_n 2, 1), (259, .invokevirtual 91, 3), (262, .iload 5, 2), (264, .if_icmp .eq 5, 3), (267, .iconst 0, 1), (268, .ireturn, 1), (269, .iload 5, 2), (271, .ifCond .ne 15, 3), (274, .aload_n 3, 1), (275, .iconst 0, 1), (276, .laload, 1), (277, .iload 6, 2), (279, .i2l, 1), (280, .lcmp, 1), (281, .ifCond .eq 5, 3), (284, .iconst 0, 1), (285, .ireturn, 1), (286, .goto 1289, 3), (289, .aload_n 1, 1), (290, .invokevirtual 95, 3), (293, .aload_n 2, 1)]
theorem tbL_law_60_ok : tbL_law_60.all (fun q => decide (decode cL_law q.1 = .ok q.2)) = true := by decide +kernel
theorem dL_law_204 : decode cL_law 204 = .ok (.iconst 2, 1) := xdt tbL_law_60_ok 0 rfl
theorem dL_law_205 : decode cL_law 205 = .ok (.iadd, 1) := xdt tbL_law_60_ok 1 rfl
theorem dL_law_206 : decode cL_law 206 = .ok (.iaload, 1) := xdt tbL_law_60_ok 2 rfl
theorem dL_law_207 : decode cL_law 207 = .ok (.aload_n 0, 1) := xdt tbL_law_60_ok 3 rfl
theorem dL_law_208 : decode cL_law 208 = .ok (.iload 4, 2) := xdt tbL_law_60_ok 4 rfl
theorem dL_law_210 : decode cL_law 210 = .ok (.iconst 3, 1) := xdt tbL_law_60_ok 5 rfl
theorem dL_law_211 : decode cL_law 211 = .ok (.iadd, 1) := xdt tbL_law_60_ok 6 rfl
theorem dL_law_212 : decode cL_law 212 = .ok (.iaload, 1) := xdt tbL_law_60_ok 7 rfl
theorem dL_law_213 : decode cL_law 213 = .ok (.aload_n 0, 1) := xdt tbL_law_60_ok 8 rfl
theorem dL_law_214 : decode cL_law 214 = .ok (.iload 4, 2) := xdt tbL_law_60_ok 9 rfl
theorem dL_law_216 : decode cL_law 216 = .ok (.iconst 4, 1) := xdt tbL_law_60_ok 10 rfl
theorem dL_law_217 : decode cL_law 217 = .ok (.iadd, 1) := xdt tbL_law_60_ok 11 rfl
theorem dL_law_218 : decode cL_law 218 = .ok (.iaload, 1) := xdt tbL_law_60_ok 12 rfl
theorem dL_law_219 : decode cL_law 219 = .ok (.aload_n 0, 1) := xdt tbL_law_60_ok 13 rfl
theorem dL_law_220 : decode cL_law 220 = .ok (.iload 4, 2) := xdt tbL_law_60_ok 14 rfl
theorem dL_law_222 : decode cL_law 222 = .ok (.iconst 5, 1) := xdt tbL_law_60_ok 15 rfl
theorem dL_law_223 : decode cL_law 223 = .ok (.iadd, 1) := xdt tbL_law_60_ok 16 rfl
theorem dL_law_224 : decode cL_law 224 = .ok (.iaload, 1) := xdt tbL_law_60_ok 17 rfl
theorem dL_law_225 : decode cL_law 225 = .ok (.invokevirtual 84, 3) := xdt tbL_law_60_ok 18 rfl
theorem dL_law_228 : decode cL_law 228 = .ok (.if_icmp .eq 1347, 3) := xdt tbL_law_60_ok 19 rfl
theorem dL_law_231 : decode cL_law 231 = .ok (.iconst 0, 1) := xdt tbL_law_60_ok 20 rfl
theorem dL_law_232 : decode cL_law 232 = .ok (.ireturn, 1) := xdt tbL_law_60_ok 21 rfl
theorem dL_law_233 : decode cL_law 233 = .ok (.aload_n 1, 1) := xdt tbL_law_60_ok 22 rfl
theorem dL_law_234 : decode cL_law 234 = .ok (.aload_n 0, 1) := xdt tbL_law_60_ok 23 rfl
theorem dL_law_235 : decode cL_law 235 = .ok (.iload 4, 2) := xdt tbL_law_60_ok 24 rfl
theorem dL_law_237 : decode cL_law 237 = .ok (.iconst 1, 1) := xdt tbL_law_60_ok 25 rfl
theorem dL_law_238 : decode cL_law 238 = .ok (.iadd, 1) := xdt tbL_law_60_ok 26 rfl
theorem dL_law_239 : decode cL_law 239 = .ok (.iaload, 1) := xdt tbL_law_60_ok 27 rfl
theorem dL_law_240 : decode cL_law 240 = .ok (.aload_n 3, 1) := xdt tbL_law_60_ok 28 rfl
theorem dL_law_241 : decode cL_law 241 = .ok (.invokestatic 85, 3) := xdt tbL_law_60_ok 29 rfl
theorem dL_law_244 : decode cL_law 244 = .ok (.istore 5, 2) := xdt tbL_law_60_ok 30 rfl
theorem dL_law_246 : decode cL_law 246 = .ok (.aload_n 2, 1) := xdt tbL_law_60_ok 31 rfl
theorem dL_law_247 : decode cL_law 247 = .ok (.aload_n 0, 1) := xdt tbL_law_60_ok 32 rfl
theorem dL_law_248 : decode cL_law 248 = .ok (.iload 4, 2) := xdt tbL_law_60_ok 33 rfl
theorem dL_law_250 : decode cL_law 250 = .ok (.iconst 1, 1) := xdt tbL_law_60_ok 34 rfl
theorem dL_law_251 : decode cL_law 251 = .ok (.iadd, 1) := xdt tbL_law_60_ok 35 rfl
theorem dL_law_252 : decode cL_law 252 = .ok (.iaload, 1) := xdt tbL_law_60_ok 36 rfl
theorem dL_law_253 : decode cL_law 253 = .ok (.invokevirtual 90, 3) := xdt tbL_law_60_ok 37 rfl
theorem dL_law_256 : decode cL_law 256 = .ok (.istore 6, 2) := xdt tbL_law_60_ok 38 rfl
theorem dL_law_258 : decode cL_law 258 = .ok (.aload_n 2, 1) := xdt tbL_law_60_ok 39 rfl
theorem dL_law_259 : decode cL_law 259 = .ok (.invokevirtual 91, 3) := xdt tbL_law_60_ok 40 rfl
theorem dL_law_262 : decode cL_law 262 = .ok (.iload 5, 2) := xdt tbL_law_60_ok 41 rfl
theorem dL_law_264 : decode cL_law 264 = .ok (.if_icmp .eq 5, 3) := xdt tbL_law_60_ok 42 rfl
theorem dL_law_267 : decode cL_law 267 = .ok (.iconst 0, 1) := xdt tbL_law_60_ok 43 rfl
theorem dL_law_268 : decode cL_law 268 = .ok (.ireturn, 1) := xdt tbL_law_60_ok 44 rfl
theorem dL_law_269 : decode cL_law 269 = .ok (.iload 5, 2) := xdt tbL_law_60_ok 45 rfl
theorem dL_law_271 : decode cL_law 271 = .ok (.ifCond .ne 15, 3) := xdt tbL_law_60_ok 46 rfl
theorem dL_law_274 : decode cL_law 274 = .ok (.aload_n 3, 1) := xdt tbL_law_60_ok 47 rfl
theorem dL_law_275 : decode cL_law 275 = .ok (.iconst 0, 1) := xdt tbL_law_60_ok 48 rfl
theorem dL_law_276 : decode cL_law 276 = .ok (.laload, 1) := xdt tbL_law_60_ok 49 rfl
theorem dL_law_277 : decode cL_law 277 = .ok (.iload 6, 2) := xdt tbL_law_60_ok 50 rfl
theorem dL_law_279 : decode cL_law 279 = .ok (.i2l, 1) := xdt tbL_law_60_ok 51 rfl
theorem dL_law_280 : decode cL_law 280 = .ok (.lcmp, 1) := xdt tbL_law_60_ok 52 rfl
theorem dL_law_281 : decode cL_law 281 = .ok (.ifCond .eq 5, 3) := xdt tbL_law_60_ok 53 rfl
theorem dL_law_284 : decode cL_law 284 = .ok (.iconst 0, 1) := xdt tbL_law_60_ok 54 rfl
theorem dL_law_285 : decode cL_law 285 = .ok (.ireturn, 1) := xdt tbL_law_60_ok 55 rfl
theorem dL_law_286 : decode cL_law 286 = .ok (.goto 1289, 3) := xdt tbL_law_60_ok 56 rfl
theorem dL_law_289 : decode cL_law 289 = .ok (.aload_n 1, 1) := xdt tbL_law_60_ok 57 rfl
theorem dL_law_290 : decode cL_law 290 = .ok (.invokevirtual 95, 3) := xdt tbL_law_60_ok 58 rfl
theorem dL_law_293 : decode cL_law 293 = .ok (.aload_n 2, 1) := xdt tbL_law_60_ok 59 rfl
def tbL_law_120 : List (Nat × Instr × Nat) := [(294, .invokevirtual 98, 3), (297, .if_icmp .eq 1278, 3), (300, .iconst 0, 1), (301, .ireturn, 1), (302, .aload_n 1, 1), (303, .aload_n 0, 1), (304, .iload 4, 2), (306, .iconst 1, 1), (307, .iadd, 1), (308, .iaload, 1), (309, .aload_n 0, 1), (310, .iload 4, 2), (312, .iconst 2, 1), (313, .iadd, 1), (314, .iaload, 1), (315, .aload_n 0, 1), (316, .iload 4, 2), (318, .iconst 3, 1), (319, .iadd, 1), (320, .iaload, 1), (321, .aload_n 3, 1), (322, .invokestatic 99, 3), (325, .istore 5, 2), (327, .aload_n 2, 1), (328, .aload_n 0, 1), (329, .iload 4, 2), (331, .iconst 1, 1), (332, .iadd, 1), (333, .iaload, 1), (334, .aload_n 0, 1), (335, .iload 4, 2), (337, .iconst 2, 1), (338, .iadd, 1), (339, .iaload, 1), (340, .aload_n 0, 1), (341, .iload 4, 2), (343, .iconst 3, 1), (344, .iadd, 1), (345, .iaload, 1), (346, .invokevirtual 102, 3), (349, .istore 6, 2), (351, .aload_n 2, 1), (352, .invokevirtual 91, 3), (355, .iload 5, 2), (357, .if_icmp .eq 5, 3), (360, .iconst 0, 1), (361, .ireturn, 1), (362, .iload 5, 2), (364, .ifCond .ne 15, 3), (367, .aload_n 3, 1), (368, .iconst 0, 1), (369, .laload, 1), (370, .iload 6, 2), (372, .i2l, 1), (373, .lcmp, 1), (374, .ifCond .eq 5, 3), (377, .iconst 0, 1), (378, .ireturn, 1), (379, .goto 1196, 3), (382, .aload_n 1, 1)]
theorem tbL_law_120_ok : tbL_law_120.all (fun q => decide (decode cL_law q.1 = .ok q.2)) = true := by decide +kernel
theorem dL_law_294 : decode cL_law 294 = .ok (.invokevirtual 98, 3) := xdt tbL_law_120_ok 0 rfl
theorem dL_law_297 : decode cL_law 297 = .ok (.if_icmp .eq 1278, 3) := xdt tbL_law_120_ok 1 rfl
theorem dL_law_300 : decode cL_law 300 = .ok (.iconst 0, 1) := xdt tbL_law_120_ok 2 rfl
theorem dL_law_301 : decode cL_law 301 = .ok (.ireturn, 1) := xdt tbL_law_120_ok 3 rfl
theorem dL_law_302 : decode cL_law 302 = .ok (.aload_n 1, 1) := xdt tbL_law_120_ok 4 rfl
theorem dL_law_303 : decode cL_law 303 = .ok (.aload_n 0, 1) := xdt tbL_law_120_ok 5 rfl
theorem dL_law_304 : decode cL_law 304 = .ok (.iload 4, 2) := xdt tbL_law_120_ok 6 rfl
theorem dL_law_306 : decode cL_law 306 = .ok (.iconst 1, 1) := xdt tbL_law_120_ok 7 rfl
theorem dL_law_307 : decode cL_law 307 = .ok (.iadd, 1) := xdt tbL_law_120_ok 8 rfl
theorem dL_law_308 : decode cL_law 308 = .ok (.iaload, 1) := xdt tbL_law_120_ok 9 rfl
theorem dL_law_309 : decode cL_law 309 = .ok (.aload_n 0, 1) := xdt tbL_law_120_ok 10 rfl
theorem dL_law_310 : decode cL_law 310 = .ok (.iload 4, 2) := xdt tbL_law_120_ok 11 rfl
theorem dL_law_312 : decode cL_law 312 = .ok (.iconst 2, 1) := xdt tbL_law_120_ok 12 rfl
theorem dL_law_313 : decode cL_law 313 = .ok (.iadd, 1) := xdt tbL_law_120_ok 13 rfl
theorem dL_law_314 : decode cL_law 314 = .ok (.iaload, 1) := xdt tbL_law_120_ok 14 rfl
theorem dL_law_315 : decode cL_law 315 = .ok (.aload_n 0, 1) := xdt tbL_law_120_ok 15 rfl
theorem dL_law_316 : decode cL_law 316 = .ok (.iload 4, 2) := xdt tbL_law_120_ok 16 rfl
theorem dL_law_318 : decode cL_law 318 = .ok (.iconst 3, 1) := xdt tbL_law_120_ok 17 rfl
theorem dL_law_319 : decode cL_law 319 = .ok (.iadd, 1) := xdt tbL_law_120_ok 18 rfl
theorem dL_law_320 : decode cL_law 320 = .ok (.iaload, 1) := xdt tbL_law_120_ok 19 rfl
theorem dL_law_321 : decode cL_law 321 = .ok (.aload_n 3, 1) := xdt tbL_law_120_ok 20 rfl
theorem dL_law_322 : decode cL_law 322 = .ok (.invokestatic 99, 3) := xdt tbL_law_120_ok 21 rfl
theorem dL_law_325 : decode cL_law 325 = .ok (.istore 5, 2) := xdt tbL_law_120_ok 22 rfl
theorem dL_law_327 : decode cL_law 327 = .ok (.aload_n 2, 1) := xdt tbL_law_120_ok 23 rfl
theorem dL_law_328 : decode cL_law 328 = .ok (.aload_n 0, 1) := xdt tbL_law_120_ok 24 rfl
theorem dL_law_329 : decode cL_law 329 = .ok (.iload 4, 2) := xdt tbL_law_120_ok 25 rfl
theorem dL_law_331 : decode cL_law 331 = .ok (.iconst 1, 1) := xdt tbL_law_120_ok 26 rfl
theorem dL_law_332 : decode cL_law 332 = .ok (.iadd, 1) := xdt tbL_law_120_ok 27 rfl
theorem dL_law_333 : decode cL_law 333 = .ok (.iaload, 1) := xdt tbL_law_120_ok 28 rfl
theorem dL_law_334 : decode cL_law 334 = .ok (.aload_n 0, 1) := xdt tbL_law_120_ok 29 rfl
theorem dL_law_335 : decode cL_law 335 = .ok (.iload 4, 2) := xdt tbL_law_120_ok 30 rfl
theorem dL_law_337 : decode cL_law 337 = .ok (.iconst 2, 1) := xdt tbL_law_120_ok 31 rfl
theorem dL_law_338 : decode cL_law 338 = .ok (.iadd, 1) := xdt tbL_law_120_ok 32 rfl
theorem dL_law_339 : decode cL_law 339 = .ok (.iaload, 1) := xdt tbL_law_120_ok 33 rfl
theorem dL_law_340 : decode cL_law 340 = .ok (.aload_n 0, 1) := xdt tbL_law_120_ok 34 rfl
theorem dL_law_341 : decode cL_law 341 = .ok (.iload 4, 2) := xdt tbL_law_120_ok 35 rfl
theorem dL_law_343 : decode cL_law 343 = .ok (.iconst 3, 1) := xdt tbL_law_120_ok 36 rfl
theorem dL_law_344 : decode cL_law 344 = .ok (.iadd, 1) := xdt tbL_law_120_ok 37 rfl
theorem dL_law_345 : decode cL_law 345 = .ok (.iaload, 1) := xdt tbL_law_120_ok 38 rfl
theorem dL_law_346 : decode cL_law 346 = .ok (.invokevirtual 102, 3) := xdt tbL_law_120_ok 39 rfl
theorem dL_law_349 : decode cL_law 349 = .ok (.istore 6, 2) := xdt tbL_law_120_ok 40 rfl
theorem dL_law_351 : decode cL_law 351 = .ok (.aload_n 2, 1) := xdt tbL_law_120_ok 41 rfl
theorem dL_law_352 : decode cL_law 352 = .ok (.invokevirtual 91, 3) := xdt tbL_law_120_ok 42 rfl
theorem dL_law_355 : decode cL_law 355 = .ok (.iload 5, 2) := xdt tbL_law_120_ok 43 rfl
theorem dL_law_357 : decode cL_law 357 = .ok (.if_icmp .eq 5, 3) := xdt tbL_law_120_ok 44 rfl
theorem dL_law_360 : decode cL_law 360 = .ok (.iconst 0, 1) := xdt tbL_law_120_ok 45 rfl
theorem dL_law_361 : decode cL_law 361 = .ok (.ireturn, 1) := xdt tbL_law_120_ok 46 rfl
theorem dL_law_362 : decode cL_law 362 = .ok (.iload 5, 2) := xdt tbL_law_120_ok 47 rfl
theorem dL_law_364 : decode cL_law 364 = .ok (.ifCond .ne 15, 3) := xdt tbL_law_120_ok 48 rfl
theorem dL_law_367 : decode cL_law 367 = .ok (.aload_n 3, 1) := xdt tbL_law_120_ok 49 rfl
theorem dL_law_368 : decode cL_law 368 = .ok (.iconst 0, 1) := xdt tbL_law_120_ok 50 rfl
theorem dL_law_369 : decode cL_law 369 = .ok (.laload, 1) := xdt tbL_law_120_ok 51 rfl
theorem dL_law_370 : decode cL_law 370 = .ok (.iload 6, 2) := xdt tbL_law_120_ok 52 rfl
theorem dL_law_372 : decode cL_law 372 = .ok (.i2l, 1) := xdt tbL_law_120_ok 53 rfl
theorem dL_law_373 : decode cL_law 373 = .ok (.lcmp, 1) := xdt tbL_law_120_ok 54 rfl
theorem dL_law_374 : decode cL_law 374 = .ok (.ifCond .eq 5, 3) := xdt tbL_law_120_ok 55 rfl
theorem dL_law_377 : decode cL_law 377 = .ok (.iconst 0, 1) := xdt tbL_law_120_ok 56 rfl
theorem dL_law_378 : decode cL_law 378 = .ok (.ireturn, 1) := xdt tbL_law_120_ok 57 rfl
theorem dL_law_379 : decode cL_law 379 = .ok (.goto 1196, 3) := xdt tbL_law_120_ok 58 rfl
theorem dL_law_382 : decode cL_law 382 = .ok (.aload_n 1, 1) := xdt tbL_law_120_ok 59 rfl
def tbL_law_180 : List (Nat × Instr × Nat) := [(383, .aload_n 0, 1), (384, .iload 4, 2), (386, .iconst 1, 1), (387, .iadd, 1), (388, .iaload, 1), (389, .aload_n 0, 1), (390, .iload 4, 2), (392, .iconst 2, 1), (393, .iadd, 1), (394, .iaload, 1), (395, .aload_n 3, 1), (396, .invokestatic 103, 3), (399, .istore 5, 2), (401, .aload_n 2, 1), (402, .aload_n 0, 1), (403, .iload 4, 2), (405, .iconst 1, 1), (406, .iadd, 1), (407, .iaload, 1), (408, .aload_n 0, 1), (409, .iload 4, 2), (411, .iconst 2, 1), (412, .iadd, 1), (413, .iaload, 1), (414, .invokevirtual 106, 3), (417, .istore 6, 2), (419, .aload_n 2, 1), (420, .invokevirtual 91, 3), (423, .iload 5, 2), (425, .if_icmp .eq 5, 3), (428, .iconst 0, 1), (429, .ireturn, 1), (430, .iload 5, 2), (432, .ifCond .ne 15, 3), (435, .aload_n 3, 1), (436, .iconst 0, 1), (437, .laload, 1), (438, .iload 6, 2), (440, .i2l, 1), (441, .lcmp, 1), (442, .ifCond .eq 5, 3), (445, .iconst 0, 1), (446, .ireturn, 1), (447, .goto 1128, 3), (450, .aload_n 1, 1), (451, .invokevirtual 107, 3), (454, .aload_n 2, 1), (455, .invokevirtual 110, 3), (458, .if_icmp .eq 1117, 3), (461, .iconst 0, 1), (462, .ireturn, 1), (463, .aload_n 1, 1), (464, .aload_n 0, 1), (465, .iload 4, 2), (467, .iconst 1, 1), (468, .iadd, 1), (469, .iaload, 1), (470, .aload_n 3, 1), (471, .invokestatic 111, 3), (474, .istore 5, 2)]
theorem tbL_law_180_ok : tbL_law_180.all (fun q => decide (decode cL_law q.1 = .ok q.2)) = true := by decide +kernel
theorem dL_law_383 : decode cL_law 383 = .ok (.aload_n 0, 1) := xdt tbL_law_180_ok 0 rfl
theorem dL_law_384 : decode cL_law 384 = .ok (.iload 4, 2) := xdt tbL_law_180_ok 1 rfl
theorem dL_law_386 : decode cL_law 386 = .ok (.iconst 1, 1) := xdt tbL_law_180_ok 2 rfl
theorem dL_law_387 : decode cL_law 387 = .ok (.iadd, 1) := xdt tbL_law_180_ok 3 rfl
theorem dL_law_388 : decode cL_law 388 = .ok (.iaload, 1) := xdt tbL_law_180_ok 4 rfl
theorem dL_law_389 : decode cL_law 389 = .ok (.aload_n 0, 1) := xdt tbL_law_180_ok 5 rfl
theorem dL_law_390 : decode cL_law 390 = .ok (.iload 4, 2) := xdt tbL_law_180_ok 6 rfl
theorem dL_law_392 : decode cL_law 392 = .ok (.iconst 2, 1) := xdt tbL_law_180_ok 7 rfl
theorem dL_law_393 : decode cL_law 393 = .ok (.iadd, 1) := xdt tbL_law_180_ok 8 rfl
theorem dL_law_394 : decode cL_law 394 = .ok (.iaload, 1) := xdt tbL_law_180_ok 9 rfl
theorem dL_law_395 : decode cL_law 395 = .ok (.aload_n 3, 1) := xdt tbL_law_180_ok 10 rfl
theorem dL_law_396 : decode cL_law 396 = .ok (.invokestatic 103, 3) := xdt tbL_law_180_ok 11 rfl
theorem dL_law_399 : decode cL_law 399 = .ok (.istore 5, 2) := xdt tbL_law_180_ok 12 rfl
theorem dL_law_401 : decode cL_law 401 = .ok (.aload_n 2, 1) := xdt tbL_law_180_ok 13 rfl
theorem dL_law_402 : decode cL_law 402 = .ok (.aload_n 0, 1) := xdt tbL_law_180_ok 14 rfl
theorem dL_law_403 : decode cL_law 403 = .ok (.iload 4, 2) := xdt tbL_law_180_ok 15 rfl
theorem dL_law_405 : decode cL_law 405 = .ok (.iconst 1, 1) := xdt tbL_law_180_ok 16 rfl
theorem dL_law_406 : decode cL_law 406 = .ok (.iadd, 1) := xdt tbL_law_180_ok 17 rfl
theorem dL_law_407 : decode cL_law 407 = .ok (.iaload, 1) := xdt tbL_law_180_ok 18 rfl
theorem dL_law_408 : decode cL_law 408 = .ok (.aload_n 0, 1) := xdt tbL_law_180_ok 19 rfl
theorem dL_law_409 : decode cL_law 409 = .ok (.iload 4, 2) := xdt tbL_law_180_ok 20 rfl
theorem dL_law_411 : decode cL_law 411 = .ok (.iconst 2, 1) := xdt tbL_law_180_ok 21 rfl
theorem dL_law_412 : decode cL_law 412 = .ok (.iadd, 1) := xdt tbL_law_180_ok 22 rfl
theorem dL_law_413 : decode cL_law 413 = .ok (.iaload, 1) := xdt tbL_law_180_ok 23 rfl
theorem dL_law_414 : decode cL_law 414 = .ok (.invokevirtual 106, 3) := xdt tbL_law_180_ok 24 rfl
theorem dL_law_417 : decode cL_law 417 = .ok (.istore 6, 2) := xdt tbL_law_180_ok 25 rfl
theorem dL_law_419 : decode cL_law 419 = .ok (.aload_n 2, 1) := xdt tbL_law_180_ok 26 rfl
theorem dL_law_420 : decode cL_law 420 = .ok (.invokevirtual 91, 3) := xdt tbL_law_180_ok 27 rfl
theorem dL_law_423 : decode cL_law 423 = .ok (.iload 5, 2) := xdt tbL_law_180_ok 28 rfl
theorem dL_law_425 : decode cL_law 425 = .ok (.if_icmp .eq 5, 3) := xdt tbL_law_180_ok 29 rfl
theorem dL_law_428 : decode cL_law 428 = .ok (.iconst 0, 1) := xdt tbL_law_180_ok 30 rfl
theorem dL_law_429 : decode cL_law 429 = .ok (.ireturn, 1) := xdt tbL_law_180_ok 31 rfl
theorem dL_law_430 : decode cL_law 430 = .ok (.iload 5, 2) := xdt tbL_law_180_ok 32 rfl
theorem dL_law_432 : decode cL_law 432 = .ok (.ifCond .ne 15, 3) := xdt tbL_law_180_ok 33 rfl
theorem dL_law_435 : decode cL_law 435 = .ok (.aload_n 3, 1) := xdt tbL_law_180_ok 34 rfl
theorem dL_law_436 : decode cL_law 436 = .ok (.iconst 0, 1) := xdt tbL_law_180_ok 35 rfl
theorem dL_law_437 : decode cL_law 437 = .ok (.laload, 1) := xdt tbL_law_180_ok 36 rfl
theorem dL_law_438 : decode cL_law 438 = .ok (.iload 6, 2) := xdt tbL_law_180_ok 37 rfl
theorem dL_law_440 : decode cL_law 440 = .ok (.i2l, 1) := xdt tbL_law_180_ok 38 rfl
theorem dL_law_441 : decode cL_law 441 = .ok (.lcmp, 1) := xdt tbL_law_180_ok 39 rfl
theorem dL_law_442 : decode cL_law 442 = .ok (.ifCond .eq 5, 3) := xdt tbL_law_180_ok 40 rfl
theorem dL_law_445 : decode cL_law 445 = .ok (.iconst 0, 1) := xdt tbL_law_180_ok 41 rfl
theorem dL_law_446 : decode cL_law 446 = .ok (.ireturn, 1) := xdt tbL_law_180_ok 42 rfl
theorem dL_law_447 : decode cL_law 447 = .ok (.goto 1128, 3) := xdt tbL_law_180_ok 43 rfl
theorem dL_law_450 : decode cL_law 450 = .ok (.aload_n 1, 1) := xdt tbL_law_180_ok 44 rfl
theorem dL_law_451 : decode cL_law 451 = .ok (.invokevirtual 107, 3) := xdt tbL_law_180_ok 45 rfl
theorem dL_law_454 : decode cL_law 454 = .ok (.aload_n 2, 1) := xdt tbL_law_180_ok 46 rfl
theorem dL_law_455 : decode cL_law 455 = .ok (.invokevirtual 110, 3) := xdt tbL_law_180_ok 47 rfl
theorem dL_law_458 : decode cL_law 458 = .ok (.if_icmp .eq 1117, 3) := xdt tbL_law_180_ok 48 rfl
theorem dL_law_461 : decode cL_law 461 = .ok (.iconst 0, 1) := xdt tbL_law_180_ok 49 rfl
theorem dL_law_462 : decode cL_law 462 = .ok (.ireturn, 1) := xdt tbL_law_180_ok 50 rfl
theorem dL_law_463 : decode cL_law 463 = .ok (.aload_n 1, 1) := xdt tbL_law_180_ok 51 rfl
theorem dL_law_464 : decode cL_law 464 = .ok (.aload_n 0, 1) := xdt tbL_law_180_ok 52 rfl
theorem dL_law_465 : decode cL_law 465 = .ok (.iload 4, 2) := xdt tbL_law_180_ok 53 rfl
theorem dL_law_467 : decode cL_law 467 = .ok (.iconst 1, 1) := xdt tbL_law_180_ok 54 rfl
theorem dL_law_468 : decode cL_law 468 = .ok (.iadd, 1) := xdt tbL_law_180_ok 55 rfl
theorem dL_law_469 : decode cL_law 469 = .ok (.iaload, 1) := xdt tbL_law_180_ok 56 rfl
theorem dL_law_470 : decode cL_law 470 = .ok (.aload_n 3, 1) := xdt tbL_law_180_ok 57 rfl
theorem dL_law_471 : decode cL_law 471 = .ok (.invokestatic 111, 3) := xdt tbL_law_180_ok 58 rfl
theorem dL_law_474 : decode cL_law 474 = .ok (.istore 5, 2) := xdt tbL_law_180_ok 59 rfl
def tbL_law_240 : List (Nat × Instr × Nat) := [(476, .aload_n 2, 1), (477, .aload_n 0, 1), (478, .iload 4, 2), (480, .iconst 1, 1), (481, .iadd, 1), (482, .iaload, 1), (483, .invokevirtual 113, 3), (486, .istore 6, 2), (488, .aload_n 2, 1), (489, .invokevirtual 91, 3), (492, .iload 5, 2), (494, .if_icmp .eq 5, 3), (497, .iconst 0, 1), (498, .ireturn, 1), (499, .iload 5, 2), (501, .ifCond .ne 15, 3), (504, .aload_n 3, 1), (505, .iconst 0, 1), (506, .laload, 1), (507, .iload 6, 2), (509, .i2l, 1), (510, .lcmp, 1), (511, .ifCond .eq 5, 3), (514, .iconst 0, 1), (515, .ireturn, 1), (516, .goto 1059, 3), (519, .aload_n 1, 1), (520, .aload_n 0, 1), (521, .iload 4, 2), (523, .iconst 1, 1), (524, .iadd, 1), (525, .iaload, 1), (526, .aload_n 0, 1), (527, .iload 4, 2), (529, .iconst 2, 1), (530, .iadd, 1), (531, .iaload, 1), (532, .aload_n 3, 1), (533, .invokestatic 114, 3), (536, .istore 5, 2), (538, .aload_n 2, 1), (539, .aload_n 0, 1), (540, .iload 4, 2), (542, .iconst 1, 1), (543, .iadd, 1), (544, .iaload, 1), (545, .aload_n 0, 1), (546, .iload 4, 2), (548, .iconst 2, 1), (549, .iadd, 1), (550, .iaload, 1), (551, .invokevirtual 116, 3), (554, .istore 6, 2), (556, .aload_n 2, 1), (557, .invokevirtual 91, 3), (560, .iload 5, 2), (562, .if_icmp .eq 5, 3), (565, .iconst 0, 1), (566, .ireturn, 1), (567, .iload 5, 2)]
theorem tbL_law_240_ok : tbL_law_240.all (fun q => decide (decode cL_law q.1 = .ok q.2)) = true := by decide +kernel
theorem dL_law_476 : decode cL_law 476 = .ok (.aload_n 2, 1) := xdt tbL_law_240_ok 0 rfl
theorem dL_law_477 : decode cL_law 477 = .ok (.aload_n 0, 1) := xdt tbL_law_240_ok 1 rfl
theorem dL_law_478 : decode cL_law 478 = .ok (.iload 4, 2) := xdt tbL_law_240_ok 2 rfl
theorem dL_law_480 : decode cL_law 480 = .ok (.iconst 1, 1) := xdt tbL_law_240_ok 3 rfl
theorem dL_law_481 : decode cL_law 481 = .ok (.iadd, 1) := xdt tbL_law_240_ok 4 rfl
theorem dL_law_482 : decode cL_law 482 = .ok (.iaload, 1) := xdt tbL_law_240_ok 5 rfl
theorem dL_law_483 : decode cL_law 483 = .ok (.invokevirtual 113, 3) := xdt tbL_law_240_ok 6 rfl
theorem dL_law_486 : decode cL_law 486 = .ok (.istore 6, 2) := xdt tbL_law_240_ok 7 rfl
theorem dL_law_488 : decode cL_law 488 = .ok (.aload_n 2, 1) := xdt tbL_law_240_ok 8 rfl
theorem dL_law_489 : decode cL_law 489 = .ok (.invokevirtual 91, 3) := xdt tbL_law_240_ok 9 rfl
theorem dL_law_492 : decode cL_law 492 = .ok (.iload 5, 2) := xdt tbL_law_240_ok 10 rfl
theorem dL_law_494 : decode cL_law 494 = .ok (.if_icmp .eq 5, 3) := xdt tbL_law_240_ok 11 rfl
theorem dL_law_497 : decode cL_law 497 = .ok (.iconst 0, 1) := xdt tbL_law_240_ok 12 rfl
theorem dL_law_498 : decode cL_law 498 = .ok (.ireturn, 1) := xdt tbL_law_240_ok 13 rfl
theorem dL_law_499 : decode cL_law 499 = .ok (.iload 5, 2) := xdt tbL_law_240_ok 14 rfl
theorem dL_law_501 : decode cL_law 501 = .ok (.ifCond .ne 15, 3) := xdt tbL_law_240_ok 15 rfl
theorem dL_law_504 : decode cL_law 504 = .ok (.aload_n 3, 1) := xdt tbL_law_240_ok 16 rfl
theorem dL_law_505 : decode cL_law 505 = .ok (.iconst 0, 1) := xdt tbL_law_240_ok 17 rfl
theorem dL_law_506 : decode cL_law 506 = .ok (.laload, 1) := xdt tbL_law_240_ok 18 rfl
theorem dL_law_507 : decode cL_law 507 = .ok (.iload 6, 2) := xdt tbL_law_240_ok 19 rfl
theorem dL_law_509 : decode cL_law 509 = .ok (.i2l, 1) := xdt tbL_law_240_ok 20 rfl
theorem dL_law_510 : decode cL_law 510 = .ok (.lcmp, 1) := xdt tbL_law_240_ok 21 rfl
theorem dL_law_511 : decode cL_law 511 = .ok (.ifCond .eq 5, 3) := xdt tbL_law_240_ok 22 rfl
theorem dL_law_514 : decode cL_law 514 = .ok (.iconst 0, 1) := xdt tbL_law_240_ok 23 rfl
theorem dL_law_515 : decode cL_law 515 = .ok (.ireturn, 1) := xdt tbL_law_240_ok 24 rfl
theorem dL_law_516 : decode cL_law 516 = .ok (.goto 1059, 3) := xdt tbL_law_240_ok 25 rfl
theorem dL_law_519 : decode cL_law 519 = .ok (.aload_n 1, 1) := xdt tbL_law_240_ok 26 rfl
theorem dL_law_520 : decode cL_law 520 = .ok (.aload_n 0, 1) := xdt tbL_law_240_ok 27 rfl
theorem dL_law_521 : decode cL_law 521 = .ok (.iload 4, 2) := xdt tbL_law_240_ok 28 rfl
theorem dL_law_523 : decode cL_law 523 = .ok (.iconst 1, 1) := xdt tbL_law_240_ok 29 rfl
theorem dL_law_524 : decode cL_law 524 = .ok (.iadd, 1) := xdt tbL_law_240_ok 30 rfl
theorem dL_law_525 : decode cL_law 525 = .ok (.iaload, 1) := xdt tbL_law_240_ok 31 rfl
theorem dL_law_526 : decode cL_law 526 = .ok (.aload_n 0, 1) := xdt tbL_law_240_ok 32 rfl
theorem dL_law_527 : decode cL_law 527 = .ok (.iload 4, 2) := xdt tbL_law_240_ok 33 rfl
theorem dL_law_529 : decode cL_law 529 = .ok (.iconst 2, 1) := xdt tbL_law_240_ok 34 rfl
theorem dL_law_530 : decode cL_law 530 = .ok (.iadd, 1) := xdt tbL_law_240_ok 35 rfl
theorem dL_law_531 : decode cL_law 531 = .ok (.iaload, 1) := xdt tbL_law_240_ok 36 rfl
theorem dL_law_532 : decode cL_law 532 = .ok (.aload_n 3, 1) := xdt tbL_law_240_ok 37 rfl
theorem dL_law_533 : decode cL_law 533 = .ok (.invokestatic 114, 3) := xdt tbL_law_240_ok 38 rfl
theorem dL_law_536 : decode cL_law 536 = .ok (.istore 5, 2) := xdt tbL_law_240_ok 39 rfl
theorem dL_law_538 : decode cL_law 538 = .ok (.aload_n 2, 1) := xdt tbL_law_240_ok 40 rfl
theorem dL_law_539 : decode cL_law 539 = .ok (.aload_n 0, 1) := xdt tbL_law_240_ok 41 rfl
theorem dL_law_540 : decode cL_law 540 = .ok (.iload 4, 2) := xdt tbL_law_240_ok 42 rfl
theorem dL_law_542 : decode cL_law 542 = .ok (.iconst 1, 1) := xdt tbL_law_240_ok 43 rfl
theorem dL_law_543 : decode cL_law 543 = .ok (.iadd, 1) := xdt tbL_law_240_ok 44 rfl
theorem dL_law_544 : decode cL_law 544 = .ok (.iaload, 1) := xdt tbL_law_240_ok 45 rfl
theorem dL_law_545 : decode cL_law 545 = .ok (.aload_n 0, 1) := xdt tbL_law_240_ok 46 rfl
theorem dL_law_546 : decode cL_law 546 = .ok (.iload 4, 2) := xdt tbL_law_240_ok 47 rfl
theorem dL_law_548 : decode cL_law 548 = .ok (.iconst 2, 1) := xdt tbL_law_240_ok 48 rfl
theorem dL_law_549 : decode cL_law 549 = .ok (.iadd, 1) := xdt tbL_law_240_ok 49 rfl
theorem dL_law_550 : decode cL_law 550 = .ok (.iaload, 1) := xdt tbL_law_240_ok 50 rfl
theorem dL_law_551 : decode cL_law 551 = .ok (.invokevirtual 116, 3) := xdt tbL_law_240_ok 51 rfl
theorem dL_law_554 : decode cL_law 554 = .ok (.istore 6, 2) := xdt tbL_law_240_ok 52 rfl
theorem dL_law_556 : decode cL_law 556 = .ok (.aload_n 2, 1) := xdt tbL_law_240_ok 53 rfl
theorem dL_law_557 : decode cL_law 557 = .ok (.invokevirtual 91, 3) := xdt tbL_law_240_ok 54 rfl
theorem dL_law_560 : decode cL_law 560 = .ok (.iload 5, 2) := xdt tbL_law_240_ok 55 rfl
theorem dL_law_562 : decode cL_law 562 = .ok (.if_icmp .eq 5, 3) := xdt tbL_law_240_ok 56 rfl
theorem dL_law_565 : decode cL_law 565 = .ok (.iconst 0, 1) := xdt tbL_law_240_ok 57 rfl
theorem dL_law_566 : decode cL_law 566 = .ok (.ireturn, 1) := xdt tbL_law_240_ok 58 rfl
theorem dL_law_567 : decode cL_law 567 = .ok (.iload 5, 2) := xdt tbL_law_240_ok 59 rfl
def tbL_law_300 : List (Nat × Instr × Nat) := [(569, .ifCond .ne 15, 3), (572, .aload_n 3, 1), (573, .iconst 0, 1), (574, .laload, 1), (575, .iload 6, 2), (577, .i2l, 1), (578, .lcmp, 1), (579, .ifCond .eq 5, 3), (582, .iconst 0, 1), (583, .ireturn, 1), (584, .goto 991, 3), (587, .aload_n 1, 1), (588, .aload_n 0, 1), (589, .iload 4, 2), (591, .iconst 1, 1), (592, .iadd, 1), (593, .iaload, 1), (594, .aload_n 0, 1), (595, .iload 4, 2), (597, .iconst 2, 1), (598, .iadd, 1), (599, .iaload, 1), (600, .aload_n 0, 1), (601, .iload 4, 2), (603, .iconst 3, 1), (604, .iadd, 1), (605, .iaload, 1), (606, .aload_n 3, 1), (607, .invokestatic 117, 3), (610, .istore 5, 2), (612, .aload_n 2, 1), (613, .aload_n 0, 1), (614, .iload 4, 2), (616, .iconst 1, 1), (617, .iadd, 1), (618, .iaload, 1), (619, .aload_n 0, 1), (620, .iload 4, 2), (622, .iconst 2, 1), (623, .iadd, 1), (624, .iaload, 1), (625, .aload_n 0, 1), (626, .iload 4, 2), (628, .iconst 3, 1), (629, .iadd, 1), (630, .iaload, 1), (631, .invokevirtual 119, 3), (634, .istore 6, 2), (636, .aload_n 2, 1), (637, .invokevirtual 91, 3), (640, .iload 5, 2), (642, .if_icmp .eq 5, 3), (645, .iconst 0, 1), (646, .ireturn, 1), (647, .iload 5, 2), (649, .ifCond .ne 15, 3), (652, .aload_n 3, 1), (653, .iconst 0, 1), (654, .laload, 1), (655, .iload 6, 2)]
theorem tbL_law_300_ok : tbL_law_300.all (fun q => decide (decode cL_law q.1 = .ok q.2)) = true := by decide +kernel
theorem dL_law_569 : decode cL_law 569 = .ok (.ifCond .ne 15, 3) := xdt tbL_law_300_ok 0 rfl
theorem dL_law_572 : decode cL_law 572 = .ok (.aload_n 3, 1) := xdt tbL_law_300_ok 1 rfl
theorem dL_law_573 : decode cL_law 573 = .ok (.iconst 0, 1) := xdt tbL_law_300_ok 2 rfl
theorem dL_law_574 : decode cL_law 574 = .ok (.laload, 1) := xdt tbL_law_300_ok 3 rfl
theorem dL_law_575 : decode cL_law 575 = .ok (.iload 6, 2) := xdt tbL_law_300_ok 4 rfl
theorem dL_law_577 : decode cL_law 577 = .ok (.i2l, 1) := xdt tbL_law_300_ok 5 rfl
theorem dL_law_578 : decode cL_law 578 = .ok (.lcmp, 1) := xdt tbL_law_300_ok 6 rfl
theorem dL_law_579 : decode cL_law 579 = .ok (.ifCond .eq 5, 3) := xdt tbL_law_300_ok 7 rfl
theorem dL_law_582 : decode cL_law 582 = .ok (.iconst 0, 1) := xdt tbL_law_300_ok 8 rfl
theorem dL_law_583 : decode cL_law 583 = .ok (.ireturn, 1) := xdt tbL_law_300_ok 9 rfl
theorem dL_law_584 : decode cL_law 584 = .ok (.goto 991, 3) := xdt tbL_law_300_ok 10 rfl
theorem dL_law_587 : decode cL_law 587 = .ok (.aload_n 1, 1) := xdt tbL_law_300_ok 11 rfl
theorem dL_law_588 : decode cL_law 588 = .ok (.aload_n 0, 1) := xdt tbL_law_300_ok 12 rfl
theorem dL_law_589 : decode cL_law 589 = .ok (.iload 4, 2) := xdt tbL_law_300_ok 13 rfl
theorem dL_law_591 : decode cL_law 591 = .ok (.iconst 1, 1) := xdt tbL_law_300_ok 14 rfl
theorem dL_law_592 : decode cL_law 592 = .ok (.iadd, 1) := xdt tbL_law_300_ok 15 rfl
theorem dL_law_593 : decode cL_law 593 = .ok (.iaload, 1) := xdt tbL_law_300_ok 16 rfl
theorem dL_law_594 : decode cL_law 594 = .ok (.aload_n 0, 1) := xdt tbL_law_300_ok 17 rfl
theorem dL_law_595 : decode cL_law 595 = .ok (.iload 4, 2) := xdt tbL_law_300_ok 18 rfl
theorem dL_law_597 : decode cL_law 597 = .ok (.iconst 2, 1) := xdt tbL_law_300_ok 19 rfl
theorem dL_law_598 : decode cL_law 598 = .ok (.iadd, 1) := xdt tbL_law_300_ok 20 rfl
theorem dL_law_599 : decode cL_law 599 = .ok (.iaload, 1) := xdt tbL_law_300_ok 21 rfl
theorem dL_law_600 : decode cL_law 600 = .ok (.aload_n 0, 1) := xdt tbL_law_300_ok 22 rfl
theorem dL_law_601 : decode cL_law 601 = .ok (.iload 4, 2) := xdt tbL_law_300_ok 23 rfl
theorem dL_law_603 : decode cL_law 603 = .ok (.iconst 3, 1) := xdt tbL_law_300_ok 24 rfl
theorem dL_law_604 : decode cL_law 604 = .ok (.iadd, 1) := xdt tbL_law_300_ok 25 rfl
theorem dL_law_605 : decode cL_law 605 = .ok (.iaload, 1) := xdt tbL_law_300_ok 26 rfl
theorem dL_law_606 : decode cL_law 606 = .ok (.aload_n 3, 1) := xdt tbL_law_300_ok 27 rfl
theorem dL_law_607 : decode cL_law 607 = .ok (.invokestatic 117, 3) := xdt tbL_law_300_ok 28 rfl
theorem dL_law_610 : decode cL_law 610 = .ok (.istore 5, 2) := xdt tbL_law_300_ok 29 rfl
theorem dL_law_612 : decode cL_law 612 = .ok (.aload_n 2, 1) := xdt tbL_law_300_ok 30 rfl
theorem dL_law_613 : decode cL_law 613 = .ok (.aload_n 0, 1) := xdt tbL_law_300_ok 31 rfl
theorem dL_law_614 : decode cL_law 614 = .ok (.iload 4, 2) := xdt tbL_law_300_ok 32 rfl
theorem dL_law_616 : decode cL_law 616 = .ok (.iconst 1, 1) := xdt tbL_law_300_ok 33 rfl
theorem dL_law_617 : decode cL_law 617 = .ok (.iadd, 1) := xdt tbL_law_300_ok 34 rfl
theorem dL_law_618 : decode cL_law 618 = .ok (.iaload, 1) := xdt tbL_law_300_ok 35 rfl
theorem dL_law_619 : decode cL_law 619 = .ok (.aload_n 0, 1) := xdt tbL_law_300_ok 36 rfl
theorem dL_law_620 : decode cL_law 620 = .ok (.iload 4, 2) := xdt tbL_law_300_ok 37 rfl
theorem dL_law_622 : decode cL_law 622 = .ok (.iconst 2, 1) := xdt tbL_law_300_ok 38 rfl
theorem dL_law_623 : decode cL_law 623 = .ok (.iadd, 1) := xdt tbL_law_300_ok 39 rfl
theorem dL_law_624 : decode cL_law 624 = .ok (.iaload, 1) := xdt tbL_law_300_ok 40 rfl
theorem dL_law_625 : decode cL_law 625 = .ok (.aload_n 0, 1) := xdt tbL_law_300_ok 41 rfl
theorem dL_law_626 : decode cL_law 626 = .ok (.iload 4, 2) := xdt tbL_law_300_ok 42 rfl
theorem dL_law_628 : decode cL_law 628 = .ok (.iconst 3, 1) := xdt tbL_law_300_ok 43 rfl
theorem dL_law_629 : decode cL_law 629 = .ok (.iadd, 1) := xdt tbL_law_300_ok 44 rfl
theorem dL_law_630 : decode cL_law 630 = .ok (.iaload, 1) := xdt tbL_law_300_ok 45 rfl
theorem dL_law_631 : decode cL_law 631 = .ok (.invokevirtual 119, 3) := xdt tbL_law_300_ok 46 rfl
theorem dL_law_634 : decode cL_law 634 = .ok (.istore 6, 2) := xdt tbL_law_300_ok 47 rfl
theorem dL_law_636 : decode cL_law 636 = .ok (.aload_n 2, 1) := xdt tbL_law_300_ok 48 rfl
theorem dL_law_637 : decode cL_law 637 = .ok (.invokevirtual 91, 3) := xdt tbL_law_300_ok 49 rfl
theorem dL_law_640 : decode cL_law 640 = .ok (.iload 5, 2) := xdt tbL_law_300_ok 50 rfl
theorem dL_law_642 : decode cL_law 642 = .ok (.if_icmp .eq 5, 3) := xdt tbL_law_300_ok 51 rfl
theorem dL_law_645 : decode cL_law 645 = .ok (.iconst 0, 1) := xdt tbL_law_300_ok 52 rfl
theorem dL_law_646 : decode cL_law 646 = .ok (.ireturn, 1) := xdt tbL_law_300_ok 53 rfl
theorem dL_law_647 : decode cL_law 647 = .ok (.iload 5, 2) := xdt tbL_law_300_ok 54 rfl
theorem dL_law_649 : decode cL_law 649 = .ok (.ifCond .ne 15, 3) := xdt tbL_law_300_ok 55 rfl
theorem dL_law_652 : decode cL_law 652 = .ok (.aload_n 3, 1) := xdt tbL_law_300_ok 56 rfl
theorem dL_law_653 : decode cL_law 653 = .ok (.iconst 0, 1) := xdt tbL_law_300_ok 57 rfl
theorem dL_law_654 : decode cL_law 654 = .ok (.laload, 1) := xdt tbL_law_300_ok 58 rfl
theorem dL_law_655 : decode cL_law 655 = .ok (.iload 6, 2) := xdt tbL_law_300_ok 59 rfl
def tbL_law_360 : List (Nat × Instr × Nat) := [(657, .i2l, 1), (658, .lcmp, 1), (659, .ifCond .eq 5, 3), (662, .iconst 0, 1), (663, .ireturn, 1), (664, .goto 911, 3), (667, .aload_n 1, 1), (668, .aload_n 0, 1), (669, .iload 4, 2), (671, .iconst 1, 1), (672, .iadd, 1), (673, .iaload, 1), (674, .aload_n 3, 1), (675, .invokestatic 120, 3), (678, .istore 5, 2), (680, .aload_n 2, 1), (681, .aload_n 0, 1), (682, .iload 4, 2), (684, .iconst 1, 1), (685, .iadd, 1), (686, .iaload, 1), (687, .invokevirtual 122, 3), (690, .istore 6, 2), (692, .aload_n 2, 1), (693, .invokevirtual 91, 3), (696, .iload 5, 2), (698, .if_icmp .eq 5, 3), (701, .iconst 0, 1), (702, .ireturn, 1), (703, .iload 5, 2), (705, .ifCond .ne 15, 3), (708, .aload_n 3, 1), (709, .iconst 0, 1), (710, .laload, 1), (711, .iload 6, 2), (713, .i2l, 1), (714, .lcmp, 1), (715, .ifCond .eq 5, 3), (718, .iconst 0, 1), (719, .ireturn, 1), (720, .goto 855, 3), (723, .aload_n 1, 1), (724, .aload_n 0, 1), (725, .iload 4, 2), (727, .iconst 1, 1), (728, .iadd, 1), (729, .iaload, 1), (730, .aload_n 0, 1), (731, .iload 4, 2), (733, .iconst 2, 1), (734, .iadd, 1), (735, .iaload, 1), (736, .aload_n 3, 1), (737, .invokestatic 123, 3), (740, .istore 5, 2), (742, .aload_n 2, 1), (743, .aload_n 0, 1), (744, .iload 4, 2), (746, .iconst 1, 1), (747, .iadd, 1)]
theorem tbL_law_360_ok : tbL_law_360.all (fun q => decide (decode cL_law q.1 = .ok q.2)) = true := by decide +kernel
theorem dL_law_657 : decode cL_law 657 = .ok (.i2l, 1) := xdt tbL_law_360_ok 0 rfl
theorem dL_law_658 : decode cL_law 658 = .ok (.lcmp, 1) := xdt tbL_law_360_ok 1 rfl
theorem dL_law_659 : decode cL_law 659 = .ok (.ifCond .eq 5, 3) := xdt tbL_law_360_ok 2 rfl
theorem dL_law_662 : decode cL_law 662 = .ok (.iconst 0, 1) := xdt tbL_law_360_ok 3 rfl
theorem dL_law_663 : decode cL_law 663 = .ok (.ireturn, 1) := xdt tbL_law_360_ok 4 rfl
theorem dL_law_664 : decode cL_law 664 = .ok (.goto 911, 3) := xdt tbL_law_360_ok 5 rfl
theorem dL_law_667 : decode cL_law 667 = .ok (.aload_n 1, 1) := xdt tbL_law_360_ok 6 rfl
theorem dL_law_668 : decode cL_law 668 = .ok (.aload_n 0, 1) := xdt tbL_law_360_ok 7 rfl
theorem dL_law_669 : decode cL_law 669 = .ok (.iload 4, 2) := xdt tbL_law_360_ok 8 rfl
theorem dL_law_671 : decode cL_law 671 = .ok (.iconst 1, 1) := xdt tbL_law_360_ok 9 rfl
theorem dL_law_672 : decode cL_law 672 = .ok (.iadd, 1) := xdt tbL_law_360_ok 10 rfl
theorem dL_law_673 : decode cL_law 673 = .ok (.iaload, 1) := xdt tbL_law_360_ok 11 rfl
theorem dL_law_674 : decode cL_law 674 = .ok (.aload_n 3, 1) := xdt tbL_law_360_ok 12 rfl
theorem dL_law_675 : decode cL_law 675 = .ok (.invokestatic 120, 3) := xdt tbL_law_360_ok 13 rfl
theorem dL_law_678 : decode cL_law 678 = .ok (.istore 5, 2) := xdt tbL_law_360_ok 14 rfl
theorem dL_law_680 : decode cL_law 680 = .ok (.aload_n 2, 1) := xdt tbL_law_360_ok 15 rfl
theorem dL_law_681 : decode cL_law 681 = .ok (.aload_n 0, 1) := xdt tbL_law_360_ok 16 rfl
theorem dL_law_682 : decode cL_law 682 = .ok (.iload 4, 2) := xdt tbL_law_360_ok 17 rfl
theorem dL_law_684 : decode cL_law 684 = .ok (.iconst 1, 1) := xdt tbL_law_360_ok 18 rfl
theorem dL_law_685 : decode cL_law 685 = .ok (.iadd, 1) := xdt tbL_law_360_ok 19 rfl
theorem dL_law_686 : decode cL_law 686 = .ok (.iaload, 1) := xdt tbL_law_360_ok 20 rfl
theorem dL_law_687 : decode cL_law 687 = .ok (.invokevirtual 122, 3) := xdt tbL_law_360_ok 21 rfl
theorem dL_law_690 : decode cL_law 690 = .ok (.istore 6, 2) := xdt tbL_law_360_ok 22 rfl
theorem dL_law_692 : decode cL_law 692 = .ok (.aload_n 2, 1) := xdt tbL_law_360_ok 23 rfl
theorem dL_law_693 : decode cL_law 693 = .ok (.invokevirtual 91, 3) := xdt tbL_law_360_ok 24 rfl
theorem dL_law_696 : decode cL_law 696 = .ok (.iload 5, 2) := xdt tbL_law_360_ok 25 rfl
theorem dL_law_698 : decode cL_law 698 = .ok (.if_icmp .eq 5, 3) := xdt tbL_law_360_ok 26 rfl
theorem dL_law_701 : decode cL_law 701 = .ok (.iconst 0, 1) := xdt tbL_law_360_ok 27 rfl
theorem dL_law_702 : decode cL_law 702 = .ok (.ireturn, 1) := xdt tbL_law_360_ok 28 rfl
theorem dL_law_703 : decode cL_law 703 = .ok (.iload 5, 2) := xdt tbL_law_360_ok 29 rfl
theorem dL_law_705 : decode cL_law 705 = .ok (.ifCond .ne 15, 3) := xdt tbL_law_360_ok 30 rfl
theorem dL_law_708 : decode cL_law 708 = .ok (.aload_n 3, 1) := xdt tbL_law_360_ok 31 rfl
theorem dL_law_709 : decode cL_law 709 = .ok (.iconst 0, 1) := xdt tbL_law_360_ok 32 rfl
theorem dL_law_710 : decode cL_law 710 = .ok (.laload, 1) := xdt tbL_law_360_ok 33 rfl
theorem dL_law_711 : decode cL_law 711 = .ok (.iload 6, 2) := xdt tbL_law_360_ok 34 rfl
theorem dL_law_713 : decode cL_law 713 = .ok (.i2l, 1) := xdt tbL_law_360_ok 35 rfl
theorem dL_law_714 : decode cL_law 714 = .ok (.lcmp, 1) := xdt tbL_law_360_ok 36 rfl
theorem dL_law_715 : decode cL_law 715 = .ok (.ifCond .eq 5, 3) := xdt tbL_law_360_ok 37 rfl
theorem dL_law_718 : decode cL_law 718 = .ok (.iconst 0, 1) := xdt tbL_law_360_ok 38 rfl
theorem dL_law_719 : decode cL_law 719 = .ok (.ireturn, 1) := xdt tbL_law_360_ok 39 rfl
theorem dL_law_720 : decode cL_law 720 = .ok (.goto 855, 3) := xdt tbL_law_360_ok 40 rfl
theorem dL_law_723 : decode cL_law 723 = .ok (.aload_n 1, 1) := xdt tbL_law_360_ok 41 rfl
theorem dL_law_724 : decode cL_law 724 = .ok (.aload_n 0, 1) := xdt tbL_law_360_ok 42 rfl
theorem dL_law_725 : decode cL_law 725 = .ok (.iload 4, 2) := xdt tbL_law_360_ok 43 rfl
theorem dL_law_727 : decode cL_law 727 = .ok (.iconst 1, 1) := xdt tbL_law_360_ok 44 rfl
theorem dL_law_728 : decode cL_law 728 = .ok (.iadd, 1) := xdt tbL_law_360_ok 45 rfl
theorem dL_law_729 : decode cL_law 729 = .ok (.iaload, 1) := xdt tbL_law_360_ok 46 rfl
theorem dL_law_730 : decode cL_law 730 = .ok (.aload_n 0, 1) := xdt tbL_law_360_ok 47 rfl
theorem dL_law_731 : decode cL_law 731 = .ok (.iload 4, 2) := xdt tbL_law_360_ok 48 rfl
theorem dL_law_733 : decode cL_law 733 = .ok (.iconst 2, 1) := xdt tbL_law_360_ok 49 rfl
theorem dL_law_734 : decode cL_law 734 = .ok (.iadd, 1) := xdt tbL_law_360_ok 50 rfl
theorem dL_law_735 : decode cL_law 735 = .ok (.iaload, 1) := xdt tbL_law_360_ok 51 rfl
theorem dL_law_736 : decode cL_law 736 = .ok (.aload_n 3, 1) := xdt tbL_law_360_ok 52 rfl
theorem dL_law_737 : decode cL_law 737 = .ok (.invokestatic 123, 3) := xdt tbL_law_360_ok 53 rfl
theorem dL_law_740 : decode cL_law 740 = .ok (.istore 5, 2) := xdt tbL_law_360_ok 54 rfl
theorem dL_law_742 : decode cL_law 742 = .ok (.aload_n 2, 1) := xdt tbL_law_360_ok 55 rfl
theorem dL_law_743 : decode cL_law 743 = .ok (.aload_n 0, 1) := xdt tbL_law_360_ok 56 rfl
theorem dL_law_744 : decode cL_law 744 = .ok (.iload 4, 2) := xdt tbL_law_360_ok 57 rfl
theorem dL_law_746 : decode cL_law 746 = .ok (.iconst 1, 1) := xdt tbL_law_360_ok 58 rfl
theorem dL_law_747 : decode cL_law 747 = .ok (.iadd, 1) := xdt tbL_law_360_ok 59 rfl
def tbL_law_420 : List (Nat × Instr × Nat) := [(748, .iaload, 1), (749, .aload_n 0, 1), (750, .iload 4, 2), (752, .iconst 2, 1), (753, .iadd, 1), (754, .iaload, 1), (755, .invokevirtual 125, 3), (758, .istore 6, 2), (760, .aload_n 2, 1), (761, .invokevirtual 91, 3), (764, .iload 5, 2), (766, .if_icmp .eq 5, 3), (769, .iconst 0, 1), (770, .ireturn, 1), (771, .iload 5, 2), (773, .ifCond .ne 15, 3), (776, .aload_n 3, 1), (777, .iconst 0, 1), (778, .laload, 1), (779, .iload 6, 2), (781, .i2l, 1), (782, .lcmp, 1), (783, .ifCond .eq 5, 3), (786, .iconst 0, 1), (787, .ireturn, 1), (788, .goto 787, 3), (791, .aload_n 1, 1), (792, .aload_n 0, 1), (793, .iload 4, 2), (795, .iconst 1, 1), (796, .iadd, 1), (797, .iaload, 1), (798, .aload_n 0, 1), (799, .iload 4, 2), (801, .iconst 2, 1), (802, .iadd, 1), (803, .iaload, 1), (804, .aload_n 3, 1), (805, .invokestatic 126, 3), (808, .istore 5, 2), (810, .aload_n 2, 1), (811, .aload_n 0, 1), (812, .iload 4, 2), (814, .iconst 1, 1), (815, .iadd, 1), (816, .iaload, 1), (817, .aload_n 0, 1), (818, .iload 4, 2), (820, .iconst 2, 1), (821, .iadd, 1), (822, .iaload, 1), (823, .invokevirtual 128, 3), (826, .istore 6, 2), (828, .aload_n 2, 1), (829, .invokevirtual 91, 3), (832, .iload 5, 2), (834, .if_icmp .eq 5, 3), (837, .iconst 0, 1), (838, .ireturn, 1), (839, .iload 5, 2)]
theorem tbL_law_420_ok : tbL_law_420.all (fun q => decide (decode cL_law q.1 = .ok q.2)) = true := by decide +kernel
theorem dL_law_748 : decode cL_law 748 = .ok (.iaload, 1) := xdt tbL_law_420_ok 0 rfl
theorem dL_law_749 : decode cL_law 749 = .ok (.aload_n 0, 1) := xdt tbL_law_420_ok 1 rfl
theorem dL_law_750 : decode cL_law 750 = .ok (.iload 4, 2) := xdt tbL_law_420_ok 2 rfl
theorem dL_law_752 : decode cL_law 752 = .ok (.iconst 2, 1) := xdt tbL_law_420_ok 3 rfl
theorem dL_law_753 : decode cL_law 753 = .ok (.iadd, 1) := xdt tbL_law_420_ok 4 rfl
theorem dL_law_754 : decode cL_law 754 = .ok (.iaload, 1) := xdt tbL_law_420_ok 5 rfl
theorem dL_law_755 : decode cL_law 755 = .ok (.invokevirtual 125, 3) := xdt tbL_law_420_ok 6 rfl
theorem dL_law_758 : decode cL_law 758 = .ok (.istore 6, 2) := xdt tbL_law_420_ok 7 rfl
theorem dL_law_760 : decode cL_law 760 = .ok (.aload_n 2, 1) := xdt tbL_law_420_ok 8 rfl
theorem dL_law_761 : decode cL_law 761 = .ok (.invokevirtual 91, 3) := xdt tbL_law_420_ok 9 rfl
theorem dL_law_764 : decode cL_law 764 = .ok (.iload 5, 2) := xdt tbL_law_420_ok 10 rfl
theorem dL_law_766 : decode cL_law 766 = .ok (.if_icmp .eq 5, 3) := xdt tbL_law_420_ok 11 rfl
theorem dL_law_769 : decode cL_law 769 = .ok (.iconst 0, 1) := xdt tbL_law_420_ok 12 rfl
theorem dL_law_770 : decode cL_law 770 = .ok (.ireturn, 1) := xdt tbL_law_420_ok 13 rfl
theorem dL_law_771 : decode cL_law 771 = .ok (.iload 5, 2) := xdt tbL_law_420_ok 14 rfl
theorem dL_law_773 : decode cL_law 773 = .ok (.ifCond .ne 15, 3) := xdt tbL_law_420_ok 15 rfl
theorem dL_law_776 : decode cL_law 776 = .ok (.aload_n 3, 1) := xdt tbL_law_420_ok 16 rfl
theorem dL_law_777 : decode cL_law 777 = .ok (.iconst 0, 1) := xdt tbL_law_420_ok 17 rfl
theorem dL_law_778 : decode cL_law 778 = .ok (.laload, 1) := xdt tbL_law_420_ok 18 rfl
theorem dL_law_779 : decode cL_law 779 = .ok (.iload 6, 2) := xdt tbL_law_420_ok 19 rfl
theorem dL_law_781 : decode cL_law 781 = .ok (.i2l, 1) := xdt tbL_law_420_ok 20 rfl
theorem dL_law_782 : decode cL_law 782 = .ok (.lcmp, 1) := xdt tbL_law_420_ok 21 rfl
theorem dL_law_783 : decode cL_law 783 = .ok (.ifCond .eq 5, 3) := xdt tbL_law_420_ok 22 rfl
theorem dL_law_786 : decode cL_law 786 = .ok (.iconst 0, 1) := xdt tbL_law_420_ok 23 rfl
theorem dL_law_787 : decode cL_law 787 = .ok (.ireturn, 1) := xdt tbL_law_420_ok 24 rfl
theorem dL_law_788 : decode cL_law 788 = .ok (.goto 787, 3) := xdt tbL_law_420_ok 25 rfl
theorem dL_law_791 : decode cL_law 791 = .ok (.aload_n 1, 1) := xdt tbL_law_420_ok 26 rfl
theorem dL_law_792 : decode cL_law 792 = .ok (.aload_n 0, 1) := xdt tbL_law_420_ok 27 rfl
theorem dL_law_793 : decode cL_law 793 = .ok (.iload 4, 2) := xdt tbL_law_420_ok 28 rfl
theorem dL_law_795 : decode cL_law 795 = .ok (.iconst 1, 1) := xdt tbL_law_420_ok 29 rfl
theorem dL_law_796 : decode cL_law 796 = .ok (.iadd, 1) := xdt tbL_law_420_ok 30 rfl
theorem dL_law_797 : decode cL_law 797 = .ok (.iaload, 1) := xdt tbL_law_420_ok 31 rfl
theorem dL_law_798 : decode cL_law 798 = .ok (.aload_n 0, 1) := xdt tbL_law_420_ok 32 rfl
theorem dL_law_799 : decode cL_law 799 = .ok (.iload 4, 2) := xdt tbL_law_420_ok 33 rfl
theorem dL_law_801 : decode cL_law 801 = .ok (.iconst 2, 1) := xdt tbL_law_420_ok 34 rfl
theorem dL_law_802 : decode cL_law 802 = .ok (.iadd, 1) := xdt tbL_law_420_ok 35 rfl
theorem dL_law_803 : decode cL_law 803 = .ok (.iaload, 1) := xdt tbL_law_420_ok 36 rfl
theorem dL_law_804 : decode cL_law 804 = .ok (.aload_n 3, 1) := xdt tbL_law_420_ok 37 rfl
theorem dL_law_805 : decode cL_law 805 = .ok (.invokestatic 126, 3) := xdt tbL_law_420_ok 38 rfl
theorem dL_law_808 : decode cL_law 808 = .ok (.istore 5, 2) := xdt tbL_law_420_ok 39 rfl
theorem dL_law_810 : decode cL_law 810 = .ok (.aload_n 2, 1) := xdt tbL_law_420_ok 40 rfl
theorem dL_law_811 : decode cL_law 811 = .ok (.aload_n 0, 1) := xdt tbL_law_420_ok 41 rfl
theorem dL_law_812 : decode cL_law 812 = .ok (.iload 4, 2) := xdt tbL_law_420_ok 42 rfl
theorem dL_law_814 : decode cL_law 814 = .ok (.iconst 1, 1) := xdt tbL_law_420_ok 43 rfl
theorem dL_law_815 : decode cL_law 815 = .ok (.iadd, 1) := xdt tbL_law_420_ok 44 rfl
theorem dL_law_816 : decode cL_law 816 = .ok (.iaload, 1) := xdt tbL_law_420_ok 45 rfl
theorem dL_law_817 : decode cL_law 817 = .ok (.aload_n 0, 1) := xdt tbL_law_420_ok 46 rfl
theorem dL_law_818 : decode cL_law 818 = .ok (.iload 4, 2) := xdt tbL_law_420_ok 47 rfl
theorem dL_law_820 : decode cL_law 820 = .ok (.iconst 2, 1) := xdt tbL_law_420_ok 48 rfl
theorem dL_law_821 : decode cL_law 821 = .ok (.iadd, 1) := xdt tbL_law_420_ok 49 rfl
theorem dL_law_822 : decode cL_law 822 = .ok (.iaload, 1) := xdt tbL_law_420_ok 50 rfl
theorem dL_law_823 : decode cL_law 823 = .ok (.invokevirtual 128, 3) := xdt tbL_law_420_ok 51 rfl
theorem dL_law_826 : decode cL_law 826 = .ok (.istore 6, 2) := xdt tbL_law_420_ok 52 rfl
theorem dL_law_828 : decode cL_law 828 = .ok (.aload_n 2, 1) := xdt tbL_law_420_ok 53 rfl
theorem dL_law_829 : decode cL_law 829 = .ok (.invokevirtual 91, 3) := xdt tbL_law_420_ok 54 rfl
theorem dL_law_832 : decode cL_law 832 = .ok (.iload 5, 2) := xdt tbL_law_420_ok 55 rfl
theorem dL_law_834 : decode cL_law 834 = .ok (.if_icmp .eq 5, 3) := xdt tbL_law_420_ok 56 rfl
theorem dL_law_837 : decode cL_law 837 = .ok (.iconst 0, 1) := xdt tbL_law_420_ok 57 rfl
theorem dL_law_838 : decode cL_law 838 = .ok (.ireturn, 1) := xdt tbL_law_420_ok 58 rfl
theorem dL_law_839 : decode cL_law 839 = .ok (.iload 5, 2) := xdt tbL_law_420_ok 59 rfl
def tbL_law_480 : List (Nat × Instr × Nat) := [(841, .ifCond .ne 15, 3), (844, .aload_n 3, 1), (845, .iconst 0, 1), (846, .laload, 1), (847, .iload 6, 2), (849, .i2l, 1), (850, .lcmp, 1), (851, .ifCond .eq 5, 3), (854, .iconst 0, 1), (855, .ireturn, 1), (856, .goto 719, 3), (859, .aload_n 1, 1), (860, .aload_n 0, 1), (861, .iload 4, 2), (863, .iconst 1, 1), (864, .iadd, 1), (865, .iaload, 1), (866, .aload_n 3, 1), (867, .invokestatic 129, 3), (870, .istore 5, 2), (872, .aload_n 2, 1), (873, .aload_n 0, 1), (874, .iload 4, 2), (876, .iconst 1, 1), (877, .iadd, 1), (878, .iaload, 1), (879, .invokevirtual 131, 3), (882, .istore 6, 2), (884, .aload_n 2, 1), (885, .invokevirtual 91, 3), (888, .iload 5, 2), (890, .if_icmp .eq 5, 3), (893, .iconst 0, 1), (894, .ireturn, 1), (895, .iload 5, 2), (897, .ifCond .ne 15, 3), (900, .aload_n 3, 1), (901, .iconst 0, 1), (902, .laload, 1), (903, .iload 6, 2), (905, .i2l, 1), (906, .lcmp, 1), (907, .ifCond .eq 5, 3), (910, .iconst 0, 1), (911, .ireturn, 1), (912, .goto 663, 3), (915, .aload_n 1, 1), (916, .aload_n 0, 1), (917, .iload 4, 2), (919, .iconst 1, 1), (920, .iadd, 1), (921, .iaload, 1), (922, .invokevirtual 132, 3), (925, .aload_n 2, 1), (926, .aload_n 0, 1), (927, .iload 4, 2), (929, .iconst 1, 1), (930, .iadd, 1), (931, .iaload, 1), (932, .invokevirtual 135, 3)]
theorem tbL_law_480_ok : tbL_law_480.all (fun q => decide (decode cL_law q.1 = .ok q.2)) = true := by decide +kernel
theorem dL_law_841 : decode cL_law 841 = .ok (.ifCond .ne 15, 3) := xdt tbL_law_480_ok 0 rfl
theorem dL_law_844 : decode cL_law 844 = .ok (.aload_n 3, 1) := xdt tbL_law_480_ok 1 rfl
theorem dL_law_845 : decode cL_law 845 = .ok (.iconst 0, 1) := xdt tbL_law_480_ok 2 rfl
theorem dL_law_846 : decode cL_law 846 = .ok (.laload, 1) := xdt tbL_law_480_ok 3 rfl
theorem dL_law_847 : decode cL_law 847 = .ok (.iload 6, 2) := xdt tbL_law_480_ok 4 rfl
theorem dL_law_849 : decode cL_law 849 = .ok (.i2l, 1) := xdt tbL_law_480_ok 5 rfl
theorem dL_law_850 : decode cL_law 850 = .ok (.lcmp, 1) := xdt tbL_law_480_ok 6 rfl
theorem dL_law_851 : decode cL_law 851 = .ok (.ifCond .eq 5, 3) := xdt tbL_law_480_ok 7 rfl
theorem dL_law_854 : decode cL_law 854 = .ok (.iconst 0, 1) := xdt tbL_law_480_ok 8 rfl
theorem dL_law_855 : decode cL_law 855 = .ok (.ireturn, 1) := xdt tbL_law_480_ok 9 rfl
theorem dL_law_856 : decode cL_law 856 = .ok (.goto 719, 3) := xdt tbL_law_480_ok 10 rfl
theorem dL_law_859 : decode cL_law 859 = .ok (.aload_n 1, 1) := xdt tbL_law_480_ok 11 rfl
theorem dL_law_860 : decode cL_law 860 = .ok (.aload_n 0, 1) := xdt tbL_law_480_ok 12 rfl
theorem dL_law_861 : decode cL_law 861 = .ok (.iload 4, 2) := xdt tbL_law_480_ok 13 rfl
theorem dL_law_863 : decode cL_law 863 = .ok (.iconst 1, 1) := xdt tbL_law_480_ok 14 rfl
theorem dL_law_864 : decode cL_law 864 = .ok (.iadd, 1) := xdt tbL_law_480_ok 15 rfl
theorem dL_law_865 : decode cL_law 865 = .ok (.iaload, 1) := xdt tbL_law_480_ok 16 rfl
theorem dL_law_866 : decode cL_law 866 = .ok (.aload_n 3, 1) := xdt tbL_law_480_ok 17 rfl
theorem dL_law_867 : decode cL_law 867 = .ok (.invokestatic 129, 3) := xdt tbL_law_480_ok 18 rfl
theorem dL_law_870 : decode cL_law 870 = .ok (.istore 5, 2) := xdt tbL_law_480_ok 19 rfl
theorem dL_law_872 : decode cL_law 872 = .ok (.aload_n 2, 1) := xdt tbL_law_480_ok 20 rfl
theorem dL_law_873 : decode cL_law 873 = .ok (.aload_n 0, 1) := xdt tbL_law_480_ok 21 rfl
theorem dL_law_874 : decode cL_law 874 = .ok (.iload 4, 2) := xdt tbL_law_480_ok 22 rfl
theorem dL_law_876 : decode cL_law 876 = .ok (.iconst 1, 1) := xdt tbL_law_480_ok 23 rfl
theorem dL_law_877 : decode cL_law 877 = .ok (.iadd, 1) := xdt tbL_law_480_ok 24 rfl
theorem dL_law_878 : decode cL_law 878 = .ok (.iaload, 1) := xdt tbL_law_480_ok 25 rfl
theorem dL_law_879 : decode cL_law 879 = .ok (.invokevirtual 131, 3) := xdt tbL_law_480_ok 26 rfl
theorem dL_law_882 : decode cL_law 882 = .ok (.istore 6, 2) := xdt tbL_law_480_ok 27 rfl
theorem dL_law_884 : decode cL_law 884 = .ok (.aload_n 2, 1) := xdt tbL_law_480_ok 28 rfl
theorem dL_law_885 : decode cL_law 885 = .ok (.invokevirtual 91, 3) := xdt tbL_law_480_ok 29 rfl
theorem dL_law_888 : decode cL_law 888 = .ok (.iload 5, 2) := xdt tbL_law_480_ok 30 rfl
theorem dL_law_890 : decode cL_law 890 = .ok (.if_icmp .eq 5, 3) := xdt tbL_law_480_ok 31 rfl
theorem dL_law_893 : decode cL_law 893 = .ok (.iconst 0, 1) := xdt tbL_law_480_ok 32 rfl
theorem dL_law_894 : decode cL_law 894 = .ok (.ireturn, 1) := xdt tbL_law_480_ok 33 rfl
theorem dL_law_895 : decode cL_law 895 = .ok (.iload 5, 2) := xdt tbL_law_480_ok 34 rfl
theorem dL_law_897 : decode cL_law 897 = .ok (.ifCond .ne 15, 3) := xdt tbL_law_480_ok 35 rfl
theorem dL_law_900 : decode cL_law 900 = .ok (.aload_n 3, 1) := xdt tbL_law_480_ok 36 rfl
theorem dL_law_901 : decode cL_law 901 = .ok (.iconst 0, 1) := xdt tbL_law_480_ok 37 rfl
theorem dL_law_902 : decode cL_law 902 = .ok (.laload, 1) := xdt tbL_law_480_ok 38 rfl
theorem dL_law_903 : decode cL_law 903 = .ok (.iload 6, 2) := xdt tbL_law_480_ok 39 rfl
theorem dL_law_905 : decode cL_law 905 = .ok (.i2l, 1) := xdt tbL_law_480_ok 40 rfl
theorem dL_law_906 : decode cL_law 906 = .ok (.lcmp, 1) := xdt tbL_law_480_ok 41 rfl
theorem dL_law_907 : decode cL_law 907 = .ok (.ifCond .eq 5, 3) := xdt tbL_law_480_ok 42 rfl
theorem dL_law_910 : decode cL_law 910 = .ok (.iconst 0, 1) := xdt tbL_law_480_ok 43 rfl
theorem dL_law_911 : decode cL_law 911 = .ok (.ireturn, 1) := xdt tbL_law_480_ok 44 rfl
theorem dL_law_912 : decode cL_law 912 = .ok (.goto 663, 3) := xdt tbL_law_480_ok 45 rfl
theorem dL_law_915 : decode cL_law 915 = .ok (.aload_n 1, 1) := xdt tbL_law_480_ok 46 rfl
theorem dL_law_916 : decode cL_law 916 = .ok (.aload_n 0, 1) := xdt tbL_law_480_ok 47 rfl
theorem dL_law_917 : decode cL_law 917 = .ok (.iload 4, 2) := xdt tbL_law_480_ok 48 rfl
theorem dL_law_919 : decode cL_law 919 = .ok (.iconst 1, 1) := xdt tbL_law_480_ok 49 rfl
theorem dL_law_920 : decode cL_law 920 = .ok (.iadd, 1) := xdt tbL_law_480_ok 50 rfl
theorem dL_law_921 : decode cL_law 921 = .ok (.iaload, 1) := xdt tbL_law_480_ok 51 rfl
theorem dL_law_922 : decode cL_law 922 = .ok (.invokevirtual 132, 3) := xdt tbL_law_480_ok 52 rfl
theorem dL_law_925 : decode cL_law 925 = .ok (.aload_n 2, 1) := xdt tbL_law_480_ok 53 rfl
theorem dL_law_926 : decode cL_law 926 = .ok (.aload_n 0, 1) := xdt tbL_law_480_ok 54 rfl
theorem dL_law_927 : decode cL_law 927 = .ok (.iload 4, 2) := xdt tbL_law_480_ok 55 rfl
theorem dL_law_929 : decode cL_law 929 = .ok (.iconst 1, 1) := xdt tbL_law_480_ok 56 rfl
theorem dL_law_930 : decode cL_law 930 = .ok (.iadd, 1) := xdt tbL_law_480_ok 57 rfl
theorem dL_law_931 : decode cL_law 931 = .ok (.iaload, 1) := xdt tbL_law_480_ok 58 rfl
theorem dL_law_932 : decode cL_law 932 = .ok (.invokevirtual 135, 3) := xdt tbL_law_480_ok 59 rfl
def tbL_law_540 : List (Nat × Instr × Nat) := [(935, .if_icmp .eq 640, 3), (938, .iconst 0, 1), (939, .ireturn, 1), (940, .aload_n 1, 1), (941, .aload_n 0, 1), (942, .iload 4, 2), (944, .iconst 1, 1), (945, .iadd, 1), (946, .iaload, 1), (947, .aload_n 0, 1), (948, .iload 4, 2), (950, .iconst 2, 1), (951, .iadd, 1), (952, .iaload, 1), (953, .aload_n 3, 1), (954, .invokestatic 136, 3), (957, .istore 5, 2), (959, .aload_n 2, 1), (960, .aload_n 0, 1), (961, .iload 4, 2), (963, .iconst 1, 1), (964, .iadd, 1), (965, .iaload, 1), (966, .aload_n 0, 1), (967, .iload 4, 2), (969, .iconst 2, 1), (970, .iadd, 1), (971, .iaload, 1), (972, .invokevirtual 138, 3), (975, .istore 6, 2), (977, .aload_n 2, 1), (978, .invokevirtual 91, 3), (981, .iload 5, 2), (983, .if_icmp .eq 5, 3), (986, .iconst 0, 1), (987, .ireturn, 1), (988, .iload 5, 2), (990, .ifCond .ne 15, 3), (993, .aload_n 3, 1), (994, .iconst 0, 1), (995, .laload, 1), (996, .iload 6, 2), (998, .i2l, 1), (999, .lcmp, 1), (1000, .ifCond .eq 5, 3), (1003, .iconst 0, 1), (1004, .ireturn, 1), (1005, .goto 570, 3), (1008, .aload_n 1, 1), (1009, .aload_n 0, 1), (1010, .iload 4, 2), (1012, .iconst 1, 1), (1013, .iadd, 1), (1014, .iaload, 1), (1015, .aload_n 0, 1), (1016, .iload 4, 2), (1018, .iconst 2, 1), (1019, .iadd, 1), (1020, .iaload, 1), (1021, .aload_n 3, 1)]
theorem tbL_law_540_ok : tbL_law_540.all (fun q => decide (decode cL_law q.1 = .ok q.2)) = true := by decide +kernel
theorem dL_law_935 : decode cL_law 935 = .ok (.if_icmp .eq 640, 3) := xdt tbL_law_540_ok 0 rfl
theorem dL_law_938 : decode cL_law 938 = .ok (.iconst 0, 1) := xdt tbL_law_540_ok 1 rfl
theorem dL_law_939 : decode cL_law 939 = .ok (.ireturn, 1) := xdt tbL_law_540_ok 2 rfl
theorem dL_law_940 : decode cL_law 940 = .ok (.aload_n 1, 1) := xdt tbL_law_540_ok 3 rfl
theorem dL_law_941 : decode cL_law 941 = .ok (.aload_n 0, 1) := xdt tbL_law_540_ok 4 rfl
theorem dL_law_942 : decode cL_law 942 = .ok (.iload 4, 2) := xdt tbL_law_540_ok 5 rfl
theorem dL_law_944 : decode cL_law 944 = .ok (.iconst 1, 1) := xdt tbL_law_540_ok 6 rfl
theorem dL_law_945 : decode cL_law 945 = .ok (.iadd, 1) := xdt tbL_law_540_ok 7 rfl
theorem dL_law_946 : decode cL_law 946 = .ok (.iaload, 1) := xdt tbL_law_540_ok 8 rfl
theorem dL_law_947 : decode cL_law 947 = .ok (.aload_n 0, 1) := xdt tbL_law_540_ok 9 rfl
theorem dL_law_948 : decode cL_law 948 = .ok (.iload 4, 2) := xdt tbL_law_540_ok 10 rfl
theorem dL_law_950 : decode cL_law 950 = .ok (.iconst 2, 1) := xdt tbL_law_540_ok 11 rfl
theorem dL_law_951 : decode cL_law 951 = .ok (.iadd, 1) := xdt tbL_law_540_ok 12 rfl
theorem dL_law_952 : decode cL_law 952 = .ok (.iaload, 1) := xdt tbL_law_540_ok 13 rfl
theorem dL_law_953 : decode cL_law 953 = .ok (.aload_n 3, 1) := xdt tbL_law_540_ok 14 rfl
theorem dL_law_954 : decode cL_law 954 = .ok (.invokestatic 136, 3) := xdt tbL_law_540_ok 15 rfl
theorem dL_law_957 : decode cL_law 957 = .ok (.istore 5, 2) := xdt tbL_law_540_ok 16 rfl
theorem dL_law_959 : decode cL_law 959 = .ok (.aload_n 2, 1) := xdt tbL_law_540_ok 17 rfl
theorem dL_law_960 : decode cL_law 960 = .ok (.aload_n 0, 1) := xdt tbL_law_540_ok 18 rfl
theorem dL_law_961 : decode cL_law 961 = .ok (.iload 4, 2) := xdt tbL_law_540_ok 19 rfl
theorem dL_law_963 : decode cL_law 963 = .ok (.iconst 1, 1) := xdt tbL_law_540_ok 20 rfl
theorem dL_law_964 : decode cL_law 964 = .ok (.iadd, 1) := xdt tbL_law_540_ok 21 rfl
theorem dL_law_965 : decode cL_law 965 = .ok (.iaload, 1) := xdt tbL_law_540_ok 22 rfl
theorem dL_law_966 : decode cL_law 966 = .ok (.aload_n 0, 1) := xdt tbL_law_540_ok 23 rfl
theorem dL_law_967 : decode cL_law 967 = .ok (.iload 4, 2) := xdt tbL_law_540_ok 24 rfl
theorem dL_law_969 : decode cL_law 969 = .ok (.iconst 2, 1) := xdt tbL_law_540_ok 25 rfl
theorem dL_law_970 : decode cL_law 970 = .ok (.iadd, 1) := xdt tbL_law_540_ok 26 rfl
theorem dL_law_971 : decode cL_law 971 = .ok (.iaload, 1) := xdt tbL_law_540_ok 27 rfl
theorem dL_law_972 : decode cL_law 972 = .ok (.invokevirtual 138, 3) := xdt tbL_law_540_ok 28 rfl
theorem dL_law_975 : decode cL_law 975 = .ok (.istore 6, 2) := xdt tbL_law_540_ok 29 rfl
theorem dL_law_977 : decode cL_law 977 = .ok (.aload_n 2, 1) := xdt tbL_law_540_ok 30 rfl
theorem dL_law_978 : decode cL_law 978 = .ok (.invokevirtual 91, 3) := xdt tbL_law_540_ok 31 rfl
theorem dL_law_981 : decode cL_law 981 = .ok (.iload 5, 2) := xdt tbL_law_540_ok 32 rfl
theorem dL_law_983 : decode cL_law 983 = .ok (.if_icmp .eq 5, 3) := xdt tbL_law_540_ok 33 rfl
theorem dL_law_986 : decode cL_law 986 = .ok (.iconst 0, 1) := xdt tbL_law_540_ok 34 rfl
theorem dL_law_987 : decode cL_law 987 = .ok (.ireturn, 1) := xdt tbL_law_540_ok 35 rfl
theorem dL_law_988 : decode cL_law 988 = .ok (.iload 5, 2) := xdt tbL_law_540_ok 36 rfl
theorem dL_law_990 : decode cL_law 990 = .ok (.ifCond .ne 15, 3) := xdt tbL_law_540_ok 37 rfl
theorem dL_law_993 : decode cL_law 993 = .ok (.aload_n 3, 1) := xdt tbL_law_540_ok 38 rfl
theorem dL_law_994 : decode cL_law 994 = .ok (.iconst 0, 1) := xdt tbL_law_540_ok 39 rfl
theorem dL_law_995 : decode cL_law 995 = .ok (.laload, 1) := xdt tbL_law_540_ok 40 rfl
theorem dL_law_996 : decode cL_law 996 = .ok (.iload 6, 2) := xdt tbL_law_540_ok 41 rfl
theorem dL_law_998 : decode cL_law 998 = .ok (.i2l, 1) := xdt tbL_law_540_ok 42 rfl
theorem dL_law_999 : decode cL_law 999 = .ok (.lcmp, 1) := xdt tbL_law_540_ok 43 rfl
theorem dL_law_1000 : decode cL_law 1000 = .ok (.ifCond .eq 5, 3) := xdt tbL_law_540_ok 44 rfl
theorem dL_law_1003 : decode cL_law 1003 = .ok (.iconst 0, 1) := xdt tbL_law_540_ok 45 rfl
theorem dL_law_1004 : decode cL_law 1004 = .ok (.ireturn, 1) := xdt tbL_law_540_ok 46 rfl
theorem dL_law_1005 : decode cL_law 1005 = .ok (.goto 570, 3) := xdt tbL_law_540_ok 47 rfl
theorem dL_law_1008 : decode cL_law 1008 = .ok (.aload_n 1, 1) := xdt tbL_law_540_ok 48 rfl
theorem dL_law_1009 : decode cL_law 1009 = .ok (.aload_n 0, 1) := xdt tbL_law_540_ok 49 rfl
theorem dL_law_1010 : decode cL_law 1010 = .ok (.iload 4, 2) := xdt tbL_law_540_ok 50 rfl
theorem dL_law_1012 : decode cL_law 1012 = .ok (.iconst 1, 1) := xdt tbL_law_540_ok 51 rfl
theorem dL_law_1013 : decode cL_law 1013 = .ok (.iadd, 1) := xdt tbL_law_540_ok 52 rfl
theorem dL_law_1014 : decode cL_law 1014 = .ok (.iaload, 1) := xdt tbL_law_540_ok 53 rfl
theorem dL_law_1015 : decode cL_law 1015 = .ok (.aload_n 0, 1) := xdt tbL_law_540_ok 54 rfl
theorem dL_law_1016 : decode cL_law 1016 = .ok (.iload 4, 2) := xdt tbL_law_540_ok 55 rfl
theorem dL_law_1018 : decode cL_law 1018 = .ok (.iconst 2, 1) := xdt tbL_law_540_ok 56 rfl
theorem dL_law_1019 : decode cL_law 1019 = .ok (.iadd, 1) := xdt tbL_law_540_ok 57 rfl
theorem dL_law_1020 : decode cL_law 1020 = .ok (.iaload, 1) := xdt tbL_law_540_ok 58 rfl
theorem dL_law_1021 : decode cL_law 1021 = .ok (.aload_n 3, 1) := xdt tbL_law_540_ok 59 rfl
def tbL_law_600 : List (Nat × Instr × Nat) := [(1022, .invokestatic 139, 3), (1025, .istore 5, 2), (1027, .aload_n 2, 1), (1028, .aload_n 0, 1), (1029, .iload 4, 2), (1031, .iconst 1, 1), (1032, .iadd, 1), (1033, .iaload, 1), (1034, .aload_n 0, 1), (1035, .iload 4, 2), (1037, .iconst 2, 1), (1038, .iadd, 1), (1039, .iaload, 1), (1040, .invokevirtual 141, 3), (1043, .istore 6, 2), (1045, .aload_n 2, 1), (1046, .invokevirtual 91, 3), (1049, .iload 5, 2), (1051, .if_icmp .eq 5, 3), (1054, .iconst 0, 1), (1055, .ireturn, 1), (1056, .iload 5, 2), (1058, .ifCond .ne 15, 3), (1061, .aload_n 3, 1), (1062, .iconst 0, 1), (1063, .laload, 1), (1064, .iload 6, 2), (1066, .i2l, 1), (1067, .lcmp, 1), (1068, .ifCond .eq 5, 3), (1071, .iconst 0, 1), (1072, .ireturn, 1), (1073, .goto 502, 3), (1076, .aload_n 1, 1), (1077, .aload_n 0, 1), (1078, .iload 4, 2), (1080, .iconst 1, 1), (1081, .iadd, 1), (1082, .iaload, 1), (1083, .aload_n 0, 1), (1084, .iload 4, 2), (1086, .iconst 2, 1), (1087, .iadd, 1), (1088, .iaload, 1), (1089, .aload_n 3, 1), (1090, .invokestatic 142, 3), (1093, .istore 5, 2), (1095, .aload_n 2, 1), (1096, .aload_n 0, 1), (1097, .iload 4, 2), (1099, .iconst 1, 1), (1100, .iadd, 1), (1101, .iaload, 1), (1102, .aload_n 0, 1), (1103, .iload 4, 2), (1105, .iconst 2, 1), (1106, .iadd, 1), (1107, .iaload, 1), (1108, .invokevirtual 144, 3), (1111, .istore 6, 2)]
theorem tbL_law_600_ok : tbL_law_600.all (fun q => decide (decode cL_law q.1 = .ok q.2)) = true := by decide +kernel
theorem dL_law_1022 : decode cL_law 1022 = .ok (.invokestatic 139, 3) := xdt tbL_law_600_ok 0 rfl
theorem dL_law_1025 : decode cL_law 1025 = .ok (.istore 5, 2) := xdt tbL_law_600_ok 1 rfl
theorem dL_law_1027 : decode cL_law 1027 = .ok (.aload_n 2, 1) := xdt tbL_law_600_ok 2 rfl
theorem dL_law_1028 : decode cL_law 1028 = .ok (.aload_n 0, 1) := xdt tbL_law_600_ok 3 rfl
theorem dL_law_1029 : decode cL_law 1029 = .ok (.iload 4, 2) := xdt tbL_law_600_ok 4 rfl
theorem dL_law_1031 : decode cL_law 1031 = .ok (.iconst 1, 1) := xdt tbL_law_600_ok 5 rfl
theorem dL_law_1032 : decode cL_law 1032 = .ok (.iadd, 1) := xdt tbL_law_600_ok 6 rfl
theorem dL_law_1033 : decode cL_law 1033 = .ok (.iaload, 1) := xdt tbL_law_600_ok 7 rfl
theorem dL_law_1034 : decode cL_law 1034 = .ok (.aload_n 0, 1) := xdt tbL_law_600_ok 8 rfl
theorem dL_law_1035 : decode cL_law 1035 = .ok (.iload 4, 2) := xdt tbL_law_600_ok 9 rfl
theorem dL_law_1037 : decode cL_law 1037 = .ok (.iconst 2, 1) := xdt tbL_law_600_ok 10 rfl
theorem dL_law_1038 : decode cL_law 1038 = .ok (.iadd, 1) := xdt tbL_law_600_ok 11 rfl
theorem dL_law_1039 : decode cL_law 1039 = .ok (.iaload, 1) := xdt tbL_law_600_ok 12 rfl
theorem dL_law_1040 : decode cL_law 1040 = .ok (.invokevirtual 141, 3) := xdt tbL_law_600_ok 13 rfl
theorem dL_law_1043 : decode cL_law 1043 = .ok (.istore 6, 2) := xdt tbL_law_600_ok 14 rfl
theorem dL_law_1045 : decode cL_law 1045 = .ok (.aload_n 2, 1) := xdt tbL_law_600_ok 15 rfl
theorem dL_law_1046 : decode cL_law 1046 = .ok (.invokevirtual 91, 3) := xdt tbL_law_600_ok 16 rfl
theorem dL_law_1049 : decode cL_law 1049 = .ok (.iload 5, 2) := xdt tbL_law_600_ok 17 rfl
theorem dL_law_1051 : decode cL_law 1051 = .ok (.if_icmp .eq 5, 3) := xdt tbL_law_600_ok 18 rfl
theorem dL_law_1054 : decode cL_law 1054 = .ok (.iconst 0, 1) := xdt tbL_law_600_ok 19 rfl
theorem dL_law_1055 : decode cL_law 1055 = .ok (.ireturn, 1) := xdt tbL_law_600_ok 20 rfl
theorem dL_law_1056 : decode cL_law 1056 = .ok (.iload 5, 2) := xdt tbL_law_600_ok 21 rfl
theorem dL_law_1058 : decode cL_law 1058 = .ok (.ifCond .ne 15, 3) := xdt tbL_law_600_ok 22 rfl
theorem dL_law_1061 : decode cL_law 1061 = .ok (.aload_n 3, 1) := xdt tbL_law_600_ok 23 rfl
theorem dL_law_1062 : decode cL_law 1062 = .ok (.iconst 0, 1) := xdt tbL_law_600_ok 24 rfl
theorem dL_law_1063 : decode cL_law 1063 = .ok (.laload, 1) := xdt tbL_law_600_ok 25 rfl
theorem dL_law_1064 : decode cL_law 1064 = .ok (.iload 6, 2) := xdt tbL_law_600_ok 26 rfl
theorem dL_law_1066 : decode cL_law 1066 = .ok (.i2l, 1) := xdt tbL_law_600_ok 27 rfl
theorem dL_law_1067 : decode cL_law 1067 = .ok (.lcmp, 1) := xdt tbL_law_600_ok 28 rfl
theorem dL_law_1068 : decode cL_law 1068 = .ok (.ifCond .eq 5, 3) := xdt tbL_law_600_ok 29 rfl
theorem dL_law_1071 : decode cL_law 1071 = .ok (.iconst 0, 1) := xdt tbL_law_600_ok 30 rfl
theorem dL_law_1072 : decode cL_law 1072 = .ok (.ireturn, 1) := xdt tbL_law_600_ok 31 rfl
theorem dL_law_1073 : decode cL_law 1073 = .ok (.goto 502, 3) := xdt tbL_law_600_ok 32 rfl
theorem dL_law_1076 : decode cL_law 1076 = .ok (.aload_n 1, 1) := xdt tbL_law_600_ok 33 rfl
theorem dL_law_1077 : decode cL_law 1077 = .ok (.aload_n 0, 1) := xdt tbL_law_600_ok 34 rfl
theorem dL_law_1078 : decode cL_law 1078 = .ok (.iload 4, 2) := xdt tbL_law_600_ok 35 rfl
theorem dL_law_1080 : decode cL_law 1080 = .ok (.iconst 1, 1) := xdt tbL_law_600_ok 36 rfl
theorem dL_law_1081 : decode cL_law 1081 = .ok (.iadd, 1) := xdt tbL_law_600_ok 37 rfl
theorem dL_law_1082 : decode cL_law 1082 = .ok (.iaload, 1) := xdt tbL_law_600_ok 38 rfl
theorem dL_law_1083 : decode cL_law 1083 = .ok (.aload_n 0, 1) := xdt tbL_law_600_ok 39 rfl
theorem dL_law_1084 : decode cL_law 1084 = .ok (.iload 4, 2) := xdt tbL_law_600_ok 40 rfl
theorem dL_law_1086 : decode cL_law 1086 = .ok (.iconst 2, 1) := xdt tbL_law_600_ok 41 rfl
theorem dL_law_1087 : decode cL_law 1087 = .ok (.iadd, 1) := xdt tbL_law_600_ok 42 rfl
theorem dL_law_1088 : decode cL_law 1088 = .ok (.iaload, 1) := xdt tbL_law_600_ok 43 rfl
theorem dL_law_1089 : decode cL_law 1089 = .ok (.aload_n 3, 1) := xdt tbL_law_600_ok 44 rfl
theorem dL_law_1090 : decode cL_law 1090 = .ok (.invokestatic 142, 3) := xdt tbL_law_600_ok 45 rfl
theorem dL_law_1093 : decode cL_law 1093 = .ok (.istore 5, 2) := xdt tbL_law_600_ok 46 rfl
theorem dL_law_1095 : decode cL_law 1095 = .ok (.aload_n 2, 1) := xdt tbL_law_600_ok 47 rfl
theorem dL_law_1096 : decode cL_law 1096 = .ok (.aload_n 0, 1) := xdt tbL_law_600_ok 48 rfl
theorem dL_law_1097 : decode cL_law 1097 = .ok (.iload 4, 2) := xdt tbL_law_600_ok 49 rfl
theorem dL_law_1099 : decode cL_law 1099 = .ok (.iconst 1, 1) := xdt tbL_law_600_ok 50 rfl
theorem dL_law_1100 : decode cL_law 1100 = .ok (.iadd, 1) := xdt tbL_law_600_ok 51 rfl
theorem dL_law_1101 : decode cL_law 1101 = .ok (.iaload, 1) := xdt tbL_law_600_ok 52 rfl
theorem dL_law_1102 : decode cL_law 1102 = .ok (.aload_n 0, 1) := xdt tbL_law_600_ok 53 rfl
theorem dL_law_1103 : decode cL_law 1103 = .ok (.iload 4, 2) := xdt tbL_law_600_ok 54 rfl
theorem dL_law_1105 : decode cL_law 1105 = .ok (.iconst 2, 1) := xdt tbL_law_600_ok 55 rfl
theorem dL_law_1106 : decode cL_law 1106 = .ok (.iadd, 1) := xdt tbL_law_600_ok 56 rfl
theorem dL_law_1107 : decode cL_law 1107 = .ok (.iaload, 1) := xdt tbL_law_600_ok 57 rfl
theorem dL_law_1108 : decode cL_law 1108 = .ok (.invokevirtual 144, 3) := xdt tbL_law_600_ok 58 rfl
theorem dL_law_1111 : decode cL_law 1111 = .ok (.istore 6, 2) := xdt tbL_law_600_ok 59 rfl
def tbL_law_660 : List (Nat × Instr × Nat) := [(1113, .aload_n 2, 1), (1114, .invokevirtual 91, 3), (1117, .iload 5, 2), (1119, .if_icmp .eq 5, 3), (1122, .iconst 0, 1), (1123, .ireturn, 1), (1124, .iload 5, 2), (1126, .ifCond .ne 15, 3), (1129, .aload_n 3, 1), (1130, .iconst 0, 1), (1131, .laload, 1), (1132, .iload 6, 2), (1134, .i2l, 1), (1135, .lcmp, 1), (1136, .ifCond .eq 5, 3), (1139, .iconst 0, 1), (1140, .ireturn, 1), (1141, .goto 434, 3), (1144, .aload_n 1, 1), (1145, .aload_n 0, 1), (1146, .iload 4, 2), (1148, .iconst 1, 1), (1149, .iadd, 1), (1150, .iaload, 1), (1151, .aload_n 3, 1), (1152, .invokestatic 145, 3), (1155, .istore 5, 2), (1157, .aload_n 2, 1), (1158, .aload_n 0, 1), (1159, .iload 4, 2), (1161, .iconst 1, 1), (1162, .iadd, 1), (1163, .iaload, 1), (1164, .invokevirtual 147, 3), (1167, .istore 6, 2), (1169, .aload_n 2, 1), (1170, .invokevirtual 91, 3), (1173, .iload 5, 2), (1175, .if_icmp .eq 5, 3), (1178, .iconst 0, 1), (1179, .ireturn, 1), (1180, .iload 5, 2), (1182, .ifCond .ne 15, 3), (1185, .aload_n 3, 1), (1186, .iconst 0, 1), (1187, .laload, 1), (1188, .iload 6, 2), (1190, .i2l, 1), (1191, .lcmp, 1), (1192, .ifCond .eq 5, 3), (1195, .iconst 0, 1), (1196, .ireturn, 1), (1197, .goto 378, 3), (1200, .aload_n 1, 1), (1201, .aload_n 0, 1), (1202, .iload 4, 2), (1204, .iconst 1, 1), (1205, .iadd, 1), (1206, .iaload, 1), (1207, .aload_n 3, 1)]
theorem tbL_law_660_ok : tbL_law_660.all (fun q => decide (decode cL_law q.1 = .ok q.2)) = true := by decide +kernel
theorem dL_law_1113 : decode cL_law 1113 = .ok (.aload_n 2, 1) := xdt tbL_law_660_ok 0 rfl
theorem dL_law_1114 : decode cL_law 1114 = .ok (.invokevirtual 91, 3) := xdt tbL_law_660_ok 1 rfl
theorem dL_law_1117 : decode cL_law 1117 = .ok (.iload 5, 2) := xdt tbL_law_660_ok 2 rfl
theorem dL_law_1119 : decode cL_law 1119 = .ok (.if_icmp .eq 5, 3) := xdt tbL_law_660_ok 3 rfl
theorem dL_law_1122 : decode cL_law 1122 = .ok (.iconst 0, 1) := xdt tbL_law_660_ok 4 rfl
theorem dL_law_1123 : decode cL_law 1123 = .ok (.ireturn, 1) := xdt tbL_law_660_ok 5 rfl
theorem dL_law_1124 : decode cL_law 1124 = .ok (.iload 5, 2) := xdt tbL_law_660_ok 6 rfl
theorem dL_law_1126 : decode cL_law 1126 = .ok (.ifCond .ne 15, 3) := xdt tbL_law_660_ok 7 rfl
theorem dL_law_1129 : decode cL_law 1129 = .ok (.aload_n 3, 1) := xdt tbL_law_660_ok 8 rfl
theorem dL_law_1130 : decode cL_law 1130 = .ok (.iconst 0, 1) := xdt tbL_law_660_ok 9 rfl
theorem dL_law_1131 : decode cL_law 1131 = .ok (.laload, 1) := xdt tbL_law_660_ok 10 rfl
theorem dL_law_1132 : decode cL_law 1132 = .ok (.iload 6, 2) := xdt tbL_law_660_ok 11 rfl
theorem dL_law_1134 : decode cL_law 1134 = .ok (.i2l, 1) := xdt tbL_law_660_ok 12 rfl
theorem dL_law_1135 : decode cL_law 1135 = .ok (.lcmp, 1) := xdt tbL_law_660_ok 13 rfl
theorem dL_law_1136 : decode cL_law 1136 = .ok (.ifCond .eq 5, 3) := xdt tbL_law_660_ok 14 rfl
theorem dL_law_1139 : decode cL_law 1139 = .ok (.iconst 0, 1) := xdt tbL_law_660_ok 15 rfl
theorem dL_law_1140 : decode cL_law 1140 = .ok (.ireturn, 1) := xdt tbL_law_660_ok 16 rfl
theorem dL_law_1141 : decode cL_law 1141 = .ok (.goto 434, 3) := xdt tbL_law_660_ok 17 rfl
theorem dL_law_1144 : decode cL_law 1144 = .ok (.aload_n 1, 1) := xdt tbL_law_660_ok 18 rfl
theorem dL_law_1145 : decode cL_law 1145 = .ok (.aload_n 0, 1) := xdt tbL_law_660_ok 19 rfl
theorem dL_law_1146 : decode cL_law 1146 = .ok (.iload 4, 2) := xdt tbL_law_660_ok 20 rfl
theorem dL_law_1148 : decode cL_law 1148 = .ok (.iconst 1, 1) := xdt tbL_law_660_ok 21 rfl
theorem dL_law_1149 : decode cL_law 1149 = .ok (.iadd, 1) := xdt tbL_law_660_ok 22 rfl
theorem dL_law_1150 : decode cL_law 1150 = .ok (.iaload, 1) := xdt tbL_law_660_ok 23 rfl
theorem dL_law_1151 : decode cL_law 1151 = .ok (.aload_n 3, 1) := xdt tbL_law_660_ok 24 rfl
theorem dL_law_1152 : decode cL_law 1152 = .ok (.invokestatic 145, 3) := xdt tbL_law_660_ok 25 rfl
theorem dL_law_1155 : decode cL_law 1155 = .ok (.istore 5, 2) := xdt tbL_law_660_ok 26 rfl
theorem dL_law_1157 : decode cL_law 1157 = .ok (.aload_n 2, 1) := xdt tbL_law_660_ok 27 rfl
theorem dL_law_1158 : decode cL_law 1158 = .ok (.aload_n 0, 1) := xdt tbL_law_660_ok 28 rfl
theorem dL_law_1159 : decode cL_law 1159 = .ok (.iload 4, 2) := xdt tbL_law_660_ok 29 rfl
theorem dL_law_1161 : decode cL_law 1161 = .ok (.iconst 1, 1) := xdt tbL_law_660_ok 30 rfl
theorem dL_law_1162 : decode cL_law 1162 = .ok (.iadd, 1) := xdt tbL_law_660_ok 31 rfl
theorem dL_law_1163 : decode cL_law 1163 = .ok (.iaload, 1) := xdt tbL_law_660_ok 32 rfl
theorem dL_law_1164 : decode cL_law 1164 = .ok (.invokevirtual 147, 3) := xdt tbL_law_660_ok 33 rfl
theorem dL_law_1167 : decode cL_law 1167 = .ok (.istore 6, 2) := xdt tbL_law_660_ok 34 rfl
theorem dL_law_1169 : decode cL_law 1169 = .ok (.aload_n 2, 1) := xdt tbL_law_660_ok 35 rfl
theorem dL_law_1170 : decode cL_law 1170 = .ok (.invokevirtual 91, 3) := xdt tbL_law_660_ok 36 rfl
theorem dL_law_1173 : decode cL_law 1173 = .ok (.iload 5, 2) := xdt tbL_law_660_ok 37 rfl
theorem dL_law_1175 : decode cL_law 1175 = .ok (.if_icmp .eq 5, 3) := xdt tbL_law_660_ok 38 rfl
theorem dL_law_1178 : decode cL_law 1178 = .ok (.iconst 0, 1) := xdt tbL_law_660_ok 39 rfl
theorem dL_law_1179 : decode cL_law 1179 = .ok (.ireturn, 1) := xdt tbL_law_660_ok 40 rfl
theorem dL_law_1180 : decode cL_law 1180 = .ok (.iload 5, 2) := xdt tbL_law_660_ok 41 rfl
theorem dL_law_1182 : decode cL_law 1182 = .ok (.ifCond .ne 15, 3) := xdt tbL_law_660_ok 42 rfl
theorem dL_law_1185 : decode cL_law 1185 = .ok (.aload_n 3, 1) := xdt tbL_law_660_ok 43 rfl
theorem dL_law_1186 : decode cL_law 1186 = .ok (.iconst 0, 1) := xdt tbL_law_660_ok 44 rfl
theorem dL_law_1187 : decode cL_law 1187 = .ok (.laload, 1) := xdt tbL_law_660_ok 45 rfl
theorem dL_law_1188 : decode cL_law 1188 = .ok (.iload 6, 2) := xdt tbL_law_660_ok 46 rfl
theorem dL_law_1190 : decode cL_law 1190 = .ok (.i2l, 1) := xdt tbL_law_660_ok 47 rfl
theorem dL_law_1191 : decode cL_law 1191 = .ok (.lcmp, 1) := xdt tbL_law_660_ok 48 rfl
theorem dL_law_1192 : decode cL_law 1192 = .ok (.ifCond .eq 5, 3) := xdt tbL_law_660_ok 49 rfl
theorem dL_law_1195 : decode cL_law 1195 = .ok (.iconst 0, 1) := xdt tbL_law_660_ok 50 rfl
theorem dL_law_1196 : decode cL_law 1196 = .ok (.ireturn, 1) := xdt tbL_law_660_ok 51 rfl
theorem dL_law_1197 : decode cL_law 1197 = .ok (.goto 378, 3) := xdt tbL_law_660_ok 52 rfl
theorem dL_law_1200 : decode cL_law 1200 = .ok (.aload_n 1, 1) := xdt tbL_law_660_ok 53 rfl
theorem dL_law_1201 : decode cL_law 1201 = .ok (.aload_n 0, 1) := xdt tbL_law_660_ok 54 rfl
theorem dL_law_1202 : decode cL_law 1202 = .ok (.iload 4, 2) := xdt tbL_law_660_ok 55 rfl
theorem dL_law_1204 : decode cL_law 1204 = .ok (.iconst 1, 1) := xdt tbL_law_660_ok 56 rfl
theorem dL_law_1205 : decode cL_law 1205 = .ok (.iadd, 1) := xdt tbL_law_660_ok 57 rfl
theorem dL_law_1206 : decode cL_law 1206 = .ok (.iaload, 1) := xdt tbL_law_660_ok 58 rfl
theorem dL_law_1207 : decode cL_law 1207 = .ok (.aload_n 3, 1) := xdt tbL_law_660_ok 59 rfl
def tbL_law_720 : List (Nat × Instr × Nat) := [(1208, .invokestatic 148, 3), (1211, .istore 5, 2), (1213, .aload_n 2, 1), (1214, .aload_n 0, 1), (1215, .iload 4, 2), (1217, .iconst 1, 1), (1218, .iadd, 1), (1219, .iaload, 1), (1220, .invokevirtual 150, 3), (1223, .istore 6, 2), (1225, .aload_n 2, 1), (1226, .invokevirtual 91, 3), (1229, .iload 5, 2), (1231, .if_icmp .eq 5, 3), (1234, .iconst 0, 1), (1235, .ireturn, 1), (1236, .iload 5, 2), (1238, .ifCond .ne 15, 3), (1241, .aload_n 3, 1), (1242, .iconst 0, 1), (1243, .laload, 1), (1244, .iload 6, 2), (1246, .i2l, 1), (1247, .lcmp, 1), (1248, .ifCond .eq 5, 3), (1251, .iconst 0, 1), (1252, .ireturn, 1), (1253, .goto 322, 3), (1256, .aload_n 1, 1), (1257, .aload_n 0, 1), (1258, .iload 4, 2), (1260, .iconst 1, 1), (1261, .iadd, 1), (1262, .iaload, 1), (1263, .aload_n 3, 1), (1264, .invokestatic 151, 3), (1267, .istore 5, 2), (1269, .aload_n 2, 1), (1270, .aload_n 0, 1), (1271, .iload 4, 2), (1273, .iconst 1, 1), (1274, .iadd, 1), (1275, .iaload, 1), (1276, .invokevirtual 153, 3), (1279, .istore 6, 2), (1281, .aload_n 2, 1), (1282, .invokevirtual 91, 3), (1285, .iload 5, 2), (1287, .if_icmp .eq 5, 3), (1290, .iconst 0, 1), (1291, .ireturn, 1), (1292, .iload 5, 2), (1294, .ifCond .ne 15, 3), (1297, .aload_n 3, 1), (1298, .iconst 0, 1), (1299, .laload, 1), (1300, .iload 6, 2), (1302, .i2l, 1), (1303, .lcmp, 1), (1304, .ifCond .eq 5, 3)]
theorem tbL_law_720_ok : tbL_law_720.all (fun q => decide (decode cL_law q.1 = .ok q.2)) = true := by decide +kernel
theorem dL_law_1208 : decode cL_law 1208 = .ok (.invokestatic 148, 3) := xdt tbL_law_720_ok 0 rfl
theorem dL_law_1211 : decode cL_law 1211 = .ok (.istore 5, 2) := xdt tbL_law_720_ok 1 rfl
theorem dL_law_1213 : decode cL_law 1213 = .ok (.aload_n 2, 1) := xdt tbL_law_720_ok 2 rfl
theorem dL_law_1214 : decode cL_law 1214 = .ok (.aload_n 0, 1) := xdt tbL_law_720_ok 3 rfl
theorem dL_law_1215 : decode cL_law 1215 = .ok (.iload 4, 2) := xdt tbL_law_720_ok 4 rfl
theorem dL_law_1217 : decode cL_law 1217 = .ok (.iconst 1, 1) := xdt tbL_law_720_ok 5 rfl
theorem dL_law_1218 : decode cL_law 1218 = .ok (.iadd, 1) := xdt tbL_law_720_ok 6 rfl
theorem dL_law_1219 : decode cL_law 1219 = .ok (.iaload, 1) := xdt tbL_law_720_ok 7 rfl
theorem dL_law_1220 : decode cL_law 1220 = .ok (.invokevirtual 150, 3) := xdt tbL_law_720_ok 8 rfl
theorem dL_law_1223 : decode cL_law 1223 = .ok (.istore 6, 2) := xdt tbL_law_720_ok 9 rfl
theorem dL_law_1225 : decode cL_law 1225 = .ok (.aload_n 2, 1) := xdt tbL_law_720_ok 10 rfl
theorem dL_law_1226 : decode cL_law 1226 = .ok (.invokevirtual 91, 3) := xdt tbL_law_720_ok 11 rfl
theorem dL_law_1229 : decode cL_law 1229 = .ok (.iload 5, 2) := xdt tbL_law_720_ok 12 rfl
theorem dL_law_1231 : decode cL_law 1231 = .ok (.if_icmp .eq 5, 3) := xdt tbL_law_720_ok 13 rfl
theorem dL_law_1234 : decode cL_law 1234 = .ok (.iconst 0, 1) := xdt tbL_law_720_ok 14 rfl
theorem dL_law_1235 : decode cL_law 1235 = .ok (.ireturn, 1) := xdt tbL_law_720_ok 15 rfl
theorem dL_law_1236 : decode cL_law 1236 = .ok (.iload 5, 2) := xdt tbL_law_720_ok 16 rfl
theorem dL_law_1238 : decode cL_law 1238 = .ok (.ifCond .ne 15, 3) := xdt tbL_law_720_ok 17 rfl
theorem dL_law_1241 : decode cL_law 1241 = .ok (.aload_n 3, 1) := xdt tbL_law_720_ok 18 rfl
theorem dL_law_1242 : decode cL_law 1242 = .ok (.iconst 0, 1) := xdt tbL_law_720_ok 19 rfl
theorem dL_law_1243 : decode cL_law 1243 = .ok (.laload, 1) := xdt tbL_law_720_ok 20 rfl
theorem dL_law_1244 : decode cL_law 1244 = .ok (.iload 6, 2) := xdt tbL_law_720_ok 21 rfl
theorem dL_law_1246 : decode cL_law 1246 = .ok (.i2l, 1) := xdt tbL_law_720_ok 22 rfl
theorem dL_law_1247 : decode cL_law 1247 = .ok (.lcmp, 1) := xdt tbL_law_720_ok 23 rfl
theorem dL_law_1248 : decode cL_law 1248 = .ok (.ifCond .eq 5, 3) := xdt tbL_law_720_ok 24 rfl
theorem dL_law_1251 : decode cL_law 1251 = .ok (.iconst 0, 1) := xdt tbL_law_720_ok 25 rfl
theorem dL_law_1252 : decode cL_law 1252 = .ok (.ireturn, 1) := xdt tbL_law_720_ok 26 rfl
theorem dL_law_1253 : decode cL_law 1253 = .ok (.goto 322, 3) := xdt tbL_law_720_ok 27 rfl
theorem dL_law_1256 : decode cL_law 1256 = .ok (.aload_n 1, 1) := xdt tbL_law_720_ok 28 rfl
theorem dL_law_1257 : decode cL_law 1257 = .ok (.aload_n 0, 1) := xdt tbL_law_720_ok 29 rfl
theorem dL_law_1258 : decode cL_law 1258 = .ok (.iload 4, 2) := xdt tbL_law_720_ok 30 rfl
theorem dL_law_1260 : decode cL_law 1260 = .ok (.iconst 1, 1) := xdt tbL_law_720_ok 31 rfl
theorem dL_law_1261 : decode cL_law 1261 = .ok (.iadd, 1) := xdt tbL_law_720_ok 32 rfl
theorem dL_law_1262 : decode cL_law 1262 = .ok (.iaload, 1) := xdt tbL_law_720_ok 33 rfl
theorem dL_law_1263 : decode cL_law 1263 = .ok (.aload_n 3, 1) := xdt tbL_law_720_ok 34 rfl
theorem dL_law_1264 : decode cL_law 1264 = .ok (.invokestatic 151, 3) := xdt tbL_law_720_ok 35 rfl
theorem dL_law_1267 : decode cL_law 1267 = .ok (.istore 5, 2) := xdt tbL_law_720_ok 36 rfl
theorem dL_law_1269 : decode cL_law 1269 = .ok (.aload_n 2, 1) := xdt tbL_law_720_ok 37 rfl
theorem dL_law_1270 : decode cL_law 1270 = .ok (.aload_n 0, 1) := xdt tbL_law_720_ok 38 rfl
theorem dL_law_1271 : decode cL_law 1271 = .ok (.iload 4, 2) := xdt tbL_law_720_ok 39 rfl
theorem dL_law_1273 : decode cL_law 1273 = .ok (.iconst 1, 1) := xdt tbL_law_720_ok 40 rfl
theorem dL_law_1274 : decode cL_law 1274 = .ok (.iadd, 1) := xdt tbL_law_720_ok 41 rfl
theorem dL_law_1275 : decode cL_law 1275 = .ok (.iaload, 1) := xdt tbL_law_720_ok 42 rfl
theorem dL_law_1276 : decode cL_law 1276 = .ok (.invokevirtual 153, 3) := xdt tbL_law_720_ok 43 rfl
theorem dL_law_1279 : decode cL_law 1279 = .ok (.istore 6, 2) := xdt tbL_law_720_ok 44 rfl
theorem dL_law_1281 : decode cL_law 1281 = .ok (.aload_n 2, 1) := xdt tbL_law_720_ok 45 rfl
theorem dL_law_1282 : decode cL_law 1282 = .ok (.invokevirtual 91, 3) := xdt tbL_law_720_ok 46 rfl
theorem dL_law_1285 : decode cL_law 1285 = .ok (.iload 5, 2) := xdt tbL_law_720_ok 47 rfl
theorem dL_law_1287 : decode cL_law 1287 = .ok (.if_icmp .eq 5, 3) := xdt tbL_law_720_ok 48 rfl
theorem dL_law_1290 : decode cL_law 1290 = .ok (.iconst 0, 1) := xdt tbL_law_720_ok 49 rfl
theorem dL_law_1291 : decode cL_law 1291 = .ok (.ireturn, 1) := xdt tbL_law_720_ok 50 rfl
theorem dL_law_1292 : decode cL_law 1292 = .ok (.iload 5, 2) := xdt tbL_law_720_ok 51 rfl
theorem dL_law_1294 : decode cL_law 1294 = .ok (.ifCond .ne 15, 3) := xdt tbL_law_720_ok 52 rfl
theorem dL_law_1297 : decode cL_law 1297 = .ok (.aload_n 3, 1) := xdt tbL_law_720_ok 53 rfl
theorem dL_law_1298 : decode cL_law 1298 = .ok (.iconst 0, 1) := xdt tbL_law_720_ok 54 rfl
theorem dL_law_1299 : decode cL_law 1299 = .ok (.laload, 1) := xdt tbL_law_720_ok 55 rfl
theorem dL_law_1300 : decode cL_law 1300 = .ok (.iload 6, 2) := xdt tbL_law_720_ok 56 rfl
theorem dL_law_1302 : decode cL_law 1302 = .ok (.i2l, 1) := xdt tbL_law_720_ok 57 rfl
theorem dL_law_1303 : decode cL_law 1303 = .ok (.lcmp, 1) := xdt tbL_law_720_ok 58 rfl
theorem dL_law_1304 : decode cL_law 1304 = .ok (.ifCond .eq 5, 3) := xdt tbL_law_720_ok 59 rfl
def tbL_law_780 : List (Nat × Instr × Nat) := [(1307, .iconst 0, 1), (1308, .ireturn, 1), (1309, .goto 266, 3), (1312, .aload_n 1, 1), (1313, .aload_n 0, 1), (1314, .iload 4, 2), (1316, .iconst 1, 1), (1317, .iadd, 1), (1318, .iaload, 1), (1319, .aload_n 3, 1), (1320, .invokestatic 154, 3), (1323, .istore 5, 2), (1325, .aload_n 2, 1), (1326, .aload_n 0, 1), (1327, .iload 4, 2), (1329, .iconst 1, 1), (1330, .iadd, 1), (1331, .iaload, 1), (1332, .invokevirtual 156, 3), (1335, .istore 6, 2), (1337, .aload_n 2, 1), (1338, .invokevirtual 91, 3), (1341, .iload 5, 2), (1343, .if_icmp .eq 5, 3), (1346, .iconst 0, 1), (1347, .ireturn, 1), (1348, .iload 5, 2), (1350, .ifCond .ne 15, 3), (1353, .aload_n 3, 1), (1354, .iconst 0, 1), (1355, .laload, 1), (1356, .iload 6, 2), (1358, .i2l, 1), (1359, .lcmp, 1), (1360, .ifCond .eq 5, 3), (1363, .iconst 0, 1), (1364, .ireturn, 1), (1365, .goto 210, 3), (1368, .aload_n 1, 1), (1369, .aload_n 0, 1), (1370, .iload 4, 2), (1372, .iconst 1, 1), (1373, .iadd, 1), (1374, .iaload, 1), (1375, .aload_n 3, 1), (1376, .invokestatic 157, 3), (1379, .istore 5, 2), (1381, .aload_n 2, 1), (1382, .aload_n 0, 1), (1383, .iload 4, 2), (1385, .iconst 1, 1), (1386, .iadd, 1), (1387, .iaload, 1), (1388, .invokevirtual 159, 3), (1391, .istore 6, 2), (1393, .aload_n 2, 1), (1394, .invokevirtual 91, 3), (1397, .iload 5, 2), (1399, .if_icmp .eq 5, 3), (1402, .iconst 0, 1)]
theorem tbL_law_780_ok : tbL_law_780.all (fun q => decide (decode cL_law q.1 = .ok q.2)) = true := by decide +kernel
theorem dL_law_1307 : decode cL_law 1307 = .ok (.iconst 0, 1) := xdt tbL_law_780_ok 0 rfl
theorem dL_law_1308 : decode cL_law 1308 = .ok (.ireturn, 1) := xdt tbL_law_780_ok 1 rfl
theorem dL_law_1309 : decode cL_law 1309 = .ok (.goto 266, 3) := xdt tbL_law_780_ok 2 rfl
theorem dL_law_1312 : decode cL_law 1312 = .ok (.aload_n 1, 1) := xdt tbL_law_780_ok 3 rfl
theorem dL_law_1313 : decode cL_law 1313 = .ok (.aload_n 0, 1) := xdt tbL_law_780_ok 4 rfl
theorem dL_law_1314 : decode cL_law 1314 = .ok (.iload 4, 2) := xdt tbL_law_780_ok 5 rfl
theorem dL_law_1316 : decode cL_law 1316 = .ok (.iconst 1, 1) := xdt tbL_law_780_ok 6 rfl
theorem dL_law_1317 : decode cL_law 1317 = .ok (.iadd, 1) := xdt tbL_law_780_ok 7 rfl
theorem dL_law_1318 : decode cL_law 1318 = .ok (.iaload, 1) := xdt tbL_law_780_ok 8 rfl
theorem dL_law_1319 : decode cL_law 1319 = .ok (.aload_n 3, 1) := xdt tbL_law_780_ok 9 rfl
theorem dL_law_1320 : decode cL_law 1320 = .ok (.invokestatic 154, 3) := xdt tbL_law_780_ok 10 rfl
theorem dL_law_1323 : decode cL_law 1323 = .ok (.istore 5, 2) := xdt tbL_law_780_ok 11 rfl
theorem dL_law_1325 : decode cL_law 1325 = .ok (.aload_n 2, 1) := xdt tbL_law_780_ok 12 rfl
theorem dL_law_1326 : decode cL_law 1326 = .ok (.aload_n 0, 1) := xdt tbL_law_780_ok 13 rfl
theorem dL_law_1327 : decode cL_law 1327 = .ok (.iload 4, 2) := xdt tbL_law_780_ok 14 rfl
theorem dL_law_1329 : decode cL_law 1329 = .ok (.iconst 1, 1) := xdt tbL_law_780_ok 15 rfl
theorem dL_law_1330 : decode cL_law 1330 = .ok (.iadd, 1) := xdt tbL_law_780_ok 16 rfl
theorem dL_law_1331 : decode cL_law 1331 = .ok (.iaload, 1) := xdt tbL_law_780_ok 17 rfl
theorem dL_law_1332 : decode cL_law 1332 = .ok (.invokevirtual 156, 3) := xdt tbL_law_780_ok 18 rfl
theorem dL_law_1335 : decode cL_law 1335 = .ok (.istore 6, 2) := xdt tbL_law_780_ok 19 rfl
theorem dL_law_1337 : decode cL_law 1337 = .ok (.aload_n 2, 1) := xdt tbL_law_780_ok 20 rfl
theorem dL_law_1338 : decode cL_law 1338 = .ok (.invokevirtual 91, 3) := xdt tbL_law_780_ok 21 rfl
theorem dL_law_1341 : decode cL_law 1341 = .ok (.iload 5, 2) := xdt tbL_law_780_ok 22 rfl
theorem dL_law_1343 : decode cL_law 1343 = .ok (.if_icmp .eq 5, 3) := xdt tbL_law_780_ok 23 rfl
theorem dL_law_1346 : decode cL_law 1346 = .ok (.iconst 0, 1) := xdt tbL_law_780_ok 24 rfl
theorem dL_law_1347 : decode cL_law 1347 = .ok (.ireturn, 1) := xdt tbL_law_780_ok 25 rfl
theorem dL_law_1348 : decode cL_law 1348 = .ok (.iload 5, 2) := xdt tbL_law_780_ok 26 rfl
theorem dL_law_1350 : decode cL_law 1350 = .ok (.ifCond .ne 15, 3) := xdt tbL_law_780_ok 27 rfl
theorem dL_law_1353 : decode cL_law 1353 = .ok (.aload_n 3, 1) := xdt tbL_law_780_ok 28 rfl
theorem dL_law_1354 : decode cL_law 1354 = .ok (.iconst 0, 1) := xdt tbL_law_780_ok 29 rfl
theorem dL_law_1355 : decode cL_law 1355 = .ok (.laload, 1) := xdt tbL_law_780_ok 30 rfl
theorem dL_law_1356 : decode cL_law 1356 = .ok (.iload 6, 2) := xdt tbL_law_780_ok 31 rfl
theorem dL_law_1358 : decode cL_law 1358 = .ok (.i2l, 1) := xdt tbL_law_780_ok 32 rfl
theorem dL_law_1359 : decode cL_law 1359 = .ok (.lcmp, 1) := xdt tbL_law_780_ok 33 rfl
theorem dL_law_1360 : decode cL_law 1360 = .ok (.ifCond .eq 5, 3) := xdt tbL_law_780_ok 34 rfl
theorem dL_law_1363 : decode cL_law 1363 = .ok (.iconst 0, 1) := xdt tbL_law_780_ok 35 rfl
theorem dL_law_1364 : decode cL_law 1364 = .ok (.ireturn, 1) := xdt tbL_law_780_ok 36 rfl
theorem dL_law_1365 : decode cL_law 1365 = .ok (.goto 210, 3) := xdt tbL_law_780_ok 37 rfl
theorem dL_law_1368 : decode cL_law 1368 = .ok (.aload_n 1, 1) := xdt tbL_law_780_ok 38 rfl
theorem dL_law_1369 : decode cL_law 1369 = .ok (.aload_n 0, 1) := xdt tbL_law_780_ok 39 rfl
theorem dL_law_1370 : decode cL_law 1370 = .ok (.iload 4, 2) := xdt tbL_law_780_ok 40 rfl
theorem dL_law_1372 : decode cL_law 1372 = .ok (.iconst 1, 1) := xdt tbL_law_780_ok 41 rfl
theorem dL_law_1373 : decode cL_law 1373 = .ok (.iadd, 1) := xdt tbL_law_780_ok 42 rfl
theorem dL_law_1374 : decode cL_law 1374 = .ok (.iaload, 1) := xdt tbL_law_780_ok 43 rfl
theorem dL_law_1375 : decode cL_law 1375 = .ok (.aload_n 3, 1) := xdt tbL_law_780_ok 44 rfl
theorem dL_law_1376 : decode cL_law 1376 = .ok (.invokestatic 157, 3) := xdt tbL_law_780_ok 45 rfl
theorem dL_law_1379 : decode cL_law 1379 = .ok (.istore 5, 2) := xdt tbL_law_780_ok 46 rfl
theorem dL_law_1381 : decode cL_law 1381 = .ok (.aload_n 2, 1) := xdt tbL_law_780_ok 47 rfl
theorem dL_law_1382 : decode cL_law 1382 = .ok (.aload_n 0, 1) := xdt tbL_law_780_ok 48 rfl
theorem dL_law_1383 : decode cL_law 1383 = .ok (.iload 4, 2) := xdt tbL_law_780_ok 49 rfl
theorem dL_law_1385 : decode cL_law 1385 = .ok (.iconst 1, 1) := xdt tbL_law_780_ok 50 rfl
theorem dL_law_1386 : decode cL_law 1386 = .ok (.iadd, 1) := xdt tbL_law_780_ok 51 rfl
theorem dL_law_1387 : decode cL_law 1387 = .ok (.iaload, 1) := xdt tbL_law_780_ok 52 rfl
theorem dL_law_1388 : decode cL_law 1388 = .ok (.invokevirtual 159, 3) := xdt tbL_law_780_ok 53 rfl
theorem dL_law_1391 : decode cL_law 1391 = .ok (.istore 6, 2) := xdt tbL_law_780_ok 54 rfl
theorem dL_law_1393 : decode cL_law 1393 = .ok (.aload_n 2, 1) := xdt tbL_law_780_ok 55 rfl
theorem dL_law_1394 : decode cL_law 1394 = .ok (.invokevirtual 91, 3) := xdt tbL_law_780_ok 56 rfl
theorem dL_law_1397 : decode cL_law 1397 = .ok (.iload 5, 2) := xdt tbL_law_780_ok 57 rfl
theorem dL_law_1399 : decode cL_law 1399 = .ok (.if_icmp .eq 5, 3) := xdt tbL_law_780_ok 58 rfl
theorem dL_law_1402 : decode cL_law 1402 = .ok (.iconst 0, 1) := xdt tbL_law_780_ok 59 rfl
def tbL_law_840 : List (Nat × Instr × Nat) := [(1403, .ireturn, 1), (1404, .iload 5, 2), (1406, .ifCond .ne 15, 3), (1409, .aload_n 3, 1), (1410, .iconst 0, 1), (1411, .laload, 1), (1412, .iload 6, 2), (1414, .i2l, 1), (1415, .lcmp, 1), (1416, .ifCond .eq 5, 3), (1419, .iconst 0, 1), (1420, .ireturn, 1), (1421, .goto 154, 3), (1424, .aload_n 1, 1), (1425, .aload_n 0, 1), (1426, .iload 4, 2), (1428, .iconst 1, 1), (1429, .iadd, 1), (1430, .iaload, 1), (1431, .aload_n 3, 1), (1432, .invokestatic 160, 3), (1435, .istore 5, 2), (1437, .aload_n 2, 1), (1438, .aload_n 0, 1), (1439, .iload 4, 2), (1441, .iconst 1, 1), (1442, .iadd, 1), (1443, .iaload, 1), (1444, .invokevirtual 162, 3), (1447, .istore 6, 2), (1449, .aload_n 2, 1), (1450, .invokevirtual 91, 3), (1453, .iload 5, 2), (1455, .if_icmp .eq 5, 3), (1458, .iconst 0, 1), (1459, .ireturn, 1), (1460, .iload 5, 2), (1462, .ifCond .ne 15, 3), (1465, .aload_n 3, 1), (1466, .iconst 0, 1), (1467, .laload, 1), (1468, .iload 6, 2), (1470, .i2l, 1), (1471, .lcmp, 1), (1472, .ifCond .eq 5, 3), (1475, .iconst 0, 1), (1476, .ireturn, 1), (1477, .goto 98, 3), (1480, .aload_n 1, 1), (1481, .aload_n 0, 1), (1482, .iload 4, 2), (1484, .iconst 1, 1), (1485, .iadd, 1), (1486, .iaload, 1), (1487, .aload_n 3, 1), (1488, .invokestatic 163, 3), (1491, .istore 5, 2), (1493, .aload_n 2, 1), (1494, .aload_n 0, 1), (1495, .iload 4, 2)]
theorem tbL_law_840_ok : tbL_law_840.all (fun q => decide (decode cL_law q.1 = .ok q.2)) = true := by decide +kernel
theorem dL_law_1403 : decode cL_law 1403 = .ok (.ireturn, 1) := xdt tbL_law_840_ok 0 rfl
theorem dL_law_1404 : decode cL_law 1404 = .ok (.iload 5, 2) := xdt tbL_law_840_ok 1 rfl
theorem dL_law_1406 : decode cL_law 1406 = .ok (.ifCond .ne 15, 3) := xdt tbL_law_840_ok 2 rfl
theorem dL_law_1409 : decode cL_law 1409 = .ok (.aload_n 3, 1) := xdt tbL_law_840_ok 3 rfl
theorem dL_law_1410 : decode cL_law 1410 = .ok (.iconst 0, 1) := xdt tbL_law_840_ok 4 rfl
theorem dL_law_1411 : decode cL_law 1411 = .ok (.laload, 1) := xdt tbL_law_840_ok 5 rfl
theorem dL_law_1412 : decode cL_law 1412 = .ok (.iload 6, 2) := xdt tbL_law_840_ok 6 rfl
theorem dL_law_1414 : decode cL_law 1414 = .ok (.i2l, 1) := xdt tbL_law_840_ok 7 rfl
theorem dL_law_1415 : decode cL_law 1415 = .ok (.lcmp, 1) := xdt tbL_law_840_ok 8 rfl
theorem dL_law_1416 : decode cL_law 1416 = .ok (.ifCond .eq 5, 3) := xdt tbL_law_840_ok 9 rfl
theorem dL_law_1419 : decode cL_law 1419 = .ok (.iconst 0, 1) := xdt tbL_law_840_ok 10 rfl
theorem dL_law_1420 : decode cL_law 1420 = .ok (.ireturn, 1) := xdt tbL_law_840_ok 11 rfl
theorem dL_law_1421 : decode cL_law 1421 = .ok (.goto 154, 3) := xdt tbL_law_840_ok 12 rfl
theorem dL_law_1424 : decode cL_law 1424 = .ok (.aload_n 1, 1) := xdt tbL_law_840_ok 13 rfl
theorem dL_law_1425 : decode cL_law 1425 = .ok (.aload_n 0, 1) := xdt tbL_law_840_ok 14 rfl
theorem dL_law_1426 : decode cL_law 1426 = .ok (.iload 4, 2) := xdt tbL_law_840_ok 15 rfl
theorem dL_law_1428 : decode cL_law 1428 = .ok (.iconst 1, 1) := xdt tbL_law_840_ok 16 rfl
theorem dL_law_1429 : decode cL_law 1429 = .ok (.iadd, 1) := xdt tbL_law_840_ok 17 rfl
theorem dL_law_1430 : decode cL_law 1430 = .ok (.iaload, 1) := xdt tbL_law_840_ok 18 rfl
theorem dL_law_1431 : decode cL_law 1431 = .ok (.aload_n 3, 1) := xdt tbL_law_840_ok 19 rfl
theorem dL_law_1432 : decode cL_law 1432 = .ok (.invokestatic 160, 3) := xdt tbL_law_840_ok 20 rfl
theorem dL_law_1435 : decode cL_law 1435 = .ok (.istore 5, 2) := xdt tbL_law_840_ok 21 rfl
theorem dL_law_1437 : decode cL_law 1437 = .ok (.aload_n 2, 1) := xdt tbL_law_840_ok 22 rfl
theorem dL_law_1438 : decode cL_law 1438 = .ok (.aload_n 0, 1) := xdt tbL_law_840_ok 23 rfl
theorem dL_law_1439 : decode cL_law 1439 = .ok (.iload 4, 2) := xdt tbL_law_840_ok 24 rfl
theorem dL_law_1441 : decode cL_law 1441 = .ok (.iconst 1, 1) := xdt tbL_law_840_ok 25 rfl
theorem dL_law_1442 : decode cL_law 1442 = .ok (.iadd, 1) := xdt tbL_law_840_ok 26 rfl
theorem dL_law_1443 : decode cL_law 1443 = .ok (.iaload, 1) := xdt tbL_law_840_ok 27 rfl
theorem dL_law_1444 : decode cL_law 1444 = .ok (.invokevirtual 162, 3) := xdt tbL_law_840_ok 28 rfl
theorem dL_law_1447 : decode cL_law 1447 = .ok (.istore 6, 2) := xdt tbL_law_840_ok 29 rfl
theorem dL_law_1449 : decode cL_law 1449 = .ok (.aload_n 2, 1) := xdt tbL_law_840_ok 30 rfl
theorem dL_law_1450 : decode cL_law 1450 = .ok (.invokevirtual 91, 3) := xdt tbL_law_840_ok 31 rfl
theorem dL_law_1453 : decode cL_law 1453 = .ok (.iload 5, 2) := xdt tbL_law_840_ok 32 rfl
theorem dL_law_1455 : decode cL_law 1455 = .ok (.if_icmp .eq 5, 3) := xdt tbL_law_840_ok 33 rfl
theorem dL_law_1458 : decode cL_law 1458 = .ok (.iconst 0, 1) := xdt tbL_law_840_ok 34 rfl
theorem dL_law_1459 : decode cL_law 1459 = .ok (.ireturn, 1) := xdt tbL_law_840_ok 35 rfl
theorem dL_law_1460 : decode cL_law 1460 = .ok (.iload 5, 2) := xdt tbL_law_840_ok 36 rfl
theorem dL_law_1462 : decode cL_law 1462 = .ok (.ifCond .ne 15, 3) := xdt tbL_law_840_ok 37 rfl
theorem dL_law_1465 : decode cL_law 1465 = .ok (.aload_n 3, 1) := xdt tbL_law_840_ok 38 rfl
theorem dL_law_1466 : decode cL_law 1466 = .ok (.iconst 0, 1) := xdt tbL_law_840_ok 39 rfl
theorem dL_law_1467 : decode cL_law 1467 = .ok (.laload, 1) := xdt tbL_law_840_ok 40 rfl
theorem dL_law_1468 : decode cL_law 1468 = .ok (.iload 6, 2) := xdt tbL_law_840_ok 41 rfl
theorem dL_law_1470 : decode cL_law 1470 = .ok (.i2l, 1) := xdt tbL_law_840_ok 42 rfl
theorem dL_law_1471 : decode cL_law 1471 = .ok (.lcmp, 1) := xdt tbL_law_840_ok 43 rfl
theorem dL_law_1472 : decode cL_law 1472 = .ok (.ifCond .eq 5, 3) := xdt tbL_law_840_ok 44 rfl
theorem dL_law_1475 : decode cL_law 1475 = .ok (.iconst 0, 1) := xdt tbL_law_840_ok 45 rfl
theorem dL_law_1476 : decode cL_law 1476 = .ok (.ireturn, 1) := xdt tbL_law_840_ok 46 rfl
theorem dL_law_1477 : decode cL_law 1477 = .ok (.goto 98, 3) := xdt tbL_law_840_ok 47 rfl
theorem dL_law_1480 : decode cL_law 1480 = .ok (.aload_n 1, 1) := xdt tbL_law_840_ok 48 rfl
theorem dL_law_1481 : decode cL_law 1481 = .ok (.aload_n 0, 1) := xdt tbL_law_840_ok 49 rfl
theorem dL_law_1482 : decode cL_law 1482 = .ok (.iload 4, 2) := xdt tbL_law_840_ok 50 rfl
theorem dL_law_1484 : decode cL_law 1484 = .ok (.iconst 1, 1) := xdt tbL_law_840_ok 51 rfl
theorem dL_law_1485 : decode cL_law 1485 = .ok (.iadd, 1) := xdt tbL_law_840_ok 52 rfl
theorem dL_law_1486 : decode cL_law 1486 = .ok (.iaload, 1) := xdt tbL_law_840_ok 53 rfl
theorem dL_law_1487 : decode cL_law 1487 = .ok (.aload_n 3, 1) := xdt tbL_law_840_ok 54 rfl
theorem dL_law_1488 : decode cL_law 1488 = .ok (.invokestatic 163, 3) := xdt tbL_law_840_ok 55 rfl
theorem dL_law_1491 : decode cL_law 1491 = .ok (.istore 5, 2) := xdt tbL_law_840_ok 56 rfl
theorem dL_law_1493 : decode cL_law 1493 = .ok (.aload_n 2, 1) := xdt tbL_law_840_ok 57 rfl
theorem dL_law_1494 : decode cL_law 1494 = .ok (.aload_n 0, 1) := xdt tbL_law_840_ok 58 rfl
theorem dL_law_1495 : decode cL_law 1495 = .ok (.iload 4, 2) := xdt tbL_law_840_ok 59 rfl
def tbL_law_900 : List (Nat × Instr × Nat) := [(1497, .iconst 1, 1), (1498, .iadd, 1), (1499, .iaload, 1), (1500, .invokevirtual 165, 3), (1503, .istore 6, 2), (1505, .aload_n 2, 1), (1506, .invokevirtual 91, 3), (1509, .iload 5, 2), (1511, .if_icmp .eq 5, 3), (1514, .iconst 0, 1), (1515, .ireturn, 1), (1516, .iload 5, 2), (1518, .ifCond .ne 15, 3), (1521, .aload_n 3, 1), (1522, .iconst 0, 1), (1523, .laload, 1), (1524, .iload 6, 2), (1526, .i2l, 1), (1527, .lcmp, 1), (1528, .ifCond .eq 5, 3), (1531, .iconst 0, 1), (1532, .ireturn, 1), (1533, .goto 42, 3), (1536, .aload_n 1, 1), (1537, .invokevirtual 166, 3), (1540, .aload_n 2, 1), (1541, .invokevirtual 170, 3), (1544, .lcmp, 1), (1545, .ifCond .eq 30, 3), (1548, .iconst 0, 1), (1549, .ireturn, 1), (1550, .aload_n 1, 1), (1551, .aload_n 0, 1), (1552, .iload 4, 2), (1554, .iconst 1, 1), (1555, .iadd, 1), (1556, .iaload, 1), (1557, .invokevirtual 171, 3), (1560, .aload_n 2, 1), (1561, .aload_n 0, 1), (1562, .iload 4, 2), (1564, .iconst 1, 1), (1565, .iadd, 1), (1566, .iaload, 1), (1567, .invokevirtual 174, 3), (1570, .if_icmp .eq 5, 3), (1573, .iconst 0, 1), (1574, .ireturn, 1), (1575, .iinc 4 6, 3), (1578, .goto (-1555), 3), (1581, .iconst 1, 1), (1582, .ireturn, 1)]
theorem tbL_law_900_ok : tbL_law_900.all (fun q => decide (decode cL_law q.1 = .ok q.2)) = true := by decide +kernel
theorem dL_law_1497 : decode cL_law 1497 = .ok (.iconst 1, 1) := xdt tbL_law_900_ok 0 rfl
theorem dL_law_1498 : decode cL_law 1498 = .ok (.iadd, 1) := xdt tbL_law_900_ok 1 rfl
theorem dL_law_1499 : decode cL_law 1499 = .ok (.iaload, 1) := xdt tbL_law_900_ok 2 rfl
theorem dL_law_1500 : decode cL_law 1500 = .ok (.invokevirtual 165, 3) := xdt tbL_law_900_ok 3 rfl
theorem dL_law_1503 : decode cL_law 1503 = .ok (.istore 6, 2) := xdt tbL_law_900_ok 4 rfl
theorem dL_law_1505 : decode cL_law 1505 = .ok (.aload_n 2, 1) := xdt tbL_law_900_ok 5 rfl
theorem dL_law_1506 : decode cL_law 1506 = .ok (.invokevirtual 91, 3) := xdt tbL_law_900_ok 6 rfl
theorem dL_law_1509 : decode cL_law 1509 = .ok (.iload 5, 2) := xdt tbL_law_900_ok 7 rfl
theorem dL_law_1511 : decode cL_law 1511 = .ok (.if_icmp .eq 5, 3) := xdt tbL_law_900_ok 8 rfl
theorem dL_law_1514 : decode cL_law 1514 = .ok (.iconst 0, 1) := xdt tbL_law_900_ok 9 rfl
theorem dL_law_1515 : decode cL_law 1515 = .ok (.ireturn, 1) := xdt tbL_law_900_ok 10 rfl
theorem dL_law_1516 : decode cL_law 1516 = .ok (.iload 5, 2) := xdt tbL_law_900_ok 11 rfl
theorem dL_law_1518 : decode cL_law 1518 = .ok (.ifCond .ne 15, 3) := xdt tbL_law_900_ok 12 rfl
theorem dL_law_1521 : decode cL_law 1521 = .ok (.aload_n 3, 1) := xdt tbL_law_900_ok 13 rfl
theorem dL_law_1522 : decode cL_law 1522 = .ok (.iconst 0, 1) := xdt tbL_law_900_ok 14 rfl
theorem dL_law_1523 : decode cL_law 1523 = .ok (.laload, 1) := xdt tbL_law_900_ok 15 rfl
theorem dL_law_1524 : decode cL_law 1524 = .ok (.iload 6, 2) := xdt tbL_law_900_ok 16 rfl
theorem dL_law_1526 : decode cL_law 1526 = .ok (.i2l, 1) := xdt tbL_law_900_ok 17 rfl
theorem dL_law_1527 : decode cL_law 1527 = .ok (.lcmp, 1) := xdt tbL_law_900_ok 18 rfl
theorem dL_law_1528 : decode cL_law 1528 = .ok (.ifCond .eq 5, 3) := xdt tbL_law_900_ok 19 rfl
theorem dL_law_1531 : decode cL_law 1531 = .ok (.iconst 0, 1) := xdt tbL_law_900_ok 20 rfl
theorem dL_law_1532 : decode cL_law 1532 = .ok (.ireturn, 1) := xdt tbL_law_900_ok 21 rfl
theorem dL_law_1533 : decode cL_law 1533 = .ok (.goto 42, 3) := xdt tbL_law_900_ok 22 rfl
theorem dL_law_1536 : decode cL_law 1536 = .ok (.aload_n 1, 1) := xdt tbL_law_900_ok 23 rfl
theorem dL_law_1537 : decode cL_law 1537 = .ok (.invokevirtual 166, 3) := xdt tbL_law_900_ok 24 rfl
theorem dL_law_1540 : decode cL_law 1540 = .ok (.aload_n 2, 1) := xdt tbL_law_900_ok 25 rfl
theorem dL_law_1541 : decode cL_law 1541 = .ok (.invokevirtual 170, 3) := xdt tbL_law_900_ok 26 rfl
theorem dL_law_1544 : decode cL_law 1544 = .ok (.lcmp, 1) := xdt tbL_law_900_ok 27 rfl
theorem dL_law_1545 : decode cL_law 1545 = .ok (.ifCond .eq 30, 3) := xdt tbL_law_900_ok 28 rfl
theorem dL_law_1548 : decode cL_law 1548 = .ok (.iconst 0, 1) := xdt tbL_law_900_ok 29 rfl
theorem dL_law_1549 : decode cL_law 1549 = .ok (.ireturn, 1) := xdt tbL_law_900_ok 30 rfl
theorem dL_law_1550 : decode cL_law 1550 = .ok (.aload_n 1, 1) := xdt tbL_law_900_ok 31 rfl
theorem dL_law_1551 : decode cL_law 1551 = .ok (.aload_n 0, 1) := xdt tbL_law_900_ok 32 rfl
theorem dL_law_1552 : decode cL_law 1552 = .ok (.iload 4, 2) := xdt tbL_law_900_ok 33 rfl
theorem dL_law_1554 : decode cL_law 1554 = .ok (.iconst 1, 1) := xdt tbL_law_900_ok 34 rfl
theorem dL_law_1555 : decode cL_law 1555 = .ok (.iadd, 1) := xdt tbL_law_900_ok 35 rfl
theorem dL_law_1556 : decode cL_law 1556 = .ok (.iaload, 1) := xdt tbL_law_900_ok 36 rfl
theorem dL_law_1557 : decode cL_law 1557 = .ok (.invokevirtual 171, 3) := xdt tbL_law_900_ok 37 rfl
theorem dL_law_1560 : decode cL_law 1560 = .ok (.aload_n 2, 1) := xdt tbL_law_900_ok 38 rfl
theorem dL_law_1561 : decode cL_law 1561 = .ok (.aload_n 0, 1) := xdt tbL_law_900_ok 39 rfl
theorem dL_law_1562 : decode cL_law 1562 = .ok (.iload 4, 2) := xdt tbL_law_900_ok 40 rfl
theorem dL_law_1564 : decode cL_law 1564 = .ok (.iconst 1, 1) := xdt tbL_law_900_ok 41 rfl
theorem dL_law_1565 : decode cL_law 1565 = .ok (.iadd, 1) := xdt tbL_law_900_ok 42 rfl
theorem dL_law_1566 : decode cL_law 1566 = .ok (.iaload, 1) := xdt tbL_law_900_ok 43 rfl
theorem dL_law_1567 : decode cL_law 1567 = .ok (.invokevirtual 174, 3) := xdt tbL_law_900_ok 44 rfl
theorem dL_law_1570 : decode cL_law 1570 = .ok (.if_icmp .eq 5, 3) := xdt tbL_law_900_ok 45 rfl
theorem dL_law_1573 : decode cL_law 1573 = .ok (.iconst 0, 1) := xdt tbL_law_900_ok 46 rfl
theorem dL_law_1574 : decode cL_law 1574 = .ok (.ireturn, 1) := xdt tbL_law_900_ok 47 rfl
theorem dL_law_1575 : decode cL_law 1575 = .ok (.iinc 4 6, 3) := xdt tbL_law_900_ok 48 rfl
theorem dL_law_1578 : decode cL_law 1578 = .ok (.goto (-1555), 3) := xdt tbL_law_900_ok 49 rfl
theorem dL_law_1581 : decode cL_law 1581 = .ok (.iconst 1, 1) := xdt tbL_law_900_ok 50 rfl
theorem dL_law_1582 : decode cL_law 1582 = .ok (.ireturn, 1) := xdt tbL_law_900_ok 51 rfl
abbrev mL_law : XD := (yL_law, cL_law, 7, (some .boolean), 0)
theorem q142 : (Cond.initialized "BeginJudgeLaw") ∈ xB := xmt1 0 rfl rfl
theorem q604 : (Cond.methodLink "BeginJudgeLaw" 80 ⟨"BeginJudge", "feed", "(IIIII)I"⟩) ∈ xB := xmt2 222 rfl rfl
theorem q605 : (Cond.instanceMethod ⟨"BeginJudge", "feed", "(IIIII)I"⟩) ∈ xB := xmt2 223 rfl rfl
theorem q606 : (Cond.selects "BeginJudge" ⟨"BeginJudge", "feed", "(IIIII)I"⟩ ⟨"BeginJudge", "feed", "(IIIII)I"⟩) ∈ xB := xmt2 224 rfl rfl
theorem q607 : (Cond.code ⟨"BeginJudge", "feed", "(IIIII)I"⟩ prog_1_method_2_code 6 (some .int)) ∈ xB := xmt2 225 rfl rfl
theorem q612 : (Cond.methodLink "BeginJudgeLaw" 95 ⟨"BeginJudge", "fault", "()I"⟩) ∈ xB := xmt2 230 rfl rfl
theorem q613 : (Cond.instanceMethod ⟨"BeginJudge", "fault", "()I"⟩) ∈ xB := xmt2 231 rfl rfl
theorem q614 : (Cond.selects "BeginJudge" ⟨"BeginJudge", "fault", "()I"⟩ ⟨"BeginJudge", "fault", "()I"⟩) ∈ xB := xmt2 232 rfl rfl
theorem q615 : (Cond.code ⟨"BeginJudge", "fault", "()I"⟩ prog_1_method_4_code 1 (some .int)) ∈ xB := xmt2 233 rfl rfl
theorem q616 : (Cond.methodLink "BeginJudgeLaw" 107 ⟨"BeginJudge", "undo", "()I"⟩) ∈ xB := xmt2 234 rfl rfl
theorem q617 : (Cond.instanceMethod ⟨"BeginJudge", "undo", "()I"⟩) ∈ xB := xmt2 235 rfl rfl
theorem q618 : (Cond.selects "BeginJudge" ⟨"BeginJudge", "undo", "()I"⟩ ⟨"BeginJudge", "undo", "()I"⟩) ∈ xB := xmt2 236 rfl rfl
theorem q619 : (Cond.code ⟨"BeginJudge", "undo", "()I"⟩ prog_1_method_7_code 1 (some .int)) ∈ xB := xmt2 237 rfl rfl
theorem q640 : (Cond.methodLink "BeginJudgeLaw" 132 ⟨"BeginJudge", "begun", "(I)I"⟩) ∈ xB := xmt3 18 rfl rfl
theorem q641 : (Cond.instanceMethod ⟨"BeginJudge", "begun", "(I)I"⟩) ∈ xB := xmt3 19 rfl rfl
theorem q642 : (Cond.selects "BeginJudge" ⟨"BeginJudge", "begun", "(I)I"⟩ ⟨"BeginJudge", "begun", "(I)I"⟩) ∈ xB := xmt3 20 rfl rfl
theorem q643 : (Cond.code ⟨"BeginJudge", "begun", "(I)I"⟩ prog_1_method_15_code 2 (some .int)) ∈ xB := xmt3 21 rfl rfl
theorem q728 : (Cond.methodLink "BeginJudgeLaw" 166 ⟨"BeginJudge", "print", "()J"⟩) ∈ xB := xmt3 106 rfl rfl
theorem q729 : (Cond.instanceMethod ⟨"BeginJudge", "print", "()J"⟩) ∈ xB := xmt3 107 rfl rfl
theorem q730 : (Cond.selects "BeginJudge" ⟨"BeginJudge", "print", "()J"⟩ ⟨"BeginJudge", "print", "()J"⟩) ∈ xB := xmt3 108 rfl rfl
theorem q731 : (Cond.code ⟨"BeginJudge", "print", "()J"⟩ prog_1_method_26_code 6 (some .long)) ∈ xB := xmt3 109 rfl rfl
theorem q734 : (Cond.methodLink "BeginJudgeLaw" 171 ⟨"BeginJudge", "status", "(I)I"⟩) ∈ xB := xmt3 112 rfl rfl
theorem q735 : (Cond.instanceMethod ⟨"BeginJudge", "status", "(I)I"⟩) ∈ xB := xmt3 113 rfl rfl
theorem q736 : (Cond.selects "BeginJudge" ⟨"BeginJudge", "status", "(I)I"⟩ ⟨"BeginJudge", "status", "(I)I"⟩) ∈ xB := xmt3 114 rfl rfl
theorem q737 : (Cond.code ⟨"BeginJudge", "status", "(I)I"⟩ prog_1_method_27_code 2 (some .int)) ∈ xB := xmt3 115 rfl rfl
theorem q738 : (Cond.methodLink "BeginJudgeLaw" 85 ⟨"BeginJudgeLaw", "text", "(LBeginJudge;I[J)I"⟩) ∈ xB := xmt3 116 rfl rfl
theorem q739 : (Cond.static ⟨"BeginJudgeLaw", "text", "(LBeginJudge;I[J)I"⟩) ∈ xB := xmt3 117 rfl rfl
theorem q740 : (Cond.codeWith ⟨"BeginJudgeLaw", "text", "(LBeginJudge;I[J)I"⟩ method_3_code 4 (some .int) [(0, 9, 12, 13)]) ∈ xB := xmt3 118 rfl rfl
theorem q1046 : (Cond.methodLink "BeginJudgeLaw" 99 ⟨"BeginJudgeLaw", "move", "(LBeginJudge;III[J)I"⟩) ∈ xB := xmt4 184 rfl rfl
theorem q1047 : (Cond.static ⟨"BeginJudgeLaw", "move", "(LBeginJudge;III[J)I"⟩) ∈ xB := xmt4 185 rfl rfl
theorem q1048 : (Cond.codeWith ⟨"BeginJudgeLaw", "move", "(LBeginJudge;III[J)I"⟩ method_4_code 6 (some .int) [(0, 12, 15, 19)]) ∈ xB := xmt4 186 rfl rfl
theorem q1088 : (Cond.methodLink "BeginJudgeLaw" 103 ⟨"BeginJudgeLaw", "turn", "(LBeginJudge;II[J)I"⟩) ∈ xB := xmt4 226 rfl rfl
theorem q1089 : (Cond.static ⟨"BeginJudgeLaw", "turn", "(LBeginJudge;II[J)I"⟩) ∈ xB := xmt4 227 rfl rfl
theorem q1090 : (Cond.codeWith ⟨"BeginJudgeLaw", "turn", "(LBeginJudge;II[J)I"⟩ method_5_code 5 (some .int) [(0, 10, 13, 19)]) ∈ xB := xmt4 228 rfl rfl
theorem q1096 : (Cond.methodLink "BeginJudgeLaw" 111 ⟨"BeginJudgeLaw", "told", "(LBeginJudge;I[J)I"⟩) ∈ xB := xmt4 234 rfl rfl
theorem q1097 : (Cond.static ⟨"BeginJudgeLaw", "told", "(LBeginJudge;I[J)I"⟩) ∈ xB := xmt4 235 rfl rfl
theorem q1098 : (Cond.codeWith ⟨"BeginJudgeLaw", "told", "(LBeginJudge;I[J)I"⟩ method_6_code 4 (some .int) [(0, 9, 12, 13)]) ∈ xB := xmt4 236 rfl rfl
theorem q1111 : (Cond.methodLink "BeginJudgeLaw" 114 ⟨"BeginJudgeLaw", "unit", "(LBeginJudge;II[J)I"⟩) ∈ xB := xmt5 9 rfl rfl
theorem q1112 : (Cond.static ⟨"BeginJudgeLaw", "unit", "(LBeginJudge;II[J)I"⟩) ∈ xB := xmt5 10 rfl rfl
theorem q1113 : (Cond.codeWith ⟨"BeginJudgeLaw", "unit", "(LBeginJudge;II[J)I"⟩ method_7_code 5 (some .int) [(0, 10, 13, 19), (0, 10, 17, 13)]) ∈ xB := xmt5 11 rfl rfl
theorem q1122 : (Cond.methodLink "BeginJudgeLaw" 117 ⟨"BeginJudgeLaw", "member", "(LBeginJudge;III[J)I"⟩) ∈ xB := xmt5 20 rfl rfl
theorem q1123 : (Cond.static ⟨"BeginJudgeLaw", "member", "(LBeginJudge;III[J)I"⟩) ∈ xB := xmt5 21 rfl rfl
theorem q1124 : (Cond.codeWith ⟨"BeginJudgeLaw", "member", "(LBeginJudge;III[J)I"⟩ method_8_code 6 (some .int) [(0, 12, 15, 19), (0, 12, 19, 13)]) ∈ xB := xmt5 22 rfl rfl
theorem q1145 : (Cond.methodLink "BeginJudgeLaw" 120 ⟨"BeginJudgeLaw", "lazy", "(LBeginJudge;I[J)I"⟩) ∈ xB := xmt5 43 rfl rfl
theorem q1146 : (Cond.static ⟨"BeginJudgeLaw", "lazy", "(LBeginJudge;I[J)I"⟩) ∈ xB := xmt5 44 rfl rfl
theorem q1147 : (Cond.codeWith ⟨"BeginJudgeLaw", "lazy", "(LBeginJudge;I[J)I"⟩ method_9_code 4 (some .int) [(0, 9, 12, 13)]) ∈ xB := xmt5 45 rfl rfl
theorem q1160 : (Cond.methodLink "BeginJudgeLaw" 123 ⟨"BeginJudgeLaw", "eager", "(LBeginJudge;II[J)I"⟩) ∈ xB := xmt5 58 rfl rfl
theorem q1161 : (Cond.static ⟨"BeginJudgeLaw", "eager", "(LBeginJudge;II[J)I"⟩) ∈ xB := xmt5 59 rfl rfl
theorem q1162 : (Cond.codeWith ⟨"BeginJudgeLaw", "eager", "(LBeginJudge;II[J)I"⟩ method_10_code 5 (some .int) [(0, 10, 13, 13)]) ∈ xB := xmt5 60 rfl rfl
theorem q1175 : (Cond.methodLink "BeginJudgeLaw" 126 ⟨"BeginJudgeLaw", "value", "(LBeginJudge;II[J)I"⟩) ∈ xB := xmt5 73 rfl rfl
theorem q1176 : (Cond.static ⟨"BeginJudgeLaw", "value", "(LBeginJudge;II[J)I"⟩) ∈ xB := xmt5 74 rfl rfl
theorem q1177 : (Cond.codeWith ⟨"BeginJudgeLaw", "value", "(LBeginJudge;II[J)I"⟩ method_11_code 5 (some .int) [(0, 10, 13, 19)]) ∈ xB := xmt5 75 rfl rfl
theorem q1186 : (Cond.methodLink "BeginJudgeLaw" 129 ⟨"BeginJudgeLaw", "state", "(LBeginJudge;I[J)I"⟩) ∈ xB := xmt5 84 rfl rfl
theorem q1187 : (Cond.static ⟨"BeginJudgeLaw", "state", "(LBeginJudge;I[J)I"⟩) ∈ xB := xmt5 85 rfl rfl
theorem q1188 : (Cond.codeWith ⟨"BeginJudgeLaw", "state", "(LBeginJudge;I[J)I"⟩ method_12_code 4 (some .int) [(0, 9, 12, 19)]) ∈ xB := xmt5 86 rfl rfl
theorem q1193 : (Cond.methodLink "BeginJudgeLaw" 136 ⟨"BeginJudgeLaw", "surprise", "(LBeginJudge;II[J)I"⟩) ∈ xB := xmt5 91 rfl rfl
theorem q1194 : (Cond.static ⟨"BeginJudgeLaw", "surprise", "(LBeginJudge;II[J)I"⟩) ∈ xB := xmt5 92 rfl rfl
theorem q1195 : (Cond.codeWith ⟨"BeginJudgeLaw", "surprise", "(LBeginJudge;II[J)I"⟩ method_13_code 5 (some .int) [(0, 10, 13, 19), (0, 10, 17, 13)]) ∈ xB := xmt5 93 rfl rfl
theorem q1212 : (Cond.methodLink "BeginJudgeLaw" 139 ⟨"BeginJudgeLaw", "trace", "(LBeginJudge;II[J)I"⟩) ∈ xB := xmt5 110 rfl rfl
theorem q1213 : (Cond.static ⟨"BeginJudgeLaw", "trace", "(LBeginJudge;II[J)I"⟩) ∈ xB := xmt5 111 rfl rfl
theorem q1214 : (Cond.codeWith ⟨"BeginJudgeLaw", "trace", "(LBeginJudge;II[J)I"⟩ method_14_code 5 (some .int) [(0, 10, 13, 19)]) ∈ xB := xmt5 112 rfl rfl
theorem q1219 : (Cond.methodLink "BeginJudgeLaw" 142 ⟨"BeginJudgeLaw", "broken", "(LBeginJudge;II[J)I"⟩) ∈ xB := xmt5 117 rfl rfl
theorem q1220 : (Cond.static ⟨"BeginJudgeLaw", "broken", "(LBeginJudge;II[J)I"⟩) ∈ xB := xmt5 118 rfl rfl
theorem q1221 : (Cond.codeWith ⟨"BeginJudgeLaw", "broken", "(LBeginJudge;II[J)I"⟩ method_15_code 5 (some .int) [(0, 10, 13, 19), (0, 10, 17, 13)]) ∈ xB := xmt5 119 rfl rfl
theorem q1226 : (Cond.methodLink "BeginJudgeLaw" 145 ⟨"BeginJudgeLaw", "alike", "(LBeginJudge;I[J)I"⟩) ∈ xB := xmt5 124 rfl rfl
theorem q1227 : (Cond.static ⟨"BeginJudgeLaw", "alike", "(LBeginJudge;I[J)I"⟩) ∈ xB := xmt5 125 rfl rfl
theorem q1228 : (Cond.codeWith ⟨"BeginJudgeLaw", "alike", "(LBeginJudge;I[J)I"⟩ method_16_code 4 (some .int) [(0, 9, 12, 13)]) ∈ xB := xmt5 126 rfl rfl
theorem q1241 : (Cond.methodLink "BeginJudgeLaw" 148 ⟨"BeginJudgeLaw", "fewest", "(LBeginJudge;I[J)I"⟩) ∈ xB := xmt5 139 rfl rfl
theorem q1242 : (Cond.static ⟨"BeginJudgeLaw", "fewest", "(LBeginJudge;I[J)I"⟩) ∈ xB := xmt5 140 rfl rfl
theorem q1243 : (Cond.codeWith ⟨"BeginJudgeLaw", "fewest", "(LBeginJudge;I[J)I"⟩ method_17_code 4 (some .int) [(0, 9, 12, 13)]) ∈ xB := xmt5 141 rfl rfl
theorem q1293 : (Cond.methodLink "BeginJudgeLaw" 151 ⟨"BeginJudgeLaw", "touches", "(LBeginJudge;I[J)I"⟩) ∈ xB := xmt5 191 rfl rfl
theorem q1294 : (Cond.static ⟨"BeginJudgeLaw", "touches", "(LBeginJudge;I[J)I"⟩) ∈ xB := xmt5 192 rfl rfl
theorem q1295 : (Cond.codeWith ⟨"BeginJudgeLaw", "touches", "(LBeginJudge;I[J)I"⟩ method_18_code 4 (some .int) [(0, 9, 12, 19)]) ∈ xB := xmt5 193 rfl rfl
theorem q1317 : (Cond.methodLink "BeginJudgeLaw" 154 ⟨"BeginJudgeLaw", "reach", "(LBeginJudge;I[J)I"⟩) ∈ xB := xmt5 215 rfl rfl
theorem q1318 : (Cond.static ⟨"BeginJudgeLaw", "reach", "(LBeginJudge;I[J)I"⟩) ∈ xB := xmt5 216 rfl rfl
theorem q1319 : (Cond.codeWith ⟨"BeginJudgeLaw", "reach", "(LBeginJudge;I[J)I"⟩ method_19_code 4 (some .int) [(0, 9, 12, 19)]) ∈ xB := xmt5 217 rfl rfl
theorem q1324 : (Cond.methodLink "BeginJudgeLaw" 157 ⟨"BeginJudgeLaw", "ring", "(LBeginJudge;I[J)I"⟩) ∈ xB := xmt5 222 rfl rfl
theorem q1325 : (Cond.static ⟨"BeginJudgeLaw", "ring", "(LBeginJudge;I[J)I"⟩) ∈ xB := xmt5 223 rfl rfl
theorem q1326 : (Cond.codeWith ⟨"BeginJudgeLaw", "ring", "(LBeginJudge;I[J)I"⟩ method_20_code 4 (some .int) [(0, 9, 12, 19)]) ∈ xB := xmt5 224 rfl rfl
theorem q1335 : (Cond.methodLink "BeginJudgeLaw" 160 ⟨"BeginJudgeLaw", "least", "(LBeginJudge;I[J)I"⟩) ∈ xB := xmt5 233 rfl rfl
theorem q1336 : (Cond.static ⟨"BeginJudgeLaw", "least", "(LBeginJudge;I[J)I"⟩) ∈ xB := xmt5 234 rfl rfl
theorem q1337 : (Cond.codeWith ⟨"BeginJudgeLaw", "least", "(LBeginJudge;I[J)I"⟩ method_21_code 4 (some .int) [(0, 9, 12, 13)]) ∈ xB := xmt5 235 rfl rfl
theorem q1373 : (Cond.methodLink "BeginJudgeLaw" 163 ⟨"BeginJudgeLaw", "breaks", "(LBeginJudge;I[J)I"⟩) ∈ xB := xmt6 31 rfl rfl
theorem q1374 : (Cond.static ⟨"BeginJudgeLaw", "breaks", "(LBeginJudge;I[J)I"⟩) ∈ xB := xmt6 32 rfl rfl
theorem q1375 : (Cond.codeWith ⟨"BeginJudgeLaw", "breaks", "(LBeginJudge;I[J)I"⟩ method_22_code 4 (some .int) [(0, 9, 12, 13)]) ∈ xB := xmt6 33 rfl rfl
theorem q1534 : (Cond.methodLink "BeginJudgeLaw" 91 ⟨"BeginJudgeModel", "thrown", "()I"⟩) ∈ xB := xmt6 192 rfl rfl
theorem q1535 : (Cond.instanceMethod ⟨"BeginJudgeModel", "thrown", "()I"⟩) ∈ xB := xmt6 193 rfl rfl
theorem q1536 : (Cond.selects "BeginJudgeModel" ⟨"BeginJudgeModel", "thrown", "()I"⟩ ⟨"BeginJudgeModel", "thrown", "()I"⟩) ∈ xB := xmt6 194 rfl rfl
theorem q1537 : (Cond.code ⟨"BeginJudgeModel", "thrown", "()I"⟩ prog_11_method_2_code 1 (some .int)) ∈ xB := xmt6 195 rfl rfl
theorem q1538 : (Cond.methodLink "BeginJudgeLaw" 84 ⟨"BeginJudgeModel", "feed", "(IIIII)I"⟩) ∈ xB := xmt6 196 rfl rfl
theorem q1539 : (Cond.instanceMethod ⟨"BeginJudgeModel", "feed", "(IIIII)I"⟩) ∈ xB := xmt6 197 rfl rfl
theorem q1540 : (Cond.selects "BeginJudgeModel" ⟨"BeginJudgeModel", "feed", "(IIIII)I"⟩ ⟨"BeginJudgeModel", "feed", "(IIIII)I"⟩) ∈ xB := xmt6 198 rfl rfl
theorem q1541 : (Cond.code ⟨"BeginJudgeModel", "feed", "(IIIII)I"⟩ prog_11_method_8_code 8 (some .int)) ∈ xB := xmt6 199 rfl rfl
theorem q1542 : (Cond.methodLink "BeginJudgeLaw" 90 ⟨"BeginJudgeModel", "text", "(I)I"⟩) ∈ xB := xmt6 200 rfl rfl
theorem q1543 : (Cond.instanceMethod ⟨"BeginJudgeModel", "text", "(I)I"⟩) ∈ xB := xmt6 201 rfl rfl
theorem q1544 : (Cond.selects "BeginJudgeModel" ⟨"BeginJudgeModel", "text", "(I)I"⟩ ⟨"BeginJudgeModel", "text", "(I)I"⟩) ∈ xB := xmt6 202 rfl rfl
theorem q1545 : (Cond.code ⟨"BeginJudgeModel", "text", "(I)I"⟩ prog_11_method_47_code 4 (some .int)) ∈ xB := xmt6 203 rfl rfl
theorem q1711 : (Cond.methodLink "BeginJudgeLaw" 98 ⟨"BeginJudgeModel", "fault", "()I"⟩) ∈ xB := xmt7 129 rfl rfl
theorem q1712 : (Cond.instanceMethod ⟨"BeginJudgeModel", "fault", "()I"⟩) ∈ xB := xmt7 130 rfl rfl
theorem q1713 : (Cond.selects "BeginJudgeModel" ⟨"BeginJudgeModel", "fault", "()I"⟩ ⟨"BeginJudgeModel", "fault", "()I"⟩) ∈ xB := xmt7 131 rfl rfl
theorem q1714 : (Cond.code ⟨"BeginJudgeModel", "fault", "()I"⟩ prog_11_method_48_code 1 (some .int)) ∈ xB := xmt7 132 rfl rfl
theorem q1715 : (Cond.methodLink "BeginJudgeLaw" 102 ⟨"BeginJudgeModel", "move", "(III)I"⟩) ∈ xB := xmt7 133 rfl rfl
theorem q1716 : (Cond.instanceMethod ⟨"BeginJudgeModel", "move", "(III)I"⟩) ∈ xB := xmt7 134 rfl rfl
theorem q1717 : (Cond.selects "BeginJudgeModel" ⟨"BeginJudgeModel", "move", "(III)I"⟩ ⟨"BeginJudgeModel", "move", "(III)I"⟩) ∈ xB := xmt7 135 rfl rfl
theorem q1718 : (Cond.code ⟨"BeginJudgeModel", "move", "(III)I"⟩ prog_11_method_53_code 4 (some .int)) ∈ xB := xmt7 136 rfl rfl
theorem q1735 : (Cond.methodLink "BeginJudgeLaw" 106 ⟨"BeginJudgeModel", "turn", "(II)I"⟩) ∈ xB := xmt7 153 rfl rfl
theorem q1736 : (Cond.instanceMethod ⟨"BeginJudgeModel", "turn", "(II)I"⟩) ∈ xB := xmt7 154 rfl rfl
theorem q1737 : (Cond.selects "BeginJudgeModel" ⟨"BeginJudgeModel", "turn", "(II)I"⟩ ⟨"BeginJudgeModel", "turn", "(II)I"⟩) ∈ xB := xmt7 155 rfl rfl
theorem q1738 : (Cond.code ⟨"BeginJudgeModel", "turn", "(II)I"⟩ prog_11_method_54_code 4 (some .int)) ∈ xB := xmt7 156 rfl rfl
theorem q1739 : (Cond.methodLink "BeginJudgeLaw" 110 ⟨"BeginJudgeModel", "undo", "()I"⟩) ∈ xB := xmt7 157 rfl rfl
theorem q1740 : (Cond.instanceMethod ⟨"BeginJudgeModel", "undo", "()I"⟩) ∈ xB := xmt7 158 rfl rfl
theorem q1741 : (Cond.selects "BeginJudgeModel" ⟨"BeginJudgeModel", "undo", "()I"⟩ ⟨"BeginJudgeModel", "undo", "()I"⟩) ∈ xB := xmt7 159 rfl rfl
theorem q1742 : (Cond.code ⟨"BeginJudgeModel", "undo", "()I"⟩ prog_11_method_55_code 1 (some .int)) ∈ xB := xmt7 160 rfl rfl
theorem q1743 : (Cond.methodLink "BeginJudgeLaw" 113 ⟨"BeginJudgeModel", "told", "(I)I"⟩) ∈ xB := xmt7 161 rfl rfl
theorem q1744 : (Cond.instanceMethod ⟨"BeginJudgeModel", "told", "(I)I"⟩) ∈ xB := xmt7 162 rfl rfl
theorem q1745 : (Cond.selects "BeginJudgeModel" ⟨"BeginJudgeModel", "told", "(I)I"⟩ ⟨"BeginJudgeModel", "told", "(I)I"⟩) ∈ xB := xmt7 163 rfl rfl
theorem q1746 : (Cond.code ⟨"BeginJudgeModel", "told", "(I)I"⟩ prog_11_method_72_code 4 (some .int)) ∈ xB := xmt7 164 rfl rfl
theorem q1747 : (Cond.methodLink "BeginJudgeLaw" 116 ⟨"BeginJudgeModel", "unit", "(II)I"⟩) ∈ xB := xmt7 165 rfl rfl
theorem q1748 : (Cond.instanceMethod ⟨"BeginJudgeModel", "unit", "(II)I"⟩) ∈ xB := xmt7 166 rfl rfl
theorem q1749 : (Cond.selects "BeginJudgeModel" ⟨"BeginJudgeModel", "unit", "(II)I"⟩ ⟨"BeginJudgeModel", "unit", "(II)I"⟩) ∈ xB := xmt7 167 rfl rfl
theorem q1750 : (Cond.code ⟨"BeginJudgeModel", "unit", "(II)I"⟩ prog_11_method_74_code 3 (some .int)) ∈ xB := xmt7 168 rfl rfl
theorem q1755 : (Cond.methodLink "BeginJudgeLaw" 119 ⟨"BeginJudgeModel", "member", "(III)I"⟩) ∈ xB := xmt7 173 rfl rfl
theorem q1756 : (Cond.instanceMethod ⟨"BeginJudgeModel", "member", "(III)I"⟩) ∈ xB := xmt7 174 rfl rfl
theorem q1757 : (Cond.selects "BeginJudgeModel" ⟨"BeginJudgeModel", "member", "(III)I"⟩ ⟨"BeginJudgeModel", "member", "(III)I"⟩) ∈ xB := xmt7 175 rfl rfl
theorem q1758 : (Cond.code ⟨"BeginJudgeModel", "member", "(III)I"⟩ prog_11_method_76_code 7 (some .int)) ∈ xB := xmt7 176 rfl rfl
theorem q1763 : (Cond.methodLink "BeginJudgeLaw" 122 ⟨"BeginJudgeModel", "lazy", "(I)I"⟩) ∈ xB := xmt7 181 rfl rfl
theorem q1764 : (Cond.instanceMethod ⟨"BeginJudgeModel", "lazy", "(I)I"⟩) ∈ xB := xmt7 182 rfl rfl
theorem q1765 : (Cond.selects "BeginJudgeModel" ⟨"BeginJudgeModel", "lazy", "(I)I"⟩ ⟨"BeginJudgeModel", "lazy", "(I)I"⟩) ∈ xB := xmt7 183 rfl rfl
theorem q1766 : (Cond.code ⟨"BeginJudgeModel", "lazy", "(I)I"⟩ prog_11_method_79_code 2 (some .int)) ∈ xB := xmt7 184 rfl rfl
theorem q1831 : (Cond.methodLink "BeginJudgeLaw" 125 ⟨"BeginJudgeModel", "eager", "(II)I"⟩) ∈ xB := xmt8 9 rfl rfl
theorem q1832 : (Cond.instanceMethod ⟨"BeginJudgeModel", "eager", "(II)I"⟩) ∈ xB := xmt8 10 rfl rfl
theorem q1833 : (Cond.selects "BeginJudgeModel" ⟨"BeginJudgeModel", "eager", "(II)I"⟩ ⟨"BeginJudgeModel", "eager", "(II)I"⟩) ∈ xB := xmt8 11 rfl rfl
theorem q1834 : (Cond.code ⟨"BeginJudgeModel", "eager", "(II)I"⟩ prog_11_method_80_code 3 (some .int)) ∈ xB := xmt8 12 rfl rfl
theorem q1843 : (Cond.methodLink "BeginJudgeLaw" 128 ⟨"BeginJudgeModel", "value", "(II)I"⟩) ∈ xB := xmt8 21 rfl rfl
theorem q1844 : (Cond.instanceMethod ⟨"BeginJudgeModel", "value", "(II)I"⟩) ∈ xB := xmt8 22 rfl rfl
theorem q1845 : (Cond.selects "BeginJudgeModel" ⟨"BeginJudgeModel", "value", "(II)I"⟩ ⟨"BeginJudgeModel", "value", "(II)I"⟩) ∈ xB := xmt8 23 rfl rfl
theorem q1846 : (Cond.code ⟨"BeginJudgeModel", "value", "(II)I"⟩ prog_11_method_81_code 4 (some .int)) ∈ xB := xmt8 24 rfl rfl
theorem q1847 : (Cond.methodLink "BeginJudgeLaw" 131 ⟨"BeginJudgeModel", "state", "(I)I"⟩) ∈ xB := xmt8 25 rfl rfl
theorem q1848 : (Cond.instanceMethod ⟨"BeginJudgeModel", "state", "(I)I"⟩) ∈ xB := xmt8 26 rfl rfl
theorem q1849 : (Cond.selects "BeginJudgeModel" ⟨"BeginJudgeModel", "state", "(I)I"⟩ ⟨"BeginJudgeModel", "state", "(I)I"⟩) ∈ xB := xmt8 27 rfl rfl
theorem q1850 : (Cond.code ⟨"BeginJudgeModel", "state", "(I)I"⟩ prog_11_method_82_code 2 (some .int)) ∈ xB := xmt8 28 rfl rfl
theorem q1851 : (Cond.methodLink "BeginJudgeLaw" 135 ⟨"BeginJudgeModel", "begun", "(I)I"⟩) ∈ xB := xmt8 29 rfl rfl
theorem q1852 : (Cond.instanceMethod ⟨"BeginJudgeModel", "begun", "(I)I"⟩) ∈ xB := xmt8 30 rfl rfl
theorem q1853 : (Cond.selects "BeginJudgeModel" ⟨"BeginJudgeModel", "begun", "(I)I"⟩ ⟨"BeginJudgeModel", "begun", "(I)I"⟩) ∈ xB := xmt8 31 rfl rfl
theorem q1854 : (Cond.code ⟨"BeginJudgeModel", "begun", "(I)I"⟩ prog_11_method_83_code 2 (some .int)) ∈ xB := xmt8 32 rfl rfl
theorem q1855 : (Cond.methodLink "BeginJudgeLaw" 138 ⟨"BeginJudgeModel", "surprise", "(II)I"⟩) ∈ xB := xmt8 33 rfl rfl
theorem q1856 : (Cond.instanceMethod ⟨"BeginJudgeModel", "surprise", "(II)I"⟩) ∈ xB := xmt8 34 rfl rfl
theorem q1857 : (Cond.selects "BeginJudgeModel" ⟨"BeginJudgeModel", "surprise", "(II)I"⟩ ⟨"BeginJudgeModel", "surprise", "(II)I"⟩) ∈ xB := xmt8 35 rfl rfl
theorem q1858 : (Cond.code ⟨"BeginJudgeModel", "surprise", "(II)I"⟩ prog_11_method_84_code 3 (some .int)) ∈ xB := xmt8 36 rfl rfl
theorem q1859 : (Cond.methodLink "BeginJudgeLaw" 141 ⟨"BeginJudgeModel", "trace", "(II)I"⟩) ∈ xB := xmt8 37 rfl rfl
theorem q1860 : (Cond.instanceMethod ⟨"BeginJudgeModel", "trace", "(II)I"⟩) ∈ xB := xmt8 38 rfl rfl
theorem q1861 : (Cond.selects "BeginJudgeModel" ⟨"BeginJudgeModel", "trace", "(II)I"⟩ ⟨"BeginJudgeModel", "trace", "(II)I"⟩) ∈ xB := xmt8 39 rfl rfl
theorem q1862 : (Cond.code ⟨"BeginJudgeModel", "trace", "(II)I"⟩ prog_11_method_85_code 3 (some .int)) ∈ xB := xmt8 40 rfl rfl
theorem q1863 : (Cond.methodLink "BeginJudgeLaw" 144 ⟨"BeginJudgeModel", "broken", "(II)I"⟩) ∈ xB := xmt8 41 rfl rfl
theorem q1864 : (Cond.instanceMethod ⟨"BeginJudgeModel", "broken", "(II)I"⟩) ∈ xB := xmt8 42 rfl rfl
theorem q1865 : (Cond.selects "BeginJudgeModel" ⟨"BeginJudgeModel", "broken", "(II)I"⟩ ⟨"BeginJudgeModel", "broken", "(II)I"⟩) ∈ xB := xmt8 43 rfl rfl
theorem q1866 : (Cond.code ⟨"BeginJudgeModel", "broken", "(II)I"⟩ prog_11_method_86_code 3 (some .int)) ∈ xB := xmt8 44 rfl rfl
theorem q1867 : (Cond.methodLink "BeginJudgeLaw" 147 ⟨"BeginJudgeModel", "alike", "(I)I"⟩) ∈ xB := xmt8 45 rfl rfl
theorem q1868 : (Cond.instanceMethod ⟨"BeginJudgeModel", "alike", "(I)I"⟩) ∈ xB := xmt8 46 rfl rfl
theorem q1869 : (Cond.selects "BeginJudgeModel" ⟨"BeginJudgeModel", "alike", "(I)I"⟩ ⟨"BeginJudgeModel", "alike", "(I)I"⟩) ∈ xB := xmt8 47 rfl rfl
theorem q1870 : (Cond.code ⟨"BeginJudgeModel", "alike", "(I)I"⟩ prog_11_method_87_code 6 (some .int)) ∈ xB := xmt8 48 rfl rfl
theorem q1871 : (Cond.methodLink "BeginJudgeLaw" 150 ⟨"BeginJudgeModel", "fewest", "(I)I"⟩) ∈ xB := xmt8 49 rfl rfl
theorem q1872 : (Cond.instanceMethod ⟨"BeginJudgeModel", "fewest", "(I)I"⟩) ∈ xB := xmt8 50 rfl rfl
theorem q1873 : (Cond.selects "BeginJudgeModel" ⟨"BeginJudgeModel", "fewest", "(I)I"⟩ ⟨"BeginJudgeModel", "fewest", "(I)I"⟩) ∈ xB := xmt8 51 rfl rfl
theorem q1874 : (Cond.code ⟨"BeginJudgeModel", "fewest", "(I)I"⟩ prog_11_method_92_code 7 (some .int)) ∈ xB := xmt8 52 rfl rfl
theorem q1892 : (Cond.methodLink "BeginJudgeLaw" 153 ⟨"BeginJudgeModel", "touches", "(I)I"⟩) ∈ xB := xmt8 70 rfl rfl
theorem q1893 : (Cond.instanceMethod ⟨"BeginJudgeModel", "touches", "(I)I"⟩) ∈ xB := xmt8 71 rfl rfl
theorem q1894 : (Cond.selects "BeginJudgeModel" ⟨"BeginJudgeModel", "touches", "(I)I"⟩ ⟨"BeginJudgeModel", "touches", "(I)I"⟩) ∈ xB := xmt8 72 rfl rfl
theorem q1895 : (Cond.code ⟨"BeginJudgeModel", "touches", "(I)I"⟩ prog_11_method_98_code 2 (some .int)) ∈ xB := xmt8 73 rfl rfl
theorem q1912 : (Cond.methodLink "BeginJudgeLaw" 156 ⟨"BeginJudgeModel", "reach", "(I)I"⟩) ∈ xB := xmt8 90 rfl rfl
theorem q1913 : (Cond.instanceMethod ⟨"BeginJudgeModel", "reach", "(I)I"⟩) ∈ xB := xmt8 91 rfl rfl
theorem q1914 : (Cond.selects "BeginJudgeModel" ⟨"BeginJudgeModel", "reach", "(I)I"⟩ ⟨"BeginJudgeModel", "reach", "(I)I"⟩) ∈ xB := xmt8 92 rfl rfl
theorem q1915 : (Cond.code ⟨"BeginJudgeModel", "reach", "(I)I"⟩ prog_11_method_99_code 2 (some .int)) ∈ xB := xmt8 93 rfl rfl
theorem q1920 : (Cond.methodLink "BeginJudgeLaw" 159 ⟨"BeginJudgeModel", "ring", "(I)I"⟩) ∈ xB := xmt8 98 rfl rfl
theorem q1921 : (Cond.instanceMethod ⟨"BeginJudgeModel", "ring", "(I)I"⟩) ∈ xB := xmt8 99 rfl rfl
theorem q1922 : (Cond.selects "BeginJudgeModel" ⟨"BeginJudgeModel", "ring", "(I)I"⟩ ⟨"BeginJudgeModel", "ring", "(I)I"⟩) ∈ xB := xmt8 100 rfl rfl
theorem q1923 : (Cond.code ⟨"BeginJudgeModel", "ring", "(I)I"⟩ prog_11_method_100_code 5 (some .int)) ∈ xB := xmt8 101 rfl rfl
theorem q1924 : (Cond.methodLink "BeginJudgeLaw" 162 ⟨"BeginJudgeModel", "least", "(I)I"⟩) ∈ xB := xmt8 102 rfl rfl
theorem q1925 : (Cond.instanceMethod ⟨"BeginJudgeModel", "least", "(I)I"⟩) ∈ xB := xmt8 103 rfl rfl
theorem q1926 : (Cond.selects "BeginJudgeModel" ⟨"BeginJudgeModel", "least", "(I)I"⟩ ⟨"BeginJudgeModel", "least", "(I)I"⟩) ∈ xB := xmt8 104 rfl rfl
theorem q1927 : (Cond.code ⟨"BeginJudgeModel", "least", "(I)I"⟩ prog_11_method_103_code 6 (some .int)) ∈ xB := xmt8 105 rfl rfl
theorem q1939 : (Cond.methodLink "BeginJudgeLaw" 165 ⟨"BeginJudgeModel", "breaks", "(I)I"⟩) ∈ xB := xmt8 117 rfl rfl
theorem q1940 : (Cond.instanceMethod ⟨"BeginJudgeModel", "breaks", "(I)I"⟩) ∈ xB := xmt8 118 rfl rfl
theorem q1941 : (Cond.selects "BeginJudgeModel" ⟨"BeginJudgeModel", "breaks", "(I)I"⟩ ⟨"BeginJudgeModel", "breaks", "(I)I"⟩) ∈ xB := xmt8 119 rfl rfl
theorem q1942 : (Cond.code ⟨"BeginJudgeModel", "breaks", "(I)I"⟩ prog_11_method_104_code 2 (some .int)) ∈ xB := xmt8 120 rfl rfl
theorem q1943 : (Cond.methodLink "BeginJudgeLaw" 170 ⟨"BeginJudgeModel", "print", "()J"⟩) ∈ xB := xmt8 121 rfl rfl
theorem q1944 : (Cond.instanceMethod ⟨"BeginJudgeModel", "print", "()J"⟩) ∈ xB := xmt8 122 rfl rfl
theorem q1945 : (Cond.selects "BeginJudgeModel" ⟨"BeginJudgeModel", "print", "()J"⟩ ⟨"BeginJudgeModel", "print", "()J"⟩) ∈ xB := xmt8 123 rfl rfl
theorem q1946 : (Cond.code ⟨"BeginJudgeModel", "print", "()J"⟩ prog_11_method_105_code 5 (some .long)) ∈ xB := xmt8 124 rfl rfl
theorem q1948 : (Cond.methodLink "BeginJudgeLaw" 174 ⟨"BeginJudgeModel", "status", "(I)I"⟩) ∈ xB := xmt8 126 rfl rfl
theorem q1949 : (Cond.instanceMethod ⟨"BeginJudgeModel", "status", "(I)I"⟩) ∈ xB := xmt8 127 rfl rfl
theorem q1950 : (Cond.selects "BeginJudgeModel" ⟨"BeginJudgeModel", "status", "(I)I"⟩ ⟨"BeginJudgeModel", "status", "(I)I"⟩) ∈ xB := xmt8 128 rfl rfl
theorem q1951 : (Cond.code ⟨"BeginJudgeModel", "status", "(I)I"⟩ prog_11_method_106_code 2 (some .int)) ∈ xB := xmt8 129 rfl rfl
theorem lmL_102 : xmv RL 102 mX9_move 3 9 := ⟨⟨q1715, q1718, q152, by decide +kernel, by decide⟩, q1716, q1717, by decide, TX9, 47, rfl⟩
theorem lmL_103 : xmw RL 103 mL_turn [(0, 10, 13, 19)] 4 := ⟨q1088, q1090, q142, q1089, by decide +kernel, by decide⟩
theorem lmL_106 : xmv RL 106 mX9_turn 2 9 := ⟨⟨q1735, q1738, q152, by decide +kernel, by decide⟩, q1736, q1737, by decide, TX9, 47, rfl⟩
theorem lmL_107 : xmv RL 107 mX8_undo 0 8 := ⟨⟨q616, q619, q143, by decide +kernel, by decide⟩, q617, q618, by decide, TX8, 14, rfl⟩
theorem lmL_110 : xmv RL 110 mX9_undo 0 9 := ⟨⟨q1739, q1742, q152, by decide +kernel, by decide⟩, q1740, q1741, by decide, TX9, 47, rfl⟩
theorem lmL_111 : xmw RL 111 mL_told [(0, 9, 12, 13)] 3 := ⟨q1096, q1098, q142, q1097, by decide +kernel, by decide⟩
theorem lmL_113 : xmv RL 113 mX9_told 1 9 := ⟨⟨q1743, q1746, q152, by decide +kernel, by decide⟩, q1744, q1745, by decide, TX9, 47, rfl⟩
theorem lmL_114 : xmw RL 114 mL_unit [(0, 10, 13, 19), (0, 10, 17, 13)] 4 := ⟨q1111, q1113, q142, q1112, by decide +kernel, by decide⟩
theorem lmL_116 : xmv RL 116 mX9_unit 2 9 := ⟨⟨q1747, q1750, q152, by decide +kernel, by decide⟩, q1748, q1749, by decide, TX9, 47, rfl⟩
theorem lmL_117 : xmw RL 117 mL_member [(0, 12, 15, 19), (0, 12, 19, 13)] 5 := ⟨q1122, q1124, q142, q1123, by decide +kernel, by decide⟩
theorem lmL_119 : xmv RL 119 mX9_member 3 9 := ⟨⟨q1755, q1758, q152, by decide +kernel, by decide⟩, q1756, q1757, by decide, TX9, 47, rfl⟩
theorem lmL_120 : xmw RL 120 mL_lazy [(0, 9, 12, 13)] 3 := ⟨q1145, q1147, q142, q1146, by decide +kernel, by decide⟩
theorem lmL_122 : xmv RL 122 mX9_lazy 1 9 := ⟨⟨q1763, q1766, q152, by decide +kernel, by decide⟩, q1764, q1765, by decide, TX9, 47, rfl⟩
theorem lmL_123 : xmw RL 123 mL_eager [(0, 10, 13, 13)] 4 := ⟨q1160, q1162, q142, q1161, by decide +kernel, by decide⟩
theorem lmL_125 : xmv RL 125 mX9_eager 2 9 := ⟨⟨q1831, q1834, q152, by decide +kernel, by decide⟩, q1832, q1833, by decide, TX9, 47, rfl⟩
theorem lmL_126 : xmw RL 126 mL_value [(0, 10, 13, 19)] 4 := ⟨q1175, q1177, q142, q1176, by decide +kernel, by decide⟩
theorem lmL_128 : xmv RL 128 mX9_value 2 9 := ⟨⟨q1843, q1846, q152, by decide +kernel, by decide⟩, q1844, q1845, by decide, TX9, 47, rfl⟩
theorem lmL_129 : xmw RL 129 mL_state [(0, 9, 12, 19)] 3 := ⟨q1186, q1188, q142, q1187, by decide +kernel, by decide⟩
theorem lmL_131 : xmv RL 131 mX9_state 1 9 := ⟨⟨q1847, q1850, q152, by decide +kernel, by decide⟩, q1848, q1849, by decide, TX9, 47, rfl⟩
theorem lmL_132 : xmv RL 132 mX8_begun 1 8 := ⟨⟨q640, q643, q143, by decide +kernel, by decide⟩, q641, q642, by decide, TX8, 14, rfl⟩
theorem lmL_135 : xmv RL 135 mX9_begun 1 9 := ⟨⟨q1851, q1854, q152, by decide +kernel, by decide⟩, q1852, q1853, by decide, TX9, 47, rfl⟩
theorem lmL_136 : xmw RL 136 mL_surprise [(0, 10, 13, 19), (0, 10, 17, 13)] 4 := ⟨q1193, q1195, q142, q1194, by decide +kernel, by decide⟩
theorem lmL_138 : xmv RL 138 mX9_surprise 2 9 := ⟨⟨q1855, q1858, q152, by decide +kernel, by decide⟩, q1856, q1857, by decide, TX9, 47, rfl⟩
theorem lmL_139 : xmw RL 139 mL_trace [(0, 10, 13, 19)] 4 := ⟨q1212, q1214, q142, q1213, by decide +kernel, by decide⟩
theorem lmL_141 : xmv RL 141 mX9_trace 2 9 := ⟨⟨q1859, q1862, q152, by decide +kernel, by decide⟩, q1860, q1861, by decide, TX9, 47, rfl⟩
theorem lmL_142 : xmw RL 142 mL_broken [(0, 10, 13, 19), (0, 10, 17, 13)] 4 := ⟨q1219, q1221, q142, q1220, by decide +kernel, by decide⟩
theorem lmL_144 : xmv RL 144 mX9_broken 2 9 := ⟨⟨q1863, q1866, q152, by decide +kernel, by decide⟩, q1864, q1865, by decide, TX9, 47, rfl⟩
theorem lmL_145 : xmw RL 145 mL_alike [(0, 9, 12, 13)] 3 := ⟨q1226, q1228, q142, q1227, by decide +kernel, by decide⟩
theorem lmL_147 : xmv RL 147 mX9_alike 1 9 := ⟨⟨q1867, q1870, q152, by decide +kernel, by decide⟩, q1868, q1869, by decide, TX9, 47, rfl⟩
theorem lmL_148 : xmw RL 148 mL_fewest [(0, 9, 12, 13)] 3 := ⟨q1241, q1243, q142, q1242, by decide +kernel, by decide⟩
theorem lmL_150 : xmv RL 150 mX9_fewest 1 9 := ⟨⟨q1871, q1874, q152, by decide +kernel, by decide⟩, q1872, q1873, by decide, TX9, 47, rfl⟩
theorem lmL_151 : xmw RL 151 mL_touches [(0, 9, 12, 19)] 3 := ⟨q1293, q1295, q142, q1294, by decide +kernel, by decide⟩
theorem lmL_153 : xmv RL 153 mX9_touches 1 9 := ⟨⟨q1892, q1895, q152, by decide +kernel, by decide⟩, q1893, q1894, by decide, TX9, 47, rfl⟩
theorem lmL_154 : xmw RL 154 mL_reach [(0, 9, 12, 19)] 3 := ⟨q1317, q1319, q142, q1318, by decide +kernel, by decide⟩
theorem lmL_156 : xmv RL 156 mX9_reach 1 9 := ⟨⟨q1912, q1915, q152, by decide +kernel, by decide⟩, q1913, q1914, by decide, TX9, 47, rfl⟩
theorem lmL_157 : xmw RL 157 mL_ring [(0, 9, 12, 19)] 3 := ⟨q1324, q1326, q142, q1325, by decide +kernel, by decide⟩
theorem lmL_159 : xmv RL 159 mX9_ring 1 9 := ⟨⟨q1920, q1923, q152, by decide +kernel, by decide⟩, q1921, q1922, by decide, TX9, 47, rfl⟩
theorem lmL_160 : xmw RL 160 mL_least [(0, 9, 12, 13)] 3 := ⟨q1335, q1337, q142, q1336, by decide +kernel, by decide⟩
theorem lmL_162 : xmv RL 162 mX9_least 1 9 := ⟨⟨q1924, q1927, q152, by decide +kernel, by decide⟩, q1925, q1926, by decide, TX9, 47, rfl⟩
theorem lmL_163 : xmw RL 163 mL_breaks [(0, 9, 12, 13)] 3 := ⟨q1373, q1375, q142, q1374, by decide +kernel, by decide⟩
theorem lmL_165 : xmv RL 165 mX9_breaks 1 9 := ⟨⟨q1939, q1942, q152, by decide +kernel, by decide⟩, q1940, q1941, by decide, TX9, 47, rfl⟩
theorem lmL_166 : xmv RL 166 mX8_print 0 8 := ⟨⟨q728, q731, q143, by decide +kernel, by decide⟩, q729, q730, by decide, TX8, 14, rfl⟩
theorem lmL_170 : xmv RL 170 mX9_print 0 9 := ⟨⟨q1943, q1946, q152, by decide +kernel, by decide⟩, q1944, q1945, by decide, TX9, 47, rfl⟩
theorem lmL_171 : xmv RL 171 mX8_status 1 8 := ⟨⟨q734, q737, q143, by decide +kernel, by decide⟩, q735, q736, by decide, TX8, 14, rfl⟩
theorem lmL_174 : xmv RL 174 mX9_status 1 9 := ⟨⟨q1948, q1951, q152, by decide +kernel, by decide⟩, q1949, q1950, by decide, TX9, 47, rfl⟩
theorem lmL_80 : xmv RL 80 mX8_feed 5 8 := ⟨⟨q604, q607, q143, by decide +kernel, by decide⟩, q605, q606, by decide, TX8, 14, rfl⟩
theorem lmL_84 : xmv RL 84 mX9_feed 5 9 := ⟨⟨q1538, q1541, q152, by decide +kernel, by decide⟩, q1539, q1540, by decide, TX9, 47, rfl⟩
theorem lmL_85 : xmw RL 85 mL_text [(0, 9, 12, 13)] 3 := ⟨q738, q740, q142, q739, by decide +kernel, by decide⟩
theorem lmL_90 : xmv RL 90 mX9_text 1 9 := ⟨⟨q1542, q1545, q152, by decide +kernel, by decide⟩, q1543, q1544, by decide, TX9, 47, rfl⟩
theorem lmL_91 : xmv RL 91 mX9_thrown 0 9 := ⟨⟨q1534, q1537, q152, by decide +kernel, by decide⟩, q1535, q1536, by decide, TX9, 47, rfl⟩
theorem lmL_95 : xmv RL 95 mX8_fault 0 8 := ⟨⟨q612, q615, q143, by decide +kernel, by decide⟩, q613, q614, by decide, TX8, 14, rfl⟩
theorem lmL_98 : xmv RL 98 mX9_fault 0 9 := ⟨⟨q1711, q1714, q152, by decide +kernel, by decide⟩, q1712, q1713, by decide, TX9, 47, rfl⟩
theorem lmL_99 : xmw RL 99 mL_move [(0, 12, 15, 19)] 5 := ⟨q1046, q1048, q142, q1047, by decide +kernel, by decide⟩
theorem xfitL {A : Nat → Prop} {c0 s0 d' : Nat} (h : d' + 1 ≤ 1100) : xfits (room_1, A, c0, s0) d' := ⟨Nat.le_trans h (show 1100 ≤ 2048 from Nat.le_of_ble_eq_true rfl), by show 48 * (d' + 1) ≤ 84000; omega⟩
def fLaw_23 (N : Nat → Nat) (L : Nat) (xs : Nat → Int32) : Nat → Nat → Nat → Nat → Nat → Int32 → XM → Option Unit
  | 0, _, _, _, _, _, _ => none
  | n + 1, q0, q1, q2, q3, x4, m0 => xv (fun q0 q1 q2 q3 x4 m0 => fLaw_23 N L xs n q0 q1 q2 q3 x4 m0) fun r23 =>
    xv (Int32.ofNat L) fun v1 => xv (v1 - 6 : Int32) fun v2 => if v2 < (x4 : Int32) then (some ()) else (xsl L xs x4 fun v3 => xv (v3 &&& 31 : Int32) fun v4 => if (v4 : Int32) = 0 then (xv (x4 + 1 : Int32) fun v6 => xsl L xs v6 fun v7 => xv (x4 + 2 : Int32) fun v8 => xsl L xs v8 fun v9 => xv (x4 + 3 : Int32) fun v10 => xsl L xs v10 fun v11 => xv (x4 + 4 : Int32) fun v12 => xsl L xs v12 fun v13 => xv (x4 + 5 : Int32) fun v14 => xsl L xs v14 fun v15 => xca (fX8_feed N q1 v7 v9 v11 v13 v15 m0) fun v17 m16 => xv (x4 + 1 : Int32) fun v18 => xsl L xs v18 fun v19 => xv (x4 + 2 : Int32) fun v20 => xsl L xs v20 fun v21 => xv (x4 + 3 : Int32) fun v22 => xsl L xs v22 fun v23 => xv (x4 + 4 : Int32) fun v24 => xsl L xs v24 fun v25 => xv (x4 + 5 : Int32) fun v26 => xsl L xs v26 fun v27 => xca (fX9_feed N q2 v19 v21 v23 v25 v27 m16) fun v29 m28 => if (v17 : Int32) = v29 then (xv (x4 + 6) fun v30 => r23 q0 q1 q2 q3 v30 m28) else (none)) else (if (v4 : Int32) = 1 then (xv (x4 + 1 : Int32) fun v32 => xsl L xs v32 fun v33 => xca (fwL_text N q1 v33 q3 m0) fun v34 m35 => xv (x4 + 1 : Int32) fun v36 => xsl L xs v36 fun v37 => xca (fX9_text N q2 v37 m35) fun v39 m38 => xca (fX9_thrown N q2 m38) fun v41 m40 => if (v41 : Int32) = v34 then (if (v34 : Int32) = 0 then (xlld N m40 q3 0 fun v43 => xv ((v39 : Int32).toInt64) fun w44 => xv (lg_cmp v43 w44) fun v45 => if (v45 : Int32) = 0 then (xv (x4 + 6) fun v46 => r23 q0 q1 q2 q3 v46 m40) else (none)) else (xv (x4 + 6) fun v42 => r23 q0 q1 q2 q3 v42 m40)) else (none)) else (if (v4 : Int32) = 2 then (xca (fX8_fault N q1 m0) fun v49 m48 => xca (fX9_fault N q2 m48) fun v51 m50 => if (v49 : Int32) = v51 then (xv (x4 + 6) fun v52 => r23 q0 q1 q2 q3 v52 m50) else (none)) else (if (v4 : Int32) = 3 then (xv (x4 + 1 : Int32) fun v54 => xsl L xs v54 fun v55 => xv (x4 + 2 : Int32) fun v56 => xsl L xs v56 fun v57 => xv (x4 + 3 : Int32) fun v58 => xsl L xs v58 fun v59 => xca (fwL_move N q1 v55 v57 v59 q3 m0) fun v60 m61 => xv (x4 + 1 : Int32) fun v62 => xsl L xs v62 fun v63 => xv (x4 + 2 : Int32) fun v64 => xsl L xs v64 fun v65 => xv (x4 + 3 : Int32) fun v66 => xsl L xs v66 fun v67 => xca (fX9_move N q2 v63 v65 v67 m61) fun v69 m68 => xca (fX9_thrown N q2 m68) fun v71 m70 => if (v71 : Int32) = v60 then (if (v60 : Int32) = 0 then (xlld N m70 q3 0 fun v73 => xv ((v69 : Int32).toInt64) fun w74 => xv (lg_cmp v73 w74) fun v75 => if (v75 : Int32) = 0 then (xv (x4 + 6) fun v76 => r23 q0 q1 q2 q3 v76 m70) else (none)) else (xv (x4 + 6) fun v72 => r23 q0 q1 q2 q3 v72 m70)) else (none)) else (if (v4 : Int32) = 4 then (xv (x4 + 1 : Int32) fun v78 => xsl L xs v78 fun v79 => xv (x4 + 2 : Int32) fun v80 => xsl L xs v80 fun v81 => xca (fwL_turn N q1 v79 v81 q3 m0) fun v82 m83 => xv (x4 + 1 : Int32) fun v84 => xsl L xs v84 fun v85 => xv (x4 + 2 : Int32) fun v86 => xsl L xs v86 fun v87 => xca (fX9_turn N q2 v85 v87 m83) fun v89 m88 => xca (fX9_thrown N q2 m88) fun v91 m90 => if (v91 : Int32) = v82 then (if (v82 : Int32) = 0 then (xlld N m90 q3 0 fun v93 => xv ((v89 : Int32).toInt64) fun w94 => xv (lg_cmp v93 w94) fun v95 => if (v95 : Int32) = 0 then (xv (x4 + 6) fun v96 => r23 q0 q1 q2 q3 v96 m90) else (none)) else (xv (x4 + 6) fun v92 => r23 q0 q1 q2 q3 v92 m90)) else (none)) else (if (v4 : Int32) = 5 then (xca (fX8_undo N q1 m0) fun v99 m98 => xca (fX9_undo N q2 m98) fun v101 m100 => if (v99 : Int32) = v101 then (xv (x4 + 6) fun v102 => r23 q0 q1 q2 q3 v102 m100) else (none)) else (if (v4 : Int32) = 6 then (xv (x4 + 1 : Int32) fun v104 => xsl L xs v104 fun v105 => xca (fwL_told N q1 v105 q3 m0) fun v106 m107 => xv (x4 + 1 : Int32) fun v108 => xsl L xs v108 fun v109 => xca (fX9_told N q2 v109 m107) fun v111 m110 => xca (fX9_thrown N q2 m110) fun v113 m112 => if (v113 : Int32) = v106 then (if (v106 : Int32) = 0 then (xlld N m112 q3 0 fun v115 => xv ((v111 : Int32).toInt64) fun w116 => xv (lg_cmp v115 w116) fun v117 => if (v117 : Int32) = 0 then (xv (x4 + 6) fun v118 => r23 q0 q1 q2 q3 v118 m112) else (none)) else (xv (x4 + 6) fun v114 => r23 q0 q1 q2 q3 v114 m112)) else (none)) else (if (v4 : Int32) = 7 then (xv (x4 + 1 : Int32) fun v120 => xsl L xs v120 fun v121 => xv (x4 + 2 : Int32) fun v122 => xsl L xs v122 fun v123 => xca (fwL_unit N q1 v121 v123 q3 m0) fun v124 m125 => xv (x4 + 1 : Int32) fun v126 => xsl L xs v126 fun v127 => xv (x4 + 2 : Int32) fun v128 => xsl L xs v128 fun v129 => xca (fX9_unit N q2 v127 v129 m125) fun v131 m130 => xca (fX9_thrown N q2 m130) fun v133 m132 => if (v133 : Int32) = v124 then (if (v124 : Int32) = 0 then (xlld N m132 q3 0 fun v135 => xv ((v131 : Int32).toInt64) fun w136 => xv (lg_cmp v135 w136) fun v137 => if (v137 : Int32) = 0 then (xv (x4 + 6) fun v138 => r23 q0 q1 q2 q3 v138 m132) else (none)) else (xv (x4 + 6) fun v134 => r23 q0 q1 q2 q3 v134 m132)) else (none)) else (if (v4 : Int32) = 8 then (xv (x4 + 1 : Int32) fun v140 => xsl L xs v140 fun v141 => xv (x4 + 2 : Int32) fun v142 => xsl L xs v142 fun v143 => xv (x4 + 3 : Int32) fun v144 => xsl L xs v144 fun v145 => xca (fwL_member N q1 v141 v143 v145 q3 m0) fun v146 m147 => xv (x4 + 1 : Int32) fun v148 => xsl L xs v148 fun v149 => xv (x4 + 2 : Int32) fun v150 => xsl L xs v150 fun v151 => xv (x4 + 3 : Int32) fun v152 => xsl L xs v152 fun v153 => xca (fX9_member N q2 v149 v151 v153 m147) fun v155 m154 => xca (fX9_thrown N q2 m154) fun v157 m156 => if (v157 : Int32) = v146 then (if (v146 : Int32) = 0 then (xlld N m156 q3 0 fun v159 => xv ((v155 : Int32).toInt64) fun w160 => xv (lg_cmp v159 w160) fun v161 => if (v161 : Int32) = 0 then (xv (x4 + 6) fun v162 => r23 q0 q1 q2 q3 v162 m156) else (none)) else (xv (x4 + 6) fun v158 => r23 q0 q1 q2 q3 v158 m156)) else (none)) else (if (v4 : Int32) = 9 then (xv (x4 + 1 : Int32) fun v164 => xsl L xs v164 fun v165 => xca (fwL_lazy N q1 v165 q3 m0) fun v166 m167 => xv (x4 + 1 : Int32) fun v168 => xsl L xs v168 fun v169 => xca (fX9_lazy N q2 v169 m167) fun v171 m170 => xca (fX9_thrown N q2 m170) fun v173 m172 => if (v173 : Int32) = v166 then (if (v166 : Int32) = 0 then (xlld N m172 q3 0 fun v175 => xv ((v171 : Int32).toInt64) fun w176 => xv (lg_cmp v175 w176) fun v177 => if (v177 : Int32) = 0 then (xv (x4 + 6) fun v178 => r23 q0 q1 q2 q3 v178 m172) else (none)) else (xv (x4 + 6) fun v174 => r23 q0 q1 q2 q3 v174 m172)) else (none)) else (if (v4 : Int32) = 10 then (xv (x4 + 1 : Int32) fun v180 => xsl L xs v180 fun v181 => xv (x4 + 2 : Int32) fun v182 => xsl L xs v182 fun v183 => xca (fwL_eager N q1 v181 v183 q3 m0) fun v184 m185 => xv (x4 + 1 : Int32) fun v186 => xsl L xs v186 fun v187 => xv (x4 + 2 : Int32) fun v188 => xsl L xs v188 fun v189 => xca (fX9_eager N q2 v187 v189 m185) fun v191 m190 => xca (fX9_thrown N q2 m190) fun v193 m192 => if (v193 : Int32) = v184 then (if (v184 : Int32) = 0 then (xlld N m192 q3 0 fun v195 => xv ((v191 : Int32).toInt64) fun w196 => xv (lg_cmp v195 w196) fun v197 => if (v197 : Int32) = 0 then (xv (x4 + 6) fun v198 => r23 q0 q1 q2 q3 v198 m192) else (none)) else (xv (x4 + 6) fun v194 => r23 q0 q1 q2 q3 v194 m192)) else (none)) else (if (v4 : Int32) = 11 then (xv (x4 + 1 : Int32) fun v200 => xsl L xs v200 fun v201 => xv (x4 + 2 : Int32) fun v202 => xsl L xs v202 fun v203 => xca (fwL_value N q1 v201 v203 q3 m0) fun v204 m205 => xv (x4 + 1 : Int32) fun v206 => xsl L xs v206 fun v207 => xv (x4 + 2 : Int32) fun v208 => xsl L xs v208 fun v209 => xca (fX9_value N q2 v207 v209 m205) fun v211 m210 => xca (fX9_thrown N q2 m210) fun v213 m212 => if (v213 : Int32) = v204 then (if (v204 : Int32) = 0 then (xlld N m212 q3 0 fun v215 => xv ((v211 : Int32).toInt64) fun w216 => xv (lg_cmp v215 w216) fun v217 => if (v217 : Int32) = 0 then (xv (x4 + 6) fun v218 => r23 q0 q1 q2 q3 v218 m212) else (none)) else (xv (x4 + 6) fun v214 => r23 q0 q1 q2 q3 v214 m212)) else (none)) else (if (v4 : Int32) = 12 then (xv (x4 + 1 : Int32) fun v220 => xsl L xs v220 fun v221 => xca (fwL_state N q1 v221 q3 m0) fun v222 m223 => xv (x4 + 1 : Int32) fun v224 => xsl L xs v224 fun v225 => xca (fX9_state N q2 v225 m223) fun v227 m226 => xca (fX9_thrown N q2 m226) fun v229 m228 => if (v229 : Int32) = v222 then (if (v222 : Int32) = 0 then (xlld N m228 q3 0 fun v231 => xv ((v227 : Int32).toInt64) fun w232 => xv (lg_cmp v231 w232) fun v233 => if (v233 : Int32) = 0 then (xv (x4 + 6) fun v234 => r23 q0 q1 q2 q3 v234 m228) else (none)) else (xv (x4 + 6) fun v230 => r23 q0 q1 q2 q3 v230 m228)) else (none)) else (if (v4 : Int32) = 13 then (xv (x4 + 1 : Int32) fun v236 => xsl L xs v236 fun v237 => xca (fX8_begun N q1 v237 m0) fun v239 m238 => xv (x4 + 1 : Int32) fun v240 => xsl L xs v240 fun v241 => xca (fX9_begun N q2 v241 m238) fun v243 m242 => if (v239 : Int32) = v243 then (xv (x4 + 6) fun v244 => r23 q0 q1 q2 q3 v244 m242) else (none)) else (if (v4 : Int32) = 14 then (xv (x4 + 1 : Int32) fun v246 => xsl L xs v246 fun v247 => xv (x4 + 2 : Int32) fun v248 => xsl L xs v248 fun v249 => xca (fwL_surprise N q1 v247 v249 q3 m0) fun v250 m251 => xv (x4 + 1 : Int32) fun v252 => xsl L xs v252 fun v253 => xv (x4 + 2 : Int32) fun v254 => xsl L xs v254 fun v255 => xca (fX9_surprise N q2 v253 v255 m251) fun v257 m256 => xca (fX9_thrown N q2 m256) fun v259 m258 => if (v259 : Int32) = v250 then (if (v250 : Int32) = 0 then (xlld N m258 q3 0 fun v261 => xv ((v257 : Int32).toInt64) fun w262 => xv (lg_cmp v261 w262) fun v263 => if (v263 : Int32) = 0 then (xv (x4 + 6) fun v264 => r23 q0 q1 q2 q3 v264 m258) else (none)) else (xv (x4 + 6) fun v260 => r23 q0 q1 q2 q3 v260 m258)) else (none)) else (if (v4 : Int32) = 15 then (xv (x4 + 1 : Int32) fun v266 => xsl L xs v266 fun v267 => xv (x4 + 2 : Int32) fun v268 => xsl L xs v268 fun v269 => xca (fwL_trace N q1 v267 v269 q3 m0) fun v270 m271 => xv (x4 + 1 : Int32) fun v272 => xsl L xs v272 fun v273 => xv (x4 + 2 : Int32) fun v274 => xsl L xs v274 fun v275 => xca (fX9_trace N q2 v273 v275 m271) fun v277 m276 => xca (fX9_thrown N q2 m276) fun v279 m278 => if (v279 : Int32) = v270 then (if (v270 : Int32) = 0 then (xlld N m278 q3 0 fun v281 => xv ((v277 : Int32).toInt64) fun w282 => xv (lg_cmp v281 w282) fun v283 => if (v283 : Int32) = 0 then (xv (x4 + 6) fun v284 => r23 q0 q1 q2 q3 v284 m278) else (none)) else (xv (x4 + 6) fun v280 => r23 q0 q1 q2 q3 v280 m278)) else (none)) else (if (v4 : Int32) = 16 then (xv (x4 + 1 : Int32) fun v286 => xsl L xs v286 fun v287 => xv (x4 + 2 : Int32) fun v288 => xsl L xs v288 fun v289 => xca (fwL_broken N q1 v287 v289 q3 m0) fun v290 m291 => xv (x4 + 1 : Int32) fun v292 => xsl L xs v292 fun v293 => xv (x4 + 2 : Int32) fun v294 => xsl L xs v294 fun v295 => xca (fX9_broken N q2 v293 v295 m291) fun v297 m296 => xca (fX9_thrown N q2 m296) fun v299 m298 => if (v299 : Int32) = v290 then (if (v290 : Int32) = 0 then (xlld N m298 q3 0 fun v301 => xv ((v297 : Int32).toInt64) fun w302 => xv (lg_cmp v301 w302) fun v303 => if (v303 : Int32) = 0 then (xv (x4 + 6) fun v304 => r23 q0 q1 q2 q3 v304 m298) else (none)) else (xv (x4 + 6) fun v300 => r23 q0 q1 q2 q3 v300 m298)) else (none)) else (if (v4 : Int32) = 17 then (xv (x4 + 1 : Int32) fun v306 => xsl L xs v306 fun v307 => xca (fwL_alike N q1 v307 q3 m0) fun v308 m309 => xv (x4 + 1 : Int32) fun v310 => xsl L xs v310 fun v311 => xca (fX9_alike N q2 v311 m309) fun v313 m312 => xca (fX9_thrown N q2 m312) fun v315 m314 => if (v315 : Int32) = v308 then (if (v308 : Int32) = 0 then (xlld N m314 q3 0 fun v317 => xv ((v313 : Int32).toInt64) fun w318 => xv (lg_cmp v317 w318) fun v319 => if (v319 : Int32) = 0 then (xv (x4 + 6) fun v320 => r23 q0 q1 q2 q3 v320 m314) else (none)) else (xv (x4 + 6) fun v316 => r23 q0 q1 q2 q3 v316 m314)) else (none)) else (if (v4 : Int32) = 18 then (xv (x4 + 1 : Int32) fun v322 => xsl L xs v322 fun v323 => xca (fwL_fewest N q1 v323 q3 m0) fun v324 m325 => xv (x4 + 1 : Int32) fun v326 => xsl L xs v326 fun v327 => xca (fX9_fewest N q2 v327 m325) fun v329 m328 => xca (fX9_thrown N q2 m328) fun v331 m330 => if (v331 : Int32) = v324 then (if (v324 : Int32) = 0 then (xlld N m330 q3 0 fun v333 => xv ((v329 : Int32).toInt64) fun w334 => xv (lg_cmp v333 w334) fun v335 => if (v335 : Int32) = 0 then (xv (x4 + 6) fun v336 => r23 q0 q1 q2 q3 v336 m330) else (none)) else (xv (x4 + 6) fun v332 => r23 q0 q1 q2 q3 v332 m330)) else (none)) else (if (v4 : Int32) = 19 then (xv (x4 + 1 : Int32) fun v338 => xsl L xs v338 fun v339 => xca (fwL_touches N q1 v339 q3 m0) fun v340 m341 => xv (x4 + 1 : Int32) fun v342 => xsl L xs v342 fun v343 => xca (fX9_touches N q2 v343 m341) fun v345 m344 => xca (fX9_thrown N q2 m344) fun v347 m346 => if (v347 : Int32) = v340 then (if (v340 : Int32) = 0 then (xlld N m346 q3 0 fun v349 => xv ((v345 : Int32).toInt64) fun w350 => xv (lg_cmp v349 w350) fun v351 => if (v351 : Int32) = 0 then (xv (x4 + 6) fun v352 => r23 q0 q1 q2 q3 v352 m346) else (none)) else (xv (x4 + 6) fun v348 => r23 q0 q1 q2 q3 v348 m346)) else (none)) else (if (v4 : Int32) = 20 then (xv (x4 + 1 : Int32) fun v354 => xsl L xs v354 fun v355 => xca (fwL_reach N q1 v355 q3 m0) fun v356 m357 => xv (x4 + 1 : Int32) fun v358 => xsl L xs v358 fun v359 => xca (fX9_reach N q2 v359 m357) fun v361 m360 => xca (fX9_thrown N q2 m360) fun v363 m362 => if (v363 : Int32) = v356 then (if (v356 : Int32) = 0 then (xlld N m362 q3 0 fun v365 => xv ((v361 : Int32).toInt64) fun w366 => xv (lg_cmp v365 w366) fun v367 => if (v367 : Int32) = 0 then (xv (x4 + 6) fun v368 => r23 q0 q1 q2 q3 v368 m362) else (none)) else (xv (x4 + 6) fun v364 => r23 q0 q1 q2 q3 v364 m362)) else (none)) else (if (v4 : Int32) = 21 then (xv (x4 + 1 : Int32) fun v370 => xsl L xs v370 fun v371 => xca (fwL_ring N q1 v371 q3 m0) fun v372 m373 => xv (x4 + 1 : Int32) fun v374 => xsl L xs v374 fun v375 => xca (fX9_ring N q2 v375 m373) fun v377 m376 => xca (fX9_thrown N q2 m376) fun v379 m378 => if (v379 : Int32) = v372 then (if (v372 : Int32) = 0 then (xlld N m378 q3 0 fun v381 => xv ((v377 : Int32).toInt64) fun w382 => xv (lg_cmp v381 w382) fun v383 => if (v383 : Int32) = 0 then (xv (x4 + 6) fun v384 => r23 q0 q1 q2 q3 v384 m378) else (none)) else (xv (x4 + 6) fun v380 => r23 q0 q1 q2 q3 v380 m378)) else (none)) else (if (v4 : Int32) = 22 then (xv (x4 + 1 : Int32) fun v386 => xsl L xs v386 fun v387 => xca (fwL_least N q1 v387 q3 m0) fun v388 m389 => xv (x4 + 1 : Int32) fun v390 => xsl L xs v390 fun v391 => xca (fX9_least N q2 v391 m389) fun v393 m392 => xca (fX9_thrown N q2 m392) fun v395 m394 => if (v395 : Int32) = v388 then (if (v388 : Int32) = 0 then (xlld N m394 q3 0 fun v397 => xv ((v393 : Int32).toInt64) fun w398 => xv (lg_cmp v397 w398) fun v399 => if (v399 : Int32) = 0 then (xv (x4 + 6) fun v400 => r23 q0 q1 q2 q3 v400 m394) else (none)) else (xv (x4 + 6) fun v396 => r23 q0 q1 q2 q3 v396 m394)) else (none)) else (if (v4 : Int32) = 23 then (xv (x4 + 1 : Int32) fun v402 => xsl L xs v402 fun v403 => xca (fwL_breaks N q1 v403 q3 m0) fun v404 m405 => xv (x4 + 1 : Int32) fun v406 => xsl L xs v406 fun v407 => xca (fX9_breaks N q2 v407 m405) fun v409 m408 => xca (fX9_thrown N q2 m408) fun v411 m410 => if (v411 : Int32) = v404 then (if (v404 : Int32) = 0 then (xlld N m410 q3 0 fun v413 => xv ((v409 : Int32).toInt64) fun w414 => xv (lg_cmp v413 w414) fun v415 => if (v415 : Int32) = 0 then (xv (x4 + 6) fun v416 => r23 q0 q1 q2 q3 v416 m410) else (none)) else (xv (x4 + 6) fun v412 => r23 q0 q1 q2 q3 v412 m410)) else (none)) else (if (v4 : Int32) = 24 then (xca (fX8_print N q1 m0) fun w419 m418 => xca (fX9_print N q2 m418) fun w421 m420 => xv (lg_cmp w419 w421) fun v422 => if (v422 : Int32) = 0 then (xv (x4 + 6) fun v423 => r23 q0 q1 q2 q3 v423 m420) else (none)) else (if (v4 : Int32) = 25 then (xv (x4 + 1 : Int32) fun v425 => xsl L xs v425 fun v426 => xca (fX8_status N q1 v426 m0) fun v428 m427 => xv (x4 + 1 : Int32) fun v429 => xsl L xs v429 fun v430 => xca (fX9_status N q2 v430 m427) fun v432 m431 => if (v428 : Int32) = v432 then (xv (x4 + 6) fun v433 => r23 q0 q1 q2 q3 v433 m431) else (none)) else (xv (x4 + 6) fun v434 => r23 q0 q1 q2 q3 v434 m0)))))))))))))))))))))))))))
set_option maxRecDepth 100000 in
set_option maxHeartbeats 40000000 in
theorem jLaw_23 {A : Nat → Prop} {G : XG} {l : Launch} {X : XX} {b L : Nat} {xs : Nat → Int32} {c1 s1 : Nat} (F0 : xF (room_1, A, c1, s1) G X mL_law) (hst : l.stackTraces = false) (hA : ∀ q, X.2.2.1.heap.size ≤ q → A q) (hAi : ∀ q, A q → X.2.2.1.heap.size ≤ q) (hZ : xZ A X.2.2.1) (hab : X.2.2.2.2.1 = #[Value.ref b]) (hX : va_X b L xs X.2.2.1 X.2.2.1.heap) (hbl : b < X.2.2.1.heap.size) (hbA : ¬ A b) : ∀ (n : Nat) (c0 s0 : Nat) (q0 : Nat) (q1 : Nat) (q2 : Nat) (q3 : Nat) (x4 : Int32) (m0 : XM), c0 + n ≤ 601024 → s0 + 6 * n ≤ 7293034 → q0 = b → isa G q1 8 → isa G q2 9 → isa G q3 11 → xJ (room_1, A, c0, s0) (xQL X) G l X mL_law 23 [(0, .ref q0), (1, .ref (xad G q1)), (2, .ref (xad G q2)), (3, .ref (xad G q3)), (4, .int x4)] [] m0 (fLaw_23 (xln G) L xs n q0 q1 q2 q3 x4 m0) := by
  intro n
  induction n with
  | zero => intro c0 s0 q0 q1 q2 q3 x4 m0 hcc hss hq0 hq1 hq2 hq3; exact xj_none
  | succ n hr23 =>
    intro c0 s0 q0 q1 q2 q3 x4 m0 hcc hss hq0 hq1 hq2 hq3
    unfold fLaw_23
    generalize hrg23 : (fun q0 q1 q2 q3 x4 m0 => fLaw_23 (xln G) L xs n q0 q1 q2 q3 x4 m0) = r23
    have hr23 : ∀ (c0 s0 : Nat) (q0 : Nat) (q1 : Nat) (q2 : Nat) (q3 : Nat) (x4 : Int32) (m0 : XM), c0 + n ≤ 601024 → s0 + 6 * n ≤ 7293034 → q0 = b → isa G q1 8 → isa G q2 9 → isa G q3 11 → xJ (room_1, A, c0, s0) (xQL X) G l X mL_law 23 [(0, .ref q0), (1, .ref (xad G q1)), (2, .ref (xad G q2)), (3, .ref (xad G q3)), (4, .int x4)] [] m0 (r23 q0 q1 q2 q3 x4 m0) := by
      subst hrg23
      exact hr23
    clear hrg23
    refine xj_eq (xv_eq _ _) ?_
    have hrc : c0 + 1 ≤ room_1.cells := by show c0 + 1 ≤ 601024; omega
    have hrs : s0 + 6 ≤ room_1.slots := by show s0 + 6 ≤ 7293034; omega
    have F : xF (room_1, A, c0, s0) G X mL_law := xF_cs F0 ⟨Nat.le_of_succ_le hrc, Nat.le_trans (Nat.le_add_right _ _) hrs⟩
    refine xj_iload F 4 dL_law_23 rfl ?_
    refine xj_aload_n F 0 dL_law_25 rfl ?_
    refine xj_slenL F hq0 hX hbl hbA dL_law_26 (fun v1 => ?_)
    refine xj_bipush F 6 dL_law_27 (by decide) ?_
    refine xj_isub F dL_law_29 (fun v2 => ?_)
    refine xj_icmp_gt (tgt := 1581) F dL_law_30 (by decide) ?_ ?_
    · refine xj_iconst F 1 dL_law_1581 (by decide) ?_
      exact xj_lawret F hAi rfl rfl hab dL_law_1582
    · refine xj_aload_n F 0 dL_law_33 rfl ?_
      refine xj_iload F 4 dL_law_34 rfl ?_
      refine xj_sld F hq0 hX hbl hbA dL_law_36 (fun v3 => ?_)
      refine xj_bipush F 31 dL_law_37 (by decide) ?_
      refine xj_iand F dL_law_39 (fun v4 => ?_)
      refine xj_ite (c := v4 = 0) (fun h5 => ?_) (fun h5 => ?_)
      · refine xj_tabIn F 160 dL_law_40 (by subst h5; decide) (by subst h5; decide) (by subst h5; rfl) (by decide) ?_
        refine xj_aload_n F 1 dL_law_160 rfl ?_
        refine xj_aload_n F 0 dL_law_161 rfl ?_
        refine xj_iload F 4 dL_law_162 rfl ?_
        refine xj_iconst F 1 dL_law_164 (by decide) ?_
        refine xj_iadd F dL_law_165 (fun v6 => ?_)
        refine xj_sld F hq0 hX hbl hbA dL_law_166 (fun v7 => ?_)
        refine xj_aload_n F 0 dL_law_167 rfl ?_
        refine xj_iload F 4 dL_law_168 rfl ?_
        refine xj_iconst F 2 dL_law_170 (by decide) ?_
        refine xj_iadd F dL_law_171 (fun v8 => ?_)
        refine xj_sld F hq0 hX hbl hbA dL_law_172 (fun v9 => ?_)
        refine xj_aload_n F 0 dL_law_173 rfl ?_
        refine xj_iload F 4 dL_law_174 rfl ?_
        refine xj_iconst F 3 dL_law_176 (by decide) ?_
        refine xj_iadd F dL_law_177 (fun v10 => ?_)
        refine xj_sld F hq0 hX hbl hbA dL_law_178 (fun v11 => ?_)
        refine xj_aload_n F 0 dL_law_179 rfl ?_
        refine xj_iload F 4 dL_law_180 rfl ?_
        refine xj_iconst F 4 dL_law_182 (by decide) ?_
        refine xj_iadd F dL_law_183 (fun v12 => ?_)
        refine xj_sld F hq0 hX hbl hbA dL_law_184 (fun v13 => ?_)
        refine xj_aload_n F 0 dL_law_185 rfl ?_
        refine xj_iload F 4 dL_law_186 rfl ?_
        refine xj_iconst F 5 dL_law_188 (by decide) ?_
        refine xj_iadd F dL_law_189 (fun v14 => ?_)
        refine xj_sld F hq0 hX hbl hbA dL_law_190 (fun v15 => ?_)
        refine xj_callVI (b := q1) (As := [.int v7, .int v9, .int v11, .int v13, .int v15]) (d' := 1) F hq1 lmL_80 rfl rfl (Nat.le_of_ble_eq_true rfl) (xfitL (Nat.le_of_ble_eq_true rfl)) dL_law_191 (fun hT z hz => wX8_feed (xnd F) (Nat.le_refl _) hT (a0 := q1) (a1 := v7) (a2 := v9) (a3 := v11) (a4 := v13) (a5 := v15) hq1 z hz) (fun v17 m16 => ?_)
        refine xj_aload_n F 2 dL_law_194 rfl ?_
        refine xj_aload_n F 0 dL_law_195 rfl ?_
        refine xj_iload F 4 dL_law_196 rfl ?_
        refine xj_iconst F 1 dL_law_198 (by decide) ?_
        refine xj_iadd F dL_law_199 (fun v18 => ?_)
        refine xj_sld F hq0 hX hbl hbA dL_law_200 (fun v19 => ?_)
        refine xj_aload_n F 0 dL_law_201 rfl ?_
        refine xj_iload F 4 dL_law_202 rfl ?_
        refine xj_iconst F 2 dL_law_204 (by decide) ?_
        refine xj_iadd F dL_law_205 (fun v20 => ?_)
        refine xj_sld F hq0 hX hbl hbA dL_law_206 (fun v21 => ?_)
        refine xj_aload_n F 0 dL_law_207 rfl ?_
        refine xj_iload F 4 dL_law_208 rfl ?_
        refine xj_iconst F 3 dL_law_210 (by decide) ?_
        refine xj_iadd F dL_law_211 (fun v22 => ?_)
        refine xj_sld F hq0 hX hbl hbA dL_law_212 (fun v23 => ?_)
        refine xj_aload_n F 0 dL_law_213 rfl ?_
        refine xj_iload F 4 dL_law_214 rfl ?_
        refine xj_iconst F 4 dL_law_216 (by decide) ?_
        refine xj_iadd F dL_law_217 (fun v24 => ?_)
        refine xj_sld F hq0 hX hbl hbA dL_law_218 (fun v25 => ?_)
        refine xj_aload_n F 0 dL_law_219 rfl ?_
        refine xj_iload F 4 dL_law_220 rfl ?_
        refine xj_iconst F 5 dL_law_222 (by decide) ?_
        refine xj_iadd F dL_law_223 (fun v26 => ?_)
        refine xj_sld F hq0 hX hbl hbA dL_law_224 (fun v27 => ?_)
        refine xj_callVI (b := q2) (As := [.int v19, .int v21, .int v23, .int v25, .int v27]) (d' := 0) F hq2 lmL_84 rfl rfl (Nat.le_of_ble_eq_true rfl) (xfitL (Nat.le_of_ble_eq_true rfl)) dL_law_225 (fun hT z hz => wX9_feed (xnd F) (Nat.le_refl _) hT (a0 := q2) (a1 := v19) (a2 := v21) (a3 := v23) (a4 := v25) (a5 := v27) hq2 z hz) (fun v29 m28 => ?_)
        refine xj_icmp_eq (tgt := 1575) F dL_law_228 (by decide) ?_ ?_
        · refine xj_iinc F 4 6 (fun v30 => [(4, .int v30), (0, .ref q0), (1, .ref (xad G q1)), (2, .ref (xad G q2)), (3, .ref (xad G q3))]) dL_law_1575 rfl (by decide) (by decide) (fun _ => rfl) (fun v30 => ?_)
          refine xj_goto (tgt := 23) F dL_law_1578 (by decide) ?_
          refine xj_sub (lv' := [(0, .ref q0), (1, .ref (xad G q1)), (2, .ref (xad G q2)), (3, .ref (xad G q3)), (4, .int v30)]) [1, 2, 3, 4, 0] rfl ?_
          exact hr23 _ _ q0 q1 q2 q3 v30 m28 (by omega) (by omega) hq0 hq1 hq2 hq3
        · refine xj_iconst F 0 dL_law_231 (by decide) ?_
          exact xj_none
      · skip
        refine xj_ite (c := v4 = 1) (fun h31 => ?_) (fun h31 => ?_)
        · refine xj_tabIn F 233 dL_law_40 (by subst h31; decide) (by subst h31; decide) (by subst h31; rfl) (by decide) ?_
          refine xj_aload_n F 1 dL_law_233 rfl ?_
          refine xj_aload_n F 0 dL_law_234 rfl ?_
          refine xj_iload F 4 dL_law_235 rfl ?_
          refine xj_iconst F 1 dL_law_237 (by decide) ?_
          refine xj_iadd F dL_law_238 (fun v32 => ?_)
          refine xj_sld F hq0 hX hbl hbA dL_law_239 (fun v33 => ?_)
          refine xj_aload_n F 3 dL_law_240 rfl ?_
          refine xj_callW (As := [.ref (xad G q1), .int v33, .ref (xad G q3)]) (d' := 47) F hA hZ lmL_85 rfl rfl (Nat.le_of_ble_eq_true rfl) ⟨Nat.le_of_ble_eq_true rfl, Nat.le_of_ble_eq_true rfl⟩ ⟨hrc, hrs⟩ dL_law_241 (fun hT z hz => wwL_text (xnd F) hst (Nat.le_refl _) hT (q0 := q1) (x0 := v33) (q1 := q3) hq1 hq3 z hz) (fun v34 m35 => ?_)
          have F := xF_cs F ⟨hrc, hrs⟩
          refine xj_istore (lv' := [(5, .int v34), (0, .ref q0), (1, .ref (xad G q1)), (2, .ref (xad G q2)), (3, .ref (xad G q3)), (4, .int x4)]) F dL_law_244 (by decide) rfl ?_
          refine xj_aload_n F 3 dL_law_246 rfl ?_
          refine xj_aload_n F 1 dL_law_247 rfl ?_
          refine xj_iload F 5 dL_law_248 rfl ?_
          refine xj_iconst F 1 dL_law_250 (by decide) ?_
          refine xj_iadd F dL_law_251 (fun v36 => ?_)
          refine xj_sld F hq0 hX hbl hbA dL_law_252 (fun v37 => ?_)
          refine xj_callVI (b := q2) (As := [.int v37]) (d' := 51) F hq2 lmL_90 rfl rfl (Nat.le_of_ble_eq_true rfl) (xfitL (Nat.le_of_ble_eq_true rfl)) dL_law_253 (fun hT z hz => wX9_text (xnd F) (Nat.le_refl _) hT (a0 := q2) (a1 := v37) hq2 z hz) (fun v39 m38 => ?_)
          refine xj_istore (lv' := [(6, .int v39), (5, .int v34), (0, .ref q0), (1, .ref (xad G q1)), (2, .ref (xad G q2)), (3, .ref (xad G q3)), (4, .int x4)]) F dL_law_256 (by decide) rfl ?_
          refine xj_aload_n F 4 dL_law_258 rfl ?_
          refine xj_callVI (b := q2) (As := []) (d' := 0) F hq2 lmL_91 rfl rfl (Nat.le_of_ble_eq_true rfl) (xfitL (Nat.le_of_ble_eq_true rfl)) dL_law_259 (fun hT z hz => wX9_thrown (xnd F) (Nat.le_refl _) hT (a0 := q2) hq2 z hz) (fun v41 m40 => ?_)
          refine xj_iload F 1 dL_law_262 rfl ?_
          refine xj_icmp_eq (tgt := 269) F dL_law_264 (by decide) ?_ ?_
          · refine xj_iload F 1 dL_law_269 rfl ?_
            refine xj_if_ne (tgt := 286) F dL_law_271 (by decide) ?_ ?_
            · refine xj_goto (tgt := 1575) F dL_law_286 (by decide) ?_
              refine xj_iinc F 6 6 (fun v42 => [(4, .int v42), (6, .int v39), (5, .int v34), (0, .ref q0), (1, .ref (xad G q1)), (2, .ref (xad G q2)), (3, .ref (xad G q3))]) dL_law_1575 rfl (by decide) (by decide) (fun _ => rfl) (fun v42 => ?_)
              refine xj_goto (tgt := 23) F dL_law_1578 (by decide) ?_
              refine xj_sub (lv' := [(0, .ref q0), (1, .ref (xad G q1)), (2, .ref (xad G q2)), (3, .ref (xad G q3)), (4, .int v42)]) [3, 4, 5, 6, 0] rfl ?_
              exact hr23 _ _ q0 q1 q2 q3 v42 m40 (by omega) (by omega) hq0 hq1 hq2 hq3
            · refine xj_aload_n F 5 dL_law_274 rfl ?_
              refine xj_iconst F 0 dL_law_275 (by decide) ?_
              refine xj_lald F hq3 dL_law_276 (fun v43 => ?_)
              refine xj_iload F 0 dL_law_277 rfl ?_
              refine xj_i2l F dL_law_279 (fun w44 => ?_)
              refine xj_lcmp F dL_law_280 (fun v45 => ?_)
              refine xj_if_eq (tgt := 286) F dL_law_281 (by decide) ?_ ?_
              · refine xj_goto (tgt := 1575) F dL_law_286 (by decide) ?_
                refine xj_iinc F 6 6 (fun v46 => [(4, .int v46), (6, .int v39), (5, .int v34), (0, .ref q0), (1, .ref (xad G q1)), (2, .ref (xad G q2)), (3, .ref (xad G q3))]) dL_law_1575 rfl (by decide) (by decide) (fun _ => rfl) (fun v46 => ?_)
                refine xj_goto (tgt := 23) F dL_law_1578 (by decide) ?_
                refine xj_sub (lv' := [(0, .ref q0), (1, .ref (xad G q1)), (2, .ref (xad G q2)), (3, .ref (xad G q3)), (4, .int v46)]) [3, 4, 5, 6, 0] rfl ?_
                exact hr23 _ _ q0 q1 q2 q3 v46 m40 (by omega) (by omega) hq0 hq1 hq2 hq3
              · refine xj_iconst F 0 dL_law_284 (by decide) ?_
                exact xj_none
          · refine xj_iconst F 0 dL_law_267 (by decide) ?_
            exact xj_none
        · skip
          refine xj_ite (c := v4 = 2) (fun h47 => ?_) (fun h47 => ?_)
          · refine xj_tabIn F 289 dL_law_40 (by subst h47; decide) (by subst h47; decide) (by subst h47; rfl) (by decide) ?_
            refine xj_aload_n F 1 dL_law_289 rfl ?_
            refine xj_callVI (b := q1) (As := []) (d' := 0) F hq1 lmL_95 rfl rfl (Nat.le_of_ble_eq_true rfl) (xfitL (Nat.le_of_ble_eq_true rfl)) dL_law_290 (fun hT z hz => wX8_fault (xnd F) (Nat.le_refl _) hT (a0 := q1) hq1 z hz) (fun v49 m48 => ?_)
            refine xj_aload_n F 2 dL_law_293 rfl ?_
            refine xj_callVI (b := q2) (As := []) (d' := 0) F hq2 lmL_98 rfl rfl (Nat.le_of_ble_eq_true rfl) (xfitL (Nat.le_of_ble_eq_true rfl)) dL_law_294 (fun hT z hz => wX9_fault (xnd F) (Nat.le_refl _) hT (a0 := q2) hq2 z hz) (fun v51 m50 => ?_)
            refine xj_icmp_eq (tgt := 1575) F dL_law_297 (by decide) ?_ ?_
            · refine xj_iinc F 4 6 (fun v52 => [(4, .int v52), (0, .ref q0), (1, .ref (xad G q1)), (2, .ref (xad G q2)), (3, .ref (xad G q3))]) dL_law_1575 rfl (by decide) (by decide) (fun _ => rfl) (fun v52 => ?_)
              refine xj_goto (tgt := 23) F dL_law_1578 (by decide) ?_
              refine xj_sub (lv' := [(0, .ref q0), (1, .ref (xad G q1)), (2, .ref (xad G q2)), (3, .ref (xad G q3)), (4, .int v52)]) [1, 2, 3, 4, 0] rfl ?_
              exact hr23 _ _ q0 q1 q2 q3 v52 m50 (by omega) (by omega) hq0 hq1 hq2 hq3
            · refine xj_iconst F 0 dL_law_300 (by decide) ?_
              exact xj_none
          · skip
            refine xj_ite (c := v4 = 3) (fun h53 => ?_) (fun h53 => ?_)
            · refine xj_tabIn F 302 dL_law_40 (by subst h53; decide) (by subst h53; decide) (by subst h53; rfl) (by decide) ?_
              refine xj_aload_n F 1 dL_law_302 rfl ?_
              refine xj_aload_n F 0 dL_law_303 rfl ?_
              refine xj_iload F 4 dL_law_304 rfl ?_
              refine xj_iconst F 1 dL_law_306 (by decide) ?_
              refine xj_iadd F dL_law_307 (fun v54 => ?_)
              refine xj_sld F hq0 hX hbl hbA dL_law_308 (fun v55 => ?_)
              refine xj_aload_n F 0 dL_law_309 rfl ?_
              refine xj_iload F 4 dL_law_310 rfl ?_
              refine xj_iconst F 2 dL_law_312 (by decide) ?_
              refine xj_iadd F dL_law_313 (fun v56 => ?_)
              refine xj_sld F hq0 hX hbl hbA dL_law_314 (fun v57 => ?_)
              refine xj_aload_n F 0 dL_law_315 rfl ?_
              refine xj_iload F 4 dL_law_316 rfl ?_
              refine xj_iconst F 3 dL_law_318 (by decide) ?_
              refine xj_iadd F dL_law_319 (fun v58 => ?_)
              refine xj_sld F hq0 hX hbl hbA dL_law_320 (fun v59 => ?_)
              refine xj_aload_n F 3 dL_law_321 rfl ?_
              refine xj_callW (As := [.ref (xad G q1), .int v55, .int v57, .int v59, .ref (xad G q3)]) (d' := 10) F hA hZ lmL_99 rfl rfl (Nat.le_of_ble_eq_true rfl) ⟨Nat.le_of_ble_eq_true rfl, Nat.le_of_ble_eq_true rfl⟩ ⟨hrc, hrs⟩ dL_law_322 (fun hT z hz => wwL_move (xnd F) hst (Nat.le_refl _) hT (q0 := q1) (x0 := v55) (x1 := v57) (x2 := v59) (q1 := q3) hq1 hq3 z hz) (fun v60 m61 => ?_)
              have F := xF_cs F ⟨hrc, hrs⟩
              refine xj_istore (lv' := [(5, .int v60), (0, .ref q0), (1, .ref (xad G q1)), (2, .ref (xad G q2)), (3, .ref (xad G q3)), (4, .int x4)]) F dL_law_325 (by decide) rfl ?_
              refine xj_aload_n F 3 dL_law_327 rfl ?_
              refine xj_aload_n F 1 dL_law_328 rfl ?_
              refine xj_iload F 5 dL_law_329 rfl ?_
              refine xj_iconst F 1 dL_law_331 (by decide) ?_
              refine xj_iadd F dL_law_332 (fun v62 => ?_)
              refine xj_sld F hq0 hX hbl hbA dL_law_333 (fun v63 => ?_)
              refine xj_aload_n F 1 dL_law_334 rfl ?_
              refine xj_iload F 5 dL_law_335 rfl ?_
              refine xj_iconst F 2 dL_law_337 (by decide) ?_
              refine xj_iadd F dL_law_338 (fun v64 => ?_)
              refine xj_sld F hq0 hX hbl hbA dL_law_339 (fun v65 => ?_)
              refine xj_aload_n F 1 dL_law_340 rfl ?_
              refine xj_iload F 5 dL_law_341 rfl ?_
              refine xj_iconst F 3 dL_law_343 (by decide) ?_
              refine xj_iadd F dL_law_344 (fun v66 => ?_)
              refine xj_sld F hq0 hX hbl hbA dL_law_345 (fun v67 => ?_)
              refine xj_callVI (b := q2) (As := [.int v63, .int v65, .int v67]) (d' := 3) F hq2 lmL_102 rfl rfl (Nat.le_of_ble_eq_true rfl) (xfitL (Nat.le_of_ble_eq_true rfl)) dL_law_346 (fun hT z hz => wX9_move (xnd F) (Nat.le_refl _) hT (a0 := q2) (a1 := v63) (a2 := v65) (a3 := v67) hq2 z hz) (fun v69 m68 => ?_)
              refine xj_istore (lv' := [(6, .int v69), (5, .int v60), (0, .ref q0), (1, .ref (xad G q1)), (2, .ref (xad G q2)), (3, .ref (xad G q3)), (4, .int x4)]) F dL_law_349 (by decide) rfl ?_
              refine xj_aload_n F 4 dL_law_351 rfl ?_
              refine xj_callVI (b := q2) (As := []) (d' := 0) F hq2 lmL_91 rfl rfl (Nat.le_of_ble_eq_true rfl) (xfitL (Nat.le_of_ble_eq_true rfl)) dL_law_352 (fun hT z hz => wX9_thrown (xnd F) (Nat.le_refl _) hT (a0 := q2) hq2 z hz) (fun v71 m70 => ?_)
              refine xj_iload F 1 dL_law_355 rfl ?_
              refine xj_icmp_eq (tgt := 362) F dL_law_357 (by decide) ?_ ?_
              · refine xj_iload F 1 dL_law_362 rfl ?_
                refine xj_if_ne (tgt := 379) F dL_law_364 (by decide) ?_ ?_
                · refine xj_goto (tgt := 1575) F dL_law_379 (by decide) ?_
                  refine xj_iinc F 6 6 (fun v72 => [(4, .int v72), (6, .int v69), (5, .int v60), (0, .ref q0), (1, .ref (xad G q1)), (2, .ref (xad G q2)), (3, .ref (xad G q3))]) dL_law_1575 rfl (by decide) (by decide) (fun _ => rfl) (fun v72 => ?_)
                  refine xj_goto (tgt := 23) F dL_law_1578 (by decide) ?_
                  refine xj_sub (lv' := [(0, .ref q0), (1, .ref (xad G q1)), (2, .ref (xad G q2)), (3, .ref (xad G q3)), (4, .int v72)]) [3, 4, 5, 6, 0] rfl ?_
                  exact hr23 _ _ q0 q1 q2 q3 v72 m70 (by omega) (by omega) hq0 hq1 hq2 hq3
                · refine xj_aload_n F 5 dL_law_367 rfl ?_
                  refine xj_iconst F 0 dL_law_368 (by decide) ?_
                  refine xj_lald F hq3 dL_law_369 (fun v73 => ?_)
                  refine xj_iload F 0 dL_law_370 rfl ?_
                  refine xj_i2l F dL_law_372 (fun w74 => ?_)
                  refine xj_lcmp F dL_law_373 (fun v75 => ?_)
                  refine xj_if_eq (tgt := 379) F dL_law_374 (by decide) ?_ ?_
                  · refine xj_goto (tgt := 1575) F dL_law_379 (by decide) ?_
                    refine xj_iinc F 6 6 (fun v76 => [(4, .int v76), (6, .int v69), (5, .int v60), (0, .ref q0), (1, .ref (xad G q1)), (2, .ref (xad G q2)), (3, .ref (xad G q3))]) dL_law_1575 rfl (by decide) (by decide) (fun _ => rfl) (fun v76 => ?_)
                    refine xj_goto (tgt := 23) F dL_law_1578 (by decide) ?_
                    refine xj_sub (lv' := [(0, .ref q0), (1, .ref (xad G q1)), (2, .ref (xad G q2)), (3, .ref (xad G q3)), (4, .int v76)]) [3, 4, 5, 6, 0] rfl ?_
                    exact hr23 _ _ q0 q1 q2 q3 v76 m70 (by omega) (by omega) hq0 hq1 hq2 hq3
                  · refine xj_iconst F 0 dL_law_377 (by decide) ?_
                    exact xj_none
              · refine xj_iconst F 0 dL_law_360 (by decide) ?_
                exact xj_none
            · skip
              refine xj_ite (c := v4 = 4) (fun h77 => ?_) (fun h77 => ?_)
              · refine xj_tabIn F 382 dL_law_40 (by subst h77; decide) (by subst h77; decide) (by subst h77; rfl) (by decide) ?_
                refine xj_aload_n F 1 dL_law_382 rfl ?_
                refine xj_aload_n F 0 dL_law_383 rfl ?_
                refine xj_iload F 4 dL_law_384 rfl ?_
                refine xj_iconst F 1 dL_law_386 (by decide) ?_
                refine xj_iadd F dL_law_387 (fun v78 => ?_)
                refine xj_sld F hq0 hX hbl hbA dL_law_388 (fun v79 => ?_)
                refine xj_aload_n F 0 dL_law_389 rfl ?_
                refine xj_iload F 4 dL_law_390 rfl ?_
                refine xj_iconst F 2 dL_law_392 (by decide) ?_
                refine xj_iadd F dL_law_393 (fun v80 => ?_)
                refine xj_sld F hq0 hX hbl hbA dL_law_394 (fun v81 => ?_)
                refine xj_aload_n F 3 dL_law_395 rfl ?_
                refine xj_callW (As := [.ref (xad G q1), .int v79, .int v81, .ref (xad G q3)]) (d' := 10) F hA hZ lmL_103 rfl rfl (Nat.le_of_ble_eq_true rfl) ⟨Nat.le_of_ble_eq_true rfl, Nat.le_of_ble_eq_true rfl⟩ ⟨hrc, hrs⟩ dL_law_396 (fun hT z hz => wwL_turn (xnd F) hst (Nat.le_refl _) hT (q0 := q1) (x0 := v79) (x1 := v81) (q1 := q3) hq1 hq3 z hz) (fun v82 m83 => ?_)
                have F := xF_cs F ⟨hrc, hrs⟩
                refine xj_istore (lv' := [(5, .int v82), (0, .ref q0), (1, .ref (xad G q1)), (2, .ref (xad G q2)), (3, .ref (xad G q3)), (4, .int x4)]) F dL_law_399 (by decide) rfl ?_
                refine xj_aload_n F 3 dL_law_401 rfl ?_
                refine xj_aload_n F 1 dL_law_402 rfl ?_
                refine xj_iload F 5 dL_law_403 rfl ?_
                refine xj_iconst F 1 dL_law_405 (by decide) ?_
                refine xj_iadd F dL_law_406 (fun v84 => ?_)
                refine xj_sld F hq0 hX hbl hbA dL_law_407 (fun v85 => ?_)
                refine xj_aload_n F 1 dL_law_408 rfl ?_
                refine xj_iload F 5 dL_law_409 rfl ?_
                refine xj_iconst F 2 dL_law_411 (by decide) ?_
                refine xj_iadd F dL_law_412 (fun v86 => ?_)
                refine xj_sld F hq0 hX hbl hbA dL_law_413 (fun v87 => ?_)
                refine xj_callVI (b := q2) (As := [.int v85, .int v87]) (d' := 3) F hq2 lmL_106 rfl rfl (Nat.le_of_ble_eq_true rfl) (xfitL (Nat.le_of_ble_eq_true rfl)) dL_law_414 (fun hT z hz => wX9_turn (xnd F) (Nat.le_refl _) hT (a0 := q2) (a1 := v85) (a2 := v87) hq2 z hz) (fun v89 m88 => ?_)
                refine xj_istore (lv' := [(6, .int v89), (5, .int v82), (0, .ref q0), (1, .ref (xad G q1)), (2, .ref (xad G q2)), (3, .ref (xad G q3)), (4, .int x4)]) F dL_law_417 (by decide) rfl ?_
                refine xj_aload_n F 4 dL_law_419 rfl ?_
                refine xj_callVI (b := q2) (As := []) (d' := 0) F hq2 lmL_91 rfl rfl (Nat.le_of_ble_eq_true rfl) (xfitL (Nat.le_of_ble_eq_true rfl)) dL_law_420 (fun hT z hz => wX9_thrown (xnd F) (Nat.le_refl _) hT (a0 := q2) hq2 z hz) (fun v91 m90 => ?_)
                refine xj_iload F 1 dL_law_423 rfl ?_
                refine xj_icmp_eq (tgt := 430) F dL_law_425 (by decide) ?_ ?_
                · refine xj_iload F 1 dL_law_430 rfl ?_
                  refine xj_if_ne (tgt := 447) F dL_law_432 (by decide) ?_ ?_
                  · refine xj_goto (tgt := 1575) F dL_law_447 (by decide) ?_
                    refine xj_iinc F 6 6 (fun v92 => [(4, .int v92), (6, .int v89), (5, .int v82), (0, .ref q0), (1, .ref (xad G q1)), (2, .ref (xad G q2)), (3, .ref (xad G q3))]) dL_law_1575 rfl (by decide) (by decide) (fun _ => rfl) (fun v92 => ?_)
                    refine xj_goto (tgt := 23) F dL_law_1578 (by decide) ?_
                    refine xj_sub (lv' := [(0, .ref q0), (1, .ref (xad G q1)), (2, .ref (xad G q2)), (3, .ref (xad G q3)), (4, .int v92)]) [3, 4, 5, 6, 0] rfl ?_
                    exact hr23 _ _ q0 q1 q2 q3 v92 m90 (by omega) (by omega) hq0 hq1 hq2 hq3
                  · refine xj_aload_n F 5 dL_law_435 rfl ?_
                    refine xj_iconst F 0 dL_law_436 (by decide) ?_
                    refine xj_lald F hq3 dL_law_437 (fun v93 => ?_)
                    refine xj_iload F 0 dL_law_438 rfl ?_
                    refine xj_i2l F dL_law_440 (fun w94 => ?_)
                    refine xj_lcmp F dL_law_441 (fun v95 => ?_)
                    refine xj_if_eq (tgt := 447) F dL_law_442 (by decide) ?_ ?_
                    · refine xj_goto (tgt := 1575) F dL_law_447 (by decide) ?_
                      refine xj_iinc F 6 6 (fun v96 => [(4, .int v96), (6, .int v89), (5, .int v82), (0, .ref q0), (1, .ref (xad G q1)), (2, .ref (xad G q2)), (3, .ref (xad G q3))]) dL_law_1575 rfl (by decide) (by decide) (fun _ => rfl) (fun v96 => ?_)
                      refine xj_goto (tgt := 23) F dL_law_1578 (by decide) ?_
                      refine xj_sub (lv' := [(0, .ref q0), (1, .ref (xad G q1)), (2, .ref (xad G q2)), (3, .ref (xad G q3)), (4, .int v96)]) [3, 4, 5, 6, 0] rfl ?_
                      exact hr23 _ _ q0 q1 q2 q3 v96 m90 (by omega) (by omega) hq0 hq1 hq2 hq3
                    · refine xj_iconst F 0 dL_law_445 (by decide) ?_
                      exact xj_none
                · refine xj_iconst F 0 dL_law_428 (by decide) ?_
                  exact xj_none
              · skip
                refine xj_ite (c := v4 = 5) (fun h97 => ?_) (fun h97 => ?_)
                · refine xj_tabIn F 450 dL_law_40 (by subst h97; decide) (by subst h97; decide) (by subst h97; rfl) (by decide) ?_
                  refine xj_aload_n F 1 dL_law_450 rfl ?_
                  refine xj_callVI (b := q1) (As := []) (d' := 3) F hq1 lmL_107 rfl rfl (Nat.le_of_ble_eq_true rfl) (xfitL (Nat.le_of_ble_eq_true rfl)) dL_law_451 (fun hT z hz => wX8_undo (xnd F) (Nat.le_refl _) hT (a0 := q1) hq1 z hz) (fun v99 m98 => ?_)
                  refine xj_aload_n F 2 dL_law_454 rfl ?_
                  refine xj_callVI (b := q2) (As := []) (d' := 1) F hq2 lmL_110 rfl rfl (Nat.le_of_ble_eq_true rfl) (xfitL (Nat.le_of_ble_eq_true rfl)) dL_law_455 (fun hT z hz => wX9_undo (xnd F) (Nat.le_refl _) hT (a0 := q2) hq2 z hz) (fun v101 m100 => ?_)
                  refine xj_icmp_eq (tgt := 1575) F dL_law_458 (by decide) ?_ ?_
                  · refine xj_iinc F 4 6 (fun v102 => [(4, .int v102), (0, .ref q0), (1, .ref (xad G q1)), (2, .ref (xad G q2)), (3, .ref (xad G q3))]) dL_law_1575 rfl (by decide) (by decide) (fun _ => rfl) (fun v102 => ?_)
                    refine xj_goto (tgt := 23) F dL_law_1578 (by decide) ?_
                    refine xj_sub (lv' := [(0, .ref q0), (1, .ref (xad G q1)), (2, .ref (xad G q2)), (3, .ref (xad G q3)), (4, .int v102)]) [1, 2, 3, 4, 0] rfl ?_
                    exact hr23 _ _ q0 q1 q2 q3 v102 m100 (by omega) (by omega) hq0 hq1 hq2 hq3
                  · refine xj_iconst F 0 dL_law_461 (by decide) ?_
                    exact xj_none
                · skip
                  refine xj_ite (c := v4 = 6) (fun h103 => ?_) (fun h103 => ?_)
                  · refine xj_tabIn F 463 dL_law_40 (by subst h103; decide) (by subst h103; decide) (by subst h103; rfl) (by decide) ?_
                    refine xj_aload_n F 1 dL_law_463 rfl ?_
                    refine xj_aload_n F 0 dL_law_464 rfl ?_
                    refine xj_iload F 4 dL_law_465 rfl ?_
                    refine xj_iconst F 1 dL_law_467 (by decide) ?_
                    refine xj_iadd F dL_law_468 (fun v104 => ?_)
                    refine xj_sld F hq0 hX hbl hbA dL_law_469 (fun v105 => ?_)
                    refine xj_aload_n F 3 dL_law_470 rfl ?_
                    refine xj_callW (As := [.ref (xad G q1), .int v105, .ref (xad G q3)]) (d' := 9) F hA hZ lmL_111 rfl rfl (Nat.le_of_ble_eq_true rfl) ⟨Nat.le_of_ble_eq_true rfl, Nat.le_of_ble_eq_true rfl⟩ ⟨hrc, hrs⟩ dL_law_471 (fun hT z hz => wwL_told (xnd F) hst (Nat.le_refl _) hT (q0 := q1) (x0 := v105) (q1 := q3) hq1 hq3 z hz) (fun v106 m107 => ?_)
                    have F := xF_cs F ⟨hrc, hrs⟩
                    refine xj_istore (lv' := [(5, .int v106), (0, .ref q0), (1, .ref (xad G q1)), (2, .ref (xad G q2)), (3, .ref (xad G q3)), (4, .int x4)]) F dL_law_474 (by decide) rfl ?_
                    refine xj_aload_n F 3 dL_law_476 rfl ?_
                    refine xj_aload_n F 1 dL_law_477 rfl ?_
                    refine xj_iload F 5 dL_law_478 rfl ?_
                    refine xj_iconst F 1 dL_law_480 (by decide) ?_
                    refine xj_iadd F dL_law_481 (fun v108 => ?_)
                    refine xj_sld F hq0 hX hbl hbA dL_law_482 (fun v109 => ?_)
                    refine xj_callVI (b := q2) (As := [.int v109]) (d' := 1) F hq2 lmL_113 rfl rfl (Nat.le_of_ble_eq_true rfl) (xfitL (Nat.le_of_ble_eq_true rfl)) dL_law_483 (fun hT z hz => wX9_told (xnd F) (Nat.le_refl _) hT (a0 := q2) (a1 := v109) hq2 z hz) (fun v111 m110 => ?_)
                    refine xj_istore (lv' := [(6, .int v111), (5, .int v106), (0, .ref q0), (1, .ref (xad G q1)), (2, .ref (xad G q2)), (3, .ref (xad G q3)), (4, .int x4)]) F dL_law_486 (by decide) rfl ?_
                    refine xj_aload_n F 4 dL_law_488 rfl ?_
                    refine xj_callVI (b := q2) (As := []) (d' := 0) F hq2 lmL_91 rfl rfl (Nat.le_of_ble_eq_true rfl) (xfitL (Nat.le_of_ble_eq_true rfl)) dL_law_489 (fun hT z hz => wX9_thrown (xnd F) (Nat.le_refl _) hT (a0 := q2) hq2 z hz) (fun v113 m112 => ?_)
                    refine xj_iload F 1 dL_law_492 rfl ?_
                    refine xj_icmp_eq (tgt := 499) F dL_law_494 (by decide) ?_ ?_
                    · refine xj_iload F 1 dL_law_499 rfl ?_
                      refine xj_if_ne (tgt := 516) F dL_law_501 (by decide) ?_ ?_
                      · refine xj_goto (tgt := 1575) F dL_law_516 (by decide) ?_
                        refine xj_iinc F 6 6 (fun v114 => [(4, .int v114), (6, .int v111), (5, .int v106), (0, .ref q0), (1, .ref (xad G q1)), (2, .ref (xad G q2)), (3, .ref (xad G q3))]) dL_law_1575 rfl (by decide) (by decide) (fun _ => rfl) (fun v114 => ?_)
                        refine xj_goto (tgt := 23) F dL_law_1578 (by decide) ?_
                        refine xj_sub (lv' := [(0, .ref q0), (1, .ref (xad G q1)), (2, .ref (xad G q2)), (3, .ref (xad G q3)), (4, .int v114)]) [3, 4, 5, 6, 0] rfl ?_
                        exact hr23 _ _ q0 q1 q2 q3 v114 m112 (by omega) (by omega) hq0 hq1 hq2 hq3
                      · refine xj_aload_n F 5 dL_law_504 rfl ?_
                        refine xj_iconst F 0 dL_law_505 (by decide) ?_
                        refine xj_lald F hq3 dL_law_506 (fun v115 => ?_)
                        refine xj_iload F 0 dL_law_507 rfl ?_
                        refine xj_i2l F dL_law_509 (fun w116 => ?_)
                        refine xj_lcmp F dL_law_510 (fun v117 => ?_)
                        refine xj_if_eq (tgt := 516) F dL_law_511 (by decide) ?_ ?_
                        · refine xj_goto (tgt := 1575) F dL_law_516 (by decide) ?_
                          refine xj_iinc F 6 6 (fun v118 => [(4, .int v118), (6, .int v111), (5, .int v106), (0, .ref q0), (1, .ref (xad G q1)), (2, .ref (xad G q2)), (3, .ref (xad G q3))]) dL_law_1575 rfl (by decide) (by decide) (fun _ => rfl) (fun v118 => ?_)
                          refine xj_goto (tgt := 23) F dL_law_1578 (by decide) ?_
                          refine xj_sub (lv' := [(0, .ref q0), (1, .ref (xad G q1)), (2, .ref (xad G q2)), (3, .ref (xad G q3)), (4, .int v118)]) [3, 4, 5, 6, 0] rfl ?_
                          exact hr23 _ _ q0 q1 q2 q3 v118 m112 (by omega) (by omega) hq0 hq1 hq2 hq3
                        · refine xj_iconst F 0 dL_law_514 (by decide) ?_
                          exact xj_none
                    · refine xj_iconst F 0 dL_law_497 (by decide) ?_
                      exact xj_none
                  · skip
                    refine xj_ite (c := v4 = 7) (fun h119 => ?_) (fun h119 => ?_)
                    · refine xj_tabIn F 519 dL_law_40 (by subst h119; decide) (by subst h119; decide) (by subst h119; rfl) (by decide) ?_
                      refine xj_aload_n F 1 dL_law_519 rfl ?_
                      refine xj_aload_n F 0 dL_law_520 rfl ?_
                      refine xj_iload F 4 dL_law_521 rfl ?_
                      refine xj_iconst F 1 dL_law_523 (by decide) ?_
                      refine xj_iadd F dL_law_524 (fun v120 => ?_)
                      refine xj_sld F hq0 hX hbl hbA dL_law_525 (fun v121 => ?_)
                      refine xj_aload_n F 0 dL_law_526 rfl ?_
                      refine xj_iload F 4 dL_law_527 rfl ?_
                      refine xj_iconst F 2 dL_law_529 (by decide) ?_
                      refine xj_iadd F dL_law_530 (fun v122 => ?_)
                      refine xj_sld F hq0 hX hbl hbA dL_law_531 (fun v123 => ?_)
                      refine xj_aload_n F 3 dL_law_532 rfl ?_
                      refine xj_callW (As := [.ref (xad G q1), .int v121, .int v123, .ref (xad G q3)]) (d' := 9) F hA hZ lmL_114 rfl rfl (Nat.le_of_ble_eq_true rfl) ⟨Nat.le_of_ble_eq_true rfl, Nat.le_of_ble_eq_true rfl⟩ ⟨hrc, hrs⟩ dL_law_533 (fun hT z hz => wwL_unit (xnd F) hst (Nat.le_refl _) hT (q0 := q1) (x0 := v121) (x1 := v123) (q1 := q3) hq1 hq3 z hz) (fun v124 m125 => ?_)
                      have F := xF_cs F ⟨hrc, hrs⟩
                      refine xj_istore (lv' := [(5, .int v124), (0, .ref q0), (1, .ref (xad G q1)), (2, .ref (xad G q2)), (3, .ref (xad G q3)), (4, .int x4)]) F dL_law_536 (by decide) rfl ?_
                      refine xj_aload_n F 3 dL_law_538 rfl ?_
                      refine xj_aload_n F 1 dL_law_539 rfl ?_
                      refine xj_iload F 5 dL_law_540 rfl ?_
                      refine xj_iconst F 1 dL_law_542 (by decide) ?_
                      refine xj_iadd F dL_law_543 (fun v126 => ?_)
                      refine xj_sld F hq0 hX hbl hbA dL_law_544 (fun v127 => ?_)
                      refine xj_aload_n F 1 dL_law_545 rfl ?_
                      refine xj_iload F 5 dL_law_546 rfl ?_
                      refine xj_iconst F 2 dL_law_548 (by decide) ?_
                      refine xj_iadd F dL_law_549 (fun v128 => ?_)
                      refine xj_sld F hq0 hX hbl hbA dL_law_550 (fun v129 => ?_)
                      refine xj_callVI (b := q2) (As := [.int v127, .int v129]) (d' := 2) F hq2 lmL_116 rfl rfl (Nat.le_of_ble_eq_true rfl) (xfitL (Nat.le_of_ble_eq_true rfl)) dL_law_551 (fun hT z hz => wX9_unit (xnd F) (Nat.le_refl _) hT (a0 := q2) (a1 := v127) (a2 := v129) hq2 z hz) (fun v131 m130 => ?_)
                      refine xj_istore (lv' := [(6, .int v131), (5, .int v124), (0, .ref q0), (1, .ref (xad G q1)), (2, .ref (xad G q2)), (3, .ref (xad G q3)), (4, .int x4)]) F dL_law_554 (by decide) rfl ?_
                      refine xj_aload_n F 4 dL_law_556 rfl ?_
                      refine xj_callVI (b := q2) (As := []) (d' := 0) F hq2 lmL_91 rfl rfl (Nat.le_of_ble_eq_true rfl) (xfitL (Nat.le_of_ble_eq_true rfl)) dL_law_557 (fun hT z hz => wX9_thrown (xnd F) (Nat.le_refl _) hT (a0 := q2) hq2 z hz) (fun v133 m132 => ?_)
                      refine xj_iload F 1 dL_law_560 rfl ?_
                      refine xj_icmp_eq (tgt := 567) F dL_law_562 (by decide) ?_ ?_
                      · refine xj_iload F 1 dL_law_567 rfl ?_
                        refine xj_if_ne (tgt := 584) F dL_law_569 (by decide) ?_ ?_
                        · refine xj_goto (tgt := 1575) F dL_law_584 (by decide) ?_
                          refine xj_iinc F 6 6 (fun v134 => [(4, .int v134), (6, .int v131), (5, .int v124), (0, .ref q0), (1, .ref (xad G q1)), (2, .ref (xad G q2)), (3, .ref (xad G q3))]) dL_law_1575 rfl (by decide) (by decide) (fun _ => rfl) (fun v134 => ?_)
                          refine xj_goto (tgt := 23) F dL_law_1578 (by decide) ?_
                          refine xj_sub (lv' := [(0, .ref q0), (1, .ref (xad G q1)), (2, .ref (xad G q2)), (3, .ref (xad G q3)), (4, .int v134)]) [3, 4, 5, 6, 0] rfl ?_
                          exact hr23 _ _ q0 q1 q2 q3 v134 m132 (by omega) (by omega) hq0 hq1 hq2 hq3
                        · refine xj_aload_n F 5 dL_law_572 rfl ?_
                          refine xj_iconst F 0 dL_law_573 (by decide) ?_
                          refine xj_lald F hq3 dL_law_574 (fun v135 => ?_)
                          refine xj_iload F 0 dL_law_575 rfl ?_
                          refine xj_i2l F dL_law_577 (fun w136 => ?_)
                          refine xj_lcmp F dL_law_578 (fun v137 => ?_)
                          refine xj_if_eq (tgt := 584) F dL_law_579 (by decide) ?_ ?_
                          · refine xj_goto (tgt := 1575) F dL_law_584 (by decide) ?_
                            refine xj_iinc F 6 6 (fun v138 => [(4, .int v138), (6, .int v131), (5, .int v124), (0, .ref q0), (1, .ref (xad G q1)), (2, .ref (xad G q2)), (3, .ref (xad G q3))]) dL_law_1575 rfl (by decide) (by decide) (fun _ => rfl) (fun v138 => ?_)
                            refine xj_goto (tgt := 23) F dL_law_1578 (by decide) ?_
                            refine xj_sub (lv' := [(0, .ref q0), (1, .ref (xad G q1)), (2, .ref (xad G q2)), (3, .ref (xad G q3)), (4, .int v138)]) [3, 4, 5, 6, 0] rfl ?_
                            exact hr23 _ _ q0 q1 q2 q3 v138 m132 (by omega) (by omega) hq0 hq1 hq2 hq3
                          · refine xj_iconst F 0 dL_law_582 (by decide) ?_
                            exact xj_none
                      · refine xj_iconst F 0 dL_law_565 (by decide) ?_
                        exact xj_none
                    · skip
                      refine xj_ite (c := v4 = 8) (fun h139 => ?_) (fun h139 => ?_)
                      · refine xj_tabIn F 587 dL_law_40 (by subst h139; decide) (by subst h139; decide) (by subst h139; rfl) (by decide) ?_
                        refine xj_aload_n F 1 dL_law_587 rfl ?_
                        refine xj_aload_n F 0 dL_law_588 rfl ?_
                        refine xj_iload F 4 dL_law_589 rfl ?_
                        refine xj_iconst F 1 dL_law_591 (by decide) ?_
                        refine xj_iadd F dL_law_592 (fun v140 => ?_)
                        refine xj_sld F hq0 hX hbl hbA dL_law_593 (fun v141 => ?_)
                        refine xj_aload_n F 0 dL_law_594 rfl ?_
                        refine xj_iload F 4 dL_law_595 rfl ?_
                        refine xj_iconst F 2 dL_law_597 (by decide) ?_
                        refine xj_iadd F dL_law_598 (fun v142 => ?_)
                        refine xj_sld F hq0 hX hbl hbA dL_law_599 (fun v143 => ?_)
                        refine xj_aload_n F 0 dL_law_600 rfl ?_
                        refine xj_iload F 4 dL_law_601 rfl ?_
                        refine xj_iconst F 3 dL_law_603 (by decide) ?_
                        refine xj_iadd F dL_law_604 (fun v144 => ?_)
                        refine xj_sld F hq0 hX hbl hbA dL_law_605 (fun v145 => ?_)
                        refine xj_aload_n F 3 dL_law_606 rfl ?_
                        refine xj_callW (As := [.ref (xad G q1), .int v141, .int v143, .int v145, .ref (xad G q3)]) (d' := 10) F hA hZ lmL_117 rfl rfl (Nat.le_of_ble_eq_true rfl) ⟨Nat.le_of_ble_eq_true rfl, Nat.le_of_ble_eq_true rfl⟩ ⟨hrc, hrs⟩ dL_law_607 (fun hT z hz => wwL_member (xnd F) hst (Nat.le_refl _) hT (q0 := q1) (x0 := v141) (x1 := v143) (x2 := v145) (q1 := q3) hq1 hq3 z hz) (fun v146 m147 => ?_)
                        have F := xF_cs F ⟨hrc, hrs⟩
                        refine xj_istore (lv' := [(5, .int v146), (0, .ref q0), (1, .ref (xad G q1)), (2, .ref (xad G q2)), (3, .ref (xad G q3)), (4, .int x4)]) F dL_law_610 (by decide) rfl ?_
                        refine xj_aload_n F 3 dL_law_612 rfl ?_
                        refine xj_aload_n F 1 dL_law_613 rfl ?_
                        refine xj_iload F 5 dL_law_614 rfl ?_
                        refine xj_iconst F 1 dL_law_616 (by decide) ?_
                        refine xj_iadd F dL_law_617 (fun v148 => ?_)
                        refine xj_sld F hq0 hX hbl hbA dL_law_618 (fun v149 => ?_)
                        refine xj_aload_n F 1 dL_law_619 rfl ?_
                        refine xj_iload F 5 dL_law_620 rfl ?_
                        refine xj_iconst F 2 dL_law_622 (by decide) ?_
                        refine xj_iadd F dL_law_623 (fun v150 => ?_)
                        refine xj_sld F hq0 hX hbl hbA dL_law_624 (fun v151 => ?_)
                        refine xj_aload_n F 1 dL_law_625 rfl ?_
                        refine xj_iload F 5 dL_law_626 rfl ?_
                        refine xj_iconst F 3 dL_law_628 (by decide) ?_
                        refine xj_iadd F dL_law_629 (fun v152 => ?_)
                        refine xj_sld F hq0 hX hbl hbA dL_law_630 (fun v153 => ?_)
                        refine xj_callVI (b := q2) (As := [.int v149, .int v151, .int v153]) (d' := 41) F hq2 lmL_119 rfl rfl (Nat.le_of_ble_eq_true rfl) (xfitL (Nat.le_of_ble_eq_true rfl)) dL_law_631 (fun hT z hz => wX9_member (xnd F) (Nat.le_refl _) hT (a0 := q2) (a1 := v149) (a2 := v151) (a3 := v153) hq2 z hz) (fun v155 m154 => ?_)
                        refine xj_istore (lv' := [(6, .int v155), (5, .int v146), (0, .ref q0), (1, .ref (xad G q1)), (2, .ref (xad G q2)), (3, .ref (xad G q3)), (4, .int x4)]) F dL_law_634 (by decide) rfl ?_
                        refine xj_aload_n F 4 dL_law_636 rfl ?_
                        refine xj_callVI (b := q2) (As := []) (d' := 0) F hq2 lmL_91 rfl rfl (Nat.le_of_ble_eq_true rfl) (xfitL (Nat.le_of_ble_eq_true rfl)) dL_law_637 (fun hT z hz => wX9_thrown (xnd F) (Nat.le_refl _) hT (a0 := q2) hq2 z hz) (fun v157 m156 => ?_)
                        refine xj_iload F 1 dL_law_640 rfl ?_
                        refine xj_icmp_eq (tgt := 647) F dL_law_642 (by decide) ?_ ?_
                        · refine xj_iload F 1 dL_law_647 rfl ?_
                          refine xj_if_ne (tgt := 664) F dL_law_649 (by decide) ?_ ?_
                          · refine xj_goto (tgt := 1575) F dL_law_664 (by decide) ?_
                            refine xj_iinc F 6 6 (fun v158 => [(4, .int v158), (6, .int v155), (5, .int v146), (0, .ref q0), (1, .ref (xad G q1)), (2, .ref (xad G q2)), (3, .ref (xad G q3))]) dL_law_1575 rfl (by decide) (by decide) (fun _ => rfl) (fun v158 => ?_)
                            refine xj_goto (tgt := 23) F dL_law_1578 (by decide) ?_
                            refine xj_sub (lv' := [(0, .ref q0), (1, .ref (xad G q1)), (2, .ref (xad G q2)), (3, .ref (xad G q3)), (4, .int v158)]) [3, 4, 5, 6, 0] rfl ?_
                            exact hr23 _ _ q0 q1 q2 q3 v158 m156 (by omega) (by omega) hq0 hq1 hq2 hq3
                          · refine xj_aload_n F 5 dL_law_652 rfl ?_
                            refine xj_iconst F 0 dL_law_653 (by decide) ?_
                            refine xj_lald F hq3 dL_law_654 (fun v159 => ?_)
                            refine xj_iload F 0 dL_law_655 rfl ?_
                            refine xj_i2l F dL_law_657 (fun w160 => ?_)
                            refine xj_lcmp F dL_law_658 (fun v161 => ?_)
                            refine xj_if_eq (tgt := 664) F dL_law_659 (by decide) ?_ ?_
                            · refine xj_goto (tgt := 1575) F dL_law_664 (by decide) ?_
                              refine xj_iinc F 6 6 (fun v162 => [(4, .int v162), (6, .int v155), (5, .int v146), (0, .ref q0), (1, .ref (xad G q1)), (2, .ref (xad G q2)), (3, .ref (xad G q3))]) dL_law_1575 rfl (by decide) (by decide) (fun _ => rfl) (fun v162 => ?_)
                              refine xj_goto (tgt := 23) F dL_law_1578 (by decide) ?_
                              refine xj_sub (lv' := [(0, .ref q0), (1, .ref (xad G q1)), (2, .ref (xad G q2)), (3, .ref (xad G q3)), (4, .int v162)]) [3, 4, 5, 6, 0] rfl ?_
                              exact hr23 _ _ q0 q1 q2 q3 v162 m156 (by omega) (by omega) hq0 hq1 hq2 hq3
                            · refine xj_iconst F 0 dL_law_662 (by decide) ?_
                              exact xj_none
                        · refine xj_iconst F 0 dL_law_645 (by decide) ?_
                          exact xj_none
                      · skip
                        refine xj_ite (c := v4 = 9) (fun h163 => ?_) (fun h163 => ?_)
                        · refine xj_tabIn F 667 dL_law_40 (by subst h163; decide) (by subst h163; decide) (by subst h163; rfl) (by decide) ?_
                          refine xj_aload_n F 1 dL_law_667 rfl ?_
                          refine xj_aload_n F 0 dL_law_668 rfl ?_
                          refine xj_iload F 4 dL_law_669 rfl ?_
                          refine xj_iconst F 1 dL_law_671 (by decide) ?_
                          refine xj_iadd F dL_law_672 (fun v164 => ?_)
                          refine xj_sld F hq0 hX hbl hbA dL_law_673 (fun v165 => ?_)
                          refine xj_aload_n F 3 dL_law_674 rfl ?_
                          refine xj_callW (As := [.ref (xad G q1), .int v165, .ref (xad G q3)]) (d' := 206) F hA hZ lmL_120 rfl rfl (Nat.le_of_ble_eq_true rfl) ⟨Nat.le_of_ble_eq_true rfl, Nat.le_of_ble_eq_true rfl⟩ ⟨hrc, hrs⟩ dL_law_675 (fun hT z hz => wwL_lazy (xnd F) hst (Nat.le_refl _) hT (q0 := q1) (x0 := v165) (q1 := q3) hq1 hq3 z hz) (fun v166 m167 => ?_)
                          have F := xF_cs F ⟨hrc, hrs⟩
                          refine xj_istore (lv' := [(5, .int v166), (0, .ref q0), (1, .ref (xad G q1)), (2, .ref (xad G q2)), (3, .ref (xad G q3)), (4, .int x4)]) F dL_law_678 (by decide) rfl ?_
                          refine xj_aload_n F 3 dL_law_680 rfl ?_
                          refine xj_aload_n F 1 dL_law_681 rfl ?_
                          refine xj_iload F 5 dL_law_682 rfl ?_
                          refine xj_iconst F 1 dL_law_684 (by decide) ?_
                          refine xj_iadd F dL_law_685 (fun v168 => ?_)
                          refine xj_sld F hq0 hX hbl hbA dL_law_686 (fun v169 => ?_)
                          refine xj_callVI (b := q2) (As := [.int v169]) (d' := 604) F hq2 lmL_122 rfl rfl (Nat.le_of_ble_eq_true rfl) (xfitL (Nat.le_of_ble_eq_true rfl)) dL_law_687 (fun hT z hz => wX9_lazy (xnd F) (Nat.le_refl _) hT (a0 := q2) (a1 := v169) hq2 z hz) (fun v171 m170 => ?_)
                          refine xj_istore (lv' := [(6, .int v171), (5, .int v166), (0, .ref q0), (1, .ref (xad G q1)), (2, .ref (xad G q2)), (3, .ref (xad G q3)), (4, .int x4)]) F dL_law_690 (by decide) rfl ?_
                          refine xj_aload_n F 4 dL_law_692 rfl ?_
                          refine xj_callVI (b := q2) (As := []) (d' := 0) F hq2 lmL_91 rfl rfl (Nat.le_of_ble_eq_true rfl) (xfitL (Nat.le_of_ble_eq_true rfl)) dL_law_693 (fun hT z hz => wX9_thrown (xnd F) (Nat.le_refl _) hT (a0 := q2) hq2 z hz) (fun v173 m172 => ?_)
                          refine xj_iload F 1 dL_law_696 rfl ?_
                          refine xj_icmp_eq (tgt := 703) F dL_law_698 (by decide) ?_ ?_
                          · refine xj_iload F 1 dL_law_703 rfl ?_
                            refine xj_if_ne (tgt := 720) F dL_law_705 (by decide) ?_ ?_
                            · refine xj_goto (tgt := 1575) F dL_law_720 (by decide) ?_
                              refine xj_iinc F 6 6 (fun v174 => [(4, .int v174), (6, .int v171), (5, .int v166), (0, .ref q0), (1, .ref (xad G q1)), (2, .ref (xad G q2)), (3, .ref (xad G q3))]) dL_law_1575 rfl (by decide) (by decide) (fun _ => rfl) (fun v174 => ?_)
                              refine xj_goto (tgt := 23) F dL_law_1578 (by decide) ?_
                              refine xj_sub (lv' := [(0, .ref q0), (1, .ref (xad G q1)), (2, .ref (xad G q2)), (3, .ref (xad G q3)), (4, .int v174)]) [3, 4, 5, 6, 0] rfl ?_
                              exact hr23 _ _ q0 q1 q2 q3 v174 m172 (by omega) (by omega) hq0 hq1 hq2 hq3
                            · refine xj_aload_n F 5 dL_law_708 rfl ?_
                              refine xj_iconst F 0 dL_law_709 (by decide) ?_
                              refine xj_lald F hq3 dL_law_710 (fun v175 => ?_)
                              refine xj_iload F 0 dL_law_711 rfl ?_
                              refine xj_i2l F dL_law_713 (fun w176 => ?_)
                              refine xj_lcmp F dL_law_714 (fun v177 => ?_)
                              refine xj_if_eq (tgt := 720) F dL_law_715 (by decide) ?_ ?_
                              · refine xj_goto (tgt := 1575) F dL_law_720 (by decide) ?_
                                refine xj_iinc F 6 6 (fun v178 => [(4, .int v178), (6, .int v171), (5, .int v166), (0, .ref q0), (1, .ref (xad G q1)), (2, .ref (xad G q2)), (3, .ref (xad G q3))]) dL_law_1575 rfl (by decide) (by decide) (fun _ => rfl) (fun v178 => ?_)
                                refine xj_goto (tgt := 23) F dL_law_1578 (by decide) ?_
                                refine xj_sub (lv' := [(0, .ref q0), (1, .ref (xad G q1)), (2, .ref (xad G q2)), (3, .ref (xad G q3)), (4, .int v178)]) [3, 4, 5, 6, 0] rfl ?_
                                exact hr23 _ _ q0 q1 q2 q3 v178 m172 (by omega) (by omega) hq0 hq1 hq2 hq3
                              · refine xj_iconst F 0 dL_law_718 (by decide) ?_
                                exact xj_none
                          · refine xj_iconst F 0 dL_law_701 (by decide) ?_
                            exact xj_none
                        · skip
                          refine xj_ite (c := v4 = 10) (fun h179 => ?_) (fun h179 => ?_)
                          · refine xj_tabIn F 723 dL_law_40 (by subst h179; decide) (by subst h179; decide) (by subst h179; rfl) (by decide) ?_
                            refine xj_aload_n F 1 dL_law_723 rfl ?_
                            refine xj_aload_n F 0 dL_law_724 rfl ?_
                            refine xj_iload F 4 dL_law_725 rfl ?_
                            refine xj_iconst F 1 dL_law_727 (by decide) ?_
                            refine xj_iadd F dL_law_728 (fun v180 => ?_)
                            refine xj_sld F hq0 hX hbl hbA dL_law_729 (fun v181 => ?_)
                            refine xj_aload_n F 0 dL_law_730 rfl ?_
                            refine xj_iload F 4 dL_law_731 rfl ?_
                            refine xj_iconst F 2 dL_law_733 (by decide) ?_
                            refine xj_iadd F dL_law_734 (fun v182 => ?_)
                            refine xj_sld F hq0 hX hbl hbA dL_law_735 (fun v183 => ?_)
                            refine xj_aload_n F 3 dL_law_736 rfl ?_
                            refine xj_callW (As := [.ref (xad G q1), .int v181, .int v183, .ref (xad G q3)]) (d' := 205) F hA hZ lmL_123 rfl rfl (Nat.le_of_ble_eq_true rfl) ⟨Nat.le_of_ble_eq_true rfl, Nat.le_of_ble_eq_true rfl⟩ ⟨hrc, hrs⟩ dL_law_737 (fun hT z hz => wwL_eager (xnd F) hst (Nat.le_refl _) hT (q0 := q1) (x0 := v181) (x1 := v183) (q1 := q3) hq1 hq3 z hz) (fun v184 m185 => ?_)
                            have F := xF_cs F ⟨hrc, hrs⟩
                            refine xj_istore (lv' := [(5, .int v184), (0, .ref q0), (1, .ref (xad G q1)), (2, .ref (xad G q2)), (3, .ref (xad G q3)), (4, .int x4)]) F dL_law_740 (by decide) rfl ?_
                            refine xj_aload_n F 3 dL_law_742 rfl ?_
                            refine xj_aload_n F 1 dL_law_743 rfl ?_
                            refine xj_iload F 5 dL_law_744 rfl ?_
                            refine xj_iconst F 1 dL_law_746 (by decide) ?_
                            refine xj_iadd F dL_law_747 (fun v186 => ?_)
                            refine xj_sld F hq0 hX hbl hbA dL_law_748 (fun v187 => ?_)
                            refine xj_aload_n F 1 dL_law_749 rfl ?_
                            refine xj_iload F 5 dL_law_750 rfl ?_
                            refine xj_iconst F 2 dL_law_752 (by decide) ?_
                            refine xj_iadd F dL_law_753 (fun v188 => ?_)
                            refine xj_sld F hq0 hX hbl hbA dL_law_754 (fun v189 => ?_)
                            refine xj_callVI (b := q2) (As := [.int v187, .int v189]) (d' := 604) F hq2 lmL_125 rfl rfl (Nat.le_of_ble_eq_true rfl) (xfitL (Nat.le_of_ble_eq_true rfl)) dL_law_755 (fun hT z hz => wX9_eager (xnd F) (Nat.le_refl _) hT (a0 := q2) (a1 := v187) (a2 := v189) hq2 z hz) (fun v191 m190 => ?_)
                            refine xj_istore (lv' := [(6, .int v191), (5, .int v184), (0, .ref q0), (1, .ref (xad G q1)), (2, .ref (xad G q2)), (3, .ref (xad G q3)), (4, .int x4)]) F dL_law_758 (by decide) rfl ?_
                            refine xj_aload_n F 4 dL_law_760 rfl ?_
                            refine xj_callVI (b := q2) (As := []) (d' := 0) F hq2 lmL_91 rfl rfl (Nat.le_of_ble_eq_true rfl) (xfitL (Nat.le_of_ble_eq_true rfl)) dL_law_761 (fun hT z hz => wX9_thrown (xnd F) (Nat.le_refl _) hT (a0 := q2) hq2 z hz) (fun v193 m192 => ?_)
                            refine xj_iload F 1 dL_law_764 rfl ?_
                            refine xj_icmp_eq (tgt := 771) F dL_law_766 (by decide) ?_ ?_
                            · refine xj_iload F 1 dL_law_771 rfl ?_
                              refine xj_if_ne (tgt := 788) F dL_law_773 (by decide) ?_ ?_
                              · refine xj_goto (tgt := 1575) F dL_law_788 (by decide) ?_
                                refine xj_iinc F 6 6 (fun v194 => [(4, .int v194), (6, .int v191), (5, .int v184), (0, .ref q0), (1, .ref (xad G q1)), (2, .ref (xad G q2)), (3, .ref (xad G q3))]) dL_law_1575 rfl (by decide) (by decide) (fun _ => rfl) (fun v194 => ?_)
                                refine xj_goto (tgt := 23) F dL_law_1578 (by decide) ?_
                                refine xj_sub (lv' := [(0, .ref q0), (1, .ref (xad G q1)), (2, .ref (xad G q2)), (3, .ref (xad G q3)), (4, .int v194)]) [3, 4, 5, 6, 0] rfl ?_
                                exact hr23 _ _ q0 q1 q2 q3 v194 m192 (by omega) (by omega) hq0 hq1 hq2 hq3
                              · refine xj_aload_n F 5 dL_law_776 rfl ?_
                                refine xj_iconst F 0 dL_law_777 (by decide) ?_
                                refine xj_lald F hq3 dL_law_778 (fun v195 => ?_)
                                refine xj_iload F 0 dL_law_779 rfl ?_
                                refine xj_i2l F dL_law_781 (fun w196 => ?_)
                                refine xj_lcmp F dL_law_782 (fun v197 => ?_)
                                refine xj_if_eq (tgt := 788) F dL_law_783 (by decide) ?_ ?_
                                · refine xj_goto (tgt := 1575) F dL_law_788 (by decide) ?_
                                  refine xj_iinc F 6 6 (fun v198 => [(4, .int v198), (6, .int v191), (5, .int v184), (0, .ref q0), (1, .ref (xad G q1)), (2, .ref (xad G q2)), (3, .ref (xad G q3))]) dL_law_1575 rfl (by decide) (by decide) (fun _ => rfl) (fun v198 => ?_)
                                  refine xj_goto (tgt := 23) F dL_law_1578 (by decide) ?_
                                  refine xj_sub (lv' := [(0, .ref q0), (1, .ref (xad G q1)), (2, .ref (xad G q2)), (3, .ref (xad G q3)), (4, .int v198)]) [3, 4, 5, 6, 0] rfl ?_
                                  exact hr23 _ _ q0 q1 q2 q3 v198 m192 (by omega) (by omega) hq0 hq1 hq2 hq3
                                · refine xj_iconst F 0 dL_law_786 (by decide) ?_
                                  exact xj_none
                            · refine xj_iconst F 0 dL_law_769 (by decide) ?_
                              exact xj_none
                          · skip
                            refine xj_ite (c := v4 = 11) (fun h199 => ?_) (fun h199 => ?_)
                            · refine xj_tabIn F 791 dL_law_40 (by subst h199; decide) (by subst h199; decide) (by subst h199; rfl) (by decide) ?_
                              refine xj_aload_n F 1 dL_law_791 rfl ?_
                              refine xj_aload_n F 0 dL_law_792 rfl ?_
                              refine xj_iload F 4 dL_law_793 rfl ?_
                              refine xj_iconst F 1 dL_law_795 (by decide) ?_
                              refine xj_iadd F dL_law_796 (fun v200 => ?_)
                              refine xj_sld F hq0 hX hbl hbA dL_law_797 (fun v201 => ?_)
                              refine xj_aload_n F 0 dL_law_798 rfl ?_
                              refine xj_iload F 4 dL_law_799 rfl ?_
                              refine xj_iconst F 2 dL_law_801 (by decide) ?_
                              refine xj_iadd F dL_law_802 (fun v202 => ?_)
                              refine xj_sld F hq0 hX hbl hbA dL_law_803 (fun v203 => ?_)
                              refine xj_aload_n F 3 dL_law_804 rfl ?_
                              refine xj_callW (As := [.ref (xad G q1), .int v201, .int v203, .ref (xad G q3)]) (d' := 206) F hA hZ lmL_126 rfl rfl (Nat.le_of_ble_eq_true rfl) ⟨Nat.le_of_ble_eq_true rfl, Nat.le_of_ble_eq_true rfl⟩ ⟨hrc, hrs⟩ dL_law_805 (fun hT z hz => wwL_value (xnd F) hst (Nat.le_refl _) hT (q0 := q1) (x0 := v201) (x1 := v203) (q1 := q3) hq1 hq3 z hz) (fun v204 m205 => ?_)
                              have F := xF_cs F ⟨hrc, hrs⟩
                              refine xj_istore (lv' := [(5, .int v204), (0, .ref q0), (1, .ref (xad G q1)), (2, .ref (xad G q2)), (3, .ref (xad G q3)), (4, .int x4)]) F dL_law_808 (by decide) rfl ?_
                              refine xj_aload_n F 3 dL_law_810 rfl ?_
                              refine xj_aload_n F 1 dL_law_811 rfl ?_
                              refine xj_iload F 5 dL_law_812 rfl ?_
                              refine xj_iconst F 1 dL_law_814 (by decide) ?_
                              refine xj_iadd F dL_law_815 (fun v206 => ?_)
                              refine xj_sld F hq0 hX hbl hbA dL_law_816 (fun v207 => ?_)
                              refine xj_aload_n F 1 dL_law_817 rfl ?_
                              refine xj_iload F 5 dL_law_818 rfl ?_
                              refine xj_iconst F 2 dL_law_820 (by decide) ?_
                              refine xj_iadd F dL_law_821 (fun v208 => ?_)
                              refine xj_sld F hq0 hX hbl hbA dL_law_822 (fun v209 => ?_)
                              refine xj_callVI (b := q2) (As := [.int v207, .int v209]) (d' := 604) F hq2 lmL_128 rfl rfl (Nat.le_of_ble_eq_true rfl) (xfitL (Nat.le_of_ble_eq_true rfl)) dL_law_823 (fun hT z hz => wX9_value (xnd F) (Nat.le_refl _) hT (a0 := q2) (a1 := v207) (a2 := v209) hq2 z hz) (fun v211 m210 => ?_)
                              refine xj_istore (lv' := [(6, .int v211), (5, .int v204), (0, .ref q0), (1, .ref (xad G q1)), (2, .ref (xad G q2)), (3, .ref (xad G q3)), (4, .int x4)]) F dL_law_826 (by decide) rfl ?_
                              refine xj_aload_n F 4 dL_law_828 rfl ?_
                              refine xj_callVI (b := q2) (As := []) (d' := 0) F hq2 lmL_91 rfl rfl (Nat.le_of_ble_eq_true rfl) (xfitL (Nat.le_of_ble_eq_true rfl)) dL_law_829 (fun hT z hz => wX9_thrown (xnd F) (Nat.le_refl _) hT (a0 := q2) hq2 z hz) (fun v213 m212 => ?_)
                              refine xj_iload F 1 dL_law_832 rfl ?_
                              refine xj_icmp_eq (tgt := 839) F dL_law_834 (by decide) ?_ ?_
                              · refine xj_iload F 1 dL_law_839 rfl ?_
                                refine xj_if_ne (tgt := 856) F dL_law_841 (by decide) ?_ ?_
                                · refine xj_goto (tgt := 1575) F dL_law_856 (by decide) ?_
                                  refine xj_iinc F 6 6 (fun v214 => [(4, .int v214), (6, .int v211), (5, .int v204), (0, .ref q0), (1, .ref (xad G q1)), (2, .ref (xad G q2)), (3, .ref (xad G q3))]) dL_law_1575 rfl (by decide) (by decide) (fun _ => rfl) (fun v214 => ?_)
                                  refine xj_goto (tgt := 23) F dL_law_1578 (by decide) ?_
                                  refine xj_sub (lv' := [(0, .ref q0), (1, .ref (xad G q1)), (2, .ref (xad G q2)), (3, .ref (xad G q3)), (4, .int v214)]) [3, 4, 5, 6, 0] rfl ?_
                                  exact hr23 _ _ q0 q1 q2 q3 v214 m212 (by omega) (by omega) hq0 hq1 hq2 hq3
                                · refine xj_aload_n F 5 dL_law_844 rfl ?_
                                  refine xj_iconst F 0 dL_law_845 (by decide) ?_
                                  refine xj_lald F hq3 dL_law_846 (fun v215 => ?_)
                                  refine xj_iload F 0 dL_law_847 rfl ?_
                                  refine xj_i2l F dL_law_849 (fun w216 => ?_)
                                  refine xj_lcmp F dL_law_850 (fun v217 => ?_)
                                  refine xj_if_eq (tgt := 856) F dL_law_851 (by decide) ?_ ?_
                                  · refine xj_goto (tgt := 1575) F dL_law_856 (by decide) ?_
                                    refine xj_iinc F 6 6 (fun v218 => [(4, .int v218), (6, .int v211), (5, .int v204), (0, .ref q0), (1, .ref (xad G q1)), (2, .ref (xad G q2)), (3, .ref (xad G q3))]) dL_law_1575 rfl (by decide) (by decide) (fun _ => rfl) (fun v218 => ?_)
                                    refine xj_goto (tgt := 23) F dL_law_1578 (by decide) ?_
                                    refine xj_sub (lv' := [(0, .ref q0), (1, .ref (xad G q1)), (2, .ref (xad G q2)), (3, .ref (xad G q3)), (4, .int v218)]) [3, 4, 5, 6, 0] rfl ?_
                                    exact hr23 _ _ q0 q1 q2 q3 v218 m212 (by omega) (by omega) hq0 hq1 hq2 hq3
                                  · refine xj_iconst F 0 dL_law_854 (by decide) ?_
                                    exact xj_none
                              · refine xj_iconst F 0 dL_law_837 (by decide) ?_
                                exact xj_none
                            · skip
                              refine xj_ite (c := v4 = 12) (fun h219 => ?_) (fun h219 => ?_)
                              · refine xj_tabIn F 859 dL_law_40 (by subst h219; decide) (by subst h219; decide) (by subst h219; rfl) (by decide) ?_
                                refine xj_aload_n F 1 dL_law_859 rfl ?_
                                refine xj_aload_n F 0 dL_law_860 rfl ?_
                                refine xj_iload F 4 dL_law_861 rfl ?_
                                refine xj_iconst F 1 dL_law_863 (by decide) ?_
                                refine xj_iadd F dL_law_864 (fun v220 => ?_)
                                refine xj_sld F hq0 hX hbl hbA dL_law_865 (fun v221 => ?_)
                                refine xj_aload_n F 3 dL_law_866 rfl ?_
                                refine xj_callW (As := [.ref (xad G q1), .int v221, .ref (xad G q3)]) (d' := 206) F hA hZ lmL_129 rfl rfl (Nat.le_of_ble_eq_true rfl) ⟨Nat.le_of_ble_eq_true rfl, Nat.le_of_ble_eq_true rfl⟩ ⟨hrc, hrs⟩ dL_law_867 (fun hT z hz => wwL_state (xnd F) hst (Nat.le_refl _) hT (q0 := q1) (x0 := v221) (q1 := q3) hq1 hq3 z hz) (fun v222 m223 => ?_)
                                have F := xF_cs F ⟨hrc, hrs⟩
                                refine xj_istore (lv' := [(5, .int v222), (0, .ref q0), (1, .ref (xad G q1)), (2, .ref (xad G q2)), (3, .ref (xad G q3)), (4, .int x4)]) F dL_law_870 (by decide) rfl ?_
                                refine xj_aload_n F 3 dL_law_872 rfl ?_
                                refine xj_aload_n F 1 dL_law_873 rfl ?_
                                refine xj_iload F 5 dL_law_874 rfl ?_
                                refine xj_iconst F 1 dL_law_876 (by decide) ?_
                                refine xj_iadd F dL_law_877 (fun v224 => ?_)
                                refine xj_sld F hq0 hX hbl hbA dL_law_878 (fun v225 => ?_)
                                refine xj_callVI (b := q2) (As := [.int v225]) (d' := 604) F hq2 lmL_131 rfl rfl (Nat.le_of_ble_eq_true rfl) (xfitL (Nat.le_of_ble_eq_true rfl)) dL_law_879 (fun hT z hz => wX9_state (xnd F) (Nat.le_refl _) hT (a0 := q2) (a1 := v225) hq2 z hz) (fun v227 m226 => ?_)
                                refine xj_istore (lv' := [(6, .int v227), (5, .int v222), (0, .ref q0), (1, .ref (xad G q1)), (2, .ref (xad G q2)), (3, .ref (xad G q3)), (4, .int x4)]) F dL_law_882 (by decide) rfl ?_
                                refine xj_aload_n F 4 dL_law_884 rfl ?_
                                refine xj_callVI (b := q2) (As := []) (d' := 0) F hq2 lmL_91 rfl rfl (Nat.le_of_ble_eq_true rfl) (xfitL (Nat.le_of_ble_eq_true rfl)) dL_law_885 (fun hT z hz => wX9_thrown (xnd F) (Nat.le_refl _) hT (a0 := q2) hq2 z hz) (fun v229 m228 => ?_)
                                refine xj_iload F 1 dL_law_888 rfl ?_
                                refine xj_icmp_eq (tgt := 895) F dL_law_890 (by decide) ?_ ?_
                                · refine xj_iload F 1 dL_law_895 rfl ?_
                                  refine xj_if_ne (tgt := 912) F dL_law_897 (by decide) ?_ ?_
                                  · refine xj_goto (tgt := 1575) F dL_law_912 (by decide) ?_
                                    refine xj_iinc F 6 6 (fun v230 => [(4, .int v230), (6, .int v227), (5, .int v222), (0, .ref q0), (1, .ref (xad G q1)), (2, .ref (xad G q2)), (3, .ref (xad G q3))]) dL_law_1575 rfl (by decide) (by decide) (fun _ => rfl) (fun v230 => ?_)
                                    refine xj_goto (tgt := 23) F dL_law_1578 (by decide) ?_
                                    refine xj_sub (lv' := [(0, .ref q0), (1, .ref (xad G q1)), (2, .ref (xad G q2)), (3, .ref (xad G q3)), (4, .int v230)]) [3, 4, 5, 6, 0] rfl ?_
                                    exact hr23 _ _ q0 q1 q2 q3 v230 m228 (by omega) (by omega) hq0 hq1 hq2 hq3
                                  · refine xj_aload_n F 5 dL_law_900 rfl ?_
                                    refine xj_iconst F 0 dL_law_901 (by decide) ?_
                                    refine xj_lald F hq3 dL_law_902 (fun v231 => ?_)
                                    refine xj_iload F 0 dL_law_903 rfl ?_
                                    refine xj_i2l F dL_law_905 (fun w232 => ?_)
                                    refine xj_lcmp F dL_law_906 (fun v233 => ?_)
                                    refine xj_if_eq (tgt := 912) F dL_law_907 (by decide) ?_ ?_
                                    · refine xj_goto (tgt := 1575) F dL_law_912 (by decide) ?_
                                      refine xj_iinc F 6 6 (fun v234 => [(4, .int v234), (6, .int v227), (5, .int v222), (0, .ref q0), (1, .ref (xad G q1)), (2, .ref (xad G q2)), (3, .ref (xad G q3))]) dL_law_1575 rfl (by decide) (by decide) (fun _ => rfl) (fun v234 => ?_)
                                      refine xj_goto (tgt := 23) F dL_law_1578 (by decide) ?_
                                      refine xj_sub (lv' := [(0, .ref q0), (1, .ref (xad G q1)), (2, .ref (xad G q2)), (3, .ref (xad G q3)), (4, .int v234)]) [3, 4, 5, 6, 0] rfl ?_
                                      exact hr23 _ _ q0 q1 q2 q3 v234 m228 (by omega) (by omega) hq0 hq1 hq2 hq3
                                    · refine xj_iconst F 0 dL_law_910 (by decide) ?_
                                      exact xj_none
                                · refine xj_iconst F 0 dL_law_893 (by decide) ?_
                                  exact xj_none
                              · skip
                                refine xj_ite (c := v4 = 13) (fun h235 => ?_) (fun h235 => ?_)
                                · refine xj_tabIn F 915 dL_law_40 (by subst h235; decide) (by subst h235; decide) (by subst h235; rfl) (by decide) ?_
                                  refine xj_aload_n F 1 dL_law_915 rfl ?_
                                  refine xj_aload_n F 0 dL_law_916 rfl ?_
                                  refine xj_iload F 4 dL_law_917 rfl ?_
                                  refine xj_iconst F 1 dL_law_919 (by decide) ?_
                                  refine xj_iadd F dL_law_920 (fun v236 => ?_)
                                  refine xj_sld F hq0 hX hbl hbA dL_law_921 (fun v237 => ?_)
                                  refine xj_callVI (b := q1) (As := [.int v237]) (d' := 205) F hq1 lmL_132 rfl rfl (Nat.le_of_ble_eq_true rfl) (xfitL (Nat.le_of_ble_eq_true rfl)) dL_law_922 (fun hT z hz => wX8_begun (xnd F) (Nat.le_refl _) hT (a0 := q1) (a1 := v237) hq1 z hz) (fun v239 m238 => ?_)
                                  refine xj_aload_n F 2 dL_law_925 rfl ?_
                                  refine xj_aload_n F 0 dL_law_926 rfl ?_
                                  refine xj_iload F 4 dL_law_927 rfl ?_
                                  refine xj_iconst F 1 dL_law_929 (by decide) ?_
                                  refine xj_iadd F dL_law_930 (fun v240 => ?_)
                                  refine xj_sld F hq0 hX hbl hbA dL_law_931 (fun v241 => ?_)
                                  refine xj_callVI (b := q2) (As := [.int v241]) (d' := 604) F hq2 lmL_135 rfl rfl (Nat.le_of_ble_eq_true rfl) (xfitL (Nat.le_of_ble_eq_true rfl)) dL_law_932 (fun hT z hz => wX9_begun (xnd F) (Nat.le_refl _) hT (a0 := q2) (a1 := v241) hq2 z hz) (fun v243 m242 => ?_)
                                  refine xj_icmp_eq (tgt := 1575) F dL_law_935 (by decide) ?_ ?_
                                  · refine xj_iinc F 4 6 (fun v244 => [(4, .int v244), (0, .ref q0), (1, .ref (xad G q1)), (2, .ref (xad G q2)), (3, .ref (xad G q3))]) dL_law_1575 rfl (by decide) (by decide) (fun _ => rfl) (fun v244 => ?_)
                                    refine xj_goto (tgt := 23) F dL_law_1578 (by decide) ?_
                                    refine xj_sub (lv' := [(0, .ref q0), (1, .ref (xad G q1)), (2, .ref (xad G q2)), (3, .ref (xad G q3)), (4, .int v244)]) [1, 2, 3, 4, 0] rfl ?_
                                    exact hr23 _ _ q0 q1 q2 q3 v244 m242 (by omega) (by omega) hq0 hq1 hq2 hq3
                                  · refine xj_iconst F 0 dL_law_938 (by decide) ?_
                                    exact xj_none
                                · skip
                                  refine xj_ite (c := v4 = 14) (fun h245 => ?_) (fun h245 => ?_)
                                  · refine xj_tabIn F 940 dL_law_40 (by subst h245; decide) (by subst h245; decide) (by subst h245; rfl) (by decide) ?_
                                    refine xj_aload_n F 1 dL_law_940 rfl ?_
                                    refine xj_aload_n F 0 dL_law_941 rfl ?_
                                    refine xj_iload F 4 dL_law_942 rfl ?_
                                    refine xj_iconst F 1 dL_law_944 (by decide) ?_
                                    refine xj_iadd F dL_law_945 (fun v246 => ?_)
                                    refine xj_sld F hq0 hX hbl hbA dL_law_946 (fun v247 => ?_)
                                    refine xj_aload_n F 0 dL_law_947 rfl ?_
                                    refine xj_iload F 4 dL_law_948 rfl ?_
                                    refine xj_iconst F 2 dL_law_950 (by decide) ?_
                                    refine xj_iadd F dL_law_951 (fun v248 => ?_)
                                    refine xj_sld F hq0 hX hbl hbA dL_law_952 (fun v249 => ?_)
                                    refine xj_aload_n F 3 dL_law_953 rfl ?_
                                    refine xj_callW (As := [.ref (xad G q1), .int v247, .int v249, .ref (xad G q3)]) (d' := 207) F hA hZ lmL_136 rfl rfl (Nat.le_of_ble_eq_true rfl) ⟨Nat.le_of_ble_eq_true rfl, Nat.le_of_ble_eq_true rfl⟩ ⟨hrc, hrs⟩ dL_law_954 (fun hT z hz => wwL_surprise (xnd F) hst (Nat.le_refl _) hT (q0 := q1) (x0 := v247) (x1 := v249) (q1 := q3) hq1 hq3 z hz) (fun v250 m251 => ?_)
                                    have F := xF_cs F ⟨hrc, hrs⟩
                                    refine xj_istore (lv' := [(5, .int v250), (0, .ref q0), (1, .ref (xad G q1)), (2, .ref (xad G q2)), (3, .ref (xad G q3)), (4, .int x4)]) F dL_law_957 (by decide) rfl ?_
                                    refine xj_aload_n F 3 dL_law_959 rfl ?_
                                    refine xj_aload_n F 1 dL_law_960 rfl ?_
                                    refine xj_iload F 5 dL_law_961 rfl ?_
                                    refine xj_iconst F 1 dL_law_963 (by decide) ?_
                                    refine xj_iadd F dL_law_964 (fun v252 => ?_)
                                    refine xj_sld F hq0 hX hbl hbA dL_law_965 (fun v253 => ?_)
                                    refine xj_aload_n F 1 dL_law_966 rfl ?_
                                    refine xj_iload F 5 dL_law_967 rfl ?_
                                    refine xj_iconst F 2 dL_law_969 (by decide) ?_
                                    refine xj_iadd F dL_law_970 (fun v254 => ?_)
                                    refine xj_sld F hq0 hX hbl hbA dL_law_971 (fun v255 => ?_)
                                    refine xj_callVI (b := q2) (As := [.int v253, .int v255]) (d' := 604) F hq2 lmL_138 rfl rfl (Nat.le_of_ble_eq_true rfl) (xfitL (Nat.le_of_ble_eq_true rfl)) dL_law_972 (fun hT z hz => wX9_surprise (xnd F) (Nat.le_refl _) hT (a0 := q2) (a1 := v253) (a2 := v255) hq2 z hz) (fun v257 m256 => ?_)
                                    refine xj_istore (lv' := [(6, .int v257), (5, .int v250), (0, .ref q0), (1, .ref (xad G q1)), (2, .ref (xad G q2)), (3, .ref (xad G q3)), (4, .int x4)]) F dL_law_975 (by decide) rfl ?_
                                    refine xj_aload_n F 4 dL_law_977 rfl ?_
                                    refine xj_callVI (b := q2) (As := []) (d' := 0) F hq2 lmL_91 rfl rfl (Nat.le_of_ble_eq_true rfl) (xfitL (Nat.le_of_ble_eq_true rfl)) dL_law_978 (fun hT z hz => wX9_thrown (xnd F) (Nat.le_refl _) hT (a0 := q2) hq2 z hz) (fun v259 m258 => ?_)
                                    refine xj_iload F 1 dL_law_981 rfl ?_
                                    refine xj_icmp_eq (tgt := 988) F dL_law_983 (by decide) ?_ ?_
                                    · refine xj_iload F 1 dL_law_988 rfl ?_
                                      refine xj_if_ne (tgt := 1005) F dL_law_990 (by decide) ?_ ?_
                                      · refine xj_goto (tgt := 1575) F dL_law_1005 (by decide) ?_
                                        refine xj_iinc F 6 6 (fun v260 => [(4, .int v260), (6, .int v257), (5, .int v250), (0, .ref q0), (1, .ref (xad G q1)), (2, .ref (xad G q2)), (3, .ref (xad G q3))]) dL_law_1575 rfl (by decide) (by decide) (fun _ => rfl) (fun v260 => ?_)
                                        refine xj_goto (tgt := 23) F dL_law_1578 (by decide) ?_
                                        refine xj_sub (lv' := [(0, .ref q0), (1, .ref (xad G q1)), (2, .ref (xad G q2)), (3, .ref (xad G q3)), (4, .int v260)]) [3, 4, 5, 6, 0] rfl ?_
                                        exact hr23 _ _ q0 q1 q2 q3 v260 m258 (by omega) (by omega) hq0 hq1 hq2 hq3
                                      · refine xj_aload_n F 5 dL_law_993 rfl ?_
                                        refine xj_iconst F 0 dL_law_994 (by decide) ?_
                                        refine xj_lald F hq3 dL_law_995 (fun v261 => ?_)
                                        refine xj_iload F 0 dL_law_996 rfl ?_
                                        refine xj_i2l F dL_law_998 (fun w262 => ?_)
                                        refine xj_lcmp F dL_law_999 (fun v263 => ?_)
                                        refine xj_if_eq (tgt := 1005) F dL_law_1000 (by decide) ?_ ?_
                                        · refine xj_goto (tgt := 1575) F dL_law_1005 (by decide) ?_
                                          refine xj_iinc F 6 6 (fun v264 => [(4, .int v264), (6, .int v257), (5, .int v250), (0, .ref q0), (1, .ref (xad G q1)), (2, .ref (xad G q2)), (3, .ref (xad G q3))]) dL_law_1575 rfl (by decide) (by decide) (fun _ => rfl) (fun v264 => ?_)
                                          refine xj_goto (tgt := 23) F dL_law_1578 (by decide) ?_
                                          refine xj_sub (lv' := [(0, .ref q0), (1, .ref (xad G q1)), (2, .ref (xad G q2)), (3, .ref (xad G q3)), (4, .int v264)]) [3, 4, 5, 6, 0] rfl ?_
                                          exact hr23 _ _ q0 q1 q2 q3 v264 m258 (by omega) (by omega) hq0 hq1 hq2 hq3
                                        · refine xj_iconst F 0 dL_law_1003 (by decide) ?_
                                          exact xj_none
                                    · refine xj_iconst F 0 dL_law_986 (by decide) ?_
                                      exact xj_none
                                  · skip
                                    refine xj_ite (c := v4 = 15) (fun h265 => ?_) (fun h265 => ?_)
                                    · refine xj_tabIn F 1008 dL_law_40 (by subst h265; decide) (by subst h265; decide) (by subst h265; rfl) (by decide) ?_
                                      refine xj_aload_n F 1 dL_law_1008 rfl ?_
                                      refine xj_aload_n F 0 dL_law_1009 rfl ?_
                                      refine xj_iload F 4 dL_law_1010 rfl ?_
                                      refine xj_iconst F 1 dL_law_1012 (by decide) ?_
                                      refine xj_iadd F dL_law_1013 (fun v266 => ?_)
                                      refine xj_sld F hq0 hX hbl hbA dL_law_1014 (fun v267 => ?_)
                                      refine xj_aload_n F 0 dL_law_1015 rfl ?_
                                      refine xj_iload F 4 dL_law_1016 rfl ?_
                                      refine xj_iconst F 2 dL_law_1018 (by decide) ?_
                                      refine xj_iadd F dL_law_1019 (fun v268 => ?_)
                                      refine xj_sld F hq0 hX hbl hbA dL_law_1020 (fun v269 => ?_)
                                      refine xj_aload_n F 3 dL_law_1021 rfl ?_
                                      refine xj_callW (As := [.ref (xad G q1), .int v267, .int v269, .ref (xad G q3)]) (d' := 207) F hA hZ lmL_139 rfl rfl (Nat.le_of_ble_eq_true rfl) ⟨Nat.le_of_ble_eq_true rfl, Nat.le_of_ble_eq_true rfl⟩ ⟨hrc, hrs⟩ dL_law_1022 (fun hT z hz => wwL_trace (xnd F) hst (Nat.le_refl _) hT (q0 := q1) (x0 := v267) (x1 := v269) (q1 := q3) hq1 hq3 z hz) (fun v270 m271 => ?_)
                                      have F := xF_cs F ⟨hrc, hrs⟩
                                      refine xj_istore (lv' := [(5, .int v270), (0, .ref q0), (1, .ref (xad G q1)), (2, .ref (xad G q2)), (3, .ref (xad G q3)), (4, .int x4)]) F dL_law_1025 (by decide) rfl ?_
                                      refine xj_aload_n F 3 dL_law_1027 rfl ?_
                                      refine xj_aload_n F 1 dL_law_1028 rfl ?_
                                      refine xj_iload F 5 dL_law_1029 rfl ?_
                                      refine xj_iconst F 1 dL_law_1031 (by decide) ?_
                                      refine xj_iadd F dL_law_1032 (fun v272 => ?_)
                                      refine xj_sld F hq0 hX hbl hbA dL_law_1033 (fun v273 => ?_)
                                      refine xj_aload_n F 1 dL_law_1034 rfl ?_
                                      refine xj_iload F 5 dL_law_1035 rfl ?_
                                      refine xj_iconst F 2 dL_law_1037 (by decide) ?_
                                      refine xj_iadd F dL_law_1038 (fun v274 => ?_)
                                      refine xj_sld F hq0 hX hbl hbA dL_law_1039 (fun v275 => ?_)
                                      refine xj_callVI (b := q2) (As := [.int v273, .int v275]) (d' := 604) F hq2 lmL_141 rfl rfl (Nat.le_of_ble_eq_true rfl) (xfitL (Nat.le_of_ble_eq_true rfl)) dL_law_1040 (fun hT z hz => wX9_trace (xnd F) (Nat.le_refl _) hT (a0 := q2) (a1 := v273) (a2 := v275) hq2 z hz) (fun v277 m276 => ?_)
                                      refine xj_istore (lv' := [(6, .int v277), (5, .int v270), (0, .ref q0), (1, .ref (xad G q1)), (2, .ref (xad G q2)), (3, .ref (xad G q3)), (4, .int x4)]) F dL_law_1043 (by decide) rfl ?_
                                      refine xj_aload_n F 4 dL_law_1045 rfl ?_
                                      refine xj_callVI (b := q2) (As := []) (d' := 0) F hq2 lmL_91 rfl rfl (Nat.le_of_ble_eq_true rfl) (xfitL (Nat.le_of_ble_eq_true rfl)) dL_law_1046 (fun hT z hz => wX9_thrown (xnd F) (Nat.le_refl _) hT (a0 := q2) hq2 z hz) (fun v279 m278 => ?_)
                                      refine xj_iload F 1 dL_law_1049 rfl ?_
                                      refine xj_icmp_eq (tgt := 1056) F dL_law_1051 (by decide) ?_ ?_
                                      · refine xj_iload F 1 dL_law_1056 rfl ?_
                                        refine xj_if_ne (tgt := 1073) F dL_law_1058 (by decide) ?_ ?_
                                        · refine xj_goto (tgt := 1575) F dL_law_1073 (by decide) ?_
                                          refine xj_iinc F 6 6 (fun v280 => [(4, .int v280), (6, .int v277), (5, .int v270), (0, .ref q0), (1, .ref (xad G q1)), (2, .ref (xad G q2)), (3, .ref (xad G q3))]) dL_law_1575 rfl (by decide) (by decide) (fun _ => rfl) (fun v280 => ?_)
                                          refine xj_goto (tgt := 23) F dL_law_1578 (by decide) ?_
                                          refine xj_sub (lv' := [(0, .ref q0), (1, .ref (xad G q1)), (2, .ref (xad G q2)), (3, .ref (xad G q3)), (4, .int v280)]) [3, 4, 5, 6, 0] rfl ?_
                                          exact hr23 _ _ q0 q1 q2 q3 v280 m278 (by omega) (by omega) hq0 hq1 hq2 hq3
                                        · refine xj_aload_n F 5 dL_law_1061 rfl ?_
                                          refine xj_iconst F 0 dL_law_1062 (by decide) ?_
                                          refine xj_lald F hq3 dL_law_1063 (fun v281 => ?_)
                                          refine xj_iload F 0 dL_law_1064 rfl ?_
                                          refine xj_i2l F dL_law_1066 (fun w282 => ?_)
                                          refine xj_lcmp F dL_law_1067 (fun v283 => ?_)
                                          refine xj_if_eq (tgt := 1073) F dL_law_1068 (by decide) ?_ ?_
                                          · refine xj_goto (tgt := 1575) F dL_law_1073 (by decide) ?_
                                            refine xj_iinc F 6 6 (fun v284 => [(4, .int v284), (6, .int v277), (5, .int v270), (0, .ref q0), (1, .ref (xad G q1)), (2, .ref (xad G q2)), (3, .ref (xad G q3))]) dL_law_1575 rfl (by decide) (by decide) (fun _ => rfl) (fun v284 => ?_)
                                            refine xj_goto (tgt := 23) F dL_law_1578 (by decide) ?_
                                            refine xj_sub (lv' := [(0, .ref q0), (1, .ref (xad G q1)), (2, .ref (xad G q2)), (3, .ref (xad G q3)), (4, .int v284)]) [3, 4, 5, 6, 0] rfl ?_
                                            exact hr23 _ _ q0 q1 q2 q3 v284 m278 (by omega) (by omega) hq0 hq1 hq2 hq3
                                          · refine xj_iconst F 0 dL_law_1071 (by decide) ?_
                                            exact xj_none
                                      · refine xj_iconst F 0 dL_law_1054 (by decide) ?_
                                        exact xj_none
                                    · skip
                                      refine xj_ite (c := v4 = 16) (fun h285 => ?_) (fun h285 => ?_)
                                      · refine xj_tabIn F 1076 dL_law_40 (by subst h285; decide) (by subst h285; decide) (by subst h285; rfl) (by decide) ?_
                                        refine xj_aload_n F 1 dL_law_1076 rfl ?_
                                        refine xj_aload_n F 0 dL_law_1077 rfl ?_
                                        refine xj_iload F 4 dL_law_1078 rfl ?_
                                        refine xj_iconst F 1 dL_law_1080 (by decide) ?_
                                        refine xj_iadd F dL_law_1081 (fun v286 => ?_)
                                        refine xj_sld F hq0 hX hbl hbA dL_law_1082 (fun v287 => ?_)
                                        refine xj_aload_n F 0 dL_law_1083 rfl ?_
                                        refine xj_iload F 4 dL_law_1084 rfl ?_
                                        refine xj_iconst F 2 dL_law_1086 (by decide) ?_
                                        refine xj_iadd F dL_law_1087 (fun v288 => ?_)
                                        refine xj_sld F hq0 hX hbl hbA dL_law_1088 (fun v289 => ?_)
                                        refine xj_aload_n F 3 dL_law_1089 rfl ?_
                                        refine xj_callW (As := [.ref (xad G q1), .int v287, .int v289, .ref (xad G q3)]) (d' := 206) F hA hZ lmL_142 rfl rfl (Nat.le_of_ble_eq_true rfl) ⟨Nat.le_of_ble_eq_true rfl, Nat.le_of_ble_eq_true rfl⟩ ⟨hrc, hrs⟩ dL_law_1090 (fun hT z hz => wwL_broken (xnd F) hst (Nat.le_refl _) hT (q0 := q1) (x0 := v287) (x1 := v289) (q1 := q3) hq1 hq3 z hz) (fun v290 m291 => ?_)
                                        have F := xF_cs F ⟨hrc, hrs⟩
                                        refine xj_istore (lv' := [(5, .int v290), (0, .ref q0), (1, .ref (xad G q1)), (2, .ref (xad G q2)), (3, .ref (xad G q3)), (4, .int x4)]) F dL_law_1093 (by decide) rfl ?_
                                        refine xj_aload_n F 3 dL_law_1095 rfl ?_
                                        refine xj_aload_n F 1 dL_law_1096 rfl ?_
                                        refine xj_iload F 5 dL_law_1097 rfl ?_
                                        refine xj_iconst F 1 dL_law_1099 (by decide) ?_
                                        refine xj_iadd F dL_law_1100 (fun v292 => ?_)
                                        refine xj_sld F hq0 hX hbl hbA dL_law_1101 (fun v293 => ?_)
                                        refine xj_aload_n F 1 dL_law_1102 rfl ?_
                                        refine xj_iload F 5 dL_law_1103 rfl ?_
                                        refine xj_iconst F 2 dL_law_1105 (by decide) ?_
                                        refine xj_iadd F dL_law_1106 (fun v294 => ?_)
                                        refine xj_sld F hq0 hX hbl hbA dL_law_1107 (fun v295 => ?_)
                                        refine xj_callVI (b := q2) (As := [.int v293, .int v295]) (d' := 604) F hq2 lmL_144 rfl rfl (Nat.le_of_ble_eq_true rfl) (xfitL (Nat.le_of_ble_eq_true rfl)) dL_law_1108 (fun hT z hz => wX9_broken (xnd F) (Nat.le_refl _) hT (a0 := q2) (a1 := v293) (a2 := v295) hq2 z hz) (fun v297 m296 => ?_)
                                        refine xj_istore (lv' := [(6, .int v297), (5, .int v290), (0, .ref q0), (1, .ref (xad G q1)), (2, .ref (xad G q2)), (3, .ref (xad G q3)), (4, .int x4)]) F dL_law_1111 (by decide) rfl ?_
                                        refine xj_aload_n F 4 dL_law_1113 rfl ?_
                                        refine xj_callVI (b := q2) (As := []) (d' := 0) F hq2 lmL_91 rfl rfl (Nat.le_of_ble_eq_true rfl) (xfitL (Nat.le_of_ble_eq_true rfl)) dL_law_1114 (fun hT z hz => wX9_thrown (xnd F) (Nat.le_refl _) hT (a0 := q2) hq2 z hz) (fun v299 m298 => ?_)
                                        refine xj_iload F 1 dL_law_1117 rfl ?_
                                        refine xj_icmp_eq (tgt := 1124) F dL_law_1119 (by decide) ?_ ?_
                                        · refine xj_iload F 1 dL_law_1124 rfl ?_
                                          refine xj_if_ne (tgt := 1141) F dL_law_1126 (by decide) ?_ ?_
                                          · refine xj_goto (tgt := 1575) F dL_law_1141 (by decide) ?_
                                            refine xj_iinc F 6 6 (fun v300 => [(4, .int v300), (6, .int v297), (5, .int v290), (0, .ref q0), (1, .ref (xad G q1)), (2, .ref (xad G q2)), (3, .ref (xad G q3))]) dL_law_1575 rfl (by decide) (by decide) (fun _ => rfl) (fun v300 => ?_)
                                            refine xj_goto (tgt := 23) F dL_law_1578 (by decide) ?_
                                            refine xj_sub (lv' := [(0, .ref q0), (1, .ref (xad G q1)), (2, .ref (xad G q2)), (3, .ref (xad G q3)), (4, .int v300)]) [3, 4, 5, 6, 0] rfl ?_
                                            exact hr23 _ _ q0 q1 q2 q3 v300 m298 (by omega) (by omega) hq0 hq1 hq2 hq3
                                          · refine xj_aload_n F 5 dL_law_1129 rfl ?_
                                            refine xj_iconst F 0 dL_law_1130 (by decide) ?_
                                            refine xj_lald F hq3 dL_law_1131 (fun v301 => ?_)
                                            refine xj_iload F 0 dL_law_1132 rfl ?_
                                            refine xj_i2l F dL_law_1134 (fun w302 => ?_)
                                            refine xj_lcmp F dL_law_1135 (fun v303 => ?_)
                                            refine xj_if_eq (tgt := 1141) F dL_law_1136 (by decide) ?_ ?_
                                            · refine xj_goto (tgt := 1575) F dL_law_1141 (by decide) ?_
                                              refine xj_iinc F 6 6 (fun v304 => [(4, .int v304), (6, .int v297), (5, .int v290), (0, .ref q0), (1, .ref (xad G q1)), (2, .ref (xad G q2)), (3, .ref (xad G q3))]) dL_law_1575 rfl (by decide) (by decide) (fun _ => rfl) (fun v304 => ?_)
                                              refine xj_goto (tgt := 23) F dL_law_1578 (by decide) ?_
                                              refine xj_sub (lv' := [(0, .ref q0), (1, .ref (xad G q1)), (2, .ref (xad G q2)), (3, .ref (xad G q3)), (4, .int v304)]) [3, 4, 5, 6, 0] rfl ?_
                                              exact hr23 _ _ q0 q1 q2 q3 v304 m298 (by omega) (by omega) hq0 hq1 hq2 hq3
                                            · refine xj_iconst F 0 dL_law_1139 (by decide) ?_
                                              exact xj_none
                                        · refine xj_iconst F 0 dL_law_1122 (by decide) ?_
                                          exact xj_none
                                      · skip
                                        refine xj_ite (c := v4 = 17) (fun h305 => ?_) (fun h305 => ?_)
                                        · refine xj_tabIn F 1144 dL_law_40 (by subst h305; decide) (by subst h305; decide) (by subst h305; rfl) (by decide) ?_
                                          refine xj_aload_n F 1 dL_law_1144 rfl ?_
                                          refine xj_aload_n F 0 dL_law_1145 rfl ?_
                                          refine xj_iload F 4 dL_law_1146 rfl ?_
                                          refine xj_iconst F 1 dL_law_1148 (by decide) ?_
                                          refine xj_iadd F dL_law_1149 (fun v306 => ?_)
                                          refine xj_sld F hq0 hX hbl hbA dL_law_1150 (fun v307 => ?_)
                                          refine xj_aload_n F 3 dL_law_1151 rfl ?_
                                          refine xj_callW (As := [.ref (xad G q1), .int v307, .ref (xad G q3)]) (d' := 206) F hA hZ lmL_145 rfl rfl (Nat.le_of_ble_eq_true rfl) ⟨Nat.le_of_ble_eq_true rfl, Nat.le_of_ble_eq_true rfl⟩ ⟨hrc, hrs⟩ dL_law_1152 (fun hT z hz => wwL_alike (xnd F) hst (Nat.le_refl _) hT (q0 := q1) (x0 := v307) (q1 := q3) hq1 hq3 z hz) (fun v308 m309 => ?_)
                                          have F := xF_cs F ⟨hrc, hrs⟩
                                          refine xj_istore (lv' := [(5, .int v308), (0, .ref q0), (1, .ref (xad G q1)), (2, .ref (xad G q2)), (3, .ref (xad G q3)), (4, .int x4)]) F dL_law_1155 (by decide) rfl ?_
                                          refine xj_aload_n F 3 dL_law_1157 rfl ?_
                                          refine xj_aload_n F 1 dL_law_1158 rfl ?_
                                          refine xj_iload F 5 dL_law_1159 rfl ?_
                                          refine xj_iconst F 1 dL_law_1161 (by decide) ?_
                                          refine xj_iadd F dL_law_1162 (fun v310 => ?_)
                                          refine xj_sld F hq0 hX hbl hbA dL_law_1163 (fun v311 => ?_)
                                          refine xj_callVI (b := q2) (As := [.int v311]) (d' := 604) F hq2 lmL_147 rfl rfl (Nat.le_of_ble_eq_true rfl) (xfitL (Nat.le_of_ble_eq_true rfl)) dL_law_1164 (fun hT z hz => wX9_alike (xnd F) (Nat.le_refl _) hT (a0 := q2) (a1 := v311) hq2 z hz) (fun v313 m312 => ?_)
                                          refine xj_istore (lv' := [(6, .int v313), (5, .int v308), (0, .ref q0), (1, .ref (xad G q1)), (2, .ref (xad G q2)), (3, .ref (xad G q3)), (4, .int x4)]) F dL_law_1167 (by decide) rfl ?_
                                          refine xj_aload_n F 4 dL_law_1169 rfl ?_
                                          refine xj_callVI (b := q2) (As := []) (d' := 0) F hq2 lmL_91 rfl rfl (Nat.le_of_ble_eq_true rfl) (xfitL (Nat.le_of_ble_eq_true rfl)) dL_law_1170 (fun hT z hz => wX9_thrown (xnd F) (Nat.le_refl _) hT (a0 := q2) hq2 z hz) (fun v315 m314 => ?_)
                                          refine xj_iload F 1 dL_law_1173 rfl ?_
                                          refine xj_icmp_eq (tgt := 1180) F dL_law_1175 (by decide) ?_ ?_
                                          · refine xj_iload F 1 dL_law_1180 rfl ?_
                                            refine xj_if_ne (tgt := 1197) F dL_law_1182 (by decide) ?_ ?_
                                            · refine xj_goto (tgt := 1575) F dL_law_1197 (by decide) ?_
                                              refine xj_iinc F 6 6 (fun v316 => [(4, .int v316), (6, .int v313), (5, .int v308), (0, .ref q0), (1, .ref (xad G q1)), (2, .ref (xad G q2)), (3, .ref (xad G q3))]) dL_law_1575 rfl (by decide) (by decide) (fun _ => rfl) (fun v316 => ?_)
                                              refine xj_goto (tgt := 23) F dL_law_1578 (by decide) ?_
                                              refine xj_sub (lv' := [(0, .ref q0), (1, .ref (xad G q1)), (2, .ref (xad G q2)), (3, .ref (xad G q3)), (4, .int v316)]) [3, 4, 5, 6, 0] rfl ?_
                                              exact hr23 _ _ q0 q1 q2 q3 v316 m314 (by omega) (by omega) hq0 hq1 hq2 hq3
                                            · refine xj_aload_n F 5 dL_law_1185 rfl ?_
                                              refine xj_iconst F 0 dL_law_1186 (by decide) ?_
                                              refine xj_lald F hq3 dL_law_1187 (fun v317 => ?_)
                                              refine xj_iload F 0 dL_law_1188 rfl ?_
                                              refine xj_i2l F dL_law_1190 (fun w318 => ?_)
                                              refine xj_lcmp F dL_law_1191 (fun v319 => ?_)
                                              refine xj_if_eq (tgt := 1197) F dL_law_1192 (by decide) ?_ ?_
                                              · refine xj_goto (tgt := 1575) F dL_law_1197 (by decide) ?_
                                                refine xj_iinc F 6 6 (fun v320 => [(4, .int v320), (6, .int v313), (5, .int v308), (0, .ref q0), (1, .ref (xad G q1)), (2, .ref (xad G q2)), (3, .ref (xad G q3))]) dL_law_1575 rfl (by decide) (by decide) (fun _ => rfl) (fun v320 => ?_)
                                                refine xj_goto (tgt := 23) F dL_law_1578 (by decide) ?_
                                                refine xj_sub (lv' := [(0, .ref q0), (1, .ref (xad G q1)), (2, .ref (xad G q2)), (3, .ref (xad G q3)), (4, .int v320)]) [3, 4, 5, 6, 0] rfl ?_
                                                exact hr23 _ _ q0 q1 q2 q3 v320 m314 (by omega) (by omega) hq0 hq1 hq2 hq3
                                              · refine xj_iconst F 0 dL_law_1195 (by decide) ?_
                                                exact xj_none
                                          · refine xj_iconst F 0 dL_law_1178 (by decide) ?_
                                            exact xj_none
                                        · skip
                                          refine xj_ite (c := v4 = 18) (fun h321 => ?_) (fun h321 => ?_)
                                          · refine xj_tabIn F 1200 dL_law_40 (by subst h321; decide) (by subst h321; decide) (by subst h321; rfl) (by decide) ?_
                                            refine xj_aload_n F 1 dL_law_1200 rfl ?_
                                            refine xj_aload_n F 0 dL_law_1201 rfl ?_
                                            refine xj_iload F 4 dL_law_1202 rfl ?_
                                            refine xj_iconst F 1 dL_law_1204 (by decide) ?_
                                            refine xj_iadd F dL_law_1205 (fun v322 => ?_)
                                            refine xj_sld F hq0 hX hbl hbA dL_law_1206 (fun v323 => ?_)
                                            refine xj_aload_n F 3 dL_law_1207 rfl ?_
                                            refine xj_callW (As := [.ref (xad G q1), .int v323, .ref (xad G q3)]) (d' := 226) F hA hZ lmL_148 rfl rfl (Nat.le_of_ble_eq_true rfl) ⟨Nat.le_of_ble_eq_true rfl, Nat.le_of_ble_eq_true rfl⟩ ⟨hrc, hrs⟩ dL_law_1208 (fun hT z hz => wwL_fewest (xnd F) hst (Nat.le_refl _) hT (q0 := q1) (x0 := v323) (q1 := q3) hq1 hq3 z hz) (fun v324 m325 => ?_)
                                            have F := xF_cs F ⟨hrc, hrs⟩
                                            refine xj_istore (lv' := [(5, .int v324), (0, .ref q0), (1, .ref (xad G q1)), (2, .ref (xad G q2)), (3, .ref (xad G q3)), (4, .int x4)]) F dL_law_1211 (by decide) rfl ?_
                                            refine xj_aload_n F 3 dL_law_1213 rfl ?_
                                            refine xj_aload_n F 1 dL_law_1214 rfl ?_
                                            refine xj_iload F 5 dL_law_1215 rfl ?_
                                            refine xj_iconst F 1 dL_law_1217 (by decide) ?_
                                            refine xj_iadd F dL_law_1218 (fun v326 => ?_)
                                            refine xj_sld F hq0 hX hbl hbA dL_law_1219 (fun v327 => ?_)
                                            refine xj_callVI (b := q2) (As := [.int v327]) (d' := 604) F hq2 lmL_150 rfl rfl (Nat.le_of_ble_eq_true rfl) (xfitL (Nat.le_of_ble_eq_true rfl)) dL_law_1220 (fun hT z hz => wX9_fewest (xnd F) (Nat.le_refl _) hT (a0 := q2) (a1 := v327) hq2 z hz) (fun v329 m328 => ?_)
                                            refine xj_istore (lv' := [(6, .int v329), (5, .int v324), (0, .ref q0), (1, .ref (xad G q1)), (2, .ref (xad G q2)), (3, .ref (xad G q3)), (4, .int x4)]) F dL_law_1223 (by decide) rfl ?_
                                            refine xj_aload_n F 4 dL_law_1225 rfl ?_
                                            refine xj_callVI (b := q2) (As := []) (d' := 0) F hq2 lmL_91 rfl rfl (Nat.le_of_ble_eq_true rfl) (xfitL (Nat.le_of_ble_eq_true rfl)) dL_law_1226 (fun hT z hz => wX9_thrown (xnd F) (Nat.le_refl _) hT (a0 := q2) hq2 z hz) (fun v331 m330 => ?_)
                                            refine xj_iload F 1 dL_law_1229 rfl ?_
                                            refine xj_icmp_eq (tgt := 1236) F dL_law_1231 (by decide) ?_ ?_
                                            · refine xj_iload F 1 dL_law_1236 rfl ?_
                                              refine xj_if_ne (tgt := 1253) F dL_law_1238 (by decide) ?_ ?_
                                              · refine xj_goto (tgt := 1575) F dL_law_1253 (by decide) ?_
                                                refine xj_iinc F 6 6 (fun v332 => [(4, .int v332), (6, .int v329), (5, .int v324), (0, .ref q0), (1, .ref (xad G q1)), (2, .ref (xad G q2)), (3, .ref (xad G q3))]) dL_law_1575 rfl (by decide) (by decide) (fun _ => rfl) (fun v332 => ?_)
                                                refine xj_goto (tgt := 23) F dL_law_1578 (by decide) ?_
                                                refine xj_sub (lv' := [(0, .ref q0), (1, .ref (xad G q1)), (2, .ref (xad G q2)), (3, .ref (xad G q3)), (4, .int v332)]) [3, 4, 5, 6, 0] rfl ?_
                                                exact hr23 _ _ q0 q1 q2 q3 v332 m330 (by omega) (by omega) hq0 hq1 hq2 hq3
                                              · refine xj_aload_n F 5 dL_law_1241 rfl ?_
                                                refine xj_iconst F 0 dL_law_1242 (by decide) ?_
                                                refine xj_lald F hq3 dL_law_1243 (fun v333 => ?_)
                                                refine xj_iload F 0 dL_law_1244 rfl ?_
                                                refine xj_i2l F dL_law_1246 (fun w334 => ?_)
                                                refine xj_lcmp F dL_law_1247 (fun v335 => ?_)
                                                refine xj_if_eq (tgt := 1253) F dL_law_1248 (by decide) ?_ ?_
                                                · refine xj_goto (tgt := 1575) F dL_law_1253 (by decide) ?_
                                                  refine xj_iinc F 6 6 (fun v336 => [(4, .int v336), (6, .int v329), (5, .int v324), (0, .ref q0), (1, .ref (xad G q1)), (2, .ref (xad G q2)), (3, .ref (xad G q3))]) dL_law_1575 rfl (by decide) (by decide) (fun _ => rfl) (fun v336 => ?_)
                                                  refine xj_goto (tgt := 23) F dL_law_1578 (by decide) ?_
                                                  refine xj_sub (lv' := [(0, .ref q0), (1, .ref (xad G q1)), (2, .ref (xad G q2)), (3, .ref (xad G q3)), (4, .int v336)]) [3, 4, 5, 6, 0] rfl ?_
                                                  exact hr23 _ _ q0 q1 q2 q3 v336 m330 (by omega) (by omega) hq0 hq1 hq2 hq3
                                                · refine xj_iconst F 0 dL_law_1251 (by decide) ?_
                                                  exact xj_none
                                            · refine xj_iconst F 0 dL_law_1234 (by decide) ?_
                                              exact xj_none
                                          · skip
                                            refine xj_ite (c := v4 = 19) (fun h337 => ?_) (fun h337 => ?_)
                                            · refine xj_tabIn F 1256 dL_law_40 (by subst h337; decide) (by subst h337; decide) (by subst h337; rfl) (by decide) ?_
                                              refine xj_aload_n F 1 dL_law_1256 rfl ?_
                                              refine xj_aload_n F 0 dL_law_1257 rfl ?_
                                              refine xj_iload F 4 dL_law_1258 rfl ?_
                                              refine xj_iconst F 1 dL_law_1260 (by decide) ?_
                                              refine xj_iadd F dL_law_1261 (fun v338 => ?_)
                                              refine xj_sld F hq0 hX hbl hbA dL_law_1262 (fun v339 => ?_)
                                              refine xj_aload_n F 3 dL_law_1263 rfl ?_
                                              refine xj_callW (As := [.ref (xad G q1), .int v339, .ref (xad G q3)]) (d' := 9) F hA hZ lmL_151 rfl rfl (Nat.le_of_ble_eq_true rfl) ⟨Nat.le_of_ble_eq_true rfl, Nat.le_of_ble_eq_true rfl⟩ ⟨hrc, hrs⟩ dL_law_1264 (fun hT z hz => wwL_touches (xnd F) hst (Nat.le_refl _) hT (q0 := q1) (x0 := v339) (q1 := q3) hq1 hq3 z hz) (fun v340 m341 => ?_)
                                              have F := xF_cs F ⟨hrc, hrs⟩
                                              refine xj_istore (lv' := [(5, .int v340), (0, .ref q0), (1, .ref (xad G q1)), (2, .ref (xad G q2)), (3, .ref (xad G q3)), (4, .int x4)]) F dL_law_1267 (by decide) rfl ?_
                                              refine xj_aload_n F 3 dL_law_1269 rfl ?_
                                              refine xj_aload_n F 1 dL_law_1270 rfl ?_
                                              refine xj_iload F 5 dL_law_1271 rfl ?_
                                              refine xj_iconst F 1 dL_law_1273 (by decide) ?_
                                              refine xj_iadd F dL_law_1274 (fun v342 => ?_)
                                              refine xj_sld F hq0 hX hbl hbA dL_law_1275 (fun v343 => ?_)
                                              refine xj_callVI (b := q2) (As := [.int v343]) (d' := 1002) F hq2 lmL_153 rfl rfl (Nat.le_of_ble_eq_true rfl) (xfitL (Nat.le_of_ble_eq_true rfl)) dL_law_1276 (fun hT z hz => wX9_touches (xnd F) (Nat.le_refl _) hT (a0 := q2) (a1 := v343) hq2 z hz) (fun v345 m344 => ?_)
                                              refine xj_istore (lv' := [(6, .int v345), (5, .int v340), (0, .ref q0), (1, .ref (xad G q1)), (2, .ref (xad G q2)), (3, .ref (xad G q3)), (4, .int x4)]) F dL_law_1279 (by decide) rfl ?_
                                              refine xj_aload_n F 4 dL_law_1281 rfl ?_
                                              refine xj_callVI (b := q2) (As := []) (d' := 0) F hq2 lmL_91 rfl rfl (Nat.le_of_ble_eq_true rfl) (xfitL (Nat.le_of_ble_eq_true rfl)) dL_law_1282 (fun hT z hz => wX9_thrown (xnd F) (Nat.le_refl _) hT (a0 := q2) hq2 z hz) (fun v347 m346 => ?_)
                                              refine xj_iload F 1 dL_law_1285 rfl ?_
                                              refine xj_icmp_eq (tgt := 1292) F dL_law_1287 (by decide) ?_ ?_
                                              · refine xj_iload F 1 dL_law_1292 rfl ?_
                                                refine xj_if_ne (tgt := 1309) F dL_law_1294 (by decide) ?_ ?_
                                                · refine xj_goto (tgt := 1575) F dL_law_1309 (by decide) ?_
                                                  refine xj_iinc F 6 6 (fun v348 => [(4, .int v348), (6, .int v345), (5, .int v340), (0, .ref q0), (1, .ref (xad G q1)), (2, .ref (xad G q2)), (3, .ref (xad G q3))]) dL_law_1575 rfl (by decide) (by decide) (fun _ => rfl) (fun v348 => ?_)
                                                  refine xj_goto (tgt := 23) F dL_law_1578 (by decide) ?_
                                                  refine xj_sub (lv' := [(0, .ref q0), (1, .ref (xad G q1)), (2, .ref (xad G q2)), (3, .ref (xad G q3)), (4, .int v348)]) [3, 4, 5, 6, 0] rfl ?_
                                                  exact hr23 _ _ q0 q1 q2 q3 v348 m346 (by omega) (by omega) hq0 hq1 hq2 hq3
                                                · refine xj_aload_n F 5 dL_law_1297 rfl ?_
                                                  refine xj_iconst F 0 dL_law_1298 (by decide) ?_
                                                  refine xj_lald F hq3 dL_law_1299 (fun v349 => ?_)
                                                  refine xj_iload F 0 dL_law_1300 rfl ?_
                                                  refine xj_i2l F dL_law_1302 (fun w350 => ?_)
                                                  refine xj_lcmp F dL_law_1303 (fun v351 => ?_)
                                                  refine xj_if_eq (tgt := 1309) F dL_law_1304 (by decide) ?_ ?_
                                                  · refine xj_goto (tgt := 1575) F dL_law_1309 (by decide) ?_
                                                    refine xj_iinc F 6 6 (fun v352 => [(4, .int v352), (6, .int v345), (5, .int v340), (0, .ref q0), (1, .ref (xad G q1)), (2, .ref (xad G q2)), (3, .ref (xad G q3))]) dL_law_1575 rfl (by decide) (by decide) (fun _ => rfl) (fun v352 => ?_)
                                                    refine xj_goto (tgt := 23) F dL_law_1578 (by decide) ?_
                                                    refine xj_sub (lv' := [(0, .ref q0), (1, .ref (xad G q1)), (2, .ref (xad G q2)), (3, .ref (xad G q3)), (4, .int v352)]) [3, 4, 5, 6, 0] rfl ?_
                                                    exact hr23 _ _ q0 q1 q2 q3 v352 m346 (by omega) (by omega) hq0 hq1 hq2 hq3
                                                  · refine xj_iconst F 0 dL_law_1307 (by decide) ?_
                                                    exact xj_none
                                              · refine xj_iconst F 0 dL_law_1290 (by decide) ?_
                                                exact xj_none
                                            · skip
                                              refine xj_ite (c := v4 = 20) (fun h353 => ?_) (fun h353 => ?_)
                                              · refine xj_tabIn F 1312 dL_law_40 (by subst h353; decide) (by subst h353; decide) (by subst h353; rfl) (by decide) ?_
                                                refine xj_aload_n F 1 dL_law_1312 rfl ?_
                                                refine xj_aload_n F 0 dL_law_1313 rfl ?_
                                                refine xj_iload F 4 dL_law_1314 rfl ?_
                                                refine xj_iconst F 1 dL_law_1316 (by decide) ?_
                                                refine xj_iadd F dL_law_1317 (fun v354 => ?_)
                                                refine xj_sld F hq0 hX hbl hbA dL_law_1318 (fun v355 => ?_)
                                                refine xj_aload_n F 3 dL_law_1319 rfl ?_
                                                refine xj_callW (As := [.ref (xad G q1), .int v355, .ref (xad G q3)]) (d' := 9) F hA hZ lmL_154 rfl rfl (Nat.le_of_ble_eq_true rfl) ⟨Nat.le_of_ble_eq_true rfl, Nat.le_of_ble_eq_true rfl⟩ ⟨hrc, hrs⟩ dL_law_1320 (fun hT z hz => wwL_reach (xnd F) hst (Nat.le_refl _) hT (q0 := q1) (x0 := v355) (q1 := q3) hq1 hq3 z hz) (fun v356 m357 => ?_)
                                                have F := xF_cs F ⟨hrc, hrs⟩
                                                refine xj_istore (lv' := [(5, .int v356), (0, .ref q0), (1, .ref (xad G q1)), (2, .ref (xad G q2)), (3, .ref (xad G q3)), (4, .int x4)]) F dL_law_1323 (by decide) rfl ?_
                                                refine xj_aload_n F 3 dL_law_1325 rfl ?_
                                                refine xj_aload_n F 1 dL_law_1326 rfl ?_
                                                refine xj_iload F 5 dL_law_1327 rfl ?_
                                                refine xj_iconst F 1 dL_law_1329 (by decide) ?_
                                                refine xj_iadd F dL_law_1330 (fun v358 => ?_)
                                                refine xj_sld F hq0 hX hbl hbA dL_law_1331 (fun v359 => ?_)
                                                refine xj_callVI (b := q2) (As := [.int v359]) (d' := 1003) F hq2 lmL_156 rfl rfl (Nat.le_of_ble_eq_true rfl) (xfitL (Nat.le_of_ble_eq_true rfl)) dL_law_1332 (fun hT z hz => wX9_reach (xnd F) (Nat.le_refl _) hT (a0 := q2) (a1 := v359) hq2 z hz) (fun v361 m360 => ?_)
                                                refine xj_istore (lv' := [(6, .int v361), (5, .int v356), (0, .ref q0), (1, .ref (xad G q1)), (2, .ref (xad G q2)), (3, .ref (xad G q3)), (4, .int x4)]) F dL_law_1335 (by decide) rfl ?_
                                                refine xj_aload_n F 4 dL_law_1337 rfl ?_
                                                refine xj_callVI (b := q2) (As := []) (d' := 0) F hq2 lmL_91 rfl rfl (Nat.le_of_ble_eq_true rfl) (xfitL (Nat.le_of_ble_eq_true rfl)) dL_law_1338 (fun hT z hz => wX9_thrown (xnd F) (Nat.le_refl _) hT (a0 := q2) hq2 z hz) (fun v363 m362 => ?_)
                                                refine xj_iload F 1 dL_law_1341 rfl ?_
                                                refine xj_icmp_eq (tgt := 1348) F dL_law_1343 (by decide) ?_ ?_
                                                · refine xj_iload F 1 dL_law_1348 rfl ?_
                                                  refine xj_if_ne (tgt := 1365) F dL_law_1350 (by decide) ?_ ?_
                                                  · refine xj_goto (tgt := 1575) F dL_law_1365 (by decide) ?_
                                                    refine xj_iinc F 6 6 (fun v364 => [(4, .int v364), (6, .int v361), (5, .int v356), (0, .ref q0), (1, .ref (xad G q1)), (2, .ref (xad G q2)), (3, .ref (xad G q3))]) dL_law_1575 rfl (by decide) (by decide) (fun _ => rfl) (fun v364 => ?_)
                                                    refine xj_goto (tgt := 23) F dL_law_1578 (by decide) ?_
                                                    refine xj_sub (lv' := [(0, .ref q0), (1, .ref (xad G q1)), (2, .ref (xad G q2)), (3, .ref (xad G q3)), (4, .int v364)]) [3, 4, 5, 6, 0] rfl ?_
                                                    exact hr23 _ _ q0 q1 q2 q3 v364 m362 (by omega) (by omega) hq0 hq1 hq2 hq3
                                                  · refine xj_aload_n F 5 dL_law_1353 rfl ?_
                                                    refine xj_iconst F 0 dL_law_1354 (by decide) ?_
                                                    refine xj_lald F hq3 dL_law_1355 (fun v365 => ?_)
                                                    refine xj_iload F 0 dL_law_1356 rfl ?_
                                                    refine xj_i2l F dL_law_1358 (fun w366 => ?_)
                                                    refine xj_lcmp F dL_law_1359 (fun v367 => ?_)
                                                    refine xj_if_eq (tgt := 1365) F dL_law_1360 (by decide) ?_ ?_
                                                    · refine xj_goto (tgt := 1575) F dL_law_1365 (by decide) ?_
                                                      refine xj_iinc F 6 6 (fun v368 => [(4, .int v368), (6, .int v361), (5, .int v356), (0, .ref q0), (1, .ref (xad G q1)), (2, .ref (xad G q2)), (3, .ref (xad G q3))]) dL_law_1575 rfl (by decide) (by decide) (fun _ => rfl) (fun v368 => ?_)
                                                      refine xj_goto (tgt := 23) F dL_law_1578 (by decide) ?_
                                                      refine xj_sub (lv' := [(0, .ref q0), (1, .ref (xad G q1)), (2, .ref (xad G q2)), (3, .ref (xad G q3)), (4, .int v368)]) [3, 4, 5, 6, 0] rfl ?_
                                                      exact hr23 _ _ q0 q1 q2 q3 v368 m362 (by omega) (by omega) hq0 hq1 hq2 hq3
                                                    · refine xj_iconst F 0 dL_law_1363 (by decide) ?_
                                                      exact xj_none
                                                · refine xj_iconst F 0 dL_law_1346 (by decide) ?_
                                                  exact xj_none
                                              · skip
                                                refine xj_ite (c := v4 = 21) (fun h369 => ?_) (fun h369 => ?_)
                                                · refine xj_tabIn F 1368 dL_law_40 (by subst h369; decide) (by subst h369; decide) (by subst h369; rfl) (by decide) ?_
                                                  refine xj_aload_n F 1 dL_law_1368 rfl ?_
                                                  refine xj_aload_n F 0 dL_law_1369 rfl ?_
                                                  refine xj_iload F 4 dL_law_1370 rfl ?_
                                                  refine xj_iconst F 1 dL_law_1372 (by decide) ?_
                                                  refine xj_iadd F dL_law_1373 (fun v370 => ?_)
                                                  refine xj_sld F hq0 hX hbl hbA dL_law_1374 (fun v371 => ?_)
                                                  refine xj_aload_n F 3 dL_law_1375 rfl ?_
                                                  refine xj_callW (As := [.ref (xad G q1), .int v371, .ref (xad G q3)]) (d' := 9) F hA hZ lmL_157 rfl rfl (Nat.le_of_ble_eq_true rfl) ⟨Nat.le_of_ble_eq_true rfl, Nat.le_of_ble_eq_true rfl⟩ ⟨hrc, hrs⟩ dL_law_1376 (fun hT z hz => wwL_ring (xnd F) hst (Nat.le_refl _) hT (q0 := q1) (x0 := v371) (q1 := q3) hq1 hq3 z hz) (fun v372 m373 => ?_)
                                                  have F := xF_cs F ⟨hrc, hrs⟩
                                                  refine xj_istore (lv' := [(5, .int v372), (0, .ref q0), (1, .ref (xad G q1)), (2, .ref (xad G q2)), (3, .ref (xad G q3)), (4, .int x4)]) F dL_law_1379 (by decide) rfl ?_
                                                  refine xj_aload_n F 3 dL_law_1381 rfl ?_
                                                  refine xj_aload_n F 1 dL_law_1382 rfl ?_
                                                  refine xj_iload F 5 dL_law_1383 rfl ?_
                                                  refine xj_iconst F 1 dL_law_1385 (by decide) ?_
                                                  refine xj_iadd F dL_law_1386 (fun v374 => ?_)
                                                  refine xj_sld F hq0 hX hbl hbA dL_law_1387 (fun v375 => ?_)
                                                  refine xj_callVI (b := q2) (As := [.int v375]) (d' := 1003) F hq2 lmL_159 rfl rfl (Nat.le_of_ble_eq_true rfl) (xfitL (Nat.le_of_ble_eq_true rfl)) dL_law_1388 (fun hT z hz => wX9_ring (xnd F) (Nat.le_refl _) hT (a0 := q2) (a1 := v375) hq2 z hz) (fun v377 m376 => ?_)
                                                  refine xj_istore (lv' := [(6, .int v377), (5, .int v372), (0, .ref q0), (1, .ref (xad G q1)), (2, .ref (xad G q2)), (3, .ref (xad G q3)), (4, .int x4)]) F dL_law_1391 (by decide) rfl ?_
                                                  refine xj_aload_n F 4 dL_law_1393 rfl ?_
                                                  refine xj_callVI (b := q2) (As := []) (d' := 0) F hq2 lmL_91 rfl rfl (Nat.le_of_ble_eq_true rfl) (xfitL (Nat.le_of_ble_eq_true rfl)) dL_law_1394 (fun hT z hz => wX9_thrown (xnd F) (Nat.le_refl _) hT (a0 := q2) hq2 z hz) (fun v379 m378 => ?_)
                                                  refine xj_iload F 1 dL_law_1397 rfl ?_
                                                  refine xj_icmp_eq (tgt := 1404) F dL_law_1399 (by decide) ?_ ?_
                                                  · refine xj_iload F 1 dL_law_1404 rfl ?_
                                                    refine xj_if_ne (tgt := 1421) F dL_law_1406 (by decide) ?_ ?_
                                                    · refine xj_goto (tgt := 1575) F dL_law_1421 (by decide) ?_
                                                      refine xj_iinc F 6 6 (fun v380 => [(4, .int v380), (6, .int v377), (5, .int v372), (0, .ref q0), (1, .ref (xad G q1)), (2, .ref (xad G q2)), (3, .ref (xad G q3))]) dL_law_1575 rfl (by decide) (by decide) (fun _ => rfl) (fun v380 => ?_)
                                                      refine xj_goto (tgt := 23) F dL_law_1578 (by decide) ?_
                                                      refine xj_sub (lv' := [(0, .ref q0), (1, .ref (xad G q1)), (2, .ref (xad G q2)), (3, .ref (xad G q3)), (4, .int v380)]) [3, 4, 5, 6, 0] rfl ?_
                                                      exact hr23 _ _ q0 q1 q2 q3 v380 m378 (by omega) (by omega) hq0 hq1 hq2 hq3
                                                    · refine xj_aload_n F 5 dL_law_1409 rfl ?_
                                                      refine xj_iconst F 0 dL_law_1410 (by decide) ?_
                                                      refine xj_lald F hq3 dL_law_1411 (fun v381 => ?_)
                                                      refine xj_iload F 0 dL_law_1412 rfl ?_
                                                      refine xj_i2l F dL_law_1414 (fun w382 => ?_)
                                                      refine xj_lcmp F dL_law_1415 (fun v383 => ?_)
                                                      refine xj_if_eq (tgt := 1421) F dL_law_1416 (by decide) ?_ ?_
                                                      · refine xj_goto (tgt := 1575) F dL_law_1421 (by decide) ?_
                                                        refine xj_iinc F 6 6 (fun v384 => [(4, .int v384), (6, .int v377), (5, .int v372), (0, .ref q0), (1, .ref (xad G q1)), (2, .ref (xad G q2)), (3, .ref (xad G q3))]) dL_law_1575 rfl (by decide) (by decide) (fun _ => rfl) (fun v384 => ?_)
                                                        refine xj_goto (tgt := 23) F dL_law_1578 (by decide) ?_
                                                        refine xj_sub (lv' := [(0, .ref q0), (1, .ref (xad G q1)), (2, .ref (xad G q2)), (3, .ref (xad G q3)), (4, .int v384)]) [3, 4, 5, 6, 0] rfl ?_
                                                        exact hr23 _ _ q0 q1 q2 q3 v384 m378 (by omega) (by omega) hq0 hq1 hq2 hq3
                                                      · refine xj_iconst F 0 dL_law_1419 (by decide) ?_
                                                        exact xj_none
                                                  · refine xj_iconst F 0 dL_law_1402 (by decide) ?_
                                                    exact xj_none
                                                · skip
                                                  refine xj_ite (c := v4 = 22) (fun h385 => ?_) (fun h385 => ?_)
                                                  · refine xj_tabIn F 1424 dL_law_40 (by subst h385; decide) (by subst h385; decide) (by subst h385; rfl) (by decide) ?_
                                                    refine xj_aload_n F 1 dL_law_1424 rfl ?_
                                                    refine xj_aload_n F 0 dL_law_1425 rfl ?_
                                                    refine xj_iload F 4 dL_law_1426 rfl ?_
                                                    refine xj_iconst F 1 dL_law_1428 (by decide) ?_
                                                    refine xj_iadd F dL_law_1429 (fun v386 => ?_)
                                                    refine xj_sld F hq0 hX hbl hbA dL_law_1430 (fun v387 => ?_)
                                                    refine xj_aload_n F 3 dL_law_1431 rfl ?_
                                                    refine xj_callW (As := [.ref (xad G q1), .int v387, .ref (xad G q3)]) (d' := 9) F hA hZ lmL_160 rfl rfl (Nat.le_of_ble_eq_true rfl) ⟨Nat.le_of_ble_eq_true rfl, Nat.le_of_ble_eq_true rfl⟩ ⟨hrc, hrs⟩ dL_law_1432 (fun hT z hz => wwL_least (xnd F) hst (Nat.le_refl _) hT (q0 := q1) (x0 := v387) (q1 := q3) hq1 hq3 z hz) (fun v388 m389 => ?_)
                                                    have F := xF_cs F ⟨hrc, hrs⟩
                                                    refine xj_istore (lv' := [(5, .int v388), (0, .ref q0), (1, .ref (xad G q1)), (2, .ref (xad G q2)), (3, .ref (xad G q3)), (4, .int x4)]) F dL_law_1435 (by decide) rfl ?_
                                                    refine xj_aload_n F 3 dL_law_1437 rfl ?_
                                                    refine xj_aload_n F 1 dL_law_1438 rfl ?_
                                                    refine xj_iload F 5 dL_law_1439 rfl ?_
                                                    refine xj_iconst F 1 dL_law_1441 (by decide) ?_
                                                    refine xj_iadd F dL_law_1442 (fun v390 => ?_)
                                                    refine xj_sld F hq0 hX hbl hbA dL_law_1443 (fun v391 => ?_)
                                                    refine xj_callVI (b := q2) (As := [.int v391]) (d' := 1003) F hq2 lmL_162 rfl rfl (Nat.le_of_ble_eq_true rfl) (xfitL (Nat.le_of_ble_eq_true rfl)) dL_law_1444 (fun hT z hz => wX9_least (xnd F) (Nat.le_refl _) hT (a0 := q2) (a1 := v391) hq2 z hz) (fun v393 m392 => ?_)
                                                    refine xj_istore (lv' := [(6, .int v393), (5, .int v388), (0, .ref q0), (1, .ref (xad G q1)), (2, .ref (xad G q2)), (3, .ref (xad G q3)), (4, .int x4)]) F dL_law_1447 (by decide) rfl ?_
                                                    refine xj_aload_n F 4 dL_law_1449 rfl ?_
                                                    refine xj_callVI (b := q2) (As := []) (d' := 0) F hq2 lmL_91 rfl rfl (Nat.le_of_ble_eq_true rfl) (xfitL (Nat.le_of_ble_eq_true rfl)) dL_law_1450 (fun hT z hz => wX9_thrown (xnd F) (Nat.le_refl _) hT (a0 := q2) hq2 z hz) (fun v395 m394 => ?_)
                                                    refine xj_iload F 1 dL_law_1453 rfl ?_
                                                    refine xj_icmp_eq (tgt := 1460) F dL_law_1455 (by decide) ?_ ?_
                                                    · refine xj_iload F 1 dL_law_1460 rfl ?_
                                                      refine xj_if_ne (tgt := 1477) F dL_law_1462 (by decide) ?_ ?_
                                                      · refine xj_goto (tgt := 1575) F dL_law_1477 (by decide) ?_
                                                        refine xj_iinc F 6 6 (fun v396 => [(4, .int v396), (6, .int v393), (5, .int v388), (0, .ref q0), (1, .ref (xad G q1)), (2, .ref (xad G q2)), (3, .ref (xad G q3))]) dL_law_1575 rfl (by decide) (by decide) (fun _ => rfl) (fun v396 => ?_)
                                                        refine xj_goto (tgt := 23) F dL_law_1578 (by decide) ?_
                                                        refine xj_sub (lv' := [(0, .ref q0), (1, .ref (xad G q1)), (2, .ref (xad G q2)), (3, .ref (xad G q3)), (4, .int v396)]) [3, 4, 5, 6, 0] rfl ?_
                                                        exact hr23 _ _ q0 q1 q2 q3 v396 m394 (by omega) (by omega) hq0 hq1 hq2 hq3
                                                      · refine xj_aload_n F 5 dL_law_1465 rfl ?_
                                                        refine xj_iconst F 0 dL_law_1466 (by decide) ?_
                                                        refine xj_lald F hq3 dL_law_1467 (fun v397 => ?_)
                                                        refine xj_iload F 0 dL_law_1468 rfl ?_
                                                        refine xj_i2l F dL_law_1470 (fun w398 => ?_)
                                                        refine xj_lcmp F dL_law_1471 (fun v399 => ?_)
                                                        refine xj_if_eq (tgt := 1477) F dL_law_1472 (by decide) ?_ ?_
                                                        · refine xj_goto (tgt := 1575) F dL_law_1477 (by decide) ?_
                                                          refine xj_iinc F 6 6 (fun v400 => [(4, .int v400), (6, .int v393), (5, .int v388), (0, .ref q0), (1, .ref (xad G q1)), (2, .ref (xad G q2)), (3, .ref (xad G q3))]) dL_law_1575 rfl (by decide) (by decide) (fun _ => rfl) (fun v400 => ?_)
                                                          refine xj_goto (tgt := 23) F dL_law_1578 (by decide) ?_
                                                          refine xj_sub (lv' := [(0, .ref q0), (1, .ref (xad G q1)), (2, .ref (xad G q2)), (3, .ref (xad G q3)), (4, .int v400)]) [3, 4, 5, 6, 0] rfl ?_
                                                          exact hr23 _ _ q0 q1 q2 q3 v400 m394 (by omega) (by omega) hq0 hq1 hq2 hq3
                                                        · refine xj_iconst F 0 dL_law_1475 (by decide) ?_
                                                          exact xj_none
                                                    · refine xj_iconst F 0 dL_law_1458 (by decide) ?_
                                                      exact xj_none
                                                  · skip
                                                    refine xj_ite (c := v4 = 23) (fun h401 => ?_) (fun h401 => ?_)
                                                    · refine xj_tabIn F 1480 dL_law_40 (by subst h401; decide) (by subst h401; decide) (by subst h401; rfl) (by decide) ?_
                                                      refine xj_aload_n F 1 dL_law_1480 rfl ?_
                                                      refine xj_aload_n F 0 dL_law_1481 rfl ?_
                                                      refine xj_iload F 4 dL_law_1482 rfl ?_
                                                      refine xj_iconst F 1 dL_law_1484 (by decide) ?_
                                                      refine xj_iadd F dL_law_1485 (fun v402 => ?_)
                                                      refine xj_sld F hq0 hX hbl hbA dL_law_1486 (fun v403 => ?_)
                                                      refine xj_aload_n F 3 dL_law_1487 rfl ?_
                                                      refine xj_callW (As := [.ref (xad G q1), .int v403, .ref (xad G q3)]) (d' := 8) F hA hZ lmL_163 rfl rfl (Nat.le_of_ble_eq_true rfl) ⟨Nat.le_of_ble_eq_true rfl, Nat.le_of_ble_eq_true rfl⟩ ⟨hrc, hrs⟩ dL_law_1488 (fun hT z hz => wwL_breaks (xnd F) hst (Nat.le_refl _) hT (q0 := q1) (x0 := v403) (q1 := q3) hq1 hq3 z hz) (fun v404 m405 => ?_)
                                                      have F := xF_cs F ⟨hrc, hrs⟩
                                                      refine xj_istore (lv' := [(5, .int v404), (0, .ref q0), (1, .ref (xad G q1)), (2, .ref (xad G q2)), (3, .ref (xad G q3)), (4, .int x4)]) F dL_law_1491 (by decide) rfl ?_
                                                      refine xj_aload_n F 3 dL_law_1493 rfl ?_
                                                      refine xj_aload_n F 1 dL_law_1494 rfl ?_
                                                      refine xj_iload F 5 dL_law_1495 rfl ?_
                                                      refine xj_iconst F 1 dL_law_1497 (by decide) ?_
                                                      refine xj_iadd F dL_law_1498 (fun v406 => ?_)
                                                      refine xj_sld F hq0 hX hbl hbA dL_law_1499 (fun v407 => ?_)
                                                      refine xj_callVI (b := q2) (As := [.int v407]) (d' := 1003) F hq2 lmL_165 rfl rfl (Nat.le_of_ble_eq_true rfl) (xfitL (Nat.le_of_ble_eq_true rfl)) dL_law_1500 (fun hT z hz => wX9_breaks (xnd F) (Nat.le_refl _) hT (a0 := q2) (a1 := v407) hq2 z hz) (fun v409 m408 => ?_)
                                                      refine xj_istore (lv' := [(6, .int v409), (5, .int v404), (0, .ref q0), (1, .ref (xad G q1)), (2, .ref (xad G q2)), (3, .ref (xad G q3)), (4, .int x4)]) F dL_law_1503 (by decide) rfl ?_
                                                      refine xj_aload_n F 4 dL_law_1505 rfl ?_
                                                      refine xj_callVI (b := q2) (As := []) (d' := 0) F hq2 lmL_91 rfl rfl (Nat.le_of_ble_eq_true rfl) (xfitL (Nat.le_of_ble_eq_true rfl)) dL_law_1506 (fun hT z hz => wX9_thrown (xnd F) (Nat.le_refl _) hT (a0 := q2) hq2 z hz) (fun v411 m410 => ?_)
                                                      refine xj_iload F 1 dL_law_1509 rfl ?_
                                                      refine xj_icmp_eq (tgt := 1516) F dL_law_1511 (by decide) ?_ ?_
                                                      · refine xj_iload F 1 dL_law_1516 rfl ?_
                                                        refine xj_if_ne (tgt := 1533) F dL_law_1518 (by decide) ?_ ?_
                                                        · refine xj_goto (tgt := 1575) F dL_law_1533 (by decide) ?_
                                                          refine xj_iinc F 6 6 (fun v412 => [(4, .int v412), (6, .int v409), (5, .int v404), (0, .ref q0), (1, .ref (xad G q1)), (2, .ref (xad G q2)), (3, .ref (xad G q3))]) dL_law_1575 rfl (by decide) (by decide) (fun _ => rfl) (fun v412 => ?_)
                                                          refine xj_goto (tgt := 23) F dL_law_1578 (by decide) ?_
                                                          refine xj_sub (lv' := [(0, .ref q0), (1, .ref (xad G q1)), (2, .ref (xad G q2)), (3, .ref (xad G q3)), (4, .int v412)]) [3, 4, 5, 6, 0] rfl ?_
                                                          exact hr23 _ _ q0 q1 q2 q3 v412 m410 (by omega) (by omega) hq0 hq1 hq2 hq3
                                                        · refine xj_aload_n F 5 dL_law_1521 rfl ?_
                                                          refine xj_iconst F 0 dL_law_1522 (by decide) ?_
                                                          refine xj_lald F hq3 dL_law_1523 (fun v413 => ?_)
                                                          refine xj_iload F 0 dL_law_1524 rfl ?_
                                                          refine xj_i2l F dL_law_1526 (fun w414 => ?_)
                                                          refine xj_lcmp F dL_law_1527 (fun v415 => ?_)
                                                          refine xj_if_eq (tgt := 1533) F dL_law_1528 (by decide) ?_ ?_
                                                          · refine xj_goto (tgt := 1575) F dL_law_1533 (by decide) ?_
                                                            refine xj_iinc F 6 6 (fun v416 => [(4, .int v416), (6, .int v409), (5, .int v404), (0, .ref q0), (1, .ref (xad G q1)), (2, .ref (xad G q2)), (3, .ref (xad G q3))]) dL_law_1575 rfl (by decide) (by decide) (fun _ => rfl) (fun v416 => ?_)
                                                            refine xj_goto (tgt := 23) F dL_law_1578 (by decide) ?_
                                                            refine xj_sub (lv' := [(0, .ref q0), (1, .ref (xad G q1)), (2, .ref (xad G q2)), (3, .ref (xad G q3)), (4, .int v416)]) [3, 4, 5, 6, 0] rfl ?_
                                                            exact hr23 _ _ q0 q1 q2 q3 v416 m410 (by omega) (by omega) hq0 hq1 hq2 hq3
                                                          · refine xj_iconst F 0 dL_law_1531 (by decide) ?_
                                                            exact xj_none
                                                      · refine xj_iconst F 0 dL_law_1514 (by decide) ?_
                                                        exact xj_none
                                                    · skip
                                                      refine xj_ite (c := v4 = 24) (fun h417 => ?_) (fun h417 => ?_)
                                                      · refine xj_tabIn F 1536 dL_law_40 (by subst h417; decide) (by subst h417; decide) (by subst h417; rfl) (by decide) ?_
                                                        refine xj_aload_n F 1 dL_law_1536 rfl ?_
                                                        refine xj_callVL (b := q1) (As := []) (d' := 205) F hq1 lmL_166 rfl rfl (Nat.le_of_ble_eq_true rfl) (xfitL (Nat.le_of_ble_eq_true rfl)) dL_law_1537 (fun hT z hz => wX8_print (xnd F) (Nat.le_refl _) hT (a0 := q1) hq1 z hz) (fun w419 m418 => ?_)
                                                        refine xj_aload_n F 2 dL_law_1540 rfl ?_
                                                        refine xj_callVL (b := q2) (As := []) (d' := 604) F hq2 lmL_170 rfl rfl (Nat.le_of_ble_eq_true rfl) (xfitL (Nat.le_of_ble_eq_true rfl)) dL_law_1541 (fun hT z hz => wX9_print (xnd F) (Nat.le_refl _) hT (a0 := q2) hq2 z hz) (fun w421 m420 => ?_)
                                                        refine xj_lcmp F dL_law_1544 (fun v422 => ?_)
                                                        refine xj_if_eq (tgt := 1575) F dL_law_1545 (by decide) ?_ ?_
                                                        · refine xj_iinc F 4 6 (fun v423 => [(4, .int v423), (0, .ref q0), (1, .ref (xad G q1)), (2, .ref (xad G q2)), (3, .ref (xad G q3))]) dL_law_1575 rfl (by decide) (by decide) (fun _ => rfl) (fun v423 => ?_)
                                                          refine xj_goto (tgt := 23) F dL_law_1578 (by decide) ?_
                                                          refine xj_sub (lv' := [(0, .ref q0), (1, .ref (xad G q1)), (2, .ref (xad G q2)), (3, .ref (xad G q3)), (4, .int v423)]) [1, 2, 3, 4, 0] rfl ?_
                                                          exact hr23 _ _ q0 q1 q2 q3 v423 m420 (by omega) (by omega) hq0 hq1 hq2 hq3
                                                        · refine xj_iconst F 0 dL_law_1548 (by decide) ?_
                                                          exact xj_none
                                                      · skip
                                                        refine xj_ite (c := v4 = 25) (fun h424 => ?_) (fun h424 => ?_)
                                                        · refine xj_tabIn F 1550 dL_law_40 (by subst h424; decide) (by subst h424; decide) (by subst h424; rfl) (by decide) ?_
                                                          refine xj_aload_n F 1 dL_law_1550 rfl ?_
                                                          refine xj_aload_n F 0 dL_law_1551 rfl ?_
                                                          refine xj_iload F 4 dL_law_1552 rfl ?_
                                                          refine xj_iconst F 1 dL_law_1554 (by decide) ?_
                                                          refine xj_iadd F dL_law_1555 (fun v425 => ?_)
                                                          refine xj_sld F hq0 hX hbl hbA dL_law_1556 (fun v426 => ?_)
                                                          refine xj_callVI (b := q1) (As := [.int v426]) (d' := 0) F hq1 lmL_171 rfl rfl (Nat.le_of_ble_eq_true rfl) (xfitL (Nat.le_of_ble_eq_true rfl)) dL_law_1557 (fun hT z hz => wX8_status (xnd F) (Nat.le_refl _) hT (a0 := q1) (a1 := v426) hq1 z hz) (fun v428 m427 => ?_)
                                                          refine xj_aload_n F 2 dL_law_1560 rfl ?_
                                                          refine xj_aload_n F 0 dL_law_1561 rfl ?_
                                                          refine xj_iload F 4 dL_law_1562 rfl ?_
                                                          refine xj_iconst F 1 dL_law_1564 (by decide) ?_
                                                          refine xj_iadd F dL_law_1565 (fun v429 => ?_)
                                                          refine xj_sld F hq0 hX hbl hbA dL_law_1566 (fun v430 => ?_)
                                                          refine xj_callVI (b := q2) (As := [.int v430]) (d' := 1) F hq2 lmL_174 rfl rfl (Nat.le_of_ble_eq_true rfl) (xfitL (Nat.le_of_ble_eq_true rfl)) dL_law_1567 (fun hT z hz => wX9_status (xnd F) (Nat.le_refl _) hT (a0 := q2) (a1 := v430) hq2 z hz) (fun v432 m431 => ?_)
                                                          refine xj_icmp_eq (tgt := 1575) F dL_law_1570 (by decide) ?_ ?_
                                                          · refine xj_iinc F 4 6 (fun v433 => [(4, .int v433), (0, .ref q0), (1, .ref (xad G q1)), (2, .ref (xad G q2)), (3, .ref (xad G q3))]) dL_law_1575 rfl (by decide) (by decide) (fun _ => rfl) (fun v433 => ?_)
                                                            refine xj_goto (tgt := 23) F dL_law_1578 (by decide) ?_
                                                            refine xj_sub (lv' := [(0, .ref q0), (1, .ref (xad G q1)), (2, .ref (xad G q2)), (3, .ref (xad G q3)), (4, .int v433)]) [1, 2, 3, 4, 0] rfl ?_
                                                            exact hr23 _ _ q0 q1 q2 q3 v433 m431 (by omega) (by omega) hq0 hq1 hq2 hq3
                                                          · refine xj_iconst F 0 dL_law_1573 (by decide) ?_
                                                            exact xj_none
                                                        · skip
                                                          have eh5 := xne 0 h5 rfl
                                                          have eh31 := xne 1 h31 rfl
                                                          have eh47 := xne 2 h47 rfl
                                                          have eh53 := xne 3 h53 rfl
                                                          have eh77 := xne 4 h77 rfl
                                                          have eh97 := xne 5 h97 rfl
                                                          have eh103 := xne 6 h103 rfl
                                                          have eh119 := xne 7 h119 rfl
                                                          have eh139 := xne 8 h139 rfl
                                                          have eh163 := xne 9 h163 rfl
                                                          have eh179 := xne 10 h179 rfl
                                                          have eh199 := xne 11 h199 rfl
                                                          have eh219 := xne 12 h219 rfl
                                                          have eh235 := xne 13 h235 rfl
                                                          have eh245 := xne 14 h245 rfl
                                                          have eh265 := xne 15 h265 rfl
                                                          have eh285 := xne 16 h285 rfl
                                                          have eh305 := xne 17 h305 rfl
                                                          have eh321 := xne 18 h321 rfl
                                                          have eh337 := xne 19 h337 rfl
                                                          have eh353 := xne 20 h353 rfl
                                                          have eh369 := xne 21 h369 rfl
                                                          have eh385 := xne 22 h385 rfl
                                                          have eh401 := xne 23 h401 rfl
                                                          have eh417 := xne 24 h417 rfl
                                                          have eh424 := xne 25 h424 rfl
                                                          refine xj_tabOut F 1575 dL_law_40 (by omega) (by decide) ?_
                                                          refine xj_iinc F 4 6 (fun v434 => [(4, .int v434), (0, .ref q0), (1, .ref (xad G q1)), (2, .ref (xad G q2)), (3, .ref (xad G q3))]) dL_law_1575 rfl (by decide) (by decide) (fun _ => rfl) (fun v434 => ?_)
                                                          refine xj_goto (tgt := 23) F dL_law_1578 (by decide) ?_
                                                          refine xj_sub (lv' := [(0, .ref q0), (1, .ref (xad G q1)), (2, .ref (xad G q2)), (3, .ref (xad G q3)), (4, .int v434)]) [1, 2, 3, 4, 0] rfl ?_
                                                          exact hr23 _ _ q0 q1 q2 q3 v434 m0 (by omega) (by omega) hq0 hq1 hq2 hq3
