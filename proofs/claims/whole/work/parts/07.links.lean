theorem cw_J0_335 : yCw RJ0 335 yJ0_coder_7d493 cJ0_coder_7d493 1 (Option.some Jvm.ClassFile.FieldType.byte) 0 ∧ Cond.instanceMethod yJ0_coder_7d493 ∈ yT ∧ Cond.selects "java/lang/String" yJ0_coder_7d493 yJ0_coder_7d493 ∈ yT := ⟨⟨wd_334, wd_10, wd_331, by decide, by decide⟩, wd_332, wd_333⟩
theorem cw_J0_492 : yCw RJ0 492 yJ0_isLatin1_aae02 cJ0_isLatin1_aae02 1 (Option.some Jvm.ClassFile.FieldType.boolean) 0 ∧ Cond.instanceMethod yJ0_isLatin1_aae02 ∈ yT ∧ Cond.selects "java/lang/String" yJ0_isLatin1_aae02 yJ0_isLatin1_aae02 ∈ yT := ⟨⟨wd_344, wd_10, wd_341, by decide, by decide⟩, wd_342, wd_343⟩
theorem cw_J0_495 : yCw RJ0 495 yJ1_charAt_3b067 cJ1_charAt_3b067 2 (Option.some Jvm.ClassFile.FieldType.char) 2 ∧ Cond.static yJ1_charAt_3b067 ∈ yT := ⟨⟨wd_347, wd_11, wd_345, by decide, by decide⟩, wd_346⟩
theorem cw_J1_9 : yCw RJ1 9 yJ0_checkIndex_df160 cJ0_checkIndex_df160 2 none 2 ∧ Cond.static yJ0_checkIndex_df160 ∈ yT := ⟨⟨wd_350, wd_10, wd_348, by decide, by decide⟩, wd_349⟩
theorem cw_J0_1059 : yCw RJ0 1059 yJ3_checkIndex_8e157 cJ3_checkIndex_8e157 3 (Option.some Jvm.ClassFile.FieldType.int) 3 ∧ Cond.static yJ3_checkIndex_8e157 ∈ yT := ⟨⟨wd_355, wd_12, wd_353, by decide, by decide⟩, wd_354⟩
theorem ks_255 : (Int16.ofInt (255)).toInt32 = (255 : Int32) := by decide
theorem kc_1 : Int32.ofInt (1) = (1 : Int32) := by decide
theorem kc_0 : Int32.ofInt (0) = (0 : Int32) := by decide
theorem jm_J7_304 : Cond.methodLink RJ7 304 Lib.Math.min.name ∈ yT ∧ Cond.static Lib.Math.min.name ∈ yT ∧ Cond.initialized "java/lang/Math" ∈ yT ∧ Cond.code Lib.Math.min.name Lib.Math.min.code 2 (some .int) ∈ yT := ⟨wd_456, wd_289, wd_9, wd_290⟩
theorem jm_J7_150 : Cond.methodLink RJ7 150 arraycopyName ∈ yT ∧ Cond.native arraycopyName ∈ yT ∧ Cond.static arraycopyName ∈ yT ∧ Cond.initialized "java/lang/System" ∈ yT := ⟨wd_457, wd_459, wd_458, wd_15⟩
theorem kb_12 : (Int8.ofInt (12)).toInt32 = (12 : Int32) := by decide
theorem fl_X0_9 : yFd RX0 9 0 0 true := ⟨by decide, by decide, rfl, wd_66⟩
theorem fl_X0_15 : yFd RX0 15 0 1 true := ⟨by decide, by decide, rfl, wd_68⟩
theorem fl_X0_18 : yFd RX0 18 0 2 true := ⟨by decide, by decide, rfl, wd_70⟩
theorem fl_X0_21 : yFd RX0 21 0 3 true := ⟨by decide, by decide, rfl, wd_72⟩
theorem fl_X0_24 : yFd RX0 24 0 4 true := ⟨by decide, by decide, rfl, wd_74⟩
theorem kb_13 : (Int8.ofInt (13)).toInt32 = (13 : Int32) := by decide
theorem fl_X0_27 : yFd RX0 27 0 5 true := ⟨by decide, by decide, rfl, wd_76⟩
theorem fl_X0_30 : yFd RX0 30 0 6 true := ⟨by decide, by decide, rfl, wd_78⟩
theorem kb_6 : (Int8.ofInt (6)).toInt32 = (6 : Int32) := by decide
theorem fl_X0_33 : yFd RX0 33 0 7 true := ⟨by decide, by decide, rfl, wd_80⟩
theorem kc_m1 : Int32.ofInt (-1) = (-1 : Int32) := by decide
theorem fl_X0_36 : yFd RX0 36 0 12 false := ⟨by decide, by decide, rfl, wd_90⟩
theorem fl_X0_40 : yFd RX0 40 0 17 true := ⟨by decide, by decide, rfl, wd_100⟩
theorem fl_X0_44 : yFd RX0 44 0 18 true := ⟨by decide, by decide, rfl, wd_102⟩
theorem ks_161 : (Int16.ofInt (161)).toInt32 = (161 : Int32) := by decide
theorem fl_X6_9 : yFd RX6 9 5 0 true := ⟨by decide, by decide, rfl, wd_154⟩
theorem fl_X6_15 : yFd RX6 15 5 1 true := ⟨by decide, by decide, rfl, wd_155⟩
theorem fl_X6_18 : yFd RX6 18 5 2 true := ⟨by decide, by decide, rfl, wd_156⟩
theorem cw_X1_11 : Cond.code yX6_init cX6_init 1 none ∈ yT ∧ Cond.initialized (yX6_init : MethodName).cls ∈ yT ∧ Cond.instanceMethod yX6_init ∈ yT ∧ ((yX6_init : MethodName).cls ≠ "java/lang/invoke/MethodHandle" ∧ (yX6_init : MethodName).cls ≠ "java/lang/invoke/VarHandle" ∧ (parseMethodDescriptor (yX6_init : MethodName).desc).map (fun d => d.parameters.length) = some 0) := ⟨wd_152, wd_6, wd_151, by decide, by decide, by decide⟩
theorem fl_X1_12 : yFd RX1 12 1 0 true := ⟨by decide, by decide, rfl, wd_167⟩
theorem ks_160 : (Int16.ofInt (160)).toInt32 = (160 : Int32) := by decide
theorem fl_X1_18 : yFd RX1 18 1 1 true := ⟨by decide, by decide, rfl, wd_168⟩
theorem fl_X3_9 : yFd RX3 9 2 0 true := ⟨by decide, by decide, rfl, wd_36⟩
theorem fl_X3_15 : yFd RX3 15 2 1 false := ⟨by decide, by decide, rfl, wd_37⟩
theorem fl_X3_19 : yFd RX3 19 2 2 false := ⟨by decide, by decide, rfl, wd_38⟩
theorem cw_X1_26 : (yCw RX1 26 yX6_scan cX6_scan 7 none 2 ∧ Cond.instanceMethod yX6_scan ∈ yT ∧ Cond.selects (yCn 5) yX6_scan yX6_scan ∈ yT) ∧ 5 < 8 := ⟨⟨⟨wd_287, wd_6, wd_284, by decide, by decide⟩, wd_285, wd_286⟩, by decide⟩
theorem fl_X1_30 : yFd RX1 30 1 3 false := ⟨by decide, by decide, rfl, wd_170⟩
theorem cw_X1_33 : (yCw RX1 33 yX6_tokenAt cX6_tokenAt 2 (Option.some Jvm.ClassFile.FieldType.int) 1 ∧ Cond.instanceMethod yX6_tokenAt ∈ yT ∧ Cond.selects (yCn 5) yX6_tokenAt yX6_tokenAt ∈ yT) ∧ 5 < 8 := ⟨⟨⟨wd_388, wd_6, wd_385, by decide, by decide⟩, wd_386, wd_387⟩, by decide⟩
theorem fl_X1_37 : yFd RX1 37 1 4 false := ⟨by decide, by decide, rfl, wd_171⟩
theorem fl_X1_40 : yFd RX1 40 1 5 false := ⟨by decide, by decide, rfl, wd_172⟩
theorem fl_X1_22 : yFd RX1 22 1 6 false := ⟨by decide, by decide, rfl, wd_173⟩
theorem fl_X1_43 : yFd RX1 43 1 2 false := ⟨by decide, by decide, rfl, wd_169⟩
theorem cw_X1_46 : (yCw RX1 46 yX1_readPart cX1_readPart 2 none 1 ∧ Cond.instanceMethod yX1_readPart ∈ yT ∧ Cond.selects (yCn 1) yX1_readPart yX1_readPart ∈ yT) ∧ 1 < 8 := ⟨⟨⟨wd_392, wd_5, wd_389, by decide, by decide⟩, wd_391, wp_3⟩, by decide⟩
theorem kc_2 : Int32.ofInt (2) = (2 : Int32) := by decide
theorem cw_X1_50 : (yCw RX1 50 yX1_fail cX1_fail 1 none 0 ∧ Cond.instanceMethod yX1_fail ∈ yT ∧ Cond.selects (yCn 1) yX1_fail yX1_fail ∈ yT) ∧ 1 < 8 := ⟨⟨⟨wd_404, wd_5, wd_401, by decide, by decide⟩, wd_403, wp_6⟩, by decide⟩
theorem cw_X1_55 : yCw RX1 55 yJ7_copyOf_59c91 cJ7_copyOf_59c91 3 (Option.some (Jvm.ClassFile.FieldType.array Jvm.ClassFile.FieldType.int)) 2 ∧ Cond.static yJ7_copyOf_59c91 ∈ yT := ⟨⟨wd_448, wd_14, wd_446, by decide, by decide⟩, wd_447⟩
theorem cw_X1_61 : yCw RX1 61 yX3_init cX3_init 4 none 3 ∧ Cond.instanceMethod yX3_init ∈ yT := ⟨⟨wd_34, wd_2, wd_460, by decide, by decide⟩, wd_33⟩
theorem fl_X4_9 : yFd RX4 9 3 0 true := ⟨by decide, by decide, rfl, wd_53⟩
theorem fl_X4_15 : yFd RX4 15 3 1 true := ⟨by decide, by decide, rfl, wd_54⟩
theorem kb_40 : (Int8.ofInt (40)).toInt32 = (40 : Int32) := by decide
theorem fl_X5_9 : yFd RX5 9 4 0 true := ⟨by decide, by decide, rfl, wd_196⟩
theorem fl_X5_15 : yFd RX5 15 4 1 false := ⟨by decide, by decide, rfl, wd_198⟩
theorem kc_5 : Int32.ofInt (5) = (5 : Int32) := by decide
theorem kb_10 : (Int8.ofInt (10)).toInt32 = (10 : Int32) := by decide
theorem kc_3 : Int32.ofInt (3) = (3 : Int32) := by decide
theorem ks_m266 : (Int16.ofInt (-266)).toInt32 = (-266 : Int32) := by decide
theorem kc_4 : Int32.ofInt (4) = (4 : Int32) := by decide
theorem kb_m43 : (Int8.ofInt (-43)).toInt32 = (-43 : Int32) := by decide
theorem cw_X7_291 : yCw RX7 291 yX3_init cX3_init 4 none 3 ∧ Cond.instanceMethod yX3_init ∈ yT := ⟨⟨wd_34, wd_2, wd_32, by decide, by decide⟩, wd_33⟩
theorem cw_X7_11 : yCw RX7 11 yX7_firstText cX7_firstText 1 (Option.some (Jvm.ClassFile.FieldType.object "OneReader$Law")) 0 ∧ Cond.static yX7_firstText ∈ yT := ⟨⟨wd_30, wd_1, wd_28, by decide, by decide⟩, wd_29⟩
theorem fl_X7_15 : yFd RX7 15 6 7 false := ⟨by decide, by decide, rfl, wd_216⟩
theorem cw_X7_21 : Cond.code yX4_init cX4_init 1 none ∈ yT ∧ Cond.initialized (yX4_init : MethodName).cls ∈ yT ∧ Cond.instanceMethod yX4_init ∈ yT ∧ ((yX4_init : MethodName).cls ≠ "java/lang/invoke/MethodHandle" ∧ (yX4_init : MethodName).cls ≠ "java/lang/invoke/VarHandle" ∧ (parseMethodDescriptor (yX4_init : MethodName).desc).map (fun d => d.parameters.length) = some 0) := ⟨wd_51, wd_3, wd_50, by decide, by decide, by decide⟩
theorem cw_X7_24 : yCw RX7 24 yX0_init cX0_init 3 none 2 ∧ Cond.instanceMethod yX0_init ∈ yT := ⟨⟨wd_64, wd_4, wd_62, by decide, by decide⟩, wd_63⟩
theorem fl_X7_27 : yFd RX7 27 6 0 true := ⟨by decide, by decide, rfl, wd_209⟩
theorem fl_X7_31 : yFd RX7 31 6 1 true := ⟨by decide, by decide, rfl, wd_210⟩
theorem fl_X7_34 : yFd RX7 34 6 2 true := ⟨by decide, by decide, rfl, wd_211⟩
theorem cw_X7_39 : Cond.code yX1_init cX1_init 1 none ∈ yT ∧ Cond.initialized (yX1_init : MethodName).cls ∈ yT ∧ Cond.instanceMethod yX1_init ∈ yT ∧ ((yX1_init : MethodName).cls ≠ "java/lang/invoke/MethodHandle" ∧ (yX1_init : MethodName).cls ≠ "java/lang/invoke/VarHandle" ∧ (parseMethodDescriptor (yX1_init : MethodName).desc).map (fun d => d.parameters.length) = some 0) := ⟨wd_146, wd_5, wd_145, by decide, by decide, by decide⟩
theorem fl_X7_40 : yFd RX7 40 6 3 true := ⟨by decide, by decide, rfl, wd_212⟩
theorem fl_X7_46 : yFd RX7 46 6 4 true := ⟨by decide, by decide, rfl, wd_213⟩
theorem cw_X7_50 : Cond.code yX5_init cX5_init 1 none ∈ yT ∧ Cond.initialized (yX5_init : MethodName).cls ∈ yT ∧ Cond.instanceMethod yX5_init ∈ yT ∧ ((yX5_init : MethodName).cls ≠ "java/lang/invoke/MethodHandle" ∧ (yX5_init : MethodName).cls ≠ "java/lang/invoke/VarHandle" ∧ (parseMethodDescriptor (yX5_init : MethodName).desc).map (fun d => d.parameters.length) = some 0) := ⟨wd_194, wd_7, wd_193, by decide, by decide, by decide⟩
theorem fl_X7_51 : yFd RX7 51 6 5 true := ⟨by decide, by decide, rfl, wd_214⟩
theorem kb_m4 : (Int8.ofInt (-4)).toInt32 = (-4 : Int32) := by decide
theorem fl_X7_76 : yFd RX7 76 6 6 false := ⟨by decide, by decide, rfl, wd_215⟩
theorem cw_X7_107 : (yCw RX7 107 yX1_lawOf cX1_lawOf 5 (Option.some (Jvm.ClassFile.FieldType.object "OneReader$Law")) 2 ∧ Cond.instanceMethod yX1_lawOf ∈ yT ∧ Cond.selects (yCn 1) yX1_lawOf yX1_lawOf ∈ yT) ∧ 1 < 8 := ⟨⟨⟨wd_283, wd_5, wd_280, by decide, by decide⟩, wd_281, wd_282⟩, by decide⟩
theorem kb_m100 : (Int8.ofInt (-100)).toInt32 = (-100 : Int32) := by decide
theorem cw_X7_111 : (yCw RX7 111 yX1_fault cX1_fault 1 (Option.some Jvm.ClassFile.FieldType.int) 0 ∧ Cond.instanceMethod yX1_fault ∈ yT ∧ Cond.selects (yCn 1) yX1_fault yX1_fault ∈ yT) ∧ 1 < 8 := ⟨⟨⟨wd_464, wd_5, wd_461, by decide, by decide⟩, wd_462, wd_463⟩, by decide⟩
theorem fl_X7_114 : yFd RX7 114 0 17 true := ⟨by decide, by decide, rfl, wd_101⟩
theorem fl_X8_7 : yFd RX8 7 7 1 true := ⟨by decide, by decide, rfl, wd_870⟩
theorem fl_X8_13 : yFd RX8 13 7 2 true := ⟨by decide, by decide, rfl, wd_871⟩
theorem kb_36 : (Int8.ofInt (36)).toInt32 = (36 : Int32) := by decide
theorem fl_X8_16 : yFd RX8 16 7 3 true := ⟨by decide, by decide, rfl, wd_872⟩
theorem fl_X8_19 : yFd RX8 19 7 5 true := ⟨by decide, by decide, rfl, wd_874⟩
theorem fl_X8_22 : yFd RX8 22 7 8 false := ⟨by decide, by decide, rfl, wd_877⟩
theorem fl_X8_26 : yFd RX8 26 7 11 true := ⟨by decide, by decide, rfl, wd_880⟩
theorem ks_1200 : (Int16.ofInt (1200)).toInt32 = (1200 : Int32) := by decide
theorem fl_X8_29 : yFd RX8 29 7 13 true := ⟨by decide, by decide, rfl, wd_882⟩
theorem kb_24 : (Int8.ofInt (24)).toInt32 = (24 : Int32) := by decide
theorem fl_X8_32 : yFd RX8 32 7 14 true := ⟨by decide, by decide, rfl, wd_883⟩
theorem fl_X8_35 : yFd RX8 35 7 21 true := ⟨by decide, by decide, rfl, wd_890⟩
theorem fl_X8_38 : yFd RX8 38 7 22 true := ⟨by decide, by decide, rfl, wd_891⟩
theorem fl_X8_41 : yFd RX8 41 7 23 true := ⟨by decide, by decide, rfl, wd_892⟩
theorem fl_X8_44 : yFd RX8 44 7 24 true := ⟨by decide, by decide, rfl, wd_893⟩
theorem fl_X8_47 : yFd RX8 47 7 25 true := ⟨by decide, by decide, rfl, wd_894⟩
theorem fl_X8_50 : yFd RX8 50 7 26 true := ⟨by decide, by decide, rfl, wd_895⟩
theorem kb_38 : (Int8.ofInt (38)).toInt32 = (38 : Int32) := by decide
theorem kb_114 : (Int8.ofInt (114)).toInt32 = (114 : Int32) := by decide
theorem kb_101 : (Int8.ofInt (101)).toInt32 = (101 : Int32) := by decide
theorem kb_97 : (Int8.ofInt (97)).toInt32 = (97 : Int32) := by decide
theorem kb_100 : (Int8.ofInt (100)).toInt32 = (100 : Int32) := by decide
theorem kb_115 : (Int8.ofInt (115)).toInt32 = (115 : Int32) := by decide
theorem kb_32 : (Int8.ofInt (32)).toInt32 = (32 : Int32) := by decide
theorem kb_49 : (Int8.ofInt (49)).toInt32 = (49 : Int32) := by decide
theorem kb_7 : (Int8.ofInt (7)).toInt32 = (7 : Int32) := by decide
theorem kb_48 : (Int8.ofInt (48)).toInt32 = (48 : Int32) := by decide
theorem kb_8 : (Int8.ofInt (8)).toInt32 = (8 : Int32) := by decide
theorem kb_9 : (Int8.ofInt (9)).toInt32 = (9 : Int32) := by decide
theorem kb_59 : (Int8.ofInt (59)).toInt32 = (59 : Int32) := by decide
theorem kb_11 : (Int8.ofInt (11)).toInt32 = (11 : Int32) := by decide
theorem kb_104 : (Int8.ofInt (104)).toInt32 = (104 : Int32) := by decide
theorem kb_111 : (Int8.ofInt (111)).toInt32 = (111 : Int32) := by decide
theorem kb_108 : (Int8.ofInt (108)).toInt32 = (108 : Int32) := by decide
theorem kb_14 : (Int8.ofInt (14)).toInt32 = (14 : Int32) := by decide
theorem kb_15 : (Int8.ofInt (15)).toInt32 = (15 : Int32) := by decide
theorem kb_16 : (Int8.ofInt (16)).toInt32 = (16 : Int32) := by decide
theorem kb_17 : (Int8.ofInt (17)).toInt32 = (17 : Int32) := by decide
theorem kb_18 : (Int8.ofInt (18)).toInt32 = (18 : Int32) := by decide
theorem kb_19 : (Int8.ofInt (19)).toInt32 = (19 : Int32) := by decide
theorem kb_20 : (Int8.ofInt (20)).toInt32 = (20 : Int32) := by decide
theorem kb_21 : (Int8.ofInt (21)).toInt32 = (21 : Int32) := by decide
theorem kb_119 : (Int8.ofInt (119)).toInt32 = (119 : Int32) := by decide
theorem kb_22 : (Int8.ofInt (22)).toInt32 = (22 : Int32) := by decide
theorem kb_23 : (Int8.ofInt (23)).toInt32 = (23 : Int32) := by decide
theorem kb_116 : (Int8.ofInt (116)).toInt32 = (116 : Int32) := by decide
theorem kb_25 : (Int8.ofInt (25)).toInt32 = (25 : Int32) := by decide
theorem kb_26 : (Int8.ofInt (26)).toInt32 = (26 : Int32) := by decide
theorem kb_27 : (Int8.ofInt (27)).toInt32 = (27 : Int32) := by decide
theorem kb_53 : (Int8.ofInt (53)).toInt32 = (53 : Int32) := by decide
theorem kb_28 : (Int8.ofInt (28)).toInt32 = (28 : Int32) := by decide
theorem kb_29 : (Int8.ofInt (29)).toInt32 = (29 : Int32) := by decide
theorem kb_43 : (Int8.ofInt (43)).toInt32 = (43 : Int32) := by decide
theorem kb_30 : (Int8.ofInt (30)).toInt32 = (30 : Int32) := by decide
theorem kb_31 : (Int8.ofInt (31)).toInt32 = (31 : Int32) := by decide
theorem kb_33 : (Int8.ofInt (33)).toInt32 = (33 : Int32) := by decide
theorem kb_34 : (Int8.ofInt (34)).toInt32 = (34 : Int32) := by decide
theorem kb_35 : (Int8.ofInt (35)).toInt32 = (35 : Int32) := by decide
theorem kb_37 : (Int8.ofInt (37)).toInt32 = (37 : Int32) := by decide
theorem fl_X8_53 : yFd RX8 53 7 27 true := ⟨by decide, by decide, rfl, wd_896⟩
theorem kb_96 : (Int8.ofInt (96)).toInt32 = (96 : Int32) := by decide
theorem kb_121 : (Int8.ofInt (121)).toInt32 = (121 : Int32) := by decide
theorem kb_109 : (Int8.ofInt (109)).toInt32 = (109 : Int32) := by decide
theorem kb_39 : (Int8.ofInt (39)).toInt32 = (39 : Int32) := by decide
theorem kb_112 : (Int8.ofInt (112)).toInt32 = (112 : Int32) := by decide
theorem kb_41 : (Int8.ofInt (41)).toInt32 = (41 : Int32) := by decide
theorem kb_42 : (Int8.ofInt (42)).toInt32 = (42 : Int32) := by decide
theorem kb_103 : (Int8.ofInt (103)).toInt32 = (103 : Int32) := by decide
theorem kb_44 : (Int8.ofInt (44)).toInt32 = (44 : Int32) := by decide
theorem kb_45 : (Int8.ofInt (45)).toInt32 = (45 : Int32) := by decide
theorem kb_46 : (Int8.ofInt (46)).toInt32 = (46 : Int32) := by decide
theorem kb_47 : (Int8.ofInt (47)).toInt32 = (47 : Int32) := by decide
theorem kb_110 : (Int8.ofInt (110)).toInt32 = (110 : Int32) := by decide
theorem kb_50 : (Int8.ofInt (50)).toInt32 = (50 : Int32) := by decide
theorem kb_51 : (Int8.ofInt (51)).toInt32 = (51 : Int32) := by decide
theorem kb_52 : (Int8.ofInt (52)).toInt32 = (52 : Int32) := by decide
theorem kb_54 : (Int8.ofInt (54)).toInt32 = (54 : Int32) := by decide
theorem kb_55 : (Int8.ofInt (55)).toInt32 = (55 : Int32) := by decide
theorem kb_56 : (Int8.ofInt (56)).toInt32 = (56 : Int32) := by decide
theorem kb_57 : (Int8.ofInt (57)).toInt32 = (57 : Int32) := by decide
theorem kb_58 : (Int8.ofInt (58)).toInt32 = (58 : Int32) := by decide
theorem kb_60 : (Int8.ofInt (60)).toInt32 = (60 : Int32) := by decide
theorem kb_61 : (Int8.ofInt (61)).toInt32 = (61 : Int32) := by decide
theorem kb_62 : (Int8.ofInt (62)).toInt32 = (62 : Int32) := by decide
theorem kb_63 : (Int8.ofInt (63)).toInt32 = (63 : Int32) := by decide
theorem kb_64 : (Int8.ofInt (64)).toInt32 = (64 : Int32) := by decide
theorem kb_98 : (Int8.ofInt (98)).toInt32 = (98 : Int32) := by decide
theorem kb_65 : (Int8.ofInt (65)).toInt32 = (65 : Int32) := by decide
theorem kb_66 : (Int8.ofInt (66)).toInt32 = (66 : Int32) := by decide
theorem kb_67 : (Int8.ofInt (67)).toInt32 = (67 : Int32) := by decide
theorem kb_105 : (Int8.ofInt (105)).toInt32 = (105 : Int32) := by decide
theorem kb_68 : (Int8.ofInt (68)).toInt32 = (68 : Int32) := by decide
theorem kb_69 : (Int8.ofInt (69)).toInt32 = (69 : Int32) := by decide
theorem kb_70 : (Int8.ofInt (70)).toInt32 = (70 : Int32) := by decide
theorem kb_71 : (Int8.ofInt (71)).toInt32 = (71 : Int32) := by decide
theorem kb_72 : (Int8.ofInt (72)).toInt32 = (72 : Int32) := by decide
theorem kb_73 : (Int8.ofInt (73)).toInt32 = (73 : Int32) := by decide
theorem kb_74 : (Int8.ofInt (74)).toInt32 = (74 : Int32) := by decide
theorem kb_75 : (Int8.ofInt (75)).toInt32 = (75 : Int32) := by decide
theorem kb_76 : (Int8.ofInt (76)).toInt32 = (76 : Int32) := by decide
theorem kb_77 : (Int8.ofInt (77)).toInt32 = (77 : Int32) := by decide
theorem kb_78 : (Int8.ofInt (78)).toInt32 = (78 : Int32) := by decide
theorem kb_79 : (Int8.ofInt (79)).toInt32 = (79 : Int32) := by decide
theorem kb_80 : (Int8.ofInt (80)).toInt32 = (80 : Int32) := by decide
theorem kb_81 : (Int8.ofInt (81)).toInt32 = (81 : Int32) := by decide
theorem kb_82 : (Int8.ofInt (82)).toInt32 = (82 : Int32) := by decide
theorem kb_83 : (Int8.ofInt (83)).toInt32 = (83 : Int32) := by decide
theorem kb_84 : (Int8.ofInt (84)).toInt32 = (84 : Int32) := by decide
theorem kb_85 : (Int8.ofInt (85)).toInt32 = (85 : Int32) := by decide
theorem kb_86 : (Int8.ofInt (86)).toInt32 = (86 : Int32) := by decide
theorem kb_87 : (Int8.ofInt (87)).toInt32 = (87 : Int32) := by decide
theorem kb_88 : (Int8.ofInt (88)).toInt32 = (88 : Int32) := by decide
theorem kb_89 : (Int8.ofInt (89)).toInt32 = (89 : Int32) := by decide
theorem kb_90 : (Int8.ofInt (90)).toInt32 = (90 : Int32) := by decide
theorem kb_91 : (Int8.ofInt (91)).toInt32 = (91 : Int32) := by decide
theorem kb_92 : (Int8.ofInt (92)).toInt32 = (92 : Int32) := by decide
theorem kb_93 : (Int8.ofInt (93)).toInt32 = (93 : Int32) := by decide
theorem kb_94 : (Int8.ofInt (94)).toInt32 = (94 : Int32) := by decide
theorem kb_95 : (Int8.ofInt (95)).toInt32 = (95 : Int32) := by decide
theorem fl_X8_56 : yFd RX8 56 7 32 true := ⟨by decide, by decide, rfl, wd_901⟩
theorem ks_200 : (Int16.ofInt (200)).toInt32 = (200 : Int32) := by decide
theorem fl_X8_59 : yFd RX8 59 7 33 true := ⟨by decide, by decide, rfl, wd_902⟩
theorem fl_X8_62 : yFd RX8 62 7 37 true := ⟨by decide, by decide, rfl, wd_906⟩
theorem fl_X8_65 : yFd RX8 65 7 38 true := ⟨by decide, by decide, rfl, wd_907⟩
theorem fl_X8_68 : yFd RX8 68 7 40 true := ⟨by decide, by decide, rfl, wd_909⟩
theorem fl_X8_71 : yFd RX8 71 7 41 true := ⟨by decide, by decide, rfl, wd_910⟩
theorem fl_X8_74 : yFd RX8 74 7 49 false := ⟨by decide, by decide, rfl, wd_918⟩
theorem fl_X8_77 : yFd RX8 77 7 50 false := ⟨by decide, by decide, rfl, wd_919⟩
theorem fl_X8_80 : yFd RX8 80 7 12 false := ⟨by decide, by decide, rfl, wd_881⟩
theorem cw_X8_83 : (yCw RX8 83 yX8_text cX8_text 3 (Option.some Jvm.ClassFile.FieldType.int) 0 ∧ Cond.instanceMethod yX8_text ∈ yT ∧ Cond.selects (yCn 7) yX8_text yX8_text ∈ yT) ∧ 7 < 8 := ⟨⟨⟨wd_825, wd_8, wd_822, by decide, by decide⟩, wd_823, wd_824⟩, by decide⟩
theorem cw_X2_15 : yCw RX2 15 yX2_isA cX2_isA 4 (Option.some Jvm.ClassFile.FieldType.boolean) 2 ∧ Cond.static yX2_isA ∈ yT := ⟨⟨wd_530, wd_16, wd_528, by decide, by decide⟩, wd_529⟩
theorem jm_X2_19 : Cond.methodLink RX2 19 Lib.Math.max.name ∈ yT ∧ Cond.static Lib.Math.max.name ∈ yT ∧ Cond.initialized "java/lang/Math" ∈ yT ∧ Cond.code Lib.Math.max.name Lib.Math.max.code 2 (some .int) ∈ yT := ⟨wd_533, wd_258, wd_9, wd_259⟩
theorem ks_261 : (Int16.ofInt (261)).toInt32 = (261 : Int32) := by decide
theorem cw_X4_18 : (yCw RX4 18 yX3_endOf cX3_endOf 2 (Option.some Jvm.ClassFile.FieldType.int) 1 ∧ Cond.instanceMethod yX3_endOf ∈ yT ∧ Cond.selects (yCn 2) yX3_endOf yX3_endOf ∈ yT) ∧ 2 < 8 := ⟨⟨⟨wd_494, wd_2, wd_491, by decide, by decide⟩, wd_492, wd_493⟩, by decide⟩
theorem cw_X4_24 : (yCw RX4 24 yX3_startOf cX3_startOf 2 (Option.some Jvm.ClassFile.FieldType.int) 1 ∧ Cond.instanceMethod yX3_startOf ∈ yT ∧ Cond.selects (yCn 2) yX3_startOf yX3_startOf ∈ yT) ∧ 2 < 8 := ⟨⟨⟨wd_498, wd_2, wd_495, by decide, by decide⟩, wd_496, wd_497⟩, by decide⟩
theorem cw_X4_27 : (yCw RX4 27 yX3_codeAt cX3_codeAt 2 (Option.some Jvm.ClassFile.FieldType.int) 1 ∧ Cond.instanceMethod yX3_codeAt ∈ yT ∧ Cond.selects (yCn 2) yX3_codeAt yX3_codeAt ∈ yT) ∧ 2 < 8 := ⟨⟨⟨wd_502, wd_2, wd_499, by decide, by decide⟩, wd_500, wd_501⟩, by decide⟩
theorem ks_262 : (Int16.ofInt (262)).toInt32 = (262 : Int32) := by decide
theorem cw_X4_30 : (yCw RX4 30 yX4_act cX4_act 7 (Option.some Jvm.ClassFile.FieldType.int) 2 ∧ Cond.instanceMethod yX4_act ∈ yT ∧ Cond.selects (yCn 3) yX4_act yX4_act ∈ yT) ∧ 3 < 8 := ⟨⟨⟨wd_506, wd_3, wd_503, by decide, by decide⟩, wd_505, wp_15⟩, by decide⟩
theorem cw_X2_25 : yCw RX2 25 yX2_asHabit cX2_asHabit 4 (Option.some Jvm.ClassFile.FieldType.boolean) 4 ∧ Cond.static yX2_asHabit ∈ yT := ⟨⟨wd_597, wd_16, wd_595, by decide, by decide⟩, wd_596⟩
theorem cw_X5_19 : yCw RX5 19 yJ7_fill_53178 cJ7_fill_53178 4 none 2 ∧ Cond.static yJ7_fill_53178 ∈ yT := ⟨⟨wd_754, wd_14, wd_752, by decide, by decide⟩, wd_753⟩
theorem jm_X5_25 : Cond.methodLink RX5 25 Lib.Math.min.name ∈ yT ∧ Cond.static Lib.Math.min.name ∈ yT ∧ Cond.initialized "java/lang/Math" ∈ yT ∧ Cond.code Lib.Math.min.name Lib.Math.min.code 2 (some .int) ∈ yT := ⟨wd_755, wd_289, wd_9, wd_290⟩
theorem jm_X5_31 : Cond.methodLink RX5 31 Lib.Math.max.name ∈ yT ∧ Cond.static Lib.Math.max.name ∈ yT ∧ Cond.initialized "java/lang/Math" ∈ yT ∧ Cond.code Lib.Math.max.name Lib.Math.max.code 2 (some .int) ∈ yT := ⟨wd_756, wd_258, wd_9, wd_259⟩
theorem fl_X5_34 : yFd RX5 34 4 2 false := ⟨by decide, by decide, rfl, wd_200⟩
theorem fl_X0_54 : yFd RX0 54 0 8 false := ⟨by decide, by decide, rfl, wd_83⟩
theorem cw_X0_79 : (yCw RX0 79 yX0_has cX0_has 2 (Option.some Jvm.ClassFile.FieldType.boolean) 1 ∧ Cond.instanceMethod yX0_has ∈ yT ∧ Cond.selects (yCn 0) yX0_has yX0_has ∈ yT) ∧ 0 < 8 := ⟨⟨⟨wd_477, wd_4, wd_482, by decide, by decide⟩, wd_475, wd_476⟩, by decide⟩
theorem cw_X0_98 : yCw RX0 98 yX2_needsNext cX2_needsNext 1 (Option.some Jvm.ClassFile.FieldType.boolean) 1 ∧ Cond.static yX2_needsNext ∈ yT := ⟨⟨wd_540, wd_16, wd_538, by decide, by decide⟩, wd_539⟩
theorem cw_X0_83 : yCw RX0 83 yX2_takes cX2_takes 3 (Option.some Jvm.ClassFile.FieldType.int) 3 ∧ Cond.static yX2_takes ∈ yT := ⟨⟨wd_527, wd_16, wd_525, by decide, by decide⟩, wd_526⟩
theorem cw_X0_92 : (yCw RX0 92 yX0_takesOf cX0_takesOf 2 (Option.some Jvm.ClassFile.FieldType.int) 1 ∧ Cond.instanceMethod yX0_takesOf ∈ yT ∧ Cond.selects (yCn 0) yX0_takesOf yX0_takesOf ∈ yT) ∧ 0 < 8 := ⟨⟨⟨wd_524, wd_4, wd_521, by decide, by decide⟩, wd_522, wd_523⟩, by decide⟩
theorem cw_X0_95 : (yCw RX0 95 yX0_chainOf cX0_chainOf 5 (Option.some Jvm.ClassFile.FieldType.int) 1 ∧ Cond.instanceMethod yX0_chainOf ∈ yT ∧ Cond.selects (yCn 0) yX0_chainOf yX0_chainOf ∈ yT) ∧ 0 < 8 := ⟨⟨⟨wd_537, wd_4, wd_534, by decide, by decide⟩, wd_536, wp_16⟩, by decide⟩
theorem cw_X0_89 : (yCw RX0 89 yX0_settle cX0_settle 3 none 0 ∧ Cond.instanceMethod yX0_settle ∈ yT ∧ Cond.selects (yCn 0) yX0_settle yX0_settle ∈ yT) ∧ 0 < 8 := ⟨⟨⟨wd_520, wd_4, wd_517, by decide, by decide⟩, wd_518, wd_519⟩, by decide⟩
theorem fl_X0_57 : yFd RX0 57 0 9 false := ⟨by decide, by decide, rfl, wd_85⟩
theorem fl_X0_63 : yFd RX0 63 0 11 false := ⟨by decide, by decide, rfl, wd_89⟩
theorem jm_X0_139 : Cond.methodLink RX0 139 Lib.Math.max.name ∈ yT ∧ Cond.static Lib.Math.max.name ∈ yT ∧ Cond.initialized "java/lang/Math" ∈ yT ∧ Cond.code Lib.Math.max.name Lib.Math.max.code 2 (some .int) ∈ yT := ⟨wd_508, wd_258, wd_9, wd_259⟩
theorem ks_999 : (Int16.ofInt (999)).toInt32 = (999 : Int32) := by decide
theorem fl_X0_72 : yFd RX0 72 0 15 false := ⟨by decide, by decide, rfl, wd_97⟩
theorem cw_X0_129 : (yCw RX0 129 yX4_about cX4_about 7 none 6 ∧ Cond.instanceMethod yX4_about ∈ yT ∧ Cond.selects (yCn 3) yX4_about yX4_about ∈ yT) ∧ 3 < 8 := ⟨⟨⟨wd_486, wd_3, wd_483, by decide, by decide⟩, wd_484, wd_485⟩, by decide⟩
theorem cw_X0_135 : (yCw RX0 135 yX4_value cX4_value 9 (Option.some Jvm.ClassFile.FieldType.int) 2 ∧ Cond.instanceMethod yX4_value ∈ yT ∧ Cond.selects (yCn 3) yX4_value yX4_value ∈ yT) ∧ 3 < 8 := ⟨⟨⟨wd_490, wd_3, wd_487, by decide, by decide⟩, wd_488, wd_489⟩, by decide⟩
theorem kb_99 : (Int8.ofInt (99)).toInt32 = (99 : Int32) := by decide
theorem jm_X0_115 : Cond.methodLink RX0 115 Lib.Math.min.name ∈ yT ∧ Cond.static Lib.Math.min.name ∈ yT ∧ Cond.initialized "java/lang/Math" ∈ yT ∧ Cond.code Lib.Math.min.name Lib.Math.min.code 2 (some .int) ∈ yT := ⟨wd_507, wd_289, wd_9, wd_290⟩
theorem fl_X0_69 : yFd RX0 69 0 14 false := ⟨by decide, by decide, rfl, wd_94⟩
theorem cw_X0_142 : yCw RX0 142 yJ6_bitCount_0f7a4 cJ6_bitCount_0f7a4 1 (Option.some Jvm.ClassFile.FieldType.int) 1 ∧ Cond.static yJ6_bitCount_0f7a4 ∈ yT := ⟨⟨wd_584, wd_17, wd_582, by decide, by decide⟩, wd_583⟩
theorem cw_X0_147 : (yCw RX0 147 yX0_behindOf cX0_behindOf 2 (Option.some Jvm.ClassFile.FieldType.int) 1 ∧ Cond.instanceMethod yX0_behindOf ∈ yT ∧ Cond.selects (yCn 0) yX0_behindOf yX0_behindOf ∈ yT) ∧ 0 < 8 := ⟨⟨⟨wd_591, wd_4, wd_588, by decide, by decide⟩, wd_590, wp_20⟩, by decide⟩
theorem cw_X0_111 : (yCw RX0 111 yX0_says cX0_says 6 (Option.some Jvm.ClassFile.FieldType.int) 4 ∧ Cond.instanceMethod yX0_says ∈ yT ∧ Cond.selects (yCn 0) yX0_says yX0_says ∈ yT) ∧ 0 < 8 := ⟨⟨⟨wd_481, wd_4, wd_565, by decide, by decide⟩, wd_479, wd_480⟩, by decide⟩
theorem cw_X0_150 : yCw RX0 150 yX2_holds cX2_holds 7 (Option.some Jvm.ClassFile.FieldType.boolean) 6 ∧ Cond.static yX2_holds ∈ yT := ⟨⟨wd_594, wd_16, wd_592, by decide, by decide⟩, wd_593⟩
theorem cw_X0_75 : (yCw RX0 75 yX0_firstOf cX0_firstOf 2 (Option.some Jvm.ClassFile.FieldType.int) 1 ∧ Cond.instanceMethod yX0_firstOf ∈ yT ∧ Cond.selects (yCn 0) yX0_firstOf yX0_firstOf ∈ yT) ∧ 0 < 8 := ⟨⟨⟨wd_256, wd_4, wd_253, by decide, by decide⟩, wd_254, wd_255⟩, by decide⟩
theorem cw_X0_125 : (yCw RX0 125 yX0_liesIn cX0_liesIn 4 (Option.some Jvm.ClassFile.FieldType.boolean) 3 ∧ Cond.instanceMethod yX0_liesIn ∈ yT ∧ Cond.selects (yCn 0) yX0_liesIn yX0_liesIn ∈ yT) ∧ 0 < 8 := ⟨⟨⟨wd_573, wd_4, wd_570, by decide, by decide⟩, wd_572, wp_19⟩, by decide⟩
theorem fl_X0_66 : yFd RX0 66 0 13 false := ⟨by decide, by decide, rfl, wd_93⟩
theorem fl_X0_60 : yFd RX0 60 0 10 false := ⟨by decide, by decide, rfl, wd_87⟩
theorem fl_X0_101 : yFd RX0 101 0 16 false := ⟨by decide, by decide, rfl, wd_98⟩
theorem cw_X0_104 : (yCw RX0 104 yX0_pages cX0_pages 1 (Option.some Jvm.ClassFile.FieldType.int) 0 ∧ Cond.instanceMethod yX0_pages ∈ yT ∧ Cond.selects (yCn 0) yX0_pages yX0_pages ∈ yT) ∧ 0 < 8 := ⟨⟨⟨wd_252, wd_4, wd_560, by decide, by decide⟩, wd_250, wd_251⟩, by decide⟩
theorem cw_X0_108 : (yCw RX0 108 yX0_entryOn cX0_entryOn 3 (Option.some Jvm.ClassFile.FieldType.int) 1 ∧ Cond.instanceMethod yX0_entryOn ∈ yT ∧ Cond.selects (yCn 0) yX0_entryOn yX0_entryOn ∈ yT) ∧ 0 < 8 := ⟨⟨⟨wd_564, wd_4, wd_561, by decide, by decide⟩, wd_563, wp_17⟩, by decide⟩
theorem cw_X0_121 : (yCw RX0 121 yX0_readPages cX0_readPages 6 none 3 ∧ Cond.instanceMethod yX0_readPages ∈ yT ∧ Cond.selects (yCn 0) yX0_readPages yX0_readPages ∈ yT) ∧ 0 < 8 := ⟨⟨⟨wd_569, wd_4, wd_566, by decide, by decide⟩, wd_568, wp_18⟩, by decide⟩
theorem jm_X0_48 : Cond.methodLink RX0 48 arraycopyName ∈ yT ∧ Cond.native arraycopyName ∈ yT ∧ Cond.static arraycopyName ∈ yT ∧ Cond.initialized "java/lang/System" ∈ yT := ⟨wd_651, wd_459, wd_458, wd_15⟩
theorem cw_X0_154 : yCw RX0 154 yX0_lowest cX0_lowest 2 (Option.some Jvm.ClassFile.FieldType.int) 1 ∧ Cond.static yX0_lowest ∈ yT := ⟨⟨wd_635, wd_4, wd_633, by decide, by decide⟩, wd_634⟩
theorem fl_X6_21 : yFd RX6 21 5 3 false := ⟨by decide, by decide, rfl, wd_157⟩
theorem kb_122 : (Int8.ofInt (122)).toInt32 = (122 : Int32) := by decide
theorem cw_X6_49 : yCw RX6 49 yX6_isLetter cX6_isLetter 1 (Option.some Jvm.ClassFile.FieldType.boolean) 1 ∧ Cond.static yX6_isLetter ∈ yT := ⟨⟨wd_296, wd_6, wd_294, by decide, by decide⟩, wd_295⟩
theorem cw_X6_52 : yCw RX6 52 yX6_isDigit cX6_isDigit 1 (Option.some Jvm.ClassFile.FieldType.boolean) 1 ∧ Cond.static yX6_isDigit ∈ yT := ⟨⟨wd_299, wd_6, wd_297, by decide, by decide⟩, wd_298⟩
theorem cw_X6_69 : yCw RX6 69 yJ0_length_8abf5 cJ0_length_8abf5 1 (Option.some Jvm.ClassFile.FieldType.int) 0 ∧ Cond.instanceMethod yJ0_length_8abf5 ∈ yT ∧ Cond.selects "java/lang/String" yJ0_length_8abf5 yJ0_length_8abf5 ∈ yT := ⟨⟨wd_330, wd_10, wd_327, by decide, by decide⟩, wd_328, wd_329⟩
theorem cw_X6_75 : yCw RX6 75 yJ0_charAt_5068e cJ0_charAt_5068e 2 (Option.some Jvm.ClassFile.FieldType.char) 1 ∧ Cond.instanceMethod yJ0_charAt_5068e ∈ yT ∧ Cond.selects "java/lang/String" yJ0_charAt_5068e yJ0_charAt_5068e ∈ yT := ⟨⟨wd_340, wd_10, wd_337, by decide, by decide⟩, wd_338, wd_339⟩
theorem ks_256 : (Int16.ofInt (256)).toInt32 = (256 : Int32) := by decide
theorem ks_268 : (Int16.ofInt (268)).toInt32 = (268 : Int32) := by decide
theorem cw_X6_61 : yCw RX6 61 yX6_spelling cX6_spelling 1 (Option.some (Jvm.ClassFile.FieldType.object "java/lang/String")) 1 ∧ Cond.static yX6_spelling ∈ yT := ⟨⟨wd_311, wd_6, wd_309, by decide, by decide⟩, wd_310⟩
theorem cw_X6_65 : yCw RX6 65 yX6_isSpelled cX6_isSpelled 5 (Option.some Jvm.ClassFile.FieldType.boolean) 4 ∧ Cond.static yX6_isSpelled ∈ yT := ⟨⟨wd_326, wd_6, wd_324, by decide, by decide⟩, wd_325⟩
theorem cw_X6_58 : yCw RX6 58 yX6_isSign cX6_isSign 1 (Option.some Jvm.ClassFile.FieldType.boolean) 1 ∧ Cond.static yX6_isSign ∈ yT := ⟨⟨wd_377, wd_6, wd_375, by decide, by decide⟩, wd_376⟩
theorem cw_X6_55 : yCw RX6 55 yX6_wordOf cX6_wordOf 4 (Option.some Jvm.ClassFile.FieldType.int) 3 ∧ Cond.static yX6_wordOf ∈ yT := ⟨⟨wd_308, wd_6, wd_306, by decide, by decide⟩, wd_307⟩
theorem jm_X6_25 : Cond.methodLink RX6 25 Lib.Math.min.name ∈ yT ∧ Cond.static Lib.Math.min.name ∈ yT ∧ Cond.initialized "java/lang/Math" ∈ yT ∧ Cond.code Lib.Math.min.name Lib.Math.min.code 2 (some .int) ∈ yT := ⟨wd_288, wd_289, wd_9, wd_290⟩
theorem cw_X6_31 : yCw RX6 31 yX6_endOfToken cX6_endOfToken 6 (Option.some Jvm.ClassFile.FieldType.int) 3 ∧ Cond.static yX6_endOfToken ∈ yT := ⟨⟨wd_293, wd_6, wd_291, by decide, by decide⟩, wd_292⟩
theorem cw_X6_35 : yCw RX6 35 yX6_isBlank cX6_isBlank 1 (Option.some Jvm.ClassFile.FieldType.boolean) 1 ∧ Cond.static yX6_isBlank ∈ yT := ⟨⟨wd_302, wd_6, wd_300, by decide, by decide⟩, wd_301⟩
theorem cw_X6_39 : yCw RX6 39 yX6_tokenOf cX6_tokenOf 3 (Option.some Jvm.ClassFile.FieldType.int) 3 ∧ Cond.static yX6_tokenOf ∈ yT := ⟨⟨wd_305, wd_6, wd_303, by decide, by decide⟩, wd_304⟩
theorem cw_X6_42 : yCw RX6 42 yX6_numberOf cX6_numberOf 5 (Option.some Jvm.ClassFile.FieldType.int) 3 ∧ Cond.static yX6_numberOf ∈ yT := ⟨⟨wd_380, wd_6, wd_378, by decide, by decide⟩, wd_379⟩
theorem cw_X6_45 : (yCw RX6 45 yX6_append cX6_append 4 none 3 ∧ Cond.instanceMethod yX6_append ∈ yT ∧ Cond.selects (yCn 5) yX6_append yX6_append ∈ yT) ∧ 5 < 8 := ⟨⟨⟨wd_384, wd_6, wd_381, by decide, by decide⟩, wd_383, wp_2⟩, by decide⟩
theorem cw_X1_64 : (yCw RX1 64 yX6_placeAt cX6_placeAt 2 (Option.some Jvm.ClassFile.FieldType.int) 1 ∧ Cond.instanceMethod yX6_placeAt ∈ yT ∧ Cond.selects (yCn 5) yX6_placeAt yX6_placeAt ∈ yT) ∧ 5 < 8 := ⟨⟨⟨wd_408, wd_6, wd_405, by decide, by decide⟩, wd_406, wd_407⟩, by decide⟩
theorem cw_X1_67 : (yCw RX1 67 yX1_next cX1_next 1 none 0 ∧ Cond.instanceMethod yX1_next ∈ yT ∧ Cond.selects (yCn 1) yX1_next yX1_next ∈ yT) ∧ 1 < 8 := ⟨⟨⟨wd_400, wd_5, wd_397, by decide, by decide⟩, wd_399, wp_5⟩, by decide⟩
theorem cw_X1_85 : (yCw RX1 85 yX1_enter cX1_enter 1 (Option.some Jvm.ClassFile.FieldType.boolean) 0 ∧ Cond.instanceMethod yX1_enter ∈ yT ∧ Cond.selects (yCn 1) yX1_enter yX1_enter ∈ yT) ∧ 1 < 8 := ⟨⟨⟨wd_424, wd_5, wd_421, by decide, by decide⟩, wd_423, wp_10⟩, by decide⟩
theorem cw_X1_73 : (yCw RX1 73 yX1_readOr cX1_readOr 2 none 0 ∧ Cond.instanceMethod yX1_readOr ∈ yT ∧ Cond.selects (yCn 1) yX1_readOr yX1_readOr ∈ yT) ∧ 1 < 8 := ⟨⟨⟨wd_412, wd_5, wd_409, by decide, by decide⟩, wd_411, wp_7⟩, by decide⟩
theorem cw_X1_70 : (yCw RX1 70 yX1_expect cX1_expect 2 none 1 ∧ Cond.instanceMethod yX1_expect ∈ yT ∧ Cond.selects (yCn 1) yX1_expect yX1_expect ∈ yT) ∧ 1 < 8 := ⟨⟨⟨wd_396, wd_5, wd_393, by decide, by decide⟩, wd_395, wp_4⟩, by decide⟩
theorem cw_X1_95 : (yCw RX1 95 yX1_readOne cX1_readOne 1 none 0 ∧ Cond.instanceMethod yX1_readOne ∈ yT ∧ Cond.selects (yCn 1) yX1_readOne yX1_readOne ∈ yT) ∧ 1 < 8 := ⟨⟨⟨wd_440, wd_5, wd_437, by decide, by decide⟩, wd_439, wp_14⟩, by decide⟩
theorem kb_m2 : (Int8.ofInt (-2)).toInt32 = (-2 : Int32) := by decide
theorem cw_X1_79 : (yCw RX1 79 yX1_emit cX1_emit 2 none 1 ∧ Cond.instanceMethod yX1_emit ∈ yT ∧ Cond.selects (yCn 1) yX1_emit yX1_emit ∈ yT) ∧ 1 < 8 := ⟨⟨⟨wd_428, wd_5, wd_425, by decide, by decide⟩, wd_427, wp_11⟩, by decide⟩
theorem cw_X1_98 : (yCw RX1 98 yX6_numberAt cX6_numberAt 2 (Option.some Jvm.ClassFile.FieldType.int) 1 ∧ Cond.instanceMethod yX6_numberAt ∈ yT ∧ Cond.selects (yCn 5) yX6_numberAt yX6_numberAt ∈ yT) ∧ 5 < 8 := ⟨⟨⟨wd_444, wd_6, wd_441, by decide, by decide⟩, wd_442, wd_443⟩, by decide⟩
theorem kb_m42 : (Int8.ofInt (-42)).toInt32 = (-42 : Int32) := by decide
theorem cw_X1_92 : (yCw RX1 92 yX1_readTerm cX1_readTerm 2 none 0 ∧ Cond.instanceMethod yX1_readTerm ∈ yT ∧ Cond.selects (yCn 1) yX1_readTerm yX1_readTerm ∈ yT) ∧ 1 < 8 := ⟨⟨⟨wd_436, wd_5, wd_433, by decide, by decide⟩, wd_435, wp_13⟩, by decide⟩
theorem cw_X1_89 : (yCw RX1 89 yX1_readSum cX1_readSum 3 none 0 ∧ Cond.instanceMethod yX1_readSum ∈ yT ∧ Cond.selects (yCn 1) yX1_readSum yX1_readSum ∈ yT) ∧ 1 < 8 := ⟨⟨⟨wd_432, wd_5, wd_429, by decide, by decide⟩, wd_431, wp_12⟩, by decide⟩
theorem cw_X1_82 : (yCw RX1 82 yX1_readNot cX1_readNot 2 none 0 ∧ Cond.instanceMethod yX1_readNot ∈ yT ∧ Cond.selects (yCn 1) yX1_readNot yX1_readNot ∈ yT) ∧ 1 < 8 := ⟨⟨⟨wd_420, wd_5, wd_417, by decide, by decide⟩, wd_419, wp_9⟩, by decide⟩
theorem ks_m261 : (Int16.ofInt (-261)).toInt32 = (-261 : Int32) := by decide
theorem ks_260 : (Int16.ofInt (260)).toInt32 = (260 : Int32) := by decide
theorem ks_m260 : (Int16.ofInt (-260)).toInt32 = (-260 : Int32) := by decide
theorem cw_X1_76 : (yCw RX1 76 yX1_readAnd cX1_readAnd 2 none 0 ∧ Cond.instanceMethod yX1_readAnd ∈ yT ∧ Cond.selects (yCn 1) yX1_readAnd yX1_readAnd ∈ yT) ∧ 1 < 8 := ⟨⟨⟨wd_416, wd_5, wd_413, by decide, by decide⟩, wd_415, wp_8⟩, by decide⟩
theorem ks_259 : (Int16.ofInt (259)).toInt32 = (259 : Int32) := by decide
theorem ks_m259 : (Int16.ofInt (-259)).toInt32 = (-259 : Int32) := by decide
theorem cw_X7_118 : (yCw RX7 118 yX0_has cX0_has 2 (Option.some Jvm.ClassFile.FieldType.boolean) 1 ∧ Cond.instanceMethod yX0_has ∈ yT ∧ Cond.selects (yCn 0) yX0_has yX0_has ∈ yT) ∧ 0 < 8 := ⟨⟨⟨wd_477, wd_4, wd_474, by decide, by decide⟩, wd_475, wd_476⟩, by decide⟩
theorem cw_X7_121 : (yCw RX7 121 yX0_says cX0_says 6 (Option.some Jvm.ClassFile.FieldType.int) 4 ∧ Cond.instanceMethod yX0_says ∈ yT ∧ Cond.selects (yCn 0) yX0_says yX0_says ∈ yT) ∧ 0 < 8 := ⟨⟨⟨wd_481, wd_4, wd_478, by decide, by decide⟩, wd_479, wd_480⟩, by decide⟩
theorem fl_X7_259 : yFd RX7 259 6 8 false := ⟨by decide, by decide, rfl, wd_217⟩
theorem cw_X7_255 : (yCw RX7 255 yX0_takeFrom cX0_takeFrom 2 none 1 ∧ Cond.instanceMethod yX0_takeFrom ∈ yT ∧ Cond.selects (yCn 0) yX0_takeFrom yX0_takeFrom ∈ yT) ∧ 0 < 8 := ⟨⟨⟨wd_650, wd_4, wd_647, by decide, by decide⟩, wd_648, wd_649⟩, by decide⟩
theorem fl_X7_55 : yFd RX7 55 0 8 false := ⟨by decide, by decide, rfl, wd_82⟩
theorem kb_m3 : (Int8.ofInt (-3)).toInt32 = (-3 : Int32) := by decide
theorem fl_X7_303 : yFd RX7 303 0 16 false := ⟨by decide, by decide, rfl, wd_99⟩
theorem fl_X7_61 : yFd RX7 61 0 10 false := ⟨by decide, by decide, rfl, wd_86⟩
theorem cw_X7_158 : (yCw RX7 158 yX0_passDay cX0_passDay 3 none 0 ∧ Cond.instanceMethod yX0_passDay ∈ yT ∧ Cond.selects (yCn 0) yX0_passDay yX0_passDay ∈ yT) ∧ 0 < 8 := ⟨⟨⟨wd_559, wd_4, wd_556, by decide, by decide⟩, wd_557, wd_558⟩, by decide⟩
theorem cw_X7_164 : (yCw RX7 164 yX0_itself cX0_itself 7 (Option.some Jvm.ClassFile.FieldType.int) 0 ∧ Cond.instanceMethod yX0_itself ∈ yT ∧ Cond.selects (yCn 0) yX0_itself yX0_itself ∈ yT) ∧ 0 < 8 := ⟨⟨⟨wd_581, wd_4, wd_578, by decide, by decide⟩, wd_579, wd_580⟩, by decide⟩
theorem cw_X7_167 : (yCw RX7 167 yX0_held cX0_held 4 (Option.some Jvm.ClassFile.FieldType.int) 1 ∧ Cond.instanceMethod yX0_held ∈ yT ∧ Cond.selects (yCn 0) yX0_held yX0_held ∈ yT) ∧ 0 < 8 := ⟨⟨⟨wd_601, wd_4, wd_598, by decide, by decide⟩, wd_599, wd_600⟩, by decide⟩
theorem cw_X7_182 : (yCw RX7 182 yX0_canDo cX0_canDo 4 (Option.some Jvm.ClassFile.FieldType.int) 1 ∧ Cond.instanceMethod yX0_canDo ∈ yT ∧ Cond.selects (yCn 0) yX0_canDo yX0_canDo ∈ yT) ∧ 0 < 8 := ⟨⟨⟨wd_628, wd_4, wd_625, by decide, by decide⟩, wd_626, wd_627⟩, by decide⟩
theorem cw_X7_185 : (yCw RX7 185 yX0_worthOf cX0_worthOf 4 (Option.some Jvm.ClassFile.FieldType.int) 1 ∧ Cond.instanceMethod yX0_worthOf ∈ yT ∧ Cond.selects (yCn 0) yX0_worthOf yX0_worthOf ∈ yT) ∧ 0 < 8 := ⟨⟨⟨wd_632, wd_4, wd_629, by decide, by decide⟩, wd_630, wd_631⟩, by decide⟩
theorem fl_X7_161 : yFd RX7 161 0 14 false := ⟨by decide, by decide, rfl, wd_95⟩
theorem cw_X7_294 : (yCw RX7 294 yX0_firstOf cX0_firstOf 2 (Option.some Jvm.ClassFile.FieldType.int) 1 ∧ Cond.instanceMethod yX0_firstOf ∈ yT ∧ Cond.selects (yCn 0) yX0_firstOf yX0_firstOf ∈ yT) ∧ 0 < 8 := ⟨⟨⟨wd_256, wd_4, wd_652, by decide, by decide⟩, wd_254, wd_255⟩, by decide⟩
theorem fl_X7_67 : yFd RX7 67 0 12 false := ⟨by decide, by decide, rfl, wd_91⟩
theorem fl_X7_70 : yFd RX7 70 0 13 false := ⟨by decide, by decide, rfl, wd_92⟩
theorem fl_X7_138 : yFd RX7 138 0 3 true := ⟨by decide, by decide, rfl, wd_73⟩
theorem cw_X7_155 : (yCw RX7 155 yX0_settle cX0_settle 3 none 0 ∧ Cond.instanceMethod yX0_settle ∈ yT ∧ Cond.selects (yCn 0) yX0_settle yX0_settle ∈ yT) ∧ 0 < 8 := ⟨⟨⟨wd_520, wd_4, wd_551, by decide, by decide⟩, wd_518, wd_519⟩, by decide⟩
theorem fl_X7_129 : yFd RX7 129 0 0 true := ⟨by decide, by decide, rfl, wd_67⟩
theorem fl_X7_132 : yFd RX7 132 0 1 true := ⟨by decide, by decide, rfl, wd_69⟩
theorem fl_X7_73 : yFd RX7 73 0 15 false := ⟨by decide, by decide, rfl, wd_96⟩
theorem cw_X7_191 : (yCw RX7 191 yX7_think cX7_think 4 none 3 ∧ Cond.instanceMethod yX7_think ∈ yT ∧ Cond.selects (yCn 6) yX7_think yX7_think ∈ yT) ∧ 6 < 8 := ⟨⟨⟨wd_646, wd_1, wd_643, by decide, by decide⟩, wd_645, wp_21⟩, by decide⟩
theorem cw_X7_195 : (yCw RX7 195 yX7_passDays cX7_passDays 14 (Option.some Jvm.ClassFile.FieldType.int) 4 ∧ Cond.instanceMethod yX7_passDays ∈ yT ∧ Cond.selects (yCn 6) yX7_passDays yX7_passDays ∈ yT) ∧ 6 < 8 := ⟨⟨⟨wd_656, wd_1, wd_653, by decide, by decide⟩, wd_655, wp_22⟩, by decide⟩
theorem cw_X7_188 : yCw RX7 188 yX7_isDays cX7_isDays 1 (Option.some Jvm.ClassFile.FieldType.boolean) 1 ∧ Cond.static yX7_isDays ∈ yT := ⟨⟨wd_642, wd_1, wd_640, by decide, by decide⟩, wd_641⟩
theorem cw_X7_179 : yCw RX7 179 yX7_isZeroOrOne cX7_isZeroOrOne 1 (Option.some Jvm.ClassFile.FieldType.boolean) 1 ∧ Cond.static yX7_isZeroOrOne ∈ yT := ⟨⟨wd_624, wd_1, wd_622, by decide, by decide⟩, wd_623⟩
theorem cw_X7_198 : (yCw RX7 198 yX7_best cX7_best 11 (Option.some Jvm.ClassFile.FieldType.int) 6 ∧ Cond.instanceMethod yX7_best ∈ yT ∧ Cond.selects (yCn 6) yX7_best yX7_best ∈ yT) ∧ 6 < 8 := ⟨⟨⟨wd_671, wd_1, wd_668, by decide, by decide⟩, wd_670, wp_23⟩, by decide⟩
theorem cw_X7_202 : (yCw RX7 202 yX7_worthIf cX7_worthIf 5 (Option.some Jvm.ClassFile.FieldType.int) 4 ∧ Cond.instanceMethod yX7_worthIf ∈ yT ∧ Cond.selects (yCn 6) yX7_worthIf yX7_worthIf ∈ yT) ∧ 6 < 8 := ⟨⟨⟨wd_675, wd_1, wd_672, by decide, by decide⟩, wd_674, wp_24⟩, by decide⟩
theorem fl_X7_241 : yFd RX7 241 4 2 false := ⟨by decide, by decide, rfl, wd_201⟩
theorem fl_X7_243 : yFd RX7 243 4 0 true := ⟨by decide, by decide, rfl, wd_197⟩
theorem cw_X7_219 : (yCw RX7 219 yX7_firstOtherwise cX7_firstOtherwise 3 (Option.some Jvm.ClassFile.FieldType.int) 1 ∧ Cond.instanceMethod yX7_firstOtherwise ∈ yT ∧ Cond.selects (yCn 6) yX7_firstOtherwise yX7_firstOtherwise ∈ yT) ∧ 6 < 8 := ⟨⟨⟨wd_723, wd_1, wd_720, by decide, by decide⟩, wd_722, wp_26⟩, by decide⟩
theorem cw_X7_227 : yCw RX7 227 yX7_isSheet cX7_isSheet 1 (Option.some Jvm.ClassFile.FieldType.boolean) 1 ∧ Cond.static yX7_isSheet ∈ yT := ⟨⟨wd_715, wd_1, wd_713, by decide, by decide⟩, wd_714⟩
theorem cw_X7_237 : (yCw RX7 237 yX5_isMissing cX5_isMissing 1 (Option.some Jvm.ClassFile.FieldType.boolean) 0 ∧ Cond.instanceMethod yX5_isMissing ∈ yT ∧ Cond.selects (yCn 4) yX5_isMissing yX5_isMissing ∈ yT) ∧ 4 < 8 := ⟨⟨⟨wd_719, wd_7, wd_716, by decide, by decide⟩, wd_717, wd_718⟩, by decide⟩
theorem kb_m11 : (Int8.ofInt (-11)).toInt32 = (-11 : Int32) := by decide
theorem cw_X7_216 : (yCw RX7 216 yX7_refusalOf cX7_refusalOf 2 (Option.some Jvm.ClassFile.FieldType.int) 1 ∧ Cond.instanceMethod yX7_refusalOf ∈ yT ∧ Cond.selects (yCn 6) yX7_refusalOf yX7_refusalOf ∈ yT) ∧ 6 < 8 := ⟨⟨⟨wd_712, wd_1, wd_709, by decide, by decide⟩, wd_711, wp_25⟩, by decide⟩
theorem cw_X7_223 : (yCw RX7 223 yX7_fitting cX7_fitting 8 (Option.some Jvm.ClassFile.FieldType.int) 5 ∧ Cond.instanceMethod yX7_fitting ∈ yT ∧ Cond.selects (yCn 6) yX7_fitting yX7_fitting ∈ yT) ∧ 6 < 8 := ⟨⟨⟨wd_731, wd_1, wd_728, by decide, by decide⟩, wd_730, wp_27⟩, by decide⟩
theorem kb_m12 : (Int8.ofInt (-12)).toInt32 = (-12 : Int32) := by decide
theorem cw_X7_234 : (yCw RX7 234 yX5_write cX5_write 3 none 2 ∧ Cond.instanceMethod yX5_write ∈ yT ∧ Cond.selects (yCn 4) yX5_write yX5_write ∈ yT) ∧ 4 < 8 := ⟨⟨⟨wd_760, wd_7, wd_757, by decide, by decide⟩, wd_758, wd_759⟩, by decide⟩
theorem kb_m5 : (Int8.ofInt (-5)).toInt32 = (-5 : Int32) := by decide
theorem fl_X7_205 : yFd RX7 205 0 6 true := ⟨by decide, by decide, rfl, wd_79⟩
theorem fl_X7_263 : yFd RX7 263 4 1 false := ⟨by decide, by decide, rfl, wd_199⟩
theorem cw_X7_266 : (yCw RX7 266 yX5_hasRow cX5_hasRow 3 (Option.some Jvm.ClassFile.FieldType.boolean) 2 ∧ Cond.instanceMethod yX5_hasRow ∈ yT ∧ Cond.selects (yCn 4) yX5_hasRow yX5_hasRow ∈ yT) ∧ 4 < 8 := ⟨⟨⟨wd_800, wd_7, wd_797, by decide, by decide⟩, wd_798, wd_799⟩, by decide⟩
theorem jm_X7_270 : Cond.methodLink RX7 270 arraycopyName ∈ yT ∧ Cond.native arraycopyName ∈ yT ∧ Cond.static arraycopyName ∈ yT ∧ Cond.initialized "java/lang/System" ∈ yT := ⟨wd_801, wd_459, wd_458, wd_15⟩
theorem kb_m13 : (Int8.ofInt (-13)).toInt32 = (-13 : Int32) := by decide
theorem fl_X7_58 : yFd RX7 58 0 9 false := ⟨by decide, by decide, rfl, wd_84⟩
theorem fl_X7_64 : yFd RX7 64 0 11 false := ⟨by decide, by decide, rfl, wd_88⟩
theorem cw_X7_96 : (yCw RX7 96 yX0_allEntries cX0_allEntries 1 (Option.some Jvm.ClassFile.FieldType.int) 0 ∧ Cond.instanceMethod yX0_allEntries ∈ yT ∧ Cond.selects (yCn 0) yX0_allEntries yX0_allEntries ∈ yT) ∧ 0 < 8 := ⟨⟨⟨wd_263, wd_4, wd_260, by decide, by decide⟩, wd_261, wd_262⟩, by decide⟩
theorem cw_X7_170 : (yCw RX7 170 yX0_addDeed cX0_addDeed 2 (Option.some Jvm.ClassFile.FieldType.boolean) 1 ∧ Cond.instanceMethod yX0_addDeed ∈ yT ∧ Cond.selects (yCn 0) yX0_addDeed yX0_addDeed ∈ yT) ∧ 0 < 8 := ⟨⟨⟨wd_609, wd_4, wd_606, by decide, by decide⟩, wd_607, wd_608⟩, by decide⟩
theorem cw_X7_246 : yCw RX7 246 yX7_isSeed cX7_isSeed 1 (Option.some Jvm.ClassFile.FieldType.boolean) 1 ∧ Cond.static yX7_isSeed ∈ yT := ⟨⟨wd_767, wd_1, wd_765, by decide, by decide⟩, wd_766⟩
theorem cw_X7_99 : yCw RX7 99 yX7_isByte cX7_isByte 1 (Option.some Jvm.ClassFile.FieldType.boolean) 1 ∧ Cond.static yX7_isByte ∈ yT := ⟨⟨wd_271, wd_1, wd_269, by decide, by decide⟩, wd_270⟩
theorem cw_X7_103 : (yCw RX7 103 yX7_appendByte cX7_appendByte 3 none 2 ∧ Cond.instanceMethod yX7_appendByte ∈ yT ∧ Cond.selects (yCn 6) yX7_appendByte yX7_appendByte ∈ yT) ∧ 6 < 8 := ⟨⟨⟨wd_275, wd_1, wd_272, by decide, by decide⟩, wd_274, wp_1⟩, by decide⟩
theorem cw_X7_230 : (yCw RX7 230 yX5_become cX5_become 3 none 2 ∧ Cond.instanceMethod yX5_become ∈ yT ∧ Cond.selects (yCn 4) yX5_become yX5_become ∈ yT) ∧ 4 < 8 := ⟨⟨⟨wd_751, wd_7, wd_748, by decide, by decide⟩, wd_749, wd_750⟩, by decide⟩
theorem kb_m7 : (Int8.ofInt (-7)).toInt32 = (-7 : Int32) := by decide
theorem cw_X7_211 : yCw RX7 211 yJ6_bitCount_0f7a4 cJ6_bitCount_0f7a4 1 (Option.some Jvm.ClassFile.FieldType.int) 1 ∧ Cond.static yJ6_bitCount_0f7a4 ∈ yT := ⟨⟨wd_584, wd_17, wd_704, by decide, by decide⟩, wd_583⟩
theorem cw_X7_86 : (yCw RX7 86 yX0_pages cX0_pages 1 (Option.some Jvm.ClassFile.FieldType.int) 0 ∧ Cond.instanceMethod yX0_pages ∈ yT ∧ Cond.selects (yCn 0) yX0_pages yX0_pages ∈ yT) ∧ 0 < 8 := ⟨⟨⟨wd_252, wd_4, wd_249, by decide, by decide⟩, wd_250, wd_251⟩, by decide⟩
theorem jm_X7_90 : Cond.methodLink RX7 90 Lib.Math.max.name ∈ yT ∧ Cond.static Lib.Math.max.name ∈ yT ∧ Cond.initialized "java/lang/Math" ∈ yT ∧ Cond.code Lib.Math.max.name Lib.Math.max.code 2 (some .int) ∈ yT := ⟨wd_257, wd_258, wd_9, wd_259⟩
theorem cw_X7_173 : (yCw RX7 173 yX0_hasDeed cX0_hasDeed 2 (Option.some Jvm.ClassFile.FieldType.boolean) 1 ∧ Cond.instanceMethod yX0_hasDeed ∈ yT ∧ Cond.selects (yCn 0) yX0_hasDeed yX0_hasDeed ∈ yT) ∧ 0 < 8 := ⟨⟨⟨wd_617, wd_4, wd_614, by decide, by decide⟩, wd_615, wd_616⟩, by decide⟩
theorem fl_X7_176 : yFd RX7 176 0 7 true := ⟨by decide, by decide, rfl, wd_81⟩
theorem cw_X7_251 : yCw RX7 251 yX7_inLowestTerms cX7_inLowestTerms 4 (Option.some Jvm.ClassFile.FieldType.int) 3 ∧ Cond.static yX7_inLowestTerms ∈ yT := ⟨⟨wd_776, wd_1, wd_774, by decide, by decide⟩, wd_775⟩
theorem fl_X7_135 : yFd RX7 135 0 2 true := ⟨by decide, by decide, rfl, wd_71⟩
theorem cw_X7_208 : (yCw RX7 208 yX0_sendsToItself cX0_sendsToItself 4 (Option.some Jvm.ClassFile.FieldType.boolean) 1 ∧ Cond.instanceMethod yX0_sendsToItself ∈ yT ∧ Cond.selects (yCn 0) yX0_sendsToItself yX0_sendsToItself ∈ yT) ∧ 0 < 8 := ⟨⟨⟨wd_699, wd_4, wd_696, by decide, by decide⟩, wd_697, wd_698⟩, by decide⟩
theorem cw_X7_79 : (yCw RX7 79 yX7_mostToSet cX7_mostToSet 2 (Option.some Jvm.ClassFile.FieldType.int) 1 ∧ Cond.instanceMethod yX7_mostToSet ∈ yT ∧ Cond.selects (yCn 6) yX7_mostToSet yX7_mostToSet ∈ yT) ∧ 6 < 8 := ⟨⟨⟨wd_248, wd_1, wd_245, by decide, by decide⟩, wd_247, wp_0⟩, by decide⟩
theorem cw_X7_83 : (yCw RX7 83 yX7_count cX7_count 2 (Option.some Jvm.ClassFile.FieldType.int) 1 ∧ Cond.instanceMethod yX7_count ∈ yT ∧ Cond.selects (yCn 6) yX7_count yX7_count ∈ yT) ∧ 6 < 8 := ⟨⟨⟨wd_240, wd_1, wd_264, by decide, by decide⟩, wd_238, wd_239⟩, by decide⟩
theorem kb_m14 : (Int8.ofInt (-14)).toInt32 = (-14 : Int32) := by decide
theorem cw_X7_287 : yCw RX7 287 yX2_isA cX2_isA 4 (Option.some Jvm.ClassFile.FieldType.boolean) 2 ∧ Cond.static yX2_isA ∈ yT := ⟨⟨wd_530, wd_16, wd_815, by decide, by decide⟩, wd_529⟩
theorem fl_X7_141 : yFd RX7 141 0 4 true := ⟨by decide, by decide, rfl, wd_75⟩
theorem cw_X7_144 : (yCw RX7 144 yX0_takesOf cX0_takesOf 2 (Option.some Jvm.ClassFile.FieldType.int) 1 ∧ Cond.instanceMethod yX0_takesOf ∈ yT ∧ Cond.selects (yCn 0) yX0_takesOf yX0_takesOf ∈ yT) ∧ 0 < 8 := ⟨⟨⟨wd_524, wd_4, wd_545, by decide, by decide⟩, wd_522, wd_523⟩, by decide⟩
theorem fl_X7_147 : yFd RX7 147 0 5 true := ⟨by decide, by decide, rfl, wd_77⟩
theorem cw_X7_150 : yCw RX7 150 yX2_needsNext cX2_needsNext 1 (Option.some Jvm.ClassFile.FieldType.boolean) 1 ∧ Cond.static yX2_needsNext ∈ yT := ⟨⟨wd_540, wd_16, wd_546, by decide, by decide⟩, wd_539⟩
theorem cw_X7_125 : (yCw RX7 125 yX0_add cX0_add 5 (Option.some Jvm.ClassFile.FieldType.boolean) 3 ∧ Cond.instanceMethod yX0_add ∈ yT ∧ Cond.selects (yCn 0) yX0_add yX0_add ∈ yT) ∧ 0 < 8 := ⟨⟨⟨wd_516, wd_4, wd_513, by decide, by decide⟩, wd_514, wd_515⟩, by decide⟩
theorem cw_X7_276 : (yCw RX7 276 yX7_word cX7_word 4 (Option.some Jvm.ClassFile.FieldType.int) 3 ∧ Cond.instanceMethod yX7_word ∈ yT ∧ Cond.selects (yCn 6) yX7_word yX7_word ∈ yT) ∧ 6 < 8 := ⟨⟨⟨wd_512, wd_1, wd_806, by decide, by decide⟩, wd_510, wd_511⟩, by decide⟩
theorem fl_X8_87 : yFd RX8 87 7 0 false := ⟨by decide, by decide, rfl, wd_869⟩
theorem fl_X8_116 : yFd RX8 116 7 16 false := ⟨by decide, by decide, rfl, wd_885⟩
theorem cw_X8_195 : yCw RX8 195 yX8_two cX8_two 3 (Option.some Jvm.ClassFile.FieldType.int) 3 ∧ Cond.static yX8_two ∈ yT := ⟨⟨wd_1085, wd_8, wd_1083, by decide, by decide⟩, wd_1084⟩
theorem fl_X8_107 : yFd RX8 107 7 7 false := ⟨by decide, by decide, rfl, wd_876⟩
theorem cw_X8_198 : (yCw RX8 198 yX8_says cX8_says 5 (Option.some Jvm.ClassFile.FieldType.int) 1 ∧ Cond.instanceMethod yX8_says ∈ yT ∧ Cond.selects (yCn 7) yX8_says yX8_says ∈ yT) ∧ 7 < 8 := ⟨⟨⟨wd_1082, wd_8, wd_1079, by decide, by decide⟩, wd_1081, wp_44⟩, by decide⟩
theorem cw_X8_122 : yCw RX8 122 yX8_within cX8_within 3 (Option.some Jvm.ClassFile.FieldType.int) 3 ∧ Cond.static yX8_within ∈ yT := ⟨⟨wd_1049, wd_8, wd_1047, by decide, by decide⟩, wd_1048⟩
theorem cw_X8_90 : yCw RX8 90 yX8_in cX8_in 3 (Option.some Jvm.ClassFile.FieldType.boolean) 3 ∧ Cond.static yX8_in ∈ yT := ⟨⟨wd_832, wd_8, wd_830, by decide, by decide⟩, wd_831⟩
theorem cw_X8_201 : (yCw RX8 201 yX8_isEntry cX8_isEntry 2 (Option.some Jvm.ClassFile.FieldType.boolean) 1 ∧ Cond.instanceMethod yX8_isEntry ∈ yT ∧ Cond.selects (yCn 7) yX8_isEntry yX8_isEntry ∈ yT) ∧ 7 < 8 := ⟨⟨⟨wd_1074, wd_8, wd_1071, by decide, by decide⟩, wd_1073, wp_42⟩, by decide⟩
theorem cw_X8_204 : (yCw RX8 204 yX8_asksOf cX8_asksOf 6 (Option.some Jvm.ClassFile.FieldType.int) 4 ∧ Cond.instanceMethod yX8_asksOf ∈ yT ∧ Cond.selects (yCn 7) yX8_asksOf yX8_asksOf ∈ yT) ∧ 7 < 8 := ⟨⟨⟨wd_1078, wd_8, wd_1075, by decide, by decide⟩, wd_1077, wp_43⟩, by decide⟩
theorem fl_X8_321 : yFd RX8 321 7 17 false := ⟨by decide, by decide, rfl, wd_886⟩
theorem fl_X8_325 : yFd RX8 325 7 18 false := ⟨by decide, by decide, rfl, wd_887⟩
theorem fl_X8_328 : yFd RX8 328 7 19 false := ⟨by decide, by decide, rfl, wd_888⟩
theorem fl_X8_94 : yFd RX8 94 7 4 false := ⟨by decide, by decide, rfl, wd_873⟩
theorem fl_X8_331 : yFd RX8 331 7 20 false := ⟨by decide, by decide, rfl, wd_889⟩
theorem fl_X8_104 : yFd RX8 104 7 6 false := ⟨by decide, by decide, rfl, wd_875⟩
theorem fl_X8_110 : yFd RX8 110 7 9 false := ⟨by decide, by decide, rfl, wd_878⟩
theorem fl_X8_215 : yFd RX8 215 7 10 false := ⟨by decide, by decide, rfl, wd_879⟩
theorem cw_X8_97 : (yCw RX8 97 yX8_takesOf cX8_takesOf 4 (Option.some Jvm.ClassFile.FieldType.int) 1 ∧ Cond.instanceMethod yX8_takesOf ∈ yT ∧ Cond.selects (yCn 7) yX8_takesOf yX8_takesOf ∈ yT) ∧ 7 < 8 := ⟨⟨⟨wd_1046, wd_8, wd_1043, by decide, by decide⟩, wd_1045, wp_40⟩, by decide⟩
theorem fl_X8_254 : yFd RX8 254 7 42 false := ⟨by decide, by decide, rfl, wd_911⟩
theorem fl_X8_257 : yFd RX8 257 7 43 false := ⟨by decide, by decide, rfl, wd_912⟩
theorem fl_X8_260 : yFd RX8 260 7 44 false := ⟨by decide, by decide, rfl, wd_913⟩
theorem fl_X8_263 : yFd RX8 263 7 45 false := ⟨by decide, by decide, rfl, wd_914⟩
theorem fl_X8_266 : yFd RX8 266 7 47 false := ⟨by decide, by decide, rfl, wd_916⟩
theorem fl_X8_269 : yFd RX8 269 7 48 false := ⟨by decide, by decide, rfl, wd_917⟩
theorem fl_X8_272 : yFd RX8 272 7 46 false := ⟨by decide, by decide, rfl, wd_915⟩
theorem cw_X8_101 : (yCw RX8 101 yX8_firstPage cX8_firstPage 4 (Option.some Jvm.ClassFile.FieldType.int) 1 ∧ Cond.instanceMethod yX8_firstPage ∈ yT ∧ Cond.selects (yCn 7) yX8_firstPage yX8_firstPage ∈ yT) ∧ 7 < 8 := ⟨⟨⟨wd_1042, wd_8, wd_1039, by decide, by decide⟩, wd_1041, wp_39⟩, by decide⟩
theorem cw_X8_119 : (yCw RX8 119 yX8_pagesAll cX8_pagesAll 1 (Option.some Jvm.ClassFile.FieldType.int) 0 ∧ Cond.instanceMethod yX8_pagesAll ∈ yT ∧ Cond.selects (yCn 7) yX8_pagesAll yX8_pagesAll ∈ yT) ∧ 7 < 8 := ⟨⟨⟨wd_1038, wd_8, wd_1035, by decide, by decide⟩, wd_1037, wp_38⟩, by decide⟩
theorem fl_X8_245 : yFd RX8 245 7 39 false := ⟨by decide, by decide, rfl, wd_908⟩
theorem cw_X8_248 : (yCw RX8 248 yX8_entryOn cX8_entryOn 4 (Option.some Jvm.ClassFile.FieldType.int) 1 ∧ Cond.instanceMethod yX8_entryOn ∈ yT ∧ Cond.selects (yCn 7) yX8_entryOn yX8_entryOn ∈ yT) ∧ 7 < 8 := ⟨⟨⟨wd_1168, wd_8, wd_1165, by decide, by decide⟩, wd_1167, wp_55⟩, by decide⟩
theorem cw_X8_212 : (yCw RX8 212 yX8_behindOf cX8_behindOf 3 (Option.some Jvm.ClassFile.FieldType.int) 1 ∧ Cond.instanceMethod yX8_behindOf ∈ yT ∧ Cond.selects (yCn 7) yX8_behindOf yX8_behindOf ∈ yT) ∧ 7 < 8 := ⟨⟨⟨wd_1121, wd_8, wd_1118, by decide, by decide⟩, wd_1120, wp_49⟩, by decide⟩
theorem cw_X8_218 : yCw RX8 218 yX8_ones cX8_ones 3 (Option.some Jvm.ClassFile.FieldType.int) 1 ∧ Cond.static yX8_ones ∈ yT := ⟨⟨wd_1125, wd_8, wd_1123, by decide, by decide⟩, wd_1124⟩
theorem cw_X8_221 : (yCw RX8 221 yX8_holdsItself cX8_holdsItself 8 (Option.some Jvm.ClassFile.FieldType.boolean) 1 ∧ Cond.instanceMethod yX8_holdsItself ∈ yT ∧ Cond.selects (yCn 7) yX8_holdsItself yX8_holdsItself ∈ yT) ∧ 7 < 8 := ⟨⟨⟨wd_1117, wd_8, wd_1114, by decide, by decide⟩, wd_1116, wp_48⟩, by decide⟩
theorem cw_X8_208 : (yCw RX8 208 yX8_needsOn cX8_needsOn 2 (Option.some Jvm.ClassFile.FieldType.boolean) 1 ∧ Cond.instanceMethod yX8_needsOn ∈ yT ∧ Cond.selects (yCn 7) yX8_needsOn yX8_needsOn ∈ yT) ∧ 7 < 8 := ⟨⟨⟨wd_1097, wd_8, wd_1094, by decide, by decide⟩, wd_1096, wp_45⟩, by decide⟩
theorem cw_X8_224 : (yCw RX8 224 yX8_byThemselves cX8_byThemselves 3 (Option.some Jvm.ClassFile.FieldType.int) 0 ∧ Cond.instanceMethod yX8_byThemselves ∈ yT ∧ Cond.selects (yCn 7) yX8_byThemselves yX8_byThemselves ∈ yT) ∧ 7 < 8 := ⟨⟨⟨wd_1113, wd_8, wd_1110, by decide, by decide⟩, wd_1112, wp_47⟩, by decide⟩
theorem cw_X8_227 : (yCw RX8 227 yX8_chainOf cX8_chainOf 6 (Option.some Jvm.ClassFile.FieldType.int) 1 ∧ Cond.instanceMethod yX8_chainOf ∈ yT ∧ Cond.selects (yCn 7) yX8_chainOf yX8_chainOf ∈ yT) ∧ 7 < 8 := ⟨⟨⟨wd_1129, wd_8, wd_1126, by decide, by decide⟩, wd_1128, wp_50⟩, by decide⟩
theorem cw_X8_236 : yCw RX8 236 yX8_lowestIn cX8_lowestIn 2 (Option.some Jvm.ClassFile.FieldType.int) 1 ∧ Cond.static yX8_lowestIn ∈ yT := ⟨⟨wd_1156, wd_8, wd_1154, by decide, by decide⟩, wd_1155⟩
theorem cw_X8_251 : (yCw RX8 251 yX8_dayOf cX8_dayOf 5 none 0 ∧ Cond.instanceMethod yX8_dayOf ∈ yT ∧ Cond.selects (yCn 7) yX8_dayOf yX8_dayOf ∈ yT) ∧ 7 < 8 := ⟨⟨⟨wd_1164, wd_8, wd_1161, by decide, by decide⟩, wd_1163, wp_54⟩, by decide⟩
theorem cw_X8_230 : (yCw RX8 230 yX8_holding cX8_holding 4 (Option.some Jvm.ClassFile.FieldType.int) 0 ∧ Cond.instanceMethod yX8_holding ∈ yT ∧ Cond.selects (yCn 7) yX8_holding yX8_holding ∈ yT) ∧ 7 < 8 := ⟨⟨⟨wd_1109, wd_8, wd_1106, by decide, by decide⟩, wd_1108, wp_46⟩, by decide⟩
theorem cw_X8_239 : (yCw RX8 239 yX8_doneBy cX8_doneBy 4 (Option.some Jvm.ClassFile.FieldType.int) 1 ∧ Cond.instanceMethod yX8_doneBy ∈ yT ∧ Cond.selects (yCn 7) yX8_doneBy yX8_doneBy ∈ yT) ∧ 7 < 8 := ⟨⟨⟨wd_1149, wd_8, wd_1146, by decide, by decide⟩, wd_1148, wp_52⟩, by decide⟩
theorem cw_X8_242 : (yCw RX8 242 yX8_worthOf cX8_worthOf 4 (Option.some Jvm.ClassFile.FieldType.int) 1 ∧ Cond.instanceMethod yX8_worthOf ∈ yT ∧ Cond.selects (yCn 7) yX8_worthOf yX8_worthOf ∈ yT) ∧ 7 < 8 := ⟨⟨⟨wd_1153, wd_8, wd_1150, by decide, by decide⟩, wd_1152, wp_53⟩, by decide⟩
theorem cw_X8_275 : (yCw RX8 275 yX8_keeps cX8_keeps 2 none 0 ∧ Cond.instanceMethod yX8_keeps ∈ yT ∧ Cond.selects (yCn 7) yX8_keeps yX8_keeps ∈ yT) ∧ 7 < 8 := ⟨⟨⟨wd_1180, wd_8, wd_1177, by decide, by decide⟩, wd_1179, wp_57⟩, by decide⟩
theorem cw_X8_278 : (yCw RX8 278 yX8_lives cX8_lives 4 none 1 ∧ Cond.instanceMethod yX8_lives ∈ yT ∧ Cond.selects (yCn 7) yX8_lives yX8_lives ∈ yT) ∧ 7 < 8 := ⟨⟨⟨wd_1184, wd_8, wd_1181, by decide, by decide⟩, wd_1183, wp_58⟩, by decide⟩
theorem cw_X8_281 : (yCw RX8 281 yX8_laysBack cX8_laysBack 2 none 0 ∧ Cond.instanceMethod yX8_laysBack ∈ yT ∧ Cond.selects (yCn 7) yX8_laysBack yX8_laysBack ∈ yT) ∧ 7 < 8 := ⟨⟨⟨wd_1188, wd_8, wd_1185, by decide, by decide⟩, wd_1187, wp_59⟩, by decide⟩
theorem cw_X8_284 : (yCw RX8 284 yX8_goes cX8_goes 3 (Option.some Jvm.ClassFile.FieldType.int) 1 ∧ Cond.instanceMethod yX8_goes ∈ yT ∧ Cond.selects (yCn 7) yX8_goes yX8_goes ∈ yT) ∧ 7 < 8 := ⟨⟨⟨wd_1176, wd_8, wd_1173, by decide, by decide⟩, wd_1175, wp_56⟩, by decide⟩
theorem cw_X8_290 : (yCw RX8 290 yX8_goesFrom cX8_goesFrom 7 (Option.some Jvm.ClassFile.FieldType.int) 3 ∧ Cond.instanceMethod yX8_goesFrom ∈ yT ∧ Cond.selects (yCn 7) yX8_goesFrom yX8_goesFrom ∈ yT) ∧ 7 < 8 := ⟨⟨⟨wd_1204, wd_8, wd_1201, by decide, by decide⟩, wd_1203, wp_61⟩, by decide⟩
theorem cw_X8_299 : (yCw RX8 299 yX8_sheetWrong cX8_sheetWrong 2 (Option.some Jvm.ClassFile.FieldType.int) 1 ∧ Cond.instanceMethod yX8_sheetWrong ∈ yT ∧ Cond.selects (yCn 7) yX8_sheetWrong yX8_sheetWrong ∈ yT) ∧ 7 < 8 := ⟨⟨⟨wd_1244, wd_8, wd_1241, by decide, by decide⟩, wd_1243, wp_64⟩, by decide⟩
theorem cw_X8_302 : (yCw RX8 302 yX8_unlike cX8_unlike 4 (Option.some Jvm.ClassFile.FieldType.int) 1 ∧ Cond.instanceMethod yX8_unlike ∈ yT ∧ Cond.selects (yCn 7) yX8_unlike yX8_unlike ∈ yT) ∧ 7 < 8 := ⟨⟨⟨wd_1248, wd_8, wd_1245, by decide, by decide⟩, wd_1247, wp_65⟩, by decide⟩
theorem fl_X8_159 : yFd RX8 159 7 34 false := ⟨by decide, by decide, rfl, wd_903⟩
theorem fl_X8_113 : yFd RX8 113 7 15 false := ⟨by decide, by decide, rfl, wd_884⟩
theorem fl_X8_156 : yFd RX8 156 7 36 false := ⟨by decide, by decide, rfl, wd_905⟩
theorem cw_X8_162 : yCw RX8 162 yX8_rank cX8_rank 1 (Option.some Jvm.ClassFile.FieldType.int) 1 ∧ Cond.static yX8_rank ∈ yT := ⟨⟨wd_852, wd_8, wd_850, by decide, by decide⟩, wd_851⟩
theorem fl_X8_165 : yFd RX8 165 7 35 false := ⟨by decide, by decide, rfl, wd_904⟩
theorem cw_X8_168 : (yCw RX8 168 yX8_puts cX8_puts 2 none 1 ∧ Cond.instanceMethod yX8_puts ∈ yT ∧ Cond.selects (yCn 7) yX8_puts yX8_puts ∈ yT) ∧ 7 < 8 := ⟨⟨⟨wd_845, wd_8, wd_842, by decide, by decide⟩, wd_844, wp_31⟩, by decide⟩
theorem cw_X8_175 : (yCw RX8 175 yX8_unwinds cX8_unwinds 3 none 1 ∧ Cond.instanceMethod yX8_unwinds ∈ yT ∧ Cond.selects (yCn 7) yX8_unwinds yX8_unwinds ∈ yT) ∧ 7 < 8 := ⟨⟨⟨wd_849, wd_8, wd_846, by decide, by decide⟩, wd_848, wp_32⟩, by decide⟩
theorem cw_X8_172 : (yCw RX8 172 yX8_holds cX8_holds 2 none 1 ∧ Cond.instanceMethod yX8_holds ∈ yT ∧ Cond.selects (yCn 7) yX8_holds yX8_holds ∈ yT) ∧ 7 < 8 := ⟨⟨⟨wd_860, wd_8, wd_857, by decide, by decide⟩, wd_859, wp_34⟩, by decide⟩
theorem cw_X8_126 : (yCw RX8 126 yX8_all cX8_all 1 (Option.some Jvm.ClassFile.FieldType.int) 0 ∧ Cond.instanceMethod yX8_all ∈ yT ∧ Cond.selects (yCn 7) yX8_all yX8_all ∈ yT) ∧ 7 < 8 := ⟨⟨⟨wd_1053, wd_8, wd_1050, by decide, by decide⟩, wd_1052, wp_41⟩, by decide⟩
theorem ks_1004 : (Int16.ofInt (1004)).toInt32 = (1004 : Int32) := by decide
theorem cw_X8_312 : (yCw RX8 312 yX8_goesByLots cX8_goesByLots 7 (Option.some Jvm.ClassFile.FieldType.int) 3 ∧ Cond.instanceMethod yX8_goesByLots ∈ yT ∧ Cond.selects (yCn 7) yX8_goesByLots yX8_goesByLots ∈ yT) ∧ 7 < 8 := ⟨⟨⟨wd_1277, wd_8, wd_1274, by decide, by decide⟩, wd_1276, wp_66⟩, by decide⟩
theorem cw_X8_287 : (yCw RX8 287 yX8_toldRun cX8_toldRun 2 (Option.some Jvm.ClassFile.FieldType.int) 1 ∧ Cond.instanceMethod yX8_toldRun ∈ yT ∧ Cond.selects (yCn 7) yX8_toldRun yX8_toldRun ∈ yT) ∧ 7 < 8 := ⟨⟨⟨wd_1192, wd_8, wd_1189, by decide, by decide⟩, wd_1191, wp_60⟩, by decide⟩
theorem fl_X8_140 : yFd RX8 140 7 28 false := ⟨by decide, by decide, rfl, wd_897⟩
theorem fl_X8_143 : yFd RX8 143 7 29 false := ⟨by decide, by decide, rfl, wd_898⟩
theorem fl_X8_146 : yFd RX8 146 7 30 false := ⟨by decide, by decide, rfl, wd_899⟩
theorem fl_X8_149 : yFd RX8 149 7 31 false := ⟨by decide, by decide, rfl, wd_900⟩
theorem cw_X8_152 : (yCw RX8 152 yX8_wordFrom cX8_wordFrom 6 (Option.some Jvm.ClassFile.FieldType.int) 2 ∧ Cond.instanceMethod yX8_wordFrom ∈ yT ∧ Cond.selects (yCn 7) yX8_wordFrom yX8_wordFrom ∈ yT) ∧ 7 < 8 := ⟨⟨⟨wd_836, wd_8, wd_833, by decide, by decide⟩, wd_835, wp_29⟩, by decide⟩
theorem cw_X8_178 : (yCw RX8 178 yX8_next cX8_next 3 none 0 ∧ Cond.instanceMethod yX8_next ∈ yT ∧ Cond.selects (yCn 7) yX8_next yX8_next ∈ yT) ∧ 7 < 8 := ⟨⟨⟨wd_829, wd_8, wd_826, by decide, by decide⟩, wd_828, wp_28⟩, by decide⟩
theorem cw_X8_185 : (yCw RX8 185 yX8_signOf cX8_signOf 1 (Option.some Jvm.ClassFile.FieldType.int) 0 ∧ Cond.instanceMethod yX8_signOf ∈ yT ∧ Cond.selects (yCn 7) yX8_signOf yX8_signOf ∈ yT) ∧ 7 < 8 := ⟨⟨⟨wd_864, wd_8, wd_861, by decide, by decide⟩, wd_863, wp_35⟩, by decide⟩
theorem cw_X8_188 : (yCw RX8 188 yX8_between cX8_between 2 (Option.some Jvm.ClassFile.FieldType.boolean) 1 ∧ Cond.instanceMethod yX8_between ∈ yT ∧ Cond.selects (yCn 7) yX8_between yX8_between ∈ yT) ∧ 7 < 8 := ⟨⟨⟨wd_868, wd_8, wd_865, by decide, by decide⟩, wd_867, wp_36⟩, by decide⟩
theorem cw_X8_182 : (yCw RX8 182 yX8_opensOne cX8_opensOne 2 (Option.some Jvm.ClassFile.FieldType.boolean) 1 ∧ Cond.instanceMethod yX8_opensOne ∈ yT ∧ Cond.selects (yCn 7) yX8_opensOne yX8_opensOne ∈ yT) ∧ 7 < 8 := ⟨⟨⟨wd_856, wd_8, wd_853, by decide, by decide⟩, wd_855, wp_33⟩, by decide⟩
theorem cw_X8_136 : yCw RX8 136 yX8_isByte cX8_isByte 1 (Option.some Jvm.ClassFile.FieldType.boolean) 1 ∧ Cond.static yX8_isByte ∈ yT := ⟨⟨wd_1061, wd_8, wd_1059, by decide, by decide⟩, wd_1060⟩
theorem cw_X8_191 : (yCw RX8 191 yX8_eRead cX8_eRead 4 (Option.some Jvm.ClassFile.FieldType.boolean) 0 ∧ Cond.instanceMethod yX8_eRead ∈ yT ∧ Cond.selects (yCn 7) yX8_eRead yX8_eRead ∈ yT) ∧ 7 < 8 := ⟨⟨⟨wd_840, wd_8, wd_837, by decide, by decide⟩, wd_839, wp_30⟩, by decide⟩
theorem ks_9999 : (Int16.ofInt (9999)).toInt32 = (9999 : Int32) := by decide
theorem cw_X8_233 : (yCw RX8 233 yX8_isDeed cX8_isDeed 2 (Option.some Jvm.ClassFile.FieldType.boolean) 1 ∧ Cond.instanceMethod yX8_isDeed ∈ yT ∧ Cond.selects (yCn 7) yX8_isDeed yX8_isDeed ∈ yT) ∧ 7 < 8 := ⟨⟨⟨wd_1141, wd_8, wd_1138, by decide, by decide⟩, wd_1140, wp_51⟩, by decide⟩
theorem ks_6030 : (Int16.ofInt (6030)).toInt32 = (6030 : Int32) := by decide
theorem cw_X8_317 : yCw RX8 317 yX8_lowest cX8_lowest 11 (Option.some Jvm.ClassFile.FieldType.long) 3 ∧ Cond.static yX8_lowest ∈ yT := ⟨⟨wd_1288, wd_8, wd_1286, by decide, by decide⟩, wd_1287⟩
theorem cw_X8_296 : (yCw RX8 296 yX8_comesToItself cX8_comesToItself 4 (Option.some Jvm.ClassFile.FieldType.boolean) 1 ∧ Cond.instanceMethod yX8_comesToItself ∈ yT ∧ Cond.selects (yCn 7) yX8_comesToItself yX8_comesToItself ∈ yT) ∧ 7 < 8 := ⟨⟨⟨wd_1232, wd_8, wd_1229, by decide, by decide⟩, wd_1231, wp_63⟩, by decide⟩
theorem cw_X8_293 : (yCw RX8 293 yX8_goesTo cX8_goesTo 6 (Option.some Jvm.ClassFile.FieldType.int) 3 ∧ Cond.instanceMethod yX8_goesTo ∈ yT ∧ Cond.selects (yCn 7) yX8_goesTo yX8_goesTo ∈ yT) ∧ 7 < 8 := ⟨⟨⟨wd_1220, wd_8, wd_1217, by decide, by decide⟩, wd_1219, wp_62⟩, by decide⟩
theorem cw_X8_129 : (yCw RX8 129 yX8_isSo cX8_isSo 3 (Option.some Jvm.ClassFile.FieldType.boolean) 2 ∧ Cond.instanceMethod yX8_isSo ∈ yT ∧ Cond.selects (yCn 7) yX8_isSo yX8_isSo ∈ yT) ∧ 7 < 8 := ⟨⟨⟨wd_1034, wd_8, wd_1031, by decide, by decide⟩, wd_1033, wp_37⟩, by decide⟩
theorem cw_X8_133 : (yCw RX8 133 yX8_count cX8_count 2 (Option.some Jvm.ClassFile.FieldType.int) 1 ∧ Cond.instanceMethod yX8_count ∈ yT ∧ Cond.selects (yCn 7) yX8_count yX8_count ∈ yT) ∧ 7 < 8 := ⟨⟨⟨wd_1026, wd_8, wd_1054, by decide, by decide⟩, wd_1024, wd_1025⟩, by decide⟩
theorem cw_X8_345 : yCw RX8 345 yX8_isUnder cX8_isUnder 2 (Option.some Jvm.ClassFile.FieldType.boolean) 2 ∧ Cond.static yX8_isUnder ∈ yT := ⟨⟨wd_1324, wd_8, wd_1322, by decide, by decide⟩, wd_1323⟩
theorem cw_X8_334 : (yCw RX8 334 yX8_word cX8_word 4 (Option.some Jvm.ClassFile.FieldType.int) 3 ∧ Cond.instanceMethod yX8_word ∈ yT ∧ Cond.selects (yCn 7) yX8_word yX8_word ∈ yT) ∧ 7 < 8 := ⟨⟨⟨wd_1089, wd_8, wd_1313, by decide, by decide⟩, wd_1087, wd_1088⟩, by decide⟩
abbrev rm_J0_isLatin1_aae02 : Room := { frames := 1, cells := 0, slots := 0, locals := 120 }
abbrev rm_J3_checkIndex_8e157 : Room := { frames := 1, cells := 0, slots := 0, locals := 120 }
abbrev rm_J0_checkIndex_df160 : Room := { frames := 2, cells := 0, slots := 0, locals := 142 }
abbrev rm_J1_charAt_3b067 : Room := { frames := 3, cells := 0, slots := 0, locals := 163 }
abbrev rm_J2_length_9d52b : Room := { frames := 1, cells := 0, slots := 0, locals := 120 }
abbrev rm_J2_checkIndex_2214a : Room := { frames := 3, cells := 0, slots := 0, locals := 163 }
abbrev rm_J2_getChar_3b067 : Room := { frames := 2, cells := 0, slots := 0, locals := 140 }
abbrev rm_J2_charAt_3b067 : Room := { frames := 4, cells := 0, slots := 0, locals := 184 }
abbrev rm_J0_charAt_5068e : Room := { frames := 5, cells := 0, slots := 0, locals := 205 }
abbrev rm_J0_coder_7d493 : Room := { frames := 1, cells := 0, slots := 0, locals := 120 }
abbrev rm_J0_length_8abf5 : Room := { frames := 2, cells := 0, slots := 0, locals := 140 }
abbrev rm_J6_bitCount_0f7a4 : Room := { frames := 1, cells := 0, slots := 0, locals := 120 }
abbrev rm_J9_min_7cf53 : Room := { frames := 1, cells := 0, slots := 0, locals := 120 }
abbrev rm_J7_copyOf_59c91 : Room := { frames := 2, cells := 1, slots := 160, locals := 141 }
abbrev rm_J7_fill_53178 : Room := { frames := 1, cells := 0, slots := 0, locals := 120 }
abbrev rm_J9_max_7cf53 : Room := { frames := 1, cells := 0, slots := 0, locals := 120 }
abbrev rm_X0_has : Room := { frames := 1, cells := 0, slots := 0, locals := 120 }
abbrev rm_X2_isA : Room := { frames := 1, cells := 0, slots := 0, locals := 120 }
abbrev rm_X2_needsNext : Room := { frames := 2, cells := 0, slots := 0, locals := 143 }
abbrev rm_X0_chainOf : Room := { frames := 3, cells := 0, slots := 0, locals := 163 }
abbrev rm_X2_takes : Room := { frames := 2, cells := 0, slots := 0, locals := 143 }
abbrev rm_X0_takesOf : Room := { frames := 3, cells := 0, slots := 0, locals := 165 }
abbrev rm_X0_settle : Room := { frames := 4, cells := 0, slots := 0, locals := 187 }
abbrev rm_X0_add : Room := { frames := 5, cells := 0, slots := 0, locals := 209 }
abbrev rm_X0_addDeed : Room := { frames := 1, cells := 0, slots := 0, locals := 120 }
abbrev rm_X0_allEntries : Room := { frames := 1, cells := 0, slots := 0, locals := 120 }
abbrev rm_X0_behindOf : Room := { frames := 2, cells := 0, slots := 0, locals := 141 }
abbrev rm_X0_canDo : Room := { frames := 1, cells := 0, slots := 0, locals := 120 }
abbrev rm_X0_entryOn : Room := { frames := 1, cells := 0, slots := 0, locals := 120 }
abbrev rm_X0_firstOf : Room := { frames := 1, cells := 0, slots := 0, locals := 120 }
abbrev rm_X0_hasDeed : Room := { frames := 1, cells := 0, slots := 0, locals := 120 }
abbrev rm_X0_held : Room := { frames := 1, cells := 0, slots := 0, locals := 120 }
abbrev rm_X0_init : Room := { frames := 1, cells := 8, slots := 91, locals := 120 }
abbrev rm_X4_about : Room := { frames := 1, cells := 0, slots := 0, locals := 120 }
abbrev rm_X3_codeAt : Room := { frames := 1, cells := 0, slots := 0, locals := 120 }
abbrev rm_X3_endOf : Room := { frames := 1, cells := 0, slots := 0, locals := 120 }
abbrev rm_X3_startOf : Room := { frames := 1, cells := 0, slots := 0, locals := 120 }
abbrev rm_X4_act : Room := { frames := 1, cells := 0, slots := 0, locals := 120 }
abbrev rm_X4_value : Room := { frames := 2, cells := 0, slots := 0, locals := 146 }
abbrev rm_X0_says : Room := { frames := 3, cells := 0, slots := 0, locals := 174 }
abbrev rm_X2_asHabit : Room := { frames := 1, cells := 0, slots := 0, locals := 120 }
abbrev rm_X2_holds : Room := { frames := 2, cells := 0, slots := 0, locals := 143 }
abbrev rm_X0_itself : Room := { frames := 4, cells := 0, slots := 0, locals := 199 }
abbrev rm_X0_liesIn : Room := { frames := 1, cells := 0, slots := 0, locals := 120 }
abbrev rm_X0_lowest : Room := { frames := 1, cells := 0, slots := 0, locals := 120 }
abbrev rm_X0_pages : Room := { frames := 2, cells := 0, slots := 0, locals := 141 }
abbrev rm_X0_readPages : Room := { frames := 2, cells := 0, slots := 0, locals := 143 }
abbrev rm_X0_passDay : Room := { frames := 4, cells := 0, slots := 0, locals := 199 }
abbrev rm_X0_sendsToItself : Room := { frames := 2, cells := 0, slots := 0, locals := 141 }
abbrev rm_X0_takeFrom : Room := { frames := 1, cells := 0, slots := 0, locals := 120 }
abbrev rm_X0_worthOf : Room := { frames := 4, cells := 0, slots := 0, locals := 199 }
abbrev rm_X1_emit : Room := { frames := 1, cells := 0, slots := 0, locals := 120 }
abbrev rm_X6_placeAt : Room := { frames := 1, cells := 0, slots := 0, locals := 120 }
abbrev rm_X1_fail : Room := { frames := 2, cells := 0, slots := 0, locals := 141 }
abbrev rm_X6_tokenAt : Room := { frames := 1, cells := 0, slots := 0, locals := 120 }
abbrev rm_X1_next : Room := { frames := 2, cells := 0, slots := 0, locals := 141 }
abbrev rm_X1_enter : Room := { frames := 3, cells := 0, slots := 0, locals := 161 }
abbrev rm_X1_expect : Room := { frames := 3, cells := 0, slots := 0, locals := 161 }
abbrev rm_X1_fault : Room := { frames := 1, cells := 0, slots := 0, locals := 120 }
abbrev rm_X6_init : Room := { frames := 1, cells := 3, slots := 483, locals := 120 }
abbrev rm_X1_init : Room := { frames := 2, cells := 5, slots := 647, locals := 140 }
abbrev rm_X6_numberAt : Room := { frames := 1, cells := 0, slots := 0, locals := 120 }
abbrev rm_X1_readOne : Room := { frames := 72, cells := 0, slots := 0, locals := 3500 }
abbrev rm_X1_readTerm : Room := { frames := 73, cells := 0, slots := 0, locals := 3550 }
abbrev rm_X1_readSum : Room := { frames := 74, cells := 0, slots := 0, locals := 3600 }
abbrev rm_X1_readNot : Room := { frames := 75, cells := 0, slots := 0, locals := 3650 }
abbrev rm_X1_readAnd : Room := { frames := 76, cells := 0, slots := 0, locals := 3700 }
abbrev rm_X1_readOr : Room := { frames := 77, cells := 0, slots := 0, locals := 3750 }
abbrev rm_X1_readPart : Room := { frames := 78, cells := 0, slots := 0, locals := 3771 }
abbrev rm_X3_init : Room := { frames := 1, cells := 0, slots := 0, locals := 120 }
abbrev rm_X6_append : Room := { frames := 1, cells := 0, slots := 0, locals := 120 }
abbrev rm_X6_isDigit : Room := { frames := 1, cells := 0, slots := 0, locals := 120 }
abbrev rm_X6_isLetter : Room := { frames := 1, cells := 0, slots := 0, locals := 120 }
abbrev rm_X6_endOfToken : Room := { frames := 2, cells := 0, slots := 0, locals := 140 }
abbrev rm_X6_isBlank : Room := { frames := 1, cells := 0, slots := 0, locals := 120 }
abbrev rm_X6_numberOf : Room := { frames := 1, cells := 0, slots := 0, locals := 120 }
abbrev rm_X6_isSign : Room := { frames := 1, cells := 0, slots := 0, locals := 120 }
abbrev rm_X6_isSpelled : Room := { frames := 6, cells := 0, slots := 0, locals := 226 }
abbrev rm_X6_spelling : Room := { frames := 1, cells := 0, slots := 0, locals := 120 }
abbrev rm_X6_wordOf : Room := { frames := 7, cells := 0, slots := 0, locals := 250 }
abbrev rm_X6_tokenOf : Room := { frames := 8, cells := 0, slots := 0, locals := 273 }
abbrev rm_X6_scan : Room := { frames := 9, cells := 0, slots := 0, locals := 295 }
abbrev rm_X1_lawOf : Room := { frames := 79, cells := 2, slots := 163, locals := 3792 }
abbrev rm_X4_init : Room := { frames := 1, cells := 2, slots := 166, locals := 120 }
abbrev rm_X5_become : Room := { frames := 2, cells := 0, slots := 0, locals := 143 }
abbrev rm_X5_hasRow : Room := { frames := 1, cells := 0, slots := 0, locals := 120 }
abbrev rm_X5_init : Room := { frames := 1, cells := 1, slots := 40, locals := 120 }
abbrev rm_X5_isMissing : Room := { frames := 1, cells := 0, slots := 0, locals := 120 }
abbrev rm_X5_write : Room := { frames := 1, cells := 0, slots := 0, locals := 120 }
abbrev rm_X7_appendByte : Room := { frames := 1, cells := 0, slots := 0, locals := 120 }
abbrev rm_X7_asks : Room := { frames := 4, cells := 0, slots := 0, locals := 199 }
abbrev rm_X7_back : Room := { frames := 2, cells := 0, slots := 0, locals := 141 }
abbrev rm_X7_passDays : Room := { frames := 5, cells := 0, slots := 0, locals := 225 }
abbrev rm_X7_think : Room := { frames := 5, cells := 0, slots := 0, locals := 209 }
abbrev rm_X7_best : Room := { frames := 6, cells := 0, slots := 0, locals := 258 }
abbrev rm_X7_isDays : Room := { frames := 1, cells := 0, slots := 0, locals := 120 }
abbrev rm_X7_isZeroOrOne : Room := { frames := 1, cells := 0, slots := 0, locals := 120 }
abbrev rm_X7_worthIf : Room := { frames := 6, cells := 0, slots := 0, locals := 258 }
abbrev rm_X7_begin : Room := { frames := 7, cells := 0, slots := 0, locals := 288 }
abbrev rm_X7_firstOtherwise : Room := { frames := 5, cells := 0, slots := 0, locals := 225 }
abbrev rm_X7_fitting : Room := { frames := 6, cells := 0, slots := 0, locals := 247 }
abbrev rm_X7_isSheet : Room := { frames := 1, cells := 0, slots := 0, locals := 120 }
abbrev rm_X7_refusalOf : Room := { frames := 2, cells := 0, slots := 0, locals := 140 }
abbrev rm_X7_begins : Room := { frames := 7, cells := 0, slots := 0, locals := 274 }
abbrev rm_X7_cell : Room := { frames := 3, cells := 0, slots := 0, locals := 161 }
abbrev rm_X7_chain : Room := { frames := 2, cells := 0, slots := 0, locals := 141 }
abbrev rm_X7_copy : Room := { frames := 2, cells := 0, slots := 0, locals := 142 }
abbrev rm_X7_count : Room := { frames := 1, cells := 0, slots := 0, locals := 120 }
abbrev rm_X7_deed : Room := { frames := 2, cells := 0, slots := 0, locals := 141 }
abbrev rm_X7_done : Room := { frames := 5, cells := 0, slots := 0, locals := 225 }
abbrev rm_X7_isSeed : Room := { frames := 1, cells := 0, slots := 0, locals := 120 }
abbrev rm_X7_drawn : Room := { frames := 6, cells := 0, slots := 0, locals := 258 }
abbrev rm_X7_isByte : Room := { frames := 1, cells := 0, slots := 0, locals := 120 }
abbrev rm_X7_feed : Room := { frames := 2, cells := 0, slots := 0, locals := 142 }
abbrev rm_X7_film : Room := { frames := 6, cells := 0, slots := 0, locals := 232 }
abbrev rm_X7_firstText : Room := { frames := 2, cells := 2, slots := 8, locals := 143 }
abbrev rm_X7_force : Room := { frames := 1, cells := 0, slots := 0, locals := 120 }
abbrev rm_X7_image : Room := { frames := 2, cells := 0, slots := 0, locals := 141 }
abbrev rm_X7_inLowestTerms : Room := { frames := 1, cells := 0, slots := 0, locals := 120 }
abbrev rm_X7_init : Room := { frames := 3, cells := 49, slots := 1502, locals := 163 }
abbrev rm_X7_judge : Room := { frames := 6, cells := 0, slots := 0, locals := 247 }
abbrev rm_X7_kinds : Room := { frames := 7, cells := 0, slots := 0, locals := 274 }
abbrev rm_X7_laws : Room := { frames := 7, cells := 0, slots := 0, locals := 274 }
abbrev rm_X7_live : Room := { frames := 5, cells := 0, slots := 0, locals := 221 }
abbrev rm_X7_lobby : Room := { frames := 7, cells := 0, slots := 0, locals := 288 }
abbrev rm_X7_longest : Room := { frames := 2, cells := 0, slots := 0, locals := 140 }
abbrev rm_X7_mostToSet : Room := { frames := 3, cells := 0, slots := 0, locals := 161 }
abbrev rm_X7_needs : Room := { frames := 2, cells := 0, slots := 0, locals := 141 }
abbrev rm_X7_now : Room := { frames := 5, cells := 0, slots := 0, locals := 225 }
abbrev rm_X7_odds : Room := { frames := 6, cells := 0, slots := 0, locals := 258 }
abbrev rm_X7_put : Room := { frames := 5, cells := 0, slots := 0, locals := 209 }
abbrev rm_X7_rings : Room := { frames := 3, cells := 0, slots := 0, locals := 164 }
abbrev rm_X7_road : Room := { frames := 7, cells := 0, slots := 0, locals := 288 }
abbrev rm_X7_run : Room := { frames := 6, cells := 0, slots := 0, locals := 258 }
abbrev rm_X7_set : Room := { frames := 4, cells := 0, slots := 0, locals := 182 }
abbrev rm_X7_sheet : Room := { frames := 3, cells := 0, slots := 0, locals := 165 }
abbrev rm_X7_skipped : Room := { frames := 7, cells := 0, slots := 0, locals := 274 }
abbrev rm_X7_soup : Room := { frames := 7, cells := 0, slots := 0, locals := 288 }
abbrev rm_X7_taken : Room := { frames := 2, cells := 0, slots := 0, locals := 143 }
abbrev rm_X7_text : Room := { frames := 80, cells := 2, slots := 163, locals := 3816 }
abbrev rm_X7_told : Room := { frames := 4, cells := 0, slots := 0, locals := 186 }
abbrev rm_X7_when : Room := { frames := 6, cells := 0, slots := 0, locals := 232 }
abbrev rm_X7_word : Room := { frames := 6, cells := 0, slots := 0, locals := 233 }
abbrev rm_X7_wordsBy : Room := { frames := 7, cells := 0, slots := 0, locals := 256 }
abbrev rm_X8_all : Room := { frames := 1, cells := 0, slots := 0, locals := 120 }
abbrev rm_X8_two : Room := { frames := 1, cells := 0, slots := 0, locals := 120 }
abbrev rm_X8_says : Room := { frames := 2, cells := 0, slots := 0, locals := 142 }
abbrev rm_X8_within : Room := { frames := 1, cells := 0, slots := 0, locals := 120 }
abbrev rm_X8_asksOf : Room := { frames := 3, cells := 0, slots := 0, locals := 166 }
abbrev rm_X8_in : Room := { frames := 1, cells := 0, slots := 0, locals := 120 }
abbrev rm_X8_isEntry : Room := { frames := 2, cells := 0, slots := 0, locals := 142 }
abbrev rm_X8_asks : Room := { frames := 4, cells := 0, slots := 0, locals := 191 }
abbrev rm_X8_back : Room := { frames := 1, cells := 0, slots := 0, locals := 120 }
abbrev rm_X8_takesOf : Room := { frames := 1, cells := 0, slots := 0, locals := 120 }
abbrev rm_X8_firstPage : Room := { frames := 2, cells := 0, slots := 0, locals := 143 }
abbrev rm_X8_keeps : Room := { frames := 1, cells := 0, slots := 0, locals := 120 }
abbrev rm_X8_laysBack : Room := { frames := 1, cells := 0, slots := 0, locals := 120 }
abbrev rm_X8_entryOn : Room := { frames := 2, cells := 0, slots := 0, locals := 143 }
abbrev rm_X8_pagesAll : Room := { frames := 3, cells := 0, slots := 0, locals := 166 }
abbrev rm_X8_dayOf : Room := { frames := 4, cells := 0, slots := 0, locals := 191 }
abbrev rm_X8_doneBy : Room := { frames := 1, cells := 0, slots := 0, locals := 120 }
abbrev rm_X8_behindOf : Room := { frames := 2, cells := 0, slots := 0, locals := 142 }
abbrev rm_X8_ones : Room := { frames := 1, cells := 0, slots := 0, locals := 120 }
abbrev rm_X8_holdsItself : Room := { frames := 4, cells := 0, slots := 0, locals := 191 }
abbrev rm_X8_byThemselves : Room := { frames := 5, cells := 0, slots := 0, locals := 218 }
abbrev rm_X8_needsOn : Room := { frames := 1, cells := 0, slots := 0, locals := 120 }
abbrev rm_X8_chainOf : Room := { frames := 3, cells := 0, slots := 0, locals := 163 }
abbrev rm_X8_holding : Room := { frames := 6, cells := 0, slots := 0, locals := 240 }
abbrev rm_X8_lowestIn : Room := { frames := 1, cells := 0, slots := 0, locals := 120 }
abbrev rm_X8_worthOf : Room := { frames := 4, cells := 0, slots := 0, locals := 191 }
abbrev rm_X8_lives : Room := { frames := 7, cells := 0, slots := 0, locals := 263 }
abbrev rm_X8_goes : Room := { frames := 8, cells := 0, slots := 0, locals := 286 }
abbrev rm_X8_goesFrom : Room := { frames := 9, cells := 0, slots := 0, locals := 308 }
abbrev rm_X8_begin : Room := { frames := 10, cells := 0, slots := 0, locals := 334 }
abbrev rm_X8_sheetWrong : Room := { frames := 2, cells := 0, slots := 0, locals := 142 }
abbrev rm_X8_unlike : Room := { frames := 7, cells := 0, slots := 0, locals := 263 }
abbrev rm_X8_begins : Room := { frames := 8, cells := 0, slots := 0, locals := 286 }
abbrev rm_X8_holds : Room := { frames := 1, cells := 0, slots := 0, locals := 120 }
abbrev rm_X8_rank : Room := { frames := 1, cells := 0, slots := 0, locals := 120 }
abbrev rm_X8_puts : Room := { frames := 1, cells := 0, slots := 0, locals := 120 }
abbrev rm_X8_unwinds : Room := { frames := 2, cells := 0, slots := 0, locals := 141 }
abbrev rm_X8_between : Room := { frames := 3, cells := 0, slots := 0, locals := 163 }
abbrev rm_X8_cell : Room := { frames := 2, cells := 0, slots := 0, locals := 142 }
abbrev rm_X8_chain : Room := { frames := 4, cells := 0, slots := 0, locals := 188 }
abbrev rm_X8_comesToItself : Room := { frames := 3, cells := 0, slots := 0, locals := 163 }
abbrev rm_X8_copy : Room := { frames := 2, cells := 0, slots := 0, locals := 142 }
abbrev rm_X8_count : Room := { frames := 1, cells := 0, slots := 0, locals := 120 }
abbrev rm_X8_deed : Room := { frames := 2, cells := 0, slots := 0, locals := 142 }
abbrev rm_X8_done : Room := { frames := 7, cells := 0, slots := 0, locals := 263 }
abbrev rm_X8_goesByLots : Room := { frames := 8, cells := 0, slots := 0, locals := 286 }
abbrev rm_X8_toldRun : Room := { frames := 1, cells := 0, slots := 0, locals := 120 }
abbrev rm_X8_drawn : Room := { frames := 9, cells := 0, slots := 0, locals := 312 }
abbrev rm_X8_wordFrom : Room := { frames := 1, cells := 0, slots := 0, locals := 120 }
abbrev rm_X8_next : Room := { frames := 2, cells := 0, slots := 0, locals := 145 }
abbrev rm_X8_opensOne : Room := { frames := 2, cells := 0, slots := 0, locals := 141 }
abbrev rm_X8_signOf : Room := { frames := 1, cells := 0, slots := 0, locals := 120 }
abbrev rm_X8_eRead : Room := { frames := 4, cells := 0, slots := 0, locals := 184 }
abbrev rm_X8_isByte : Room := { frames := 2, cells := 0, slots := 0, locals := 142 }
abbrev rm_X8_feed : Room := { frames := 3, cells := 0, slots := 0, locals := 162 }
abbrev rm_X8_film : Room := { frames := 7, cells := 0, slots := 0, locals := 263 }
abbrev rm_X8_force : Room := { frames := 2, cells := 0, slots := 0, locals := 142 }
abbrev rm_X8_goesTo : Room := { frames := 9, cells := 0, slots := 0, locals := 308 }
abbrev rm_X8_image : Room := { frames := 1, cells := 0, slots := 0, locals := 120 }
abbrev rm_X8_text : Room := { frames := 5, cells := 0, slots := 0, locals := 207 }
abbrev rm_X8_init : Room := { frames := 6, cells := 20, slots := 2221, locals := 229 }
abbrev rm_X8_isDeed : Room := { frames := 2, cells := 0, slots := 0, locals := 142 }
abbrev rm_X8_isSo : Room := { frames := 4, cells := 0, slots := 0, locals := 186 }
abbrev rm_X8_isUnder : Room := { frames := 1, cells := 0, slots := 0, locals := 120 }
abbrev rm_X8_judge : Room := { frames := 8, cells := 0, slots := 0, locals := 286 }
abbrev rm_X8_kinds : Room := { frames := 8, cells := 0, slots := 0, locals := 286 }
abbrev rm_X8_laws : Room := { frames := 8, cells := 0, slots := 0, locals := 286 }
abbrev rm_X8_live : Room := { frames := 5, cells := 0, slots := 0, locals := 215 }
abbrev rm_X8_lobby : Room := { frames := 10, cells := 0, slots := 0, locals := 334 }
abbrev rm_X8_longest : Room := { frames := 4, cells := 0, slots := 0, locals := 188 }
abbrev rm_X8_lowest : Room := { frames := 1, cells := 0, slots := 0, locals := 120 }
abbrev rm_X8_needs : Room := { frames := 3, cells := 0, slots := 0, locals := 163 }
abbrev rm_X8_now : Room := { frames := 7, cells := 0, slots := 0, locals := 263 }
abbrev rm_X8_odds : Room := { frames := 9, cells := 0, slots := 0, locals := 312 }
abbrev rm_X8_put : Room := { frames := 3, cells := 0, slots := 0, locals := 163 }
abbrev rm_X8_rings : Room := { frames := 4, cells := 0, slots := 0, locals := 186 }
abbrev rm_X8_road : Room := { frames := 10, cells := 0, slots := 0, locals := 333 }
abbrev rm_X8_run : Room := { frames := 9, cells := 0, slots := 0, locals := 308 }
abbrev rm_X8_set : Room := { frames := 5, cells := 0, slots := 0, locals := 208 }
abbrev rm_X8_sheet : Room := { frames := 2, cells := 0, slots := 0, locals := 142 }
abbrev rm_X8_skipped : Room := { frames := 8, cells := 0, slots := 0, locals := 286 }
abbrev rm_X8_soup : Room := { frames := 9, cells := 0, slots := 0, locals := 308 }
abbrev rm_X8_taken : Room := { frames := 2, cells := 0, slots := 0, locals := 142 }
abbrev rm_X8_told : Room := { frames := 3, cells := 0, slots := 0, locals := 166 }
abbrev rm_X8_when : Room := { frames := 9, cells := 0, slots := 0, locals := 308 }
abbrev rm_X8_word : Room := { frames := 2, cells := 0, slots := 0, locals := 142 }
abbrev rm_X8_wordsBy : Room := { frames := 3, cells := 0, slots := 0, locals := 165 }
