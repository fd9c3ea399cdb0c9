theorem cw_L_9 : yCw RL 9 yX7_init cX7_init 4 none 0 ∧ Cond.instanceMethod yX7_init ∈ yT := ⟨⟨wd_22, wd_1, wd_20, by decide, by decide⟩, wd_21⟩
theorem cw_L_12 : yCw RL 12 yX8_init cX8_init 2 none 0 ∧ Cond.instanceMethod yX8_init ∈ yT := ⟨⟨wd_820, wd_8, wd_818, by decide, by decide⟩, wd_819⟩
theorem cw_L_13 : (yCw RL 13 yX7_count cX7_count 2 (Option.some Jvm.ClassFile.FieldType.int) 1 ∧ Cond.instanceMethod yX7_count ∈ yT ∧ Cond.selects (yCn 6) yX7_count yX7_count ∈ yT) ∧ 6 < 8 := ⟨⟨⟨wd_240, wd_1, wd_237, by decide, by decide⟩, wd_238, wd_239⟩, by decide⟩
theorem cw_L_17 : (yCw RL 17 yX8_count cX8_count 2 (Option.some Jvm.ClassFile.FieldType.int) 1 ∧ Cond.instanceMethod yX8_count ∈ yT ∧ Cond.selects (yCn 7) yX8_count yX8_count ∈ yT) ∧ 7 < 8 := ⟨⟨⟨wd_1026, wd_8, wd_1023, by decide, by decide⟩, wd_1024, wd_1025⟩, by decide⟩
theorem cw_L_18 : (yCw RL 18 yX7_set cX7_set 4 (Option.some Jvm.ClassFile.FieldType.int) 2 ∧ Cond.instanceMethod yX7_set ∈ yT ∧ Cond.selects (yCn 6) yX7_set yX7_set ∈ yT) ∧ 6 < 8 := ⟨⟨⟨wd_244, wd_1, wd_241, by decide, by decide⟩, wd_242, wd_243⟩, by decide⟩
theorem cw_L_22 : (yCw RL 22 yX8_set cX8_set 4 (Option.some Jvm.ClassFile.FieldType.int) 2 ∧ Cond.instanceMethod yX8_set ∈ yT ∧ Cond.selects (yCn 7) yX8_set yX8_set ∈ yT) ∧ 7 < 8 := ⟨⟨⟨wd_1030, wd_8, wd_1027, by decide, by decide⟩, wd_1028, wd_1029⟩, by decide⟩
theorem cw_L_23 : (yCw RL 23 yX7_feed cX7_feed 7 (Option.some Jvm.ClassFile.FieldType.int) 6 ∧ Cond.instanceMethod yX7_feed ∈ yT ∧ Cond.selects (yCn 6) yX7_feed yX7_feed ∈ yT) ∧ 6 < 8 := ⟨⟨⟨wd_268, wd_1, wd_265, by decide, by decide⟩, wd_266, wd_267⟩, by decide⟩
theorem cw_L_27 : (yCw RL 27 yX8_feed cX8_feed 8 (Option.some Jvm.ClassFile.FieldType.int) 6 ∧ Cond.instanceMethod yX8_feed ∈ yT ∧ Cond.selects (yCn 7) yX8_feed yX8_feed ∈ yT) ∧ 7 < 8 := ⟨⟨⟨wd_1058, wd_8, wd_1055, by decide, by decide⟩, wd_1056, wd_1057⟩, by decide⟩
theorem cw_L_28 : (yCw RL 28 yX7_text cX7_text 2 (Option.some Jvm.ClassFile.FieldType.int) 0 ∧ Cond.instanceMethod yX7_text ∈ yT ∧ Cond.selects (yCn 6) yX7_text yX7_text ∈ yT) ∧ 6 < 8 := ⟨⟨⟨wd_279, wd_1, wd_276, by decide, by decide⟩, wd_277, wd_278⟩, by decide⟩
theorem cw_L_32 : (yCw RL 32 yX8_text cX8_text 3 (Option.some Jvm.ClassFile.FieldType.int) 0 ∧ Cond.instanceMethod yX8_text ∈ yT ∧ Cond.selects (yCn 7) yX8_text yX8_text ∈ yT) ∧ 7 < 8 := ⟨⟨⟨wd_825, wd_8, wd_1062, by decide, by decide⟩, wd_823, wd_824⟩, by decide⟩
theorem cw_L_33 : (yCw RL 33 yX7_force cX7_force 3 (Option.some Jvm.ClassFile.FieldType.int) 1 ∧ Cond.instanceMethod yX7_force ∈ yT ∧ Cond.selects (yCn 6) yX7_force yX7_force ∈ yT) ∧ 6 < 8 := ⟨⟨⟨wd_469, wd_1, wd_466, by decide, by decide⟩, wd_467, wd_468⟩, by decide⟩
theorem cw_L_36 : (yCw RL 36 yX8_force cX8_force 3 (Option.some Jvm.ClassFile.FieldType.int) 1 ∧ Cond.instanceMethod yX8_force ∈ yT ∧ Cond.selects (yCn 7) yX8_force yX8_force ∈ yT) ∧ 7 < 8 := ⟨⟨⟨wd_1066, wd_8, wd_1063, by decide, by decide⟩, wd_1064, wd_1065⟩, by decide⟩
theorem cw_L_37 : (yCw RL 37 yX7_asks cX7_asks 5 (Option.some Jvm.ClassFile.FieldType.int) 4 ∧ Cond.instanceMethod yX7_asks ∈ yT ∧ Cond.selects (yCn 6) yX7_asks yX7_asks ∈ yT) ∧ 6 < 8 := ⟨⟨⟨wd_473, wd_1, wd_470, by decide, by decide⟩, wd_471, wd_472⟩, by decide⟩
theorem cw_L_41 : (yCw RL 41 yX8_asks cX8_asks 5 (Option.some Jvm.ClassFile.FieldType.int) 4 ∧ Cond.instanceMethod yX8_asks ∈ yT ∧ Cond.selects (yCn 7) yX8_asks yX8_asks ∈ yT) ∧ 7 < 8 := ⟨⟨⟨wd_1070, wd_8, wd_1067, by decide, by decide⟩, wd_1068, wd_1069⟩, by decide⟩
theorem cw_L_42 : (yCw RL 42 yX7_word cX7_word 4 (Option.some Jvm.ClassFile.FieldType.int) 3 ∧ Cond.instanceMethod yX7_word ∈ yT ∧ Cond.selects (yCn 6) yX7_word yX7_word ∈ yT) ∧ 6 < 8 := ⟨⟨⟨wd_512, wd_1, wd_509, by decide, by decide⟩, wd_510, wd_511⟩, by decide⟩
theorem cw_L_46 : (yCw RL 46 yX8_word cX8_word 4 (Option.some Jvm.ClassFile.FieldType.int) 3 ∧ Cond.instanceMethod yX8_word ∈ yT ∧ Cond.selects (yCn 7) yX8_word yX8_word ∈ yT) ∧ 7 < 8 := ⟨⟨⟨wd_1089, wd_8, wd_1086, by decide, by decide⟩, wd_1087, wd_1088⟩, by decide⟩
theorem cw_L_47 : (yCw RL 47 yX7_told cX7_told 3 (Option.some Jvm.ClassFile.FieldType.int) 2 ∧ Cond.instanceMethod yX7_told ∈ yT ∧ Cond.selects (yCn 6) yX7_told yX7_told ∈ yT) ∧ 6 < 8 := ⟨⟨⟨wd_544, wd_1, wd_541, by decide, by decide⟩, wd_542, wd_543⟩, by decide⟩
theorem cw_L_50 : (yCw RL 50 yX8_told cX8_told 3 (Option.some Jvm.ClassFile.FieldType.int) 2 ∧ Cond.instanceMethod yX8_told ∈ yT ∧ Cond.selects (yCn 7) yX8_told yX8_told ∈ yT) ∧ 7 < 8 := ⟨⟨⟨wd_1093, wd_8, wd_1090, by decide, by decide⟩, wd_1091, wd_1092⟩, by decide⟩
theorem cw_L_51 : (yCw RL 51 yX7_put cX7_put 5 (Option.some Jvm.ClassFile.FieldType.int) 3 ∧ Cond.instanceMethod yX7_put ∈ yT ∧ Cond.selects (yCn 6) yX7_put yX7_put ∈ yT) ∧ 6 < 8 := ⟨⟨⟨wd_550, wd_1, wd_547, by decide, by decide⟩, wd_548, wd_549⟩, by decide⟩
theorem cw_L_54 : (yCw RL 54 yX8_put cX8_put 5 (Option.some Jvm.ClassFile.FieldType.int) 3 ∧ Cond.instanceMethod yX8_put ∈ yT ∧ Cond.selects (yCn 7) yX8_put yX8_put ∈ yT) ∧ 7 < 8 := ⟨⟨⟨wd_1101, wd_8, wd_1098, by decide, by decide⟩, wd_1099, wd_1100⟩, by decide⟩
theorem cw_L_55 : (yCw RL 55 yX7_live cX7_live 1 (Option.some Jvm.ClassFile.FieldType.int) 0 ∧ Cond.instanceMethod yX7_live ∈ yT ∧ Cond.selects (yCn 6) yX7_live yX7_live ∈ yT) ∧ 6 < 8 := ⟨⟨⟨wd_555, wd_1, wd_552, by decide, by decide⟩, wd_553, wd_554⟩, by decide⟩
theorem cw_L_58 : (yCw RL 58 yX8_live cX8_live 1 (Option.some Jvm.ClassFile.FieldType.int) 0 ∧ Cond.instanceMethod yX8_live ∈ yT ∧ Cond.selects (yCn 7) yX8_live yX8_live ∈ yT) ∧ 7 < 8 := ⟨⟨⟨wd_1160, wd_8, wd_1157, by decide, by decide⟩, wd_1158, wd_1159⟩, by decide⟩
theorem cw_L_59 : (yCw RL 59 yX7_now cX7_now 2 (Option.some Jvm.ClassFile.FieldType.int) 1 ∧ Cond.instanceMethod yX7_now ∈ yT ∧ Cond.selects (yCn 6) yX7_now yX7_now ∈ yT) ∧ 6 < 8 := ⟨⟨⟨wd_577, wd_1, wd_574, by decide, by decide⟩, wd_575, wd_576⟩, by decide⟩
theorem cw_L_62 : (yCw RL 62 yX8_now cX8_now 2 (Option.some Jvm.ClassFile.FieldType.int) 1 ∧ Cond.instanceMethod yX8_now ∈ yT ∧ Cond.selects (yCn 7) yX8_now yX8_now ∈ yT) ∧ 7 < 8 := ⟨⟨⟨wd_1105, wd_8, wd_1102, by decide, by decide⟩, wd_1103, wd_1104⟩, by decide⟩
theorem cw_L_63 : (yCw RL 63 yX7_deed cX7_deed 2 (Option.some Jvm.ClassFile.FieldType.int) 1 ∧ Cond.instanceMethod yX7_deed ∈ yT ∧ Cond.selects (yCn 6) yX7_deed yX7_deed ∈ yT) ∧ 6 < 8 := ⟨⟨⟨wd_605, wd_1, wd_602, by decide, by decide⟩, wd_603, wd_604⟩, by decide⟩
theorem cw_L_66 : (yCw RL 66 yX8_deed cX8_deed 2 (Option.some Jvm.ClassFile.FieldType.int) 1 ∧ Cond.instanceMethod yX8_deed ∈ yT ∧ Cond.selects (yCn 7) yX8_deed yX8_deed ∈ yT) ∧ 7 < 8 := ⟨⟨⟨wd_1133, wd_8, wd_1130, by decide, by decide⟩, wd_1131, wd_1132⟩, by decide⟩
theorem cw_L_67 : (yCw RL 67 yX7_needs cX7_needs 2 (Option.some Jvm.ClassFile.FieldType.int) 1 ∧ Cond.instanceMethod yX7_needs ∈ yT ∧ Cond.selects (yCn 6) yX7_needs yX7_needs ∈ yT) ∧ 6 < 8 := ⟨⟨⟨wd_613, wd_1, wd_610, by decide, by decide⟩, wd_611, wd_612⟩, by decide⟩
theorem cw_L_70 : (yCw RL 70 yX8_needs cX8_needs 2 (Option.some Jvm.ClassFile.FieldType.int) 1 ∧ Cond.instanceMethod yX8_needs ∈ yT ∧ Cond.selects (yCn 7) yX8_needs yX8_needs ∈ yT) ∧ 7 < 8 := ⟨⟨⟨wd_1137, wd_8, wd_1134, by decide, by decide⟩, wd_1135, wd_1136⟩, by decide⟩
theorem cw_L_71 : (yCw RL 71 yX7_done cX7_done 3 (Option.some Jvm.ClassFile.FieldType.int) 1 ∧ Cond.instanceMethod yX7_done ∈ yT ∧ Cond.selects (yCn 6) yX7_done yX7_done ∈ yT) ∧ 6 < 8 := ⟨⟨⟨wd_621, wd_1, wd_618, by decide, by decide⟩, wd_619, wd_620⟩, by decide⟩
theorem cw_L_74 : (yCw RL 74 yX8_done cX8_done 3 (Option.some Jvm.ClassFile.FieldType.int) 1 ∧ Cond.instanceMethod yX8_done ∈ yT ∧ Cond.selects (yCn 7) yX8_done yX8_done ∈ yT) ∧ 7 < 8 := ⟨⟨⟨wd_1145, wd_8, wd_1142, by decide, by decide⟩, wd_1143, wd_1144⟩, by decide⟩
theorem cw_L_75 : (yCw RL 75 yX7_run cX7_run 3 (Option.some Jvm.ClassFile.FieldType.int) 2 ∧ Cond.instanceMethod yX7_run ∈ yT ∧ Cond.selects (yCn 6) yX7_run yX7_run ∈ yT) ∧ 6 < 8 := ⟨⟨⟨wd_639, wd_1, wd_636, by decide, by decide⟩, wd_637, wd_638⟩, by decide⟩
theorem cw_L_78 : (yCw RL 78 yX8_run cX8_run 3 (Option.some Jvm.ClassFile.FieldType.int) 2 ∧ Cond.instanceMethod yX8_run ∈ yT ∧ Cond.selects (yCn 7) yX8_run yX8_run ∈ yT) ∧ 7 < 8 := ⟨⟨⟨wd_1172, wd_8, wd_1169, by decide, by decide⟩, wd_1170, wd_1171⟩, by decide⟩
theorem cw_L_79 : (yCw RL 79 yX7_when cX7_when 8 (Option.some Jvm.ClassFile.FieldType.int) 3 ∧ Cond.instanceMethod yX7_when ∈ yT ∧ Cond.selects (yCn 6) yX7_when yX7_when ∈ yT) ∧ 6 < 8 := ⟨⟨⟨wd_663, wd_1, wd_660, by decide, by decide⟩, wd_661, wd_662⟩, by decide⟩
theorem cw_L_82 : (yCw RL 82 yX8_when cX8_when 4 (Option.some Jvm.ClassFile.FieldType.int) 3 ∧ Cond.instanceMethod yX8_when ∈ yT ∧ Cond.selects (yCn 7) yX8_when yX8_when ∈ yT) ∧ 7 < 8 := ⟨⟨⟨wd_1196, wd_8, wd_1193, by decide, by decide⟩, wd_1194, wd_1195⟩, by decide⟩
theorem cw_L_83 : (yCw RL 83 yX7_begin cX7_begin 4 (Option.some Jvm.ClassFile.FieldType.int) 2 ∧ Cond.instanceMethod yX7_begin ∈ yT ∧ Cond.selects (yCn 6) yX7_begin yX7_begin ∈ yT) ∧ 6 < 8 := ⟨⟨⟨wd_667, wd_1, wd_664, by decide, by decide⟩, wd_665, wd_666⟩, by decide⟩
theorem cw_L_86 : (yCw RL 86 yX8_begin cX8_begin 8 (Option.some Jvm.ClassFile.FieldType.int) 2 ∧ Cond.instanceMethod yX8_begin ∈ yT ∧ Cond.selects (yCn 7) yX8_begin yX8_begin ∈ yT) ∧ 7 < 8 := ⟨⟨⟨wd_1200, wd_8, wd_1197, by decide, by decide⟩, wd_1198, wd_1199⟩, by decide⟩
theorem cw_L_87 : (yCw RL 87 yX7_lobby cX7_lobby 5 (Option.some Jvm.ClassFile.FieldType.int) 2 ∧ Cond.instanceMethod yX7_lobby ∈ yT ∧ Cond.selects (yCn 6) yX7_lobby yX7_lobby ∈ yT) ∧ 6 < 8 := ⟨⟨⟨wd_679, wd_1, wd_676, by decide, by decide⟩, wd_677, wd_678⟩, by decide⟩
theorem cw_L_90 : (yCw RL 90 yX8_lobby cX8_lobby 7 (Option.some Jvm.ClassFile.FieldType.int) 2 ∧ Cond.instanceMethod yX8_lobby ∈ yT ∧ Cond.selects (yCn 7) yX8_lobby yX8_lobby ∈ yT) ∧ 7 < 8 := ⟨⟨⟨wd_1208, wd_8, wd_1205, by decide, by decide⟩, wd_1206, wd_1207⟩, by decide⟩
theorem cw_L_91 : (yCw RL 91 yX7_soup cX7_soup 5 (Option.some Jvm.ClassFile.FieldType.int) 2 ∧ Cond.instanceMethod yX7_soup ∈ yT ∧ Cond.selects (yCn 6) yX7_soup yX7_soup ∈ yT) ∧ 6 < 8 := ⟨⟨⟨wd_683, wd_1, wd_680, by decide, by decide⟩, wd_681, wd_682⟩, by decide⟩
theorem cw_L_94 : (yCw RL 94 yX8_soup cX8_soup 8 (Option.some Jvm.ClassFile.FieldType.int) 2 ∧ Cond.instanceMethod yX8_soup ∈ yT ∧ Cond.selects (yCn 7) yX8_soup yX8_soup ∈ yT) ∧ 7 < 8 := ⟨⟨⟨wd_1212, wd_8, wd_1209, by decide, by decide⟩, wd_1210, wd_1211⟩, by decide⟩
theorem cw_L_95 : (yCw RL 95 yX7_road cX7_road 6 (Option.some Jvm.ClassFile.FieldType.int) 3 ∧ Cond.instanceMethod yX7_road ∈ yT ∧ Cond.selects (yCn 6) yX7_road yX7_road ∈ yT) ∧ 6 < 8 := ⟨⟨⟨wd_687, wd_1, wd_684, by decide, by decide⟩, wd_685, wd_686⟩, by decide⟩
theorem cw_L_98 : (yCw RL 98 yX8_road cX8_road 8 (Option.some Jvm.ClassFile.FieldType.int) 3 ∧ Cond.instanceMethod yX8_road ∈ yT ∧ Cond.selects (yCn 7) yX8_road yX8_road ∈ yT) ∧ 7 < 8 := ⟨⟨⟨wd_1216, wd_8, wd_1213, by decide, by decide⟩, wd_1214, wd_1215⟩, by decide⟩
theorem cw_L_99 : (yCw RL 99 yX7_chain cX7_chain 2 (Option.some Jvm.ClassFile.FieldType.int) 1 ∧ Cond.instanceMethod yX7_chain ∈ yT ∧ Cond.selects (yCn 6) yX7_chain yX7_chain ∈ yT) ∧ 6 < 8 := ⟨⟨⟨wd_691, wd_1, wd_688, by decide, by decide⟩, wd_689, wd_690⟩, by decide⟩
theorem cw_L_102 : (yCw RL 102 yX8_chain cX8_chain 2 (Option.some Jvm.ClassFile.FieldType.int) 1 ∧ Cond.instanceMethod yX8_chain ∈ yT ∧ Cond.selects (yCn 7) yX8_chain yX8_chain ∈ yT) ∧ 7 < 8 := ⟨⟨⟨wd_1224, wd_8, wd_1221, by decide, by decide⟩, wd_1222, wd_1223⟩, by decide⟩
theorem cw_L_103 : (yCw RL 103 yX7_rings cX7_rings 3 (Option.some Jvm.ClassFile.FieldType.int) 0 ∧ Cond.instanceMethod yX7_rings ∈ yT ∧ Cond.selects (yCn 6) yX7_rings yX7_rings ∈ yT) ∧ 6 < 8 := ⟨⟨⟨wd_695, wd_1, wd_692, by decide, by decide⟩, wd_693, wd_694⟩, by decide⟩
theorem cw_L_106 : (yCw RL 106 yX8_rings cX8_rings 3 (Option.some Jvm.ClassFile.FieldType.int) 0 ∧ Cond.instanceMethod yX8_rings ∈ yT ∧ Cond.selects (yCn 7) yX8_rings yX8_rings ∈ yT) ∧ 7 < 8 := ⟨⟨⟨wd_1228, wd_8, wd_1225, by decide, by decide⟩, wd_1226, wd_1227⟩, by decide⟩
theorem cw_L_107 : (yCw RL 107 yX7_longest cX7_longest 6 (Option.some Jvm.ClassFile.FieldType.int) 1 ∧ Cond.instanceMethod yX7_longest ∈ yT ∧ Cond.selects (yCn 6) yX7_longest yX7_longest ∈ yT) ∧ 6 < 8 := ⟨⟨⟨wd_703, wd_1, wd_700, by decide, by decide⟩, wd_701, wd_702⟩, by decide⟩
theorem cw_L_110 : (yCw RL 110 yX8_longest cX8_longest 6 (Option.some Jvm.ClassFile.FieldType.int) 1 ∧ Cond.instanceMethod yX8_longest ∈ yT ∧ Cond.selects (yCn 7) yX8_longest yX8_longest ∈ yT) ∧ 7 < 8 := ⟨⟨⟨wd_1236, wd_8, wd_1233, by decide, by decide⟩, wd_1234, wd_1235⟩, by decide⟩
theorem cw_L_111 : (yCw RL 111 yX7_judge cX7_judge 3 (Option.some Jvm.ClassFile.FieldType.int) 1 ∧ Cond.instanceMethod yX7_judge ∈ yT ∧ Cond.selects (yCn 6) yX7_judge yX7_judge ∈ yT) ∧ 6 < 8 := ⟨⟨⟨wd_708, wd_1, wd_705, by decide, by decide⟩, wd_706, wd_707⟩, by decide⟩
theorem cw_L_114 : (yCw RL 114 yX8_judge cX8_judge 3 (Option.some Jvm.ClassFile.FieldType.int) 1 ∧ Cond.instanceMethod yX8_judge ∈ yT ∧ Cond.selects (yCn 7) yX8_judge yX8_judge ∈ yT) ∧ 7 < 8 := ⟨⟨⟨wd_1240, wd_8, wd_1237, by decide, by decide⟩, wd_1238, wd_1239⟩, by decide⟩
theorem cw_L_115 : (yCw RL 115 yX7_begins cX7_begins 3 (Option.some Jvm.ClassFile.FieldType.int) 1 ∧ Cond.instanceMethod yX7_begins ∈ yT ∧ Cond.selects (yCn 6) yX7_begins yX7_begins ∈ yT) ∧ 6 < 8 := ⟨⟨⟨wd_727, wd_1, wd_724, by decide, by decide⟩, wd_725, wd_726⟩, by decide⟩
theorem cw_L_118 : (yCw RL 118 yX8_begins cX8_begins 7 (Option.some Jvm.ClassFile.FieldType.int) 1 ∧ Cond.instanceMethod yX8_begins ∈ yT ∧ Cond.selects (yCn 7) yX8_begins yX8_begins ∈ yT) ∧ 7 < 8 := ⟨⟨⟨wd_1252, wd_8, wd_1249, by decide, by decide⟩, wd_1250, wd_1251⟩, by decide⟩
theorem cw_L_119 : (yCw RL 119 yX7_kinds cX7_kinds 5 (Option.some Jvm.ClassFile.FieldType.int) 3 ∧ Cond.instanceMethod yX7_kinds ∈ yT ∧ Cond.selects (yCn 6) yX7_kinds yX7_kinds ∈ yT) ∧ 6 < 8 := ⟨⟨⟨wd_735, wd_1, wd_732, by decide, by decide⟩, wd_733, wd_734⟩, by decide⟩
theorem cw_L_122 : (yCw RL 122 yX8_kinds cX8_kinds 10 (Option.some Jvm.ClassFile.FieldType.int) 3 ∧ Cond.instanceMethod yX8_kinds ∈ yT ∧ Cond.selects (yCn 7) yX8_kinds yX8_kinds ∈ yT) ∧ 7 < 8 := ⟨⟨⟨wd_1256, wd_8, wd_1253, by decide, by decide⟩, wd_1254, wd_1255⟩, by decide⟩
theorem cw_L_123 : (yCw RL 123 yX7_skipped cX7_skipped 4 (Option.some Jvm.ClassFile.FieldType.int) 1 ∧ Cond.instanceMethod yX7_skipped ∈ yT ∧ Cond.selects (yCn 6) yX7_skipped yX7_skipped ∈ yT) ∧ 6 < 8 := ⟨⟨⟨wd_739, wd_1, wd_736, by decide, by decide⟩, wd_737, wd_738⟩, by decide⟩
theorem cw_L_126 : (yCw RL 126 yX8_skipped cX8_skipped 6 (Option.some Jvm.ClassFile.FieldType.int) 1 ∧ Cond.instanceMethod yX8_skipped ∈ yT ∧ Cond.selects (yCn 7) yX8_skipped yX8_skipped ∈ yT) ∧ 7 < 8 := ⟨⟨⟨wd_1260, wd_8, wd_1257, by decide, by decide⟩, wd_1258, wd_1259⟩, by decide⟩
theorem cw_L_127 : (yCw RL 127 yX7_laws cX7_laws 3 (Option.some Jvm.ClassFile.FieldType.int) 1 ∧ Cond.instanceMethod yX7_laws ∈ yT ∧ Cond.selects (yCn 6) yX7_laws yX7_laws ∈ yT) ∧ 6 < 8 := ⟨⟨⟨wd_743, wd_1, wd_740, by decide, by decide⟩, wd_741, wd_742⟩, by decide⟩
theorem cw_L_130 : (yCw RL 130 yX8_laws cX8_laws 6 (Option.some Jvm.ClassFile.FieldType.int) 1 ∧ Cond.instanceMethod yX8_laws ∈ yT ∧ Cond.selects (yCn 7) yX8_laws yX8_laws ∈ yT) ∧ 7 < 8 := ⟨⟨⟨wd_1264, wd_8, wd_1261, by decide, by decide⟩, wd_1262, wd_1263⟩, by decide⟩
theorem cw_L_131 : (yCw RL 131 yX7_film cX7_film 4 (Option.some Jvm.ClassFile.FieldType.int) 2 ∧ Cond.instanceMethod yX7_film ∈ yT ∧ Cond.selects (yCn 6) yX7_film yX7_film ∈ yT) ∧ 6 < 8 := ⟨⟨⟨wd_747, wd_1, wd_744, by decide, by decide⟩, wd_745, wd_746⟩, by decide⟩
theorem cw_L_134 : (yCw RL 134 yX8_film cX8_film 4 (Option.some Jvm.ClassFile.FieldType.int) 2 ∧ Cond.instanceMethod yX8_film ∈ yT ∧ Cond.selects (yCn 7) yX8_film yX8_film ∈ yT) ∧ 7 < 8 := ⟨⟨⟨wd_1268, wd_8, wd_1265, by decide, by decide⟩, wd_1266, wd_1267⟩, by decide⟩
theorem cw_L_135 : (yCw RL 135 yX7_drawn cX7_drawn 4 (Option.some Jvm.ClassFile.FieldType.int) 3 ∧ Cond.instanceMethod yX7_drawn ∈ yT ∧ Cond.selects (yCn 6) yX7_drawn yX7_drawn ∈ yT) ∧ 6 < 8 := ⟨⟨⟨wd_764, wd_1, wd_761, by decide, by decide⟩, wd_762, wd_763⟩, by decide⟩
theorem cw_L_138 : (yCw RL 138 yX8_drawn cX8_drawn 4 (Option.some Jvm.ClassFile.FieldType.int) 3 ∧ Cond.instanceMethod yX8_drawn ∈ yT ∧ Cond.selects (yCn 7) yX8_drawn yX8_drawn ∈ yT) ∧ 7 < 8 := ⟨⟨⟨wd_1272, wd_8, wd_1269, by decide, by decide⟩, wd_1270, wd_1271⟩, by decide⟩
theorem cw_L_139 : (yCw RL 139 yX7_odds cX7_odds 9 (Option.some Jvm.ClassFile.FieldType.long) 5 ∧ Cond.instanceMethod yX7_odds ∈ yT ∧ Cond.selects (yCn 6) yX7_odds yX7_odds ∈ yT) ∧ 6 < 8 := ⟨⟨⟨wd_772, wd_1, wd_769, by decide, by decide⟩, wd_770, wd_771⟩, by decide⟩
theorem cw_L_143 : (yCw RL 143 yX8_odds cX8_odds 10 (Option.some Jvm.ClassFile.FieldType.long) 5 ∧ Cond.instanceMethod yX8_odds ∈ yT ∧ Cond.selects (yCn 7) yX8_odds yX8_odds ∈ yT) ∧ 7 < 8 := ⟨⟨⟨wd_1284, wd_8, wd_1281, by decide, by decide⟩, wd_1282, wd_1283⟩, by decide⟩
theorem cw_L_144 : (yCw RL 144 yX7_image cX7_image 1 (Option.some Jvm.ClassFile.FieldType.int) 0 ∧ Cond.instanceMethod yX7_image ∈ yT ∧ Cond.selects (yCn 6) yX7_image yX7_image ∈ yT) ∧ 6 < 8 := ⟨⟨⟨wd_780, wd_1, wd_777, by decide, by decide⟩, wd_778, wd_779⟩, by decide⟩
theorem cw_L_147 : (yCw RL 147 yX8_image cX8_image 2 (Option.some Jvm.ClassFile.FieldType.int) 0 ∧ Cond.instanceMethod yX8_image ∈ yT ∧ Cond.selects (yCn 7) yX8_image yX8_image ∈ yT) ∧ 7 < 8 := ⟨⟨⟨wd_1292, wd_8, wd_1289, by decide, by decide⟩, wd_1290, wd_1291⟩, by decide⟩
theorem cw_L_148 : (yCw RL 148 yX7_back cX7_back 1 (Option.some Jvm.ClassFile.FieldType.int) 0 ∧ Cond.instanceMethod yX7_back ∈ yT ∧ Cond.selects (yCn 6) yX7_back yX7_back ∈ yT) ∧ 6 < 8 := ⟨⟨⟨wd_784, wd_1, wd_781, by decide, by decide⟩, wd_782, wd_783⟩, by decide⟩
theorem cw_L_151 : (yCw RL 151 yX8_back cX8_back 2 (Option.some Jvm.ClassFile.FieldType.int) 0 ∧ Cond.instanceMethod yX8_back ∈ yT ∧ Cond.selects (yCn 7) yX8_back yX8_back ∈ yT) ∧ 7 < 8 := ⟨⟨⟨wd_1296, wd_8, wd_1293, by decide, by decide⟩, wd_1294, wd_1295⟩, by decide⟩
theorem cw_L_152 : (yCw RL 152 yX7_sheet cX7_sheet 4 (Option.some Jvm.ClassFile.FieldType.int) 3 ∧ Cond.instanceMethod yX7_sheet ∈ yT ∧ Cond.selects (yCn 6) yX7_sheet yX7_sheet ∈ yT) ∧ 6 < 8 := ⟨⟨⟨wd_788, wd_1, wd_785, by decide, by decide⟩, wd_786, wd_787⟩, by decide⟩
theorem cw_L_155 : (yCw RL 155 yX8_sheet cX8_sheet 5 (Option.some Jvm.ClassFile.FieldType.int) 3 ∧ Cond.instanceMethod yX8_sheet ∈ yT ∧ Cond.selects (yCn 7) yX8_sheet yX8_sheet ∈ yT) ∧ 7 < 8 := ⟨⟨⟨wd_1300, wd_8, wd_1297, by decide, by decide⟩, wd_1298, wd_1299⟩, by decide⟩
theorem cw_L_156 : (yCw RL 156 yX7_cell cX7_cell 5 (Option.some Jvm.ClassFile.FieldType.int) 3 ∧ Cond.instanceMethod yX7_cell ∈ yT ∧ Cond.selects (yCn 6) yX7_cell yX7_cell ∈ yT) ∧ 6 < 8 := ⟨⟨⟨wd_792, wd_1, wd_789, by decide, by decide⟩, wd_790, wd_791⟩, by decide⟩
theorem cw_L_159 : (yCw RL 159 yX8_cell cX8_cell 4 (Option.some Jvm.ClassFile.FieldType.int) 3 ∧ Cond.instanceMethod yX8_cell ∈ yT ∧ Cond.selects (yCn 7) yX8_cell yX8_cell ∈ yT) ∧ 7 < 8 := ⟨⟨⟨wd_1304, wd_8, wd_1301, by decide, by decide⟩, wd_1302, wd_1303⟩, by decide⟩
theorem cw_L_160 : (yCw RL 160 yX7_copy cX7_copy 6 (Option.some Jvm.ClassFile.FieldType.int) 5 ∧ Cond.instanceMethod yX7_copy ∈ yT ∧ Cond.selects (yCn 6) yX7_copy yX7_copy ∈ yT) ∧ 6 < 8 := ⟨⟨⟨wd_796, wd_1, wd_793, by decide, by decide⟩, wd_794, wd_795⟩, by decide⟩
theorem cw_L_164 : (yCw RL 164 yX8_copy cX8_copy 10 (Option.some Jvm.ClassFile.FieldType.int) 5 ∧ Cond.instanceMethod yX8_copy ∈ yT ∧ Cond.selects (yCn 7) yX8_copy yX8_copy ∈ yT) ∧ 7 < 8 := ⟨⟨⟨wd_1308, wd_8, wd_1305, by decide, by decide⟩, wd_1306, wd_1307⟩, by decide⟩
theorem cw_L_165 : (yCw RL 165 yX7_wordsBy cX7_wordsBy 9 (Option.some Jvm.ClassFile.FieldType.int) 4 ∧ Cond.instanceMethod yX7_wordsBy ∈ yT ∧ Cond.selects (yCn 6) yX7_wordsBy yX7_wordsBy ∈ yT) ∧ 6 < 8 := ⟨⟨⟨wd_805, wd_1, wd_802, by decide, by decide⟩, wd_803, wd_804⟩, by decide⟩
theorem cw_L_168 : (yCw RL 168 yX8_wordsBy cX8_wordsBy 9 (Option.some Jvm.ClassFile.FieldType.int) 4 ∧ Cond.instanceMethod yX8_wordsBy ∈ yT ∧ Cond.selects (yCn 7) yX8_wordsBy yX8_wordsBy ∈ yT) ∧ 7 < 8 := ⟨⟨⟨wd_1312, wd_8, wd_1309, by decide, by decide⟩, wd_1310, wd_1311⟩, by decide⟩
theorem cw_L_169 : (yCw RL 169 yX7_taken cX7_taken 4 (Option.some Jvm.ClassFile.FieldType.long) 2 ∧ Cond.instanceMethod yX7_taken ∈ yT ∧ Cond.selects (yCn 6) yX7_taken yX7_taken ∈ yT) ∧ 6 < 8 := ⟨⟨⟨wd_810, wd_1, wd_807, by decide, by decide⟩, wd_808, wd_809⟩, by decide⟩
theorem cw_L_173 : (yCw RL 173 yX8_taken cX8_taken 3 (Option.some Jvm.ClassFile.FieldType.long) 2 ∧ Cond.instanceMethod yX8_taken ∈ yT ∧ Cond.selects (yCn 7) yX8_taken yX8_taken ∈ yT) ∧ 7 < 8 := ⟨⟨⟨wd_1317, wd_8, wd_1314, by decide, by decide⟩, wd_1315, wd_1316⟩, by decide⟩
/-! the law: its script is the place 1000300 -/
def ySx (X : yX) (xs : Nat → Int32) (Ln : Nat) : Prop :=
  match X with
  | (_, _, _, _, s, _, _, _, _, _, _, _, A, ad0, _, _, _) => va_X (ad0 1000300) Ln xs s s.heap ∧ ad0 1000300 < s.heap.size ∧ ¬ A (ad0 1000300)
section
variable {X : yX} {cc : ByteArray} {own nm : String} {rm : Room} {N : Nat} {K : yK} {M : yM} {k n pc : Nat} {L : List (Nat × Value)} {st : List Value} {xs : Nat → Int32} {Ln : Nat}
theorem y_sld (C : yCx X cc own nm rm N) (hs : ySx X xs Ln) {i : Int32} (hg : ¬ i < 0 ∧ i.toNatClampNeg < Ln) (hd : decode cc pc = .ok (.iaload, 1)) (kk : Y X K M k n (pc + 1) L (.int (xs i.toNatClampNeg) :: st)) : Y X K M k n pc L (.int i :: .ref 1000300 :: st) := by
  obtain ⟨p, l, e, R, s, m, args, below, meth, c, D, cA, A, ad0, n0, nL, Q⟩ := X
  obtain ⟨hx, hb, hml, hown, hts, hK, hA, hR, hnL, hlk, hnm, hn0, hXs⟩ := id C
  obtain ⟨s1, s2, s3⟩ := hs
  intro ad H locs ls h1 h2 h3 h4 h5 h6
  have e2 : ad 1000300 = ad0 1000300 := h1.2 _ (Or.inr (by have := h2.1; omega))
  rw [List.map_cons, List.map_cons, show yV ad (.ref 1000300) = .ref (ad0 1000300) by rw [← e2]; rfl]
  exact va_sld hx hb s1 s2 s3 h5 (fun z => z.elim hg.1 (fun z => absurd z (Nat.not_le.mpr hg.2))) hd (kk ad H locs ls h1 h2 h3 h4 h5 h6)
theorem y_slen (C : yCx X cc own nm rm N) (hs : ySx X xs Ln) (hd : decode cc pc = .ok (.arraylength, 1)) (kk : Y X K M k n (pc + 1) L (.int (Int32.ofNat Ln) :: st)) : Y X K M k n pc L (.ref 1000300 :: st) := by
  obtain ⟨p, l, e, R, s, m, args, below, meth, c, D, cA, A, ad0, n0, nL, Q⟩ := X
  obtain ⟨hx, hb, hml, hown, hts, hK, hA, hR, hnL, hlk, hnm, hn0, hXs⟩ := id C
  obtain ⟨s1, s2, s3⟩ := hs
  intro ad H locs ls h1 h2 h3 h4 h5 h6
  have e2 : ad 1000300 = ad0 1000300 := h1.2 _ (Or.inr (by have := h2.1; omega))
  rw [List.map_cons, show yV ad (.ref 1000300) = .ref (ad0 1000300) by rw [← e2]; rfl]
  exact va_slen hx hb s1 s2 s3 h5 hd (kk ad H locs ls h1 h2 h3 h4 h5 h6)
end
set_option maxRecDepth 100000 in
def b_law_pre (K : yK) (M : yM) : Option (Nat × Nat × yK × yM) := (if K.1 < 1000000 then (Option.bind (some K.1) fun p3 => (Option.bind (some (yKn K (9, 0))) fun K4 => (Option.bind (some (yMn K M)) fun M5 => (if p3 < K4.1 then (Option.bind (b_X7_init K4 M5 p3) fun r6 => (if r6.1.1 < 1000000 then (if p3 < r6.1.1 then (Option.bind (some r6.1.1) fun p12 => (Option.bind (some (yKn r6.1 (10, 0))) fun K13 => (Option.bind (some (yMn r6.1 r6.2)) fun M14 => (if p12 < K13.1 then (if p3 < K13.1 then (Option.bind (b_X8_init K13 M14 p12) fun r15 => (if r15.1.1 < 1000000 then (some (p3, p12, r15.1, r15.2)) else none)) else none) else none)))) else none) else none)) else none)))) else none)
set_option maxHeartbeats 4000000 in
set_option maxRecDepth 100000 in
theorem l_law_pre {X : yX} {nm : String} (C : yCx X code RL nm room_1 4) (K : yK) (M : yM) (r : Nat × Nat × yK × yM) (h : b_law_pre K M = some r) (hX : Y X r.2.2.1 r.2.2.2 71 3783 18 [(0, .ref 1000300), (1, .ref r.1), (2, .ref r.2.1), (3, .int 0)] []) : Y X K M 0 0 0 [(0, .ref 1000300)] [] := by
  unfold b_law_pre at h
  obtain ⟨g1, h⟩ := gp h
  have g2 : (1000300 : Nat) ≠ K.1 := by omega
  obtain ⟨p3, ep3, h⟩ := ob h
  have ep3 := Option.some.inj ep3
  obtain ⟨K4, eK4, h⟩ := ob h
  have eK4 := Option.some.inj eK4
  obtain ⟨M5, eM5, h⟩ := ob h
  have eM5 := Option.some.inj eM5
  refine y_newO C (ci := 6) (by decide) ⟨wd_18, wd_19, wd_1⟩ g1 ⟨Nat.le_of_ble_eq_true rfl, Nat.le_of_ble_eq_true rfl⟩ (by simp [yCl, g2]) dL_law_0 ?_
  rw [eK4, eM5, ep3]
  refine y_dup C dL_law_3 rfl ?_
  obtain ⟨g7, h⟩ := gp h
  obtain ⟨r6, hr6, h⟩ := ob h
  obtain ⟨g9, h⟩ := gp h
  have g8 : r6.1.1 ≤ 1000300 := by omega
  refine y_aI (k' := 50) (n' := 1511) C [] (m_X7_init K4 M5 p3) hr6 cw_L_9 rfl rfl (by decide) ⟨Nat.le_of_ble_eq_true rfl, Nat.le_of_ble_eq_true rfl⟩ (Nat.le_of_ble_eq_true rfl) rfl rfl rfl rfl rfl (by simp [yCl2, g7, g8]) dL_law_4 ?_
  refine y_astore_n C dL_law_7 (by decide) (L' := [(1, .ref p3), (0, .ref 1000300)]) rfl ?_
  obtain ⟨g10, h⟩ := gp h
  have g11 : (1000300 : Nat) ≠ r6.1.1 := by omega
  obtain ⟨p12, ep12, h⟩ := ob h
  have ep12 := Option.some.inj ep12
  obtain ⟨K13, eK13, h⟩ := ob h
  have eK13 := Option.some.inj eK13
  obtain ⟨M14, eM14, h⟩ := ob h
  have eM14 := Option.some.inj eM14
  refine y_newO C (ci := 7) (by decide) ⟨wd_816, wd_817, wd_8⟩ g9 ⟨Nat.le_of_ble_eq_true rfl, Nat.le_of_ble_eq_true rfl⟩ (by simp [yCl, Nat.ne_of_lt g10, g11]) dL_law_8 ?_
  rw [eK13, eM14, ep12]
  refine y_dup C dL_law_11 rfl ?_
  obtain ⟨g16, h⟩ := gp h
  obtain ⟨g17, h⟩ := gp h
  obtain ⟨r15, hr15, h⟩ := ob h
  obtain ⟨g18, h⟩ := gp h
  have g18 : r15.1.1 ≤ 1000300 := by omega
  refine y_aI (k' := 71) (n' := 3783) C [] (m_X8_init K13 M14 p12) hr15 cw_L_12 rfl rfl (by decide) ⟨Nat.le_of_ble_eq_true rfl, Nat.le_of_ble_eq_true rfl⟩ (Nat.le_of_ble_eq_true rfl) rfl rfl rfl rfl rfl (by simp [yCl2, g16, g17, g18]) dL_law_12 ?_
  refine y_astore_n C dL_law_15 (by decide) (L' := [(2, .ref p12), (1, .ref p3), (0, .ref 1000300)]) rfl ?_
  refine y_iconst C dL_law_16 kc_0 ?_
  refine y_istore_n C dL_law_17 (by decide) (L' := [(3, .int (0)), (2, .ref p12), (1, .ref p3), (0, .ref 1000300)]) rfl ?_
  have e0 := Option.some.inj h
  subst e0
  exact y_sel [0, 1, 2, 3] rfl hX
set_option maxRecDepth 100000 in
def b_law_it (xs : Nat → Int32) (Ln : Nat) (K : yK) (M : yM) (x z : Nat) (i : Int32) : Option (Int32 × yK × yM) := (if ¬ i < 0 ∧ (i).toNatClampNeg < Ln then (if ((xs (i).toNatClampNeg) &&& (63 : Int32)) = (0 : Int32) then (if ¬ (i + (1 : Int32)) < 0 ∧ ((i + (1 : Int32))).toNatClampNeg < Ln then (if gO K x 6 = true then (Option.bind (b_X7_count K M x ((xs ((i + (1 : Int32))).toNatClampNeg))) fun r42 => (if gO K z 7 = true then (Option.bind (b_X8_count K M z ((xs ((i + (1 : Int32))).toNatClampNeg))) fun r44 => (if r42 = r44 then (Option.bind (some (i + (7 : Int32))) fun v46 => (some (v46, K, M))) else none)) else none)) else none) else none) else (if ((xs (i).toNatClampNeg) &&& (63 : Int32)) = (1 : Int32) then (if ¬ (i + (1 : Int32)) < 0 ∧ ((i + (1 : Int32))).toNatClampNeg < Ln then (if ¬ (i + (2 : Int32)) < 0 ∧ ((i + (2 : Int32))).toNatClampNeg < Ln then (if gO K x 6 = true then (Option.bind (b_X7_set K M x ((xs ((i + (1 : Int32))).toNatClampNeg)) ((xs ((i + (2 : Int32))).toNatClampNeg))) fun r50 => (if gO K z 7 = true then (Option.bind (b_X8_set K r50.2 z ((xs ((i + (1 : Int32))).toNatClampNeg)) ((xs ((i + (2 : Int32))).toNatClampNeg))) fun r52 => (if r50.1 = r52.1 then (Option.bind (some (i + (7 : Int32))) fun v54 => (some (v54, K, r52.2))) else none)) else none)) else none) else none) else none) else (if ((xs (i).toNatClampNeg) &&& (63 : Int32)) = (2 : Int32) then (if ¬ (i + (1 : Int32)) < 0 ∧ ((i + (1 : Int32))).toNatClampNeg < Ln then (if ¬ (i + (2 : Int32)) < 0 ∧ ((i + (2 : Int32))).toNatClampNeg < Ln then (if ¬ (i + (3 : Int32)) < 0 ∧ ((i + (3 : Int32))).toNatClampNeg < Ln then (if ¬ (i + (4 : Int32)) < 0 ∧ ((i + (4 : Int32))).toNatClampNeg < Ln then (if ¬ (i + (5 : Int32)) < 0 ∧ ((i + (5 : Int32))).toNatClampNeg < Ln then (if ¬ (i + (6 : Int32)) < 0 ∧ ((i + (6 : Int32))).toNatClampNeg < Ln then (if gO K x 6 = true then (Option.bind (b_X7_feed K M x ((xs ((i + (1 : Int32))).toNatClampNeg)) ((xs ((i + (2 : Int32))).toNatClampNeg)) ((xs ((i + (3 : Int32))).toNatClampNeg)) ((xs ((i + (4 : Int32))).toNatClampNeg)) ((xs ((i + (5 : Int32))).toNatClampNeg)) ((xs ((i + (6 : Int32))).toNatClampNeg))) fun r62 => (if gO K z 7 = true then (Option.bind (b_X8_feed K r62.2 z ((xs ((i + (1 : Int32))).toNatClampNeg)) ((xs ((i + (2 : Int32))).toNatClampNeg)) ((xs ((i + (3 : Int32))).toNatClampNeg)) ((xs ((i + (4 : Int32))).toNatClampNeg)) ((xs ((i + (5 : Int32))).toNatClampNeg)) ((xs ((i + (6 : Int32))).toNatClampNeg))) fun r64 => (if r62.1 = r64.1 then (Option.bind (some (i + (7 : Int32))) fun v66 => (some (v66, K, r64.2))) else none)) else none)) else none) else none) else none) else none) else none) else none) else none) else (if ((xs (i).toNatClampNeg) &&& (63 : Int32)) = (3 : Int32) then (if gO K x 6 = true then (if x < K.1 then (if z < K.1 then (Option.bind (b_X7_text K M x) fun r68 => (if r68.2.1.1 < 1000000 then (if gO r68.2.1 z 7 = true then (Option.bind (b_X8_text r68.2.1 r68.2.2 z) fun r73 => (if r68.1 = r73.1 then (Option.bind (some (i + (7 : Int32))) fun v75 => (some (v75, r68.2.1, r73.2))) else none)) else none) else none)) else none) else none) else none) else (if ((xs (i).toNatClampNeg) &&& (63 : Int32)) = (4 : Int32) then (if ¬ (i + (1 : Int32)) < 0 ∧ ((i + (1 : Int32))).toNatClampNeg < Ln then (if gO K x 6 = true then (Option.bind (b_X7_force K M x ((xs ((i + (1 : Int32))).toNatClampNeg))) fun r78 => (if gO K z 7 = true then (Option.bind (b_X8_force K r78.2 z ((xs ((i + (1 : Int32))).toNatClampNeg))) fun r80 => (if r78.1 = r80.1 then (Option.bind (some (i + (7 : Int32))) fun v82 => (some (v82, K, r80.2))) else none)) else none)) else none) else none) else (if ((xs (i).toNatClampNeg) &&& (63 : Int32)) = (5 : Int32) then (if ¬ (i + (1 : Int32)) < 0 ∧ ((i + (1 : Int32))).toNatClampNeg < Ln then (if ¬ (i + (2 : Int32)) < 0 ∧ ((i + (2 : Int32))).toNatClampNeg < Ln then (if ¬ (i + (3 : Int32)) < 0 ∧ ((i + (3 : Int32))).toNatClampNeg < Ln then (if ¬ (i + (4 : Int32)) < 0 ∧ ((i + (4 : Int32))).toNatClampNeg < Ln then (if gO K x 6 = true then (Option.bind (b_X7_asks K M x ((xs ((i + (1 : Int32))).toNatClampNeg)) ((xs ((i + (2 : Int32))).toNatClampNeg)) ((xs ((i + (3 : Int32))).toNatClampNeg)) ((xs ((i + (4 : Int32))).toNatClampNeg))) fun r88 => (if gO K z 7 = true then (Option.bind (b_X8_asks K r88.2 z ((xs ((i + (1 : Int32))).toNatClampNeg)) ((xs ((i + (2 : Int32))).toNatClampNeg)) ((xs ((i + (3 : Int32))).toNatClampNeg)) ((xs ((i + (4 : Int32))).toNatClampNeg))) fun r90 => (if r88.1 = r90.1 then (Option.bind (some (i + (7 : Int32))) fun v92 => (some (v92, K, r90.2))) else none)) else none)) else none) else none) else none) else none) else none) else (if ((xs (i).toNatClampNeg) &&& (63 : Int32)) = (6 : Int32) then (if ¬ (i + (1 : Int32)) < 0 ∧ ((i + (1 : Int32))).toNatClampNeg < Ln then (if ¬ (i + (2 : Int32)) < 0 ∧ ((i + (2 : Int32))).toNatClampNeg < Ln then (if ¬ (i + (3 : Int32)) < 0 ∧ ((i + (3 : Int32))).toNatClampNeg < Ln then (if gO K x 6 = true then (Option.bind (b_X7_word K M x ((xs ((i + (1 : Int32))).toNatClampNeg)) ((xs ((i + (2 : Int32))).toNatClampNeg)) ((xs ((i + (3 : Int32))).toNatClampNeg))) fun r97 => (if gO K z 7 = true then (Option.bind (b_X8_word K r97.2 z ((xs ((i + (1 : Int32))).toNatClampNeg)) ((xs ((i + (2 : Int32))).toNatClampNeg)) ((xs ((i + (3 : Int32))).toNatClampNeg))) fun r99 => (if r97.1 = r99.1 then (Option.bind (some (i + (7 : Int32))) fun v101 => (some (v101, K, r99.2))) else none)) else none)) else none) else none) else none) else none) else (if ((xs (i).toNatClampNeg) &&& (63 : Int32)) = (7 : Int32) then (if ¬ (i + (1 : Int32)) < 0 ∧ ((i + (1 : Int32))).toNatClampNeg < Ln then (if ¬ (i + (2 : Int32)) < 0 ∧ ((i + (2 : Int32))).toNatClampNeg < Ln then (if gO K x 6 = true then (Option.bind (b_X7_told K M x ((xs ((i + (1 : Int32))).toNatClampNeg)) ((xs ((i + (2 : Int32))).toNatClampNeg))) fun r105 => (if gO K z 7 = true then (Option.bind (b_X8_told K M z ((xs ((i + (1 : Int32))).toNatClampNeg)) ((xs ((i + (2 : Int32))).toNatClampNeg))) fun r107 => (if r105 = r107 then (Option.bind (some (i + (7 : Int32))) fun v109 => (some (v109, K, M))) else none)) else none)) else none) else none) else none) else (if ((xs (i).toNatClampNeg) &&& (63 : Int32)) = (8 : Int32) then (if ¬ (i + (1 : Int32)) < 0 ∧ ((i + (1 : Int32))).toNatClampNeg < Ln then (if ¬ (i + (2 : Int32)) < 0 ∧ ((i + (2 : Int32))).toNatClampNeg < Ln then (if ¬ (i + (3 : Int32)) < 0 ∧ ((i + (3 : Int32))).toNatClampNeg < Ln then (if gO K x 6 = true then (Option.bind (b_X7_put K M x ((xs ((i + (1 : Int32))).toNatClampNeg)) ((xs ((i + (2 : Int32))).toNatClampNeg)) ((xs ((i + (3 : Int32))).toNatClampNeg))) fun r114 => (if gO K z 7 = true then (Option.bind (b_X8_put K r114.2 z ((xs ((i + (1 : Int32))).toNatClampNeg)) ((xs ((i + (2 : Int32))).toNatClampNeg)) ((xs ((i + (3 : Int32))).toNatClampNeg))) fun r116 => (if r114.1 = r116.1 then (Option.bind (some (i + (7 : Int32))) fun v118 => (some (v118, K, r116.2))) else none)) else none)) else none) else none) else none) else none) else (if ((xs (i).toNatClampNeg) &&& (63 : Int32)) = (9 : Int32) then (if gO K x 6 = true then (Option.bind (b_X7_live K M x) fun r120 => (if gO K z 7 = true then (Option.bind (b_X8_live K r120.2 z) fun r122 => (if r120.1 = r122.1 then (Option.bind (some (i + (7 : Int32))) fun v124 => (some (v124, K, r122.2))) else none)) else none)) else none) else (if ((xs (i).toNatClampNeg) &&& (63 : Int32)) = (10 : Int32) then (if ¬ (i + (1 : Int32)) < 0 ∧ ((i + (1 : Int32))).toNatClampNeg < Ln then (if gO K x 6 = true then (Option.bind (b_X7_now K M x ((xs ((i + (1 : Int32))).toNatClampNeg))) fun r127 => (if gO K z 7 = true then (Option.bind (b_X8_now K r127.2 z ((xs ((i + (1 : Int32))).toNatClampNeg))) fun r129 => (if r127.1 = r129.1 then (Option.bind (some (i + (7 : Int32))) fun v131 => (some (v131, K, r129.2))) else none)) else none)) else none) else none) else (if ((xs (i).toNatClampNeg) &&& (63 : Int32)) = (11 : Int32) then (if ¬ (i + (1 : Int32)) < 0 ∧ ((i + (1 : Int32))).toNatClampNeg < Ln then (if gO K x 6 = true then (Option.bind (b_X7_deed K M x ((xs ((i + (1 : Int32))).toNatClampNeg))) fun r134 => (if gO K z 7 = true then (Option.bind (b_X8_deed K r134.2 z ((xs ((i + (1 : Int32))).toNatClampNeg))) fun r136 => (if r134.1 = r136.1 then (Option.bind (some (i + (7 : Int32))) fun v138 => (some (v138, K, r136.2))) else none)) else none)) else none) else none) else (if ((xs (i).toNatClampNeg) &&& (63 : Int32)) = (12 : Int32) then (if ¬ (i + (1 : Int32)) < 0 ∧ ((i + (1 : Int32))).toNatClampNeg < Ln then (if gO K x 6 = true then (Option.bind (b_X7_needs K M x ((xs ((i + (1 : Int32))).toNatClampNeg))) fun r141 => (if gO K z 7 = true then (Option.bind (b_X8_needs K M z ((xs ((i + (1 : Int32))).toNatClampNeg))) fun r143 => (if r141 = r143 then (Option.bind (some (i + (7 : Int32))) fun v145 => (some (v145, K, M))) else none)) else none)) else none) else none) else (if ((xs (i).toNatClampNeg) &&& (63 : Int32)) = (13 : Int32) then (if ¬ (i + (1 : Int32)) < 0 ∧ ((i + (1 : Int32))).toNatClampNeg < Ln then (if gO K x 6 = true then (Option.bind (b_X7_done K M x ((xs ((i + (1 : Int32))).toNatClampNeg))) fun r148 => (if gO K z 7 = true then (Option.bind (b_X8_done K r148.2 z ((xs ((i + (1 : Int32))).toNatClampNeg))) fun r150 => (if r148.1 = r150.1 then (Option.bind (some (i + (7 : Int32))) fun v152 => (some (v152, K, r150.2))) else none)) else none)) else none) else none) else (if ((xs (i).toNatClampNeg) &&& (63 : Int32)) = (14 : Int32) then (if ¬ (i + (1 : Int32)) < 0 ∧ ((i + (1 : Int32))).toNatClampNeg < Ln then (if ¬ (i + (2 : Int32)) < 0 ∧ ((i + (2 : Int32))).toNatClampNeg < Ln then (if gO K x 6 = true then (Option.bind (b_X7_run K M x ((xs ((i + (1 : Int32))).toNatClampNeg)) ((xs ((i + (2 : Int32))).toNatClampNeg))) fun r156 => (if gO K z 7 = true then (Option.bind (b_X8_run K r156.2 z ((xs ((i + (1 : Int32))).toNatClampNeg)) ((xs ((i + (2 : Int32))).toNatClampNeg))) fun r158 => (if r156.1 = r158.1 then (Option.bind (some (i + (7 : Int32))) fun v160 => (some (v160, K, r158.2))) else none)) else none)) else none) else none) else none) else (if ((xs (i).toNatClampNeg) &&& (63 : Int32)) = (15 : Int32) then (if ¬ (i + (1 : Int32)) < 0 ∧ ((i + (1 : Int32))).toNatClampNeg < Ln then (if ¬ (i + (2 : Int32)) < 0 ∧ ((i + (2 : Int32))).toNatClampNeg < Ln then (if ¬ (i + (3 : Int32)) < 0 ∧ ((i + (3 : Int32))).toNatClampNeg < Ln then (if gO K x 6 = true then (Option.bind (b_X7_when K M x ((xs ((i + (1 : Int32))).toNatClampNeg)) ((xs ((i + (2 : Int32))).toNatClampNeg)) ((xs ((i + (3 : Int32))).toNatClampNeg))) fun r165 => (if gO K z 7 = true then (Option.bind (b_X8_when K r165.2 z ((xs ((i + (1 : Int32))).toNatClampNeg)) ((xs ((i + (2 : Int32))).toNatClampNeg)) ((xs ((i + (3 : Int32))).toNatClampNeg))) fun r167 => (if r165.1 = r167.1 then (Option.bind (some (i + (7 : Int32))) fun v169 => (some (v169, K, r167.2))) else none)) else none)) else none) else none) else none) else none) else (if ((xs (i).toNatClampNeg) &&& (63 : Int32)) = (16 : Int32) then (if ¬ (i + (1 : Int32)) < 0 ∧ ((i + (1 : Int32))).toNatClampNeg < Ln then (if ¬ (i + (2 : Int32)) < 0 ∧ ((i + (2 : Int32))).toNatClampNeg < Ln then (if gO K x 6 = true then (Option.bind (b_X7_begin K M x ((xs ((i + (1 : Int32))).toNatClampNeg)) ((xs ((i + (2 : Int32))).toNatClampNeg))) fun r173 => (if gO K z 7 = true then (Option.bind (b_X8_begin K r173.2 z ((xs ((i + (1 : Int32))).toNatClampNeg)) ((xs ((i + (2 : Int32))).toNatClampNeg))) fun r175 => (if r173.1 = r175.1 then (Option.bind (some (i + (7 : Int32))) fun v177 => (some (v177, K, r175.2))) else none)) else none)) else none) else none) else none) else (if ((xs (i).toNatClampNeg) &&& (63 : Int32)) = (17 : Int32) then (if ¬ (i + (1 : Int32)) < 0 ∧ ((i + (1 : Int32))).toNatClampNeg < Ln then (if ¬ (i + (2 : Int32)) < 0 ∧ ((i + (2 : Int32))).toNatClampNeg < Ln then (if gO K x 6 = true then (Option.bind (b_X7_lobby K M x ((xs ((i + (1 : Int32))).toNatClampNeg)) ((xs ((i + (2 : Int32))).toNatClampNeg))) fun r181 => (if gO K z 7 = true then (Option.bind (b_X8_lobby K r181.2 z ((xs ((i + (1 : Int32))).toNatClampNeg)) ((xs ((i + (2 : Int32))).toNatClampNeg))) fun r183 => (if r181.1 = r183.1 then (Option.bind (some (i + (7 : Int32))) fun v185 => (some (v185, K, r183.2))) else none)) else none)) else none) else none) else none) else (if ((xs (i).toNatClampNeg) &&& (63 : Int32)) = (18 : Int32) then (if ¬ (i + (1 : Int32)) < 0 ∧ ((i + (1 : Int32))).toNatClampNeg < Ln then (if ¬ (i + (2 : Int32)) < 0 ∧ ((i + (2 : Int32))).toNatClampNeg < Ln then (if gO K x 6 = true then (Option.bind (b_X7_soup K M x ((xs ((i + (1 : Int32))).toNatClampNeg)) ((xs ((i + (2 : Int32))).toNatClampNeg))) fun r189 => (if gO K z 7 = true then (Option.bind (b_X8_soup K r189.2 z ((xs ((i + (1 : Int32))).toNatClampNeg)) ((xs ((i + (2 : Int32))).toNatClampNeg))) fun r191 => (if r189.1 = r191.1 then (Option.bind (some (i + (7 : Int32))) fun v193 => (some (v193, K, r191.2))) else none)) else none)) else none) else none) else none) else (if ((xs (i).toNatClampNeg) &&& (63 : Int32)) = (19 : Int32) then (if ¬ (i + (1 : Int32)) < 0 ∧ ((i + (1 : Int32))).toNatClampNeg < Ln then (if ¬ (i + (2 : Int32)) < 0 ∧ ((i + (2 : Int32))).toNatClampNeg < Ln then (if ¬ (i + (3 : Int32)) < 0 ∧ ((i + (3 : Int32))).toNatClampNeg < Ln then (if gO K x 6 = true then (Option.bind (b_X7_road K M x ((xs ((i + (1 : Int32))).toNatClampNeg)) ((xs ((i + (2 : Int32))).toNatClampNeg)) ((xs ((i + (3 : Int32))).toNatClampNeg))) fun r198 => (if gO K z 7 = true then (Option.bind (b_X8_road K r198.2 z ((xs ((i + (1 : Int32))).toNatClampNeg)) ((xs ((i + (2 : Int32))).toNatClampNeg)) ((xs ((i + (3 : Int32))).toNatClampNeg))) fun r200 => (if r198.1 = r200.1 then (Option.bind (some (i + (7 : Int32))) fun v202 => (some (v202, K, r200.2))) else none)) else none)) else none) else none) else none) else none) else (if ((xs (i).toNatClampNeg) &&& (63 : Int32)) = (20 : Int32) then (if ¬ (i + (1 : Int32)) < 0 ∧ ((i + (1 : Int32))).toNatClampNeg < Ln then (if gO K x 6 = true then (Option.bind (b_X7_chain K M x ((xs ((i + (1 : Int32))).toNatClampNeg))) fun r205 => (if gO K z 7 = true then (Option.bind (b_X8_chain K M z ((xs ((i + (1 : Int32))).toNatClampNeg))) fun r207 => (if r205 = r207 then (Option.bind (some (i + (7 : Int32))) fun v209 => (some (v209, K, M))) else none)) else none)) else none) else none) else (if ((xs (i).toNatClampNeg) &&& (63 : Int32)) = (21 : Int32) then (if gO K x 6 = true then (Option.bind (b_X7_rings K M x) fun r211 => (if gO K z 7 = true then (Option.bind (b_X8_rings K M z) fun r213 => (if r211 = r213 then (Option.bind (some (i + (7 : Int32))) fun v215 => (some (v215, K, M))) else none)) else none)) else none) else (if ((xs (i).toNatClampNeg) &&& (63 : Int32)) = (22 : Int32) then (if ¬ (i + (1 : Int32)) < 0 ∧ ((i + (1 : Int32))).toNatClampNeg < Ln then (if gO K x 6 = true then (Option.bind (b_X7_longest K M x ((xs ((i + (1 : Int32))).toNatClampNeg))) fun r218 => (if gO K z 7 = true then (Option.bind (b_X8_longest K M z ((xs ((i + (1 : Int32))).toNatClampNeg))) fun r220 => (if r218 = r220 then (Option.bind (some (i + (7 : Int32))) fun v222 => (some (v222, K, M))) else none)) else none)) else none) else none) else (if ((xs (i).toNatClampNeg) &&& (63 : Int32)) = (23 : Int32) then (if ¬ (i + (1 : Int32)) < 0 ∧ ((i + (1 : Int32))).toNatClampNeg < Ln then (if gO K x 6 = true then (Option.bind (b_X7_judge K M x ((xs ((i + (1 : Int32))).toNatClampNeg))) fun r225 => (if gO K z 7 = true then (Option.bind (b_X8_judge K r225.2 z ((xs ((i + (1 : Int32))).toNatClampNeg))) fun r227 => (if r225.1 = r227.1 then (Option.bind (some (i + (7 : Int32))) fun v229 => (some (v229, K, r227.2))) else none)) else none)) else none) else none) else (if ((xs (i).toNatClampNeg) &&& (63 : Int32)) = (24 : Int32) then (if ¬ (i + (1 : Int32)) < 0 ∧ ((i + (1 : Int32))).toNatClampNeg < Ln then (if gO K x 6 = true then (Option.bind (b_X7_begins K M x ((xs ((i + (1 : Int32))).toNatClampNeg))) fun r232 => (if gO K z 7 = true then (Option.bind (b_X8_begins K r232.2 z ((xs ((i + (1 : Int32))).toNatClampNeg))) fun r234 => (if r232.1 = r234.1 then (Option.bind (some (i + (7 : Int32))) fun v236 => (some (v236, K, r234.2))) else none)) else none)) else none) else none) else (if ((xs (i).toNatClampNeg) &&& (63 : Int32)) = (25 : Int32) then (if ¬ (i + (1 : Int32)) < 0 ∧ ((i + (1 : Int32))).toNatClampNeg < Ln then (if ¬ (i + (2 : Int32)) < 0 ∧ ((i + (2 : Int32))).toNatClampNeg < Ln then (if ¬ (i + (3 : Int32)) < 0 ∧ ((i + (3 : Int32))).toNatClampNeg < Ln then (if gO K x 6 = true then (Option.bind (b_X7_kinds K M x ((xs ((i + (1 : Int32))).toNatClampNeg)) ((xs ((i + (2 : Int32))).toNatClampNeg)) ((xs ((i + (3 : Int32))).toNatClampNeg))) fun r241 => (if gO K z 7 = true then (Option.bind (b_X8_kinds K r241.2 z ((xs ((i + (1 : Int32))).toNatClampNeg)) ((xs ((i + (2 : Int32))).toNatClampNeg)) ((xs ((i + (3 : Int32))).toNatClampNeg))) fun r243 => (if r241.1 = r243.1 then (Option.bind (some (i + (7 : Int32))) fun v245 => (some (v245, K, r243.2))) else none)) else none)) else none) else none) else none) else none) else (if ((xs (i).toNatClampNeg) &&& (63 : Int32)) = (26 : Int32) then (if ¬ (i + (1 : Int32)) < 0 ∧ ((i + (1 : Int32))).toNatClampNeg < Ln then (if gO K x 6 = true then (Option.bind (b_X7_skipped K M x ((xs ((i + (1 : Int32))).toNatClampNeg))) fun r248 => (if gO K z 7 = true then (Option.bind (b_X8_skipped K r248.2 z ((xs ((i + (1 : Int32))).toNatClampNeg))) fun r250 => (if r248.1 = r250.1 then (Option.bind (some (i + (7 : Int32))) fun v252 => (some (v252, K, r250.2))) else none)) else none)) else none) else none) else (if ((xs (i).toNatClampNeg) &&& (63 : Int32)) = (27 : Int32) then (if ¬ (i + (1 : Int32)) < 0 ∧ ((i + (1 : Int32))).toNatClampNeg < Ln then (if gO K x 6 = true then (Option.bind (b_X7_laws K M x ((xs ((i + (1 : Int32))).toNatClampNeg))) fun r255 => (if gO K z 7 = true then (Option.bind (b_X8_laws K r255.2 z ((xs ((i + (1 : Int32))).toNatClampNeg))) fun r257 => (if r255.1 = r257.1 then (Option.bind (some (i + (7 : Int32))) fun v259 => (some (v259, K, r257.2))) else none)) else none)) else none) else none) else (if ((xs (i).toNatClampNeg) &&& (63 : Int32)) = (28 : Int32) then (if ¬ (i + (1 : Int32)) < 0 ∧ ((i + (1 : Int32))).toNatClampNeg < Ln then (if ¬ (i + (2 : Int32)) < 0 ∧ ((i + (2 : Int32))).toNatClampNeg < Ln then (if gO K x 6 = true then (Option.bind (b_X7_film K M x ((xs ((i + (1 : Int32))).toNatClampNeg)) ((xs ((i + (2 : Int32))).toNatClampNeg))) fun r263 => (if gO K z 7 = true then (Option.bind (b_X8_film K r263.2 z ((xs ((i + (1 : Int32))).toNatClampNeg)) ((xs ((i + (2 : Int32))).toNatClampNeg))) fun r265 => (if r263.1 = r265.1 then (Option.bind (some (i + (7 : Int32))) fun v267 => (some (v267, K, r265.2))) else none)) else none)) else none) else none) else none) else (if ((xs (i).toNatClampNeg) &&& (63 : Int32)) = (29 : Int32) then (if ¬ (i + (1 : Int32)) < 0 ∧ ((i + (1 : Int32))).toNatClampNeg < Ln then (if ¬ (i + (2 : Int32)) < 0 ∧ ((i + (2 : Int32))).toNatClampNeg < Ln then (if ¬ (i + (3 : Int32)) < 0 ∧ ((i + (3 : Int32))).toNatClampNeg < Ln then (if gO K x 6 = true then (Option.bind (b_X7_drawn K M x ((xs ((i + (1 : Int32))).toNatClampNeg)) ((xs ((i + (2 : Int32))).toNatClampNeg)) ((xs ((i + (3 : Int32))).toNatClampNeg))) fun r272 => (if gO K z 7 = true then (Option.bind (b_X8_drawn K r272.2 z ((xs ((i + (1 : Int32))).toNatClampNeg)) ((xs ((i + (2 : Int32))).toNatClampNeg)) ((xs ((i + (3 : Int32))).toNatClampNeg))) fun r274 => (if r272.1 = r274.1 then (Option.bind (some (i + (7 : Int32))) fun v276 => (some (v276, K, r274.2))) else none)) else none)) else none) else none) else none) else none) else (if ((xs (i).toNatClampNeg) &&& (63 : Int32)) = (30 : Int32) then (if ¬ (i + (1 : Int32)) < 0 ∧ ((i + (1 : Int32))).toNatClampNeg < Ln then (if ¬ (i + (2 : Int32)) < 0 ∧ ((i + (2 : Int32))).toNatClampNeg < Ln then (if ¬ (i + (3 : Int32)) < 0 ∧ ((i + (3 : Int32))).toNatClampNeg < Ln then (if ¬ (i + (4 : Int32)) < 0 ∧ ((i + (4 : Int32))).toNatClampNeg < Ln then (if ¬ (i + (5 : Int32)) < 0 ∧ ((i + (5 : Int32))).toNatClampNeg < Ln then (if gO K x 6 = true then (Option.bind (b_X7_odds K M x ((xs ((i + (1 : Int32))).toNatClampNeg)) ((xs ((i + (2 : Int32))).toNatClampNeg)) ((xs ((i + (3 : Int32))).toNatClampNeg)) ((xs ((i + (4 : Int32))).toNatClampNeg)) ((xs ((i + (5 : Int32))).toNatClampNeg))) fun r283 => (if gO K z 7 = true then (Option.bind (b_X8_odds K r283.2 z ((xs ((i + (1 : Int32))).toNatClampNeg)) ((xs ((i + (2 : Int32))).toNatClampNeg)) ((xs ((i + (3 : Int32))).toNatClampNeg)) ((xs ((i + (4 : Int32))).toNatClampNeg)) ((xs ((i + (5 : Int32))).toNatClampNeg))) fun r285 => (if (lg_cmp r283.1 r285.1) = 0 then (Option.bind (some (i + (7 : Int32))) fun v287 => (some (v287, K, r285.2))) else none)) else none)) else none) else none) else none) else none) else none) else none) else (if ((xs (i).toNatClampNeg) &&& (63 : Int32)) = (31 : Int32) then (if gO K x 6 = true then (Option.bind (b_X7_image K M x) fun r289 => (if gO K z 7 = true then (Option.bind (b_X8_image K r289.2 z) fun r291 => (if r289.1 = r291.1 then (Option.bind (some (i + (7 : Int32))) fun v293 => (some (v293, K, r291.2))) else none)) else none)) else none) else (if ((xs (i).toNatClampNeg) &&& (63 : Int32)) = (32 : Int32) then (if gO K x 6 = true then (Option.bind (b_X7_back K M x) fun r295 => (if gO K z 7 = true then (Option.bind (b_X8_back K r295.2 z) fun r297 => (if r295.1 = r297.1 then (Option.bind (some (i + (7 : Int32))) fun v299 => (some (v299, K, r297.2))) else none)) else none)) else none) else (if ((xs (i).toNatClampNeg) &&& (63 : Int32)) = (33 : Int32) then (if ¬ (i + (1 : Int32)) < 0 ∧ ((i + (1 : Int32))).toNatClampNeg < Ln then (if ¬ (i + (2 : Int32)) < 0 ∧ ((i + (2 : Int32))).toNatClampNeg < Ln then (if ¬ (i + (3 : Int32)) < 0 ∧ ((i + (3 : Int32))).toNatClampNeg < Ln then (if gO K x 6 = true then (Option.bind (b_X7_sheet K M x ((xs ((i + (1 : Int32))).toNatClampNeg)) ((xs ((i + (2 : Int32))).toNatClampNeg)) ((xs ((i + (3 : Int32))).toNatClampNeg))) fun r304 => (if gO K z 7 = true then (Option.bind (b_X8_sheet K r304.2 z ((xs ((i + (1 : Int32))).toNatClampNeg)) ((xs ((i + (2 : Int32))).toNatClampNeg)) ((xs ((i + (3 : Int32))).toNatClampNeg))) fun r306 => (if r304.1 = r306.1 then (Option.bind (some (i + (7 : Int32))) fun v308 => (some (v308, K, r306.2))) else none)) else none)) else none) else none) else none) else none) else (if ((xs (i).toNatClampNeg) &&& (63 : Int32)) = (34 : Int32) then (if ¬ (i + (1 : Int32)) < 0 ∧ ((i + (1 : Int32))).toNatClampNeg < Ln then (if ¬ (i + (2 : Int32)) < 0 ∧ ((i + (2 : Int32))).toNatClampNeg < Ln then (if ¬ (i + (3 : Int32)) < 0 ∧ ((i + (3 : Int32))).toNatClampNeg < Ln then (if gO K x 6 = true then (Option.bind (b_X7_cell K M x ((xs ((i + (1 : Int32))).toNatClampNeg)) ((xs ((i + (2 : Int32))).toNatClampNeg)) ((xs ((i + (3 : Int32))).toNatClampNeg))) fun r313 => (if gO K z 7 = true then (Option.bind (b_X8_cell K r313.2 z ((xs ((i + (1 : Int32))).toNatClampNeg)) ((xs ((i + (2 : Int32))).toNatClampNeg)) ((xs ((i + (3 : Int32))).toNatClampNeg))) fun r315 => (if r313.1 = r315.1 then (Option.bind (some (i + (7 : Int32))) fun v317 => (some (v317, K, r315.2))) else none)) else none)) else none) else none) else none) else none) else (if ((xs (i).toNatClampNeg) &&& (63 : Int32)) = (35 : Int32) then (if ¬ (i + (1 : Int32)) < 0 ∧ ((i + (1 : Int32))).toNatClampNeg < Ln then (if ¬ (i + (2 : Int32)) < 0 ∧ ((i + (2 : Int32))).toNatClampNeg < Ln then (if ¬ (i + (3 : Int32)) < 0 ∧ ((i + (3 : Int32))).toNatClampNeg < Ln then (if ¬ (i + (4 : Int32)) < 0 ∧ ((i + (4 : Int32))).toNatClampNeg < Ln then (if ¬ (i + (5 : Int32)) < 0 ∧ ((i + (5 : Int32))).toNatClampNeg < Ln then (if gO K x 6 = true then (Option.bind (b_X7_copy K M x ((xs ((i + (1 : Int32))).toNatClampNeg)) ((xs ((i + (2 : Int32))).toNatClampNeg)) ((xs ((i + (3 : Int32))).toNatClampNeg)) ((xs ((i + (4 : Int32))).toNatClampNeg)) ((xs ((i + (5 : Int32))).toNatClampNeg))) fun r324 => (if gO K z 7 = true then (Option.bind (b_X8_copy K r324.2 z ((xs ((i + (1 : Int32))).toNatClampNeg)) ((xs ((i + (2 : Int32))).toNatClampNeg)) ((xs ((i + (3 : Int32))).toNatClampNeg)) ((xs ((i + (4 : Int32))).toNatClampNeg)) ((xs ((i + (5 : Int32))).toNatClampNeg))) fun r326 => (if r324.1 = r326.1 then (Option.bind (some (i + (7 : Int32))) fun v328 => (some (v328, K, r326.2))) else none)) else none)) else none) else none) else none) else none) else none) else none) else (if ((xs (i).toNatClampNeg) &&& (63 : Int32)) = (36 : Int32) then (if ¬ (i + (1 : Int32)) < 0 ∧ ((i + (1 : Int32))).toNatClampNeg < Ln then (if ¬ (i + (2 : Int32)) < 0 ∧ ((i + (2 : Int32))).toNatClampNeg < Ln then (if ¬ (i + (3 : Int32)) < 0 ∧ ((i + (3 : Int32))).toNatClampNeg < Ln then (if ¬ (i + (4 : Int32)) < 0 ∧ ((i + (4 : Int32))).toNatClampNeg < Ln then (if gO K x 6 = true then (Option.bind (b_X7_wordsBy K M x ((xs ((i + (1 : Int32))).toNatClampNeg)) ((xs ((i + (2 : Int32))).toNatClampNeg)) ((xs ((i + (3 : Int32))).toNatClampNeg)) ((xs ((i + (4 : Int32))).toNatClampNeg))) fun r334 => (if gO K z 7 = true then (Option.bind (b_X8_wordsBy K r334.2 z ((xs ((i + (1 : Int32))).toNatClampNeg)) ((xs ((i + (2 : Int32))).toNatClampNeg)) ((xs ((i + (3 : Int32))).toNatClampNeg)) ((xs ((i + (4 : Int32))).toNatClampNeg))) fun r336 => (if r334.1 = r336.1 then (Option.bind (some (i + (7 : Int32))) fun v338 => (some (v338, K, r336.2))) else none)) else none)) else none) else none) else none) else none) else none) else (if ((xs (i).toNatClampNeg) &&& (63 : Int32)) = (37 : Int32) then (if ¬ (i + (1 : Int32)) < 0 ∧ ((i + (1 : Int32))).toNatClampNeg < Ln then (if ¬ (i + (2 : Int32)) < 0 ∧ ((i + (2 : Int32))).toNatClampNeg < Ln then (if gO K x 6 = true then (Option.bind (b_X7_taken K M x ((xs ((i + (1 : Int32))).toNatClampNeg)) ((xs ((i + (2 : Int32))).toNatClampNeg))) fun r342 => (if gO K z 7 = true then (Option.bind (b_X8_taken K M z ((xs ((i + (1 : Int32))).toNatClampNeg)) ((xs ((i + (2 : Int32))).toNatClampNeg))) fun r344 => (if (lg_cmp r342 r344) = 0 then (Option.bind (some (i + (7 : Int32))) fun v346 => (some (v346, K, M))) else none)) else none)) else none) else none) else none) else (Option.bind (some (i + (7 : Int32))) fun v347 => (some (v347, K, M))))))))))))))))))))))))))))))))))))))))) else none)
set_option maxHeartbeats 40000000 in
set_option maxRecDepth 100000 in
theorem l_law_it {X : yX} {nm : String} (C : yCx X code RL nm room_1 4) {xs : Nat → Int32} {Ln : Nat} (hs : ySx X xs Ln) {k9 n9 : Nat} (hk9 : k9 + 3 ≤ 600000) (hn9 : n9 + 200 ≤ 7302249) (K : yK) (M : yM) (x z : Nat) (i : Int32) (r : Int32 × yK × yM) (h : b_law_it xs Ln K M x z i = some r) (hX : Y X r.2.1 r.2.2 (k9 + 3) (n9 + 200) 18 [(0, .ref 1000300), (1, .ref x), (2, .ref z), (3, .int r.1)] []) : Y X K M k9 n9 27 [(0, .ref 1000300), (1, .ref x), (2, .ref z), (3, .int i)] [] := by
  unfold b_law_it at h
  refine y_aload_n C dL_law_27 rfl ?_
  refine y_iload_n C dL_law_28 rfl ?_
  obtain ⟨g1, h⟩ := gp h
  refine y_sld C hs g1 dL_law_29 ?_
  refine y_bipush C dL_law_30 kb_63 ?_
  refine y_iand C dL_law_32 ?_
  rcases Classical.em (((xs (i).toNatClampNeg) &&& (63 : Int32)) = (0 : Int32)) with c2 | c2
  · have h := itT c2 h
    refine y_tabIn C dL_law_33 (off := 167) (tgt := 200) (by rw [c2]; decide) (by rw [c2]; decide) (by rw [c2]; rfl) rfl ?_
    refine y_aload_n C dL_law_200 rfl ?_
    refine y_aload_n C dL_law_201 rfl ?_
    refine y_iload_n C dL_law_202 rfl ?_
    refine y_iconst C dL_law_203 kc_1 ?_
    refine y_iadd C dL_law_204 ?_
    obtain ⟨g40, h⟩ := gp h
    refine y_sld C hs g40 dL_law_205 ?_
    obtain ⟨g41, h⟩ := gd h
    obtain ⟨r42, hr42, h⟩ := ob h
    refine y_cV (st := []) C [.int (xs ((i + (1 : Int32))).toNatClampNeg)] (m_X7_count K M x ((xs ((i + (1 : Int32))).toNatClampNeg))) hr42 g41 cw_L_13 rfl (by decide) ⟨rfl, rfl⟩ ⟨Nat.le_trans (Nat.le_add_right _ _) hk9, Nat.le_trans (Nat.le_add_right _ _) hn9⟩ (Nat.le_of_ble_eq_true rfl) rfl rfl rfl dL_law_206 ?_
    refine y_aload_n C dL_law_209 rfl ?_
    refine y_aload_n C dL_law_210 rfl ?_
    refine y_iload_n C dL_law_211 rfl ?_
    refine y_iconst C dL_law_212 kc_1 ?_
    refine y_iadd C dL_law_213 ?_
    refine y_sld C hs g40 dL_law_214 ?_
    obtain ⟨g43, h⟩ := gd h
    obtain ⟨r44, hr44, h⟩ := ob h
    refine y_cV (st := [.int r42]) C [.int (xs ((i + (1 : Int32))).toNatClampNeg)] (m_X8_count K M z ((xs ((i + (1 : Int32))).toNatClampNeg))) hr44 g43 cw_L_17 rfl (by decide) ⟨rfl, rfl⟩ ⟨Nat.le_trans (Nat.le_add_right _ _) hk9, Nat.le_trans (Nat.le_add_right _ _) hn9⟩ (Nat.le_of_ble_eq_true rfl) rfl rfl rfl dL_law_215 ?_
    refine y_icmp_eq C dL_law_218 (tgt := 1458) rfl (fun c45 => ?_) (fun c45 => ?_)
    · have h := itT c45 h
      obtain ⟨v46, ev46, h⟩ := ob h
      have ev46 := Option.some.inj ev46
      refine y_iinc C dL_law_1458 (by decide) rfl (v := v46) (by subst ev46; rfl) (L' := [(3, .int v46), (0, .ref 1000300), (1, .ref x), (2, .ref z)]) rfl ?_
      refine y_goto C dL_law_1461 (tgt := 18) rfl ?_
      have e0 := Option.some.inj h
      subst e0
      exact y_sel [0, 1, 2, 3] rfl (y_widen (k' := k9 + 3) (n' := n9 + 200) (by omega) (by omega) hX)
    · have h := itF c45 h
      refine y_iconst C dL_law_221 kc_0 ?_
      cases h
  replace h := itF c2 h
  rcases Classical.em (((xs (i).toNatClampNeg) &&& (63 : Int32)) = (1 : Int32)) with c3 | c3
  · have h := itT c3 h
    refine y_tabIn C dL_law_33 (off := 190) (tgt := 223) (by rw [c3]; decide) (by rw [c3]; decide) (by rw [c3]; rfl) rfl ?_
    refine y_aload_n C dL_law_223 rfl ?_
    refine y_aload_n C dL_law_224 rfl ?_
    refine y_iload_n C dL_law_225 rfl ?_
    refine y_iconst C dL_law_226 kc_1 ?_
    refine y_iadd C dL_law_227 ?_
    obtain ⟨g47, h⟩ := gp h
    refine y_sld C hs g47 dL_law_228 ?_
    refine y_aload_n C dL_law_229 rfl ?_
    refine y_iload_n C dL_law_230 rfl ?_
    refine y_iconst C dL_law_231 kc_2 ?_
    refine y_iadd C dL_law_232 ?_
    obtain ⟨g48, h⟩ := gp h
    refine y_sld C hs g48 dL_law_233 ?_
    obtain ⟨g49, h⟩ := gd h
    obtain ⟨r50, hr50, h⟩ := ob h
    refine y_cV (st := []) C [.int (xs ((i + (1 : Int32))).toNatClampNeg), .int (xs ((i + (2 : Int32))).toNatClampNeg)] (m_X7_set K M x ((xs ((i + (1 : Int32))).toNatClampNeg)) ((xs ((i + (2 : Int32))).toNatClampNeg))) hr50 g49 cw_L_18 rfl (by decide) ⟨rfl, rfl⟩ ⟨Nat.le_trans (Nat.le_add_right _ _) hk9, Nat.le_trans (Nat.le_add_right _ _) hn9⟩ (Nat.le_of_ble_eq_true rfl) rfl rfl rfl dL_law_234 ?_
    refine y_aload_n C dL_law_237 rfl ?_
    refine y_aload_n C dL_law_238 rfl ?_
    refine y_iload_n C dL_law_239 rfl ?_
    refine y_iconst C dL_law_240 kc_1 ?_
    refine y_iadd C dL_law_241 ?_
    refine y_sld C hs g47 dL_law_242 ?_
    refine y_aload_n C dL_law_243 rfl ?_
    refine y_iload_n C dL_law_244 rfl ?_
    refine y_iconst C dL_law_245 kc_2 ?_
    refine y_iadd C dL_law_246 ?_
    refine y_sld C hs g48 dL_law_247 ?_
    obtain ⟨g51, h⟩ := gd h
    obtain ⟨r52, hr52, h⟩ := ob h
    refine y_cV (st := [.int r50.1]) C [.int (xs ((i + (1 : Int32))).toNatClampNeg), .int (xs ((i + (2 : Int32))).toNatClampNeg)] (m_X8_set K r50.2 z ((xs ((i + (1 : Int32))).toNatClampNeg)) ((xs ((i + (2 : Int32))).toNatClampNeg))) hr52 g51 cw_L_22 rfl (by decide) ⟨rfl, rfl⟩ ⟨Nat.le_trans (Nat.le_add_right _ _) hk9, Nat.le_trans (Nat.le_add_right _ _) hn9⟩ (Nat.le_of_ble_eq_true rfl) rfl rfl rfl dL_law_248 ?_
    refine y_icmp_eq C dL_law_251 (tgt := 1458) rfl (fun c53 => ?_) (fun c53 => ?_)
    · have h := itT c53 h
      obtain ⟨v54, ev54, h⟩ := ob h
      have ev54 := Option.some.inj ev54
      refine y_iinc C dL_law_1458 (by decide) rfl (v := v54) (by subst ev54; rfl) (L' := [(3, .int v54), (0, .ref 1000300), (1, .ref x), (2, .ref z)]) rfl ?_
      refine y_goto C dL_law_1461 (tgt := 18) rfl ?_
      have e0 := Option.some.inj h
      subst e0
      exact y_sel [0, 1, 2, 3] rfl (y_widen (k' := k9 + 3) (n' := n9 + 200) (by omega) (by omega) hX)
    · have h := itF c53 h
      refine y_iconst C dL_law_254 kc_0 ?_
      cases h
  replace h := itF c3 h
  rcases Classical.em (((xs (i).toNatClampNeg) &&& (63 : Int32)) = (2 : Int32)) with c4 | c4
  · have h := itT c4 h
    refine y_tabIn C dL_law_33 (off := 223) (tgt := 256) (by rw [c4]; decide) (by rw [c4]; decide) (by rw [c4]; rfl) rfl ?_
    refine y_aload_n C dL_law_256 rfl ?_
    refine y_aload_n C dL_law_257 rfl ?_
    refine y_iload_n C dL_law_258 rfl ?_
    refine y_iconst C dL_law_259 kc_1 ?_
    refine y_iadd C dL_law_260 ?_
    obtain ⟨g55, h⟩ := gp h
    refine y_sld C hs g55 dL_law_261 ?_
    refine y_aload_n C dL_law_262 rfl ?_
    refine y_iload_n C dL_law_263 rfl ?_
    refine y_iconst C dL_law_264 kc_2 ?_
    refine y_iadd C dL_law_265 ?_
    obtain ⟨g56, h⟩ := gp h
    refine y_sld C hs g56 dL_law_266 ?_
    refine y_aload_n C dL_law_267 rfl ?_
    refine y_iload_n C dL_law_268 rfl ?_
    refine y_iconst C dL_law_269 kc_3 ?_
    refine y_iadd C dL_law_270 ?_
    obtain ⟨g57, h⟩ := gp h
    refine y_sld C hs g57 dL_law_271 ?_
    refine y_aload_n C dL_law_272 rfl ?_
    refine y_iload_n C dL_law_273 rfl ?_
    refine y_iconst C dL_law_274 kc_4 ?_
    refine y_iadd C dL_law_275 ?_
    obtain ⟨g58, h⟩ := gp h
    refine y_sld C hs g58 dL_law_276 ?_
    refine y_aload_n C dL_law_277 rfl ?_
    refine y_iload_n C dL_law_278 rfl ?_
    refine y_iconst C dL_law_279 kc_5 ?_
    refine y_iadd C dL_law_280 ?_
    obtain ⟨g59, h⟩ := gp h
    refine y_sld C hs g59 dL_law_281 ?_
    refine y_aload_n C dL_law_282 rfl ?_
    refine y_iload_n C dL_law_283 rfl ?_
    refine y_bipush C dL_law_284 kb_6 ?_
    refine y_iadd C dL_law_286 ?_
    obtain ⟨g60, h⟩ := gp h
    refine y_sld C hs g60 dL_law_287 ?_
    obtain ⟨g61, h⟩ := gd h
    obtain ⟨r62, hr62, h⟩ := ob h
    refine y_cV (st := []) C [.int (xs ((i + (1 : Int32))).toNatClampNeg), .int (xs ((i + (2 : Int32))).toNatClampNeg), .int (xs ((i + (3 : Int32))).toNatClampNeg), .int (xs ((i + (4 : Int32))).toNatClampNeg), .int (xs ((i + (5 : Int32))).toNatClampNeg), .int (xs ((i + (6 : Int32))).toNatClampNeg)] (m_X7_feed K M x ((xs ((i + (1 : Int32))).toNatClampNeg)) ((xs ((i + (2 : Int32))).toNatClampNeg)) ((xs ((i + (3 : Int32))).toNatClampNeg)) ((xs ((i + (4 : Int32))).toNatClampNeg)) ((xs ((i + (5 : Int32))).toNatClampNeg)) ((xs ((i + (6 : Int32))).toNatClampNeg))) hr62 g61 cw_L_23 rfl (by decide) ⟨rfl, rfl⟩ ⟨Nat.le_trans (Nat.le_add_right _ _) hk9, Nat.le_trans (Nat.le_add_right _ _) hn9⟩ (Nat.le_of_ble_eq_true rfl) rfl rfl rfl dL_law_288 ?_
    refine y_aload_n C dL_law_291 rfl ?_
    refine y_aload_n C dL_law_292 rfl ?_
    refine y_iload_n C dL_law_293 rfl ?_
    refine y_iconst C dL_law_294 kc_1 ?_
    refine y_iadd C dL_law_295 ?_
    refine y_sld C hs g55 dL_law_296 ?_
    refine y_aload_n C dL_law_297 rfl ?_
    refine y_iload_n C dL_law_298 rfl ?_
    refine y_iconst C dL_law_299 kc_2 ?_
    refine y_iadd C dL_law_300 ?_
    refine y_sld C hs g56 dL_law_301 ?_
    refine y_aload_n C dL_law_302 rfl ?_
    refine y_iload_n C dL_law_303 rfl ?_
    refine y_iconst C dL_law_304 kc_3 ?_
    refine y_iadd C dL_law_305 ?_
    refine y_sld C hs g57 dL_law_306 ?_
    refine y_aload_n C dL_law_307 rfl ?_
    refine y_iload_n C dL_law_308 rfl ?_
    refine y_iconst C dL_law_309 kc_4 ?_
    refine y_iadd C dL_law_310 ?_
    refine y_sld C hs g58 dL_law_311 ?_
    refine y_aload_n C dL_law_312 rfl ?_
    refine y_iload_n C dL_law_313 rfl ?_
    refine y_iconst C dL_law_314 kc_5 ?_
    refine y_iadd C dL_law_315 ?_
    refine y_sld C hs g59 dL_law_316 ?_
    refine y_aload_n C dL_law_317 rfl ?_
    refine y_iload_n C dL_law_318 rfl ?_
    refine y_bipush C dL_law_319 kb_6 ?_
    refine y_iadd C dL_law_321 ?_
    refine y_sld C hs g60 dL_law_322 ?_
    obtain ⟨g63, h⟩ := gd h
    obtain ⟨r64, hr64, h⟩ := ob h
    refine y_cV (st := [.int r62.1]) C [.int (xs ((i + (1 : Int32))).toNatClampNeg), .int (xs ((i + (2 : Int32))).toNatClampNeg), .int (xs ((i + (3 : Int32))).toNatClampNeg), .int (xs ((i + (4 : Int32))).toNatClampNeg), .int (xs ((i + (5 : Int32))).toNatClampNeg), .int (xs ((i + (6 : Int32))).toNatClampNeg)] (m_X8_feed K r62.2 z ((xs ((i + (1 : Int32))).toNatClampNeg)) ((xs ((i + (2 : Int32))).toNatClampNeg)) ((xs ((i + (3 : Int32))).toNatClampNeg)) ((xs ((i + (4 : Int32))).toNatClampNeg)) ((xs ((i + (5 : Int32))).toNatClampNeg)) ((xs ((i + (6 : Int32))).toNatClampNeg))) hr64 g63 cw_L_27 rfl (by decide) ⟨rfl, rfl⟩ ⟨Nat.le_trans (Nat.le_add_right _ _) hk9, Nat.le_trans (Nat.le_add_right _ _) hn9⟩ (Nat.le_of_ble_eq_true rfl) rfl rfl rfl dL_law_323 ?_
    refine y_icmp_eq C dL_law_326 (tgt := 1458) rfl (fun c65 => ?_) (fun c65 => ?_)
    · have h := itT c65 h
      obtain ⟨v66, ev66, h⟩ := ob h
      have ev66 := Option.some.inj ev66
      refine y_iinc C dL_law_1458 (by decide) rfl (v := v66) (by subst ev66; rfl) (L' := [(3, .int v66), (0, .ref 1000300), (1, .ref x), (2, .ref z)]) rfl ?_
      refine y_goto C dL_law_1461 (tgt := 18) rfl ?_
      have e0 := Option.some.inj h
      subst e0
      exact y_sel [0, 1, 2, 3] rfl (y_widen (k' := k9 + 3) (n' := n9 + 200) (by omega) (by omega) hX)
    · have h := itF c65 h
      refine y_iconst C dL_law_329 kc_0 ?_
      cases h
  replace h := itF c4 h
  rcases Classical.em (((xs (i).toNatClampNeg) &&& (63 : Int32)) = (3 : Int32)) with c5 | c5
  · have h := itT c5 h
    refine y_tabIn C dL_law_33 (off := 298) (tgt := 331) (by rw [c5]; decide) (by rw [c5]; decide) (by rw [c5]; rfl) rfl ?_
    refine y_aload_n C dL_law_331 rfl ?_
    obtain ⟨g67, h⟩ := gd h
    obtain ⟨g70, h⟩ := gp h
    obtain ⟨g71, h⟩ := gp h
    obtain ⟨r68, hr68, h⟩ := ob h
    obtain ⟨g69, h⟩ := gp h
    have g69 : r68.2.1.1 ≤ 1000300 := by omega
    refine y_aV (k' := k9 + 2) (n' := n9 + 163) C [] (m_X7_text K M x) hr68 g67 cw_L_28 rfl (by decide) ⟨Nat.le_trans (Nat.add_le_add_left (by decide) k9) hk9, Nat.le_trans (Nat.add_le_add_left (by decide) n9) hn9⟩ (Nat.le_of_ble_eq_true rfl) rfl rfl rfl rfl rfl (by simp [yCl2, g69, g70, g71]) dL_law_332 ?_
    refine y_aload_n C dL_law_335 rfl ?_
    obtain ⟨g72, h⟩ := gd h
    obtain ⟨r73, hr73, h⟩ := ob h
    refine y_cV (st := [.int r68.1]) C [] (m_X8_text r68.2.1 r68.2.2 z) hr73 g72 cw_L_32 rfl (by decide) ⟨rfl, rfl⟩ ⟨Nat.le_trans (Nat.add_le_add_left (by decide : 2 ≤ 3) k9) hk9, Nat.le_trans (Nat.add_le_add_left (by decide : 163 ≤ 200) n9) hn9⟩ (Nat.le_of_ble_eq_true rfl) rfl rfl rfl dL_law_336 ?_
    refine y_icmp_eq C dL_law_339 (tgt := 1458) rfl (fun c74 => ?_) (fun c74 => ?_)
    · have h := itT c74 h
      obtain ⟨v75, ev75, h⟩ := ob h
      have ev75 := Option.some.inj ev75
      refine y_iinc C dL_law_1458 (by decide) rfl (v := v75) (by subst ev75; rfl) (L' := [(3, .int v75), (0, .ref 1000300), (1, .ref x), (2, .ref z)]) rfl ?_
      refine y_goto C dL_law_1461 (tgt := 18) rfl ?_
      have e0 := Option.some.inj h
      subst e0
      exact y_sel [0, 1, 2, 3] rfl (y_widen (k' := k9 + 3) (n' := n9 + 200) (by omega) (by omega) hX)
    · have h := itF c74 h
      refine y_iconst C dL_law_342 kc_0 ?_
      cases h
  replace h := itF c5 h
  rcases Classical.em (((xs (i).toNatClampNeg) &&& (63 : Int32)) = (4 : Int32)) with c6 | c6
  · have h := itT c6 h
    refine y_tabIn C dL_law_33 (off := 311) (tgt := 344) (by rw [c6]; decide) (by rw [c6]; decide) (by rw [c6]; rfl) rfl ?_
    refine y_aload_n C dL_law_344 rfl ?_
    refine y_aload_n C dL_law_345 rfl ?_
    refine y_iload_n C dL_law_346 rfl ?_
    refine y_iconst C dL_law_347 kc_1 ?_
    refine y_iadd C dL_law_348 ?_
    obtain ⟨g76, h⟩ := gp h
    refine y_sld C hs g76 dL_law_349 ?_
    obtain ⟨g77, h⟩ := gd h
    obtain ⟨r78, hr78, h⟩ := ob h
    refine y_cV (st := []) C [.int (xs ((i + (1 : Int32))).toNatClampNeg)] (m_X7_force K M x ((xs ((i + (1 : Int32))).toNatClampNeg))) hr78 g77 cw_L_33 rfl (by decide) ⟨rfl, rfl⟩ ⟨Nat.le_trans (Nat.le_add_right _ _) hk9, Nat.le_trans (Nat.le_add_right _ _) hn9⟩ (Nat.le_of_ble_eq_true rfl) rfl rfl rfl dL_law_350 ?_
    refine y_aload_n C dL_law_353 rfl ?_
    refine y_aload_n C dL_law_354 rfl ?_
    refine y_iload_n C dL_law_355 rfl ?_
    refine y_iconst C dL_law_356 kc_1 ?_
    refine y_iadd C dL_law_357 ?_
    refine y_sld C hs g76 dL_law_358 ?_
    obtain ⟨g79, h⟩ := gd h
    obtain ⟨r80, hr80, h⟩ := ob h
    refine y_cV (st := [.int r78.1]) C [.int (xs ((i + (1 : Int32))).toNatClampNeg)] (m_X8_force K r78.2 z ((xs ((i + (1 : Int32))).toNatClampNeg))) hr80 g79 cw_L_36 rfl (by decide) ⟨rfl, rfl⟩ ⟨Nat.le_trans (Nat.le_add_right _ _) hk9, Nat.le_trans (Nat.le_add_right _ _) hn9⟩ (Nat.le_of_ble_eq_true rfl) rfl rfl rfl dL_law_359 ?_
    refine y_icmp_eq C dL_law_362 (tgt := 1458) rfl (fun c81 => ?_) (fun c81 => ?_)
    · have h := itT c81 h
      obtain ⟨v82, ev82, h⟩ := ob h
      have ev82 := Option.some.inj ev82
      refine y_iinc C dL_law_1458 (by decide) rfl (v := v82) (by subst ev82; rfl) (L' := [(3, .int v82), (0, .ref 1000300), (1, .ref x), (2, .ref z)]) rfl ?_
      refine y_goto C dL_law_1461 (tgt := 18) rfl ?_
      have e0 := Option.some.inj h
      subst e0
      exact y_sel [0, 1, 2, 3] rfl (y_widen (k' := k9 + 3) (n' := n9 + 200) (by omega) (by omega) hX)
    · have h := itF c81 h
      refine y_iconst C dL_law_365 kc_0 ?_
      cases h
  replace h := itF c6 h
  rcases Classical.em (((xs (i).toNatClampNeg) &&& (63 : Int32)) = (5 : Int32)) with c7 | c7
  · have h := itT c7 h
    refine y_tabIn C dL_law_33 (off := 334) (tgt := 367) (by rw [c7]; decide) (by rw [c7]; decide) (by rw [c7]; rfl) rfl ?_
    refine y_aload_n C dL_law_367 rfl ?_
    refine y_aload_n C dL_law_368 rfl ?_
    refine y_iload_n C dL_law_369 rfl ?_
    refine y_iconst C dL_law_370 kc_1 ?_
    refine y_iadd C dL_law_371 ?_
    obtain ⟨g83, h⟩ := gp h
    refine y_sld C hs g83 dL_law_372 ?_
    refine y_aload_n C dL_law_373 rfl ?_
    refine y_iload_n C dL_law_374 rfl ?_
    refine y_iconst C dL_law_375 kc_2 ?_
    refine y_iadd C dL_law_376 ?_
    obtain ⟨g84, h⟩ := gp h
    refine y_sld C hs g84 dL_law_377 ?_
    refine y_aload_n C dL_law_378 rfl ?_
    refine y_iload_n C dL_law_379 rfl ?_
    refine y_iconst C dL_law_380 kc_3 ?_
    refine y_iadd C dL_law_381 ?_
    obtain ⟨g85, h⟩ := gp h
    refine y_sld C hs g85 dL_law_382 ?_
    refine y_aload_n C dL_law_383 rfl ?_
    refine y_iload_n C dL_law_384 rfl ?_
    refine y_iconst C dL_law_385 kc_4 ?_
    refine y_iadd C dL_law_386 ?_
    obtain ⟨g86, h⟩ := gp h
    refine y_sld C hs g86 dL_law_387 ?_
    obtain ⟨g87, h⟩ := gd h
    obtain ⟨r88, hr88, h⟩ := ob h
    refine y_cV (st := []) C [.int (xs ((i + (1 : Int32))).toNatClampNeg), .int (xs ((i + (2 : Int32))).toNatClampNeg), .int (xs ((i + (3 : Int32))).toNatClampNeg), .int (xs ((i + (4 : Int32))).toNatClampNeg)] (m_X7_asks K M x ((xs ((i + (1 : Int32))).toNatClampNeg)) ((xs ((i + (2 : Int32))).toNatClampNeg)) ((xs ((i + (3 : Int32))).toNatClampNeg)) ((xs ((i + (4 : Int32))).toNatClampNeg))) hr88 g87 cw_L_37 rfl (by decide) ⟨rfl, rfl⟩ ⟨Nat.le_trans (Nat.le_add_right _ _) hk9, Nat.le_trans (Nat.le_add_right _ _) hn9⟩ (Nat.le_of_ble_eq_true rfl) rfl rfl rfl dL_law_388 ?_
    refine y_aload_n C dL_law_391 rfl ?_
    refine y_aload_n C dL_law_392 rfl ?_
    refine y_iload_n C dL_law_393 rfl ?_
    refine y_iconst C dL_law_394 kc_1 ?_
    refine y_iadd C dL_law_395 ?_
    refine y_sld C hs g83 dL_law_396 ?_
    refine y_aload_n C dL_law_397 rfl ?_
    refine y_iload_n C dL_law_398 rfl ?_
    refine y_iconst C dL_law_399 kc_2 ?_
    refine y_iadd C dL_law_400 ?_
    refine y_sld C hs g84 dL_law_401 ?_
    refine y_aload_n C dL_law_402 rfl ?_
    refine y_iload_n C dL_law_403 rfl ?_
    refine y_iconst C dL_law_404 kc_3 ?_
    refine y_iadd C dL_law_405 ?_
    refine y_sld C hs g85 dL_law_406 ?_
    refine y_aload_n C dL_law_407 rfl ?_
    refine y_iload_n C dL_law_408 rfl ?_
    refine y_iconst C dL_law_409 kc_4 ?_
    refine y_iadd C dL_law_410 ?_
    refine y_sld C hs g86 dL_law_411 ?_
    obtain ⟨g89, h⟩ := gd h
    obtain ⟨r90, hr90, h⟩ := ob h
    refine y_cV (st := [.int r88.1]) C [.int (xs ((i + (1 : Int32))).toNatClampNeg), .int (xs ((i + (2 : Int32))).toNatClampNeg), .int (xs ((i + (3 : Int32))).toNatClampNeg), .int (xs ((i + (4 : Int32))).toNatClampNeg)] (m_X8_asks K r88.2 z ((xs ((i + (1 : Int32))).toNatClampNeg)) ((xs ((i + (2 : Int32))).toNatClampNeg)) ((xs ((i + (3 : Int32))).toNatClampNeg)) ((xs ((i + (4 : Int32))).toNatClampNeg))) hr90 g89 cw_L_41 rfl (by decide) ⟨rfl, rfl⟩ ⟨Nat.le_trans (Nat.le_add_right _ _) hk9, Nat.le_trans (Nat.le_add_right _ _) hn9⟩ (Nat.le_of_ble_eq_true rfl) rfl rfl rfl dL_law_412 ?_
    refine y_icmp_eq C dL_law_415 (tgt := 1458) rfl (fun c91 => ?_) (fun c91 => ?_)
    · have h := itT c91 h
      obtain ⟨v92, ev92, h⟩ := ob h
      have ev92 := Option.some.inj ev92
      refine y_iinc C dL_law_1458 (by decide) rfl (v := v92) (by subst ev92; rfl) (L' := [(3, .int v92), (0, .ref 1000300), (1, .ref x), (2, .ref z)]) rfl ?_
      refine y_goto C dL_law_1461 (tgt := 18) rfl ?_
      have e0 := Option.some.inj h
      subst e0
      exact y_sel [0, 1, 2, 3] rfl (y_widen (k' := k9 + 3) (n' := n9 + 200) (by omega) (by omega) hX)
    · have h := itF c91 h
      refine y_iconst C dL_law_418 kc_0 ?_
      cases h
  replace h := itF c7 h
  rcases Classical.em (((xs (i).toNatClampNeg) &&& (63 : Int32)) = (6 : Int32)) with c8 | c8
  · have h := itT c8 h
    refine y_tabIn C dL_law_33 (off := 387) (tgt := 420) (by rw [c8]; decide) (by rw [c8]; decide) (by rw [c8]; rfl) rfl ?_
    refine y_aload_n C dL_law_420 rfl ?_
    refine y_aload_n C dL_law_421 rfl ?_
    refine y_iload_n C dL_law_422 rfl ?_
    refine y_iconst C dL_law_423 kc_1 ?_
    refine y_iadd C dL_law_424 ?_
    obtain ⟨g93, h⟩ := gp h
    refine y_sld C hs g93 dL_law_425 ?_
    refine y_aload_n C dL_law_426 rfl ?_
    refine y_iload_n C dL_law_427 rfl ?_
    refine y_iconst C dL_law_428 kc_2 ?_
    refine y_iadd C dL_law_429 ?_
    obtain ⟨g94, h⟩ := gp h
    refine y_sld C hs g94 dL_law_430 ?_
    refine y_aload_n C dL_law_431 rfl ?_
    refine y_iload_n C dL_law_432 rfl ?_
    refine y_iconst C dL_law_433 kc_3 ?_
    refine y_iadd C dL_law_434 ?_
    obtain ⟨g95, h⟩ := gp h
    refine y_sld C hs g95 dL_law_435 ?_
    obtain ⟨g96, h⟩ := gd h
    obtain ⟨r97, hr97, h⟩ := ob h
    refine y_cV (st := []) C [.int (xs ((i + (1 : Int32))).toNatClampNeg), .int (xs ((i + (2 : Int32))).toNatClampNeg), .int (xs ((i + (3 : Int32))).toNatClampNeg)] (m_X7_word K M x ((xs ((i + (1 : Int32))).toNatClampNeg)) ((xs ((i + (2 : Int32))).toNatClampNeg)) ((xs ((i + (3 : Int32))).toNatClampNeg))) hr97 g96 cw_L_42 rfl (by decide) ⟨rfl, rfl⟩ ⟨Nat.le_trans (Nat.le_add_right _ _) hk9, Nat.le_trans (Nat.le_add_right _ _) hn9⟩ (Nat.le_of_ble_eq_true rfl) rfl rfl rfl dL_law_436 ?_
    refine y_aload_n C dL_law_439 rfl ?_
    refine y_aload_n C dL_law_440 rfl ?_
    refine y_iload_n C dL_law_441 rfl ?_
    refine y_iconst C dL_law_442 kc_1 ?_
    refine y_iadd C dL_law_443 ?_
    refine y_sld C hs g93 dL_law_444 ?_
    refine y_aload_n C dL_law_445 rfl ?_
    refine y_iload_n C dL_law_446 rfl ?_
    refine y_iconst C dL_law_447 kc_2 ?_
    refine y_iadd C dL_law_448 ?_
    refine y_sld C hs g94 dL_law_449 ?_
    refine y_aload_n C dL_law_450 rfl ?_
    refine y_iload_n C dL_law_451 rfl ?_
    refine y_iconst C dL_law_452 kc_3 ?_
    refine y_iadd C dL_law_453 ?_
    refine y_sld C hs g95 dL_law_454 ?_
    obtain ⟨g98, h⟩ := gd h
    obtain ⟨r99, hr99, h⟩ := ob h
    refine y_cV (st := [.int r97.1]) C [.int (xs ((i + (1 : Int32))).toNatClampNeg), .int (xs ((i + (2 : Int32))).toNatClampNeg), .int (xs ((i + (3 : Int32))).toNatClampNeg)] (m_X8_word K r97.2 z ((xs ((i + (1 : Int32))).toNatClampNeg)) ((xs ((i + (2 : Int32))).toNatClampNeg)) ((xs ((i + (3 : Int32))).toNatClampNeg))) hr99 g98 cw_L_46 rfl (by decide) ⟨rfl, rfl⟩ ⟨Nat.le_trans (Nat.le_add_right _ _) hk9, Nat.le_trans (Nat.le_add_right _ _) hn9⟩ (Nat.le_of_ble_eq_true rfl) rfl rfl rfl dL_law_455 ?_
    refine y_icmp_eq C dL_law_458 (tgt := 1458) rfl (fun c100 => ?_) (fun c100 => ?_)
    · have h := itT c100 h
      obtain ⟨v101, ev101, h⟩ := ob h
      have ev101 := Option.some.inj ev101
      refine y_iinc C dL_law_1458 (by decide) rfl (v := v101) (by subst ev101; rfl) (L' := [(3, .int v101), (0, .ref 1000300), (1, .ref x), (2, .ref z)]) rfl ?_
      refine y_goto C dL_law_1461 (tgt := 18) rfl ?_
      have e0 := Option.some.inj h
      subst e0
      exact y_sel [0, 1, 2, 3] rfl (y_widen (k' := k9 + 3) (n' := n9 + 200) (by omega) (by omega) hX)
    · have h := itF c100 h
      refine y_iconst C dL_law_461 kc_0 ?_
      cases h
  replace h := itF c8 h
  rcases Classical.em (((xs (i).toNatClampNeg) &&& (63 : Int32)) = (7 : Int32)) with c9 | c9
  · have h := itT c9 h
    refine y_tabIn C dL_law_33 (off := 430) (tgt := 463) (by rw [c9]; decide) (by rw [c9]; decide) (by rw [c9]; rfl) rfl ?_
    refine y_aload_n C dL_law_463 rfl ?_
    refine y_aload_n C dL_law_464 rfl ?_
    refine y_iload_n C dL_law_465 rfl ?_
    refine y_iconst C dL_law_466 kc_1 ?_
    refine y_iadd C dL_law_467 ?_
    obtain ⟨g102, h⟩ := gp h
    refine y_sld C hs g102 dL_law_468 ?_
    refine y_aload_n C dL_law_469 rfl ?_
    refine y_iload_n C dL_law_470 rfl ?_
    refine y_iconst C dL_law_471 kc_2 ?_
    refine y_iadd C dL_law_472 ?_
    obtain ⟨g103, h⟩ := gp h
    refine y_sld C hs g103 dL_law_473 ?_
    obtain ⟨g104, h⟩ := gd h
    obtain ⟨r105, hr105, h⟩ := ob h
    refine y_cV (st := []) C [.int (xs ((i + (1 : Int32))).toNatClampNeg), .int (xs ((i + (2 : Int32))).toNatClampNeg)] (m_X7_told K M x ((xs ((i + (1 : Int32))).toNatClampNeg)) ((xs ((i + (2 : Int32))).toNatClampNeg))) hr105 g104 cw_L_47 rfl (by decide) ⟨rfl, rfl⟩ ⟨Nat.le_trans (Nat.le_add_right _ _) hk9, Nat.le_trans (Nat.le_add_right _ _) hn9⟩ (Nat.le_of_ble_eq_true rfl) rfl rfl rfl dL_law_474 ?_
    refine y_aload_n C dL_law_477 rfl ?_
    refine y_aload_n C dL_law_478 rfl ?_
    refine y_iload_n C dL_law_479 rfl ?_
    refine y_iconst C dL_law_480 kc_1 ?_
    refine y_iadd C dL_law_481 ?_
    refine y_sld C hs g102 dL_law_482 ?_
    refine y_aload_n C dL_law_483 rfl ?_
    refine y_iload_n C dL_law_484 rfl ?_
    refine y_iconst C dL_law_485 kc_2 ?_
    refine y_iadd C dL_law_486 ?_
    refine y_sld C hs g103 dL_law_487 ?_
    obtain ⟨g106, h⟩ := gd h
    obtain ⟨r107, hr107, h⟩ := ob h
    refine y_cV (st := [.int r105]) C [.int (xs ((i + (1 : Int32))).toNatClampNeg), .int (xs ((i + (2 : Int32))).toNatClampNeg)] (m_X8_told K M z ((xs ((i + (1 : Int32))).toNatClampNeg)) ((xs ((i + (2 : Int32))).toNatClampNeg))) hr107 g106 cw_L_50 rfl (by decide) ⟨rfl, rfl⟩ ⟨Nat.le_trans (Nat.le_add_right _ _) hk9, Nat.le_trans (Nat.le_add_right _ _) hn9⟩ (Nat.le_of_ble_eq_true rfl) rfl rfl rfl dL_law_488 ?_
    refine y_icmp_eq C dL_law_491 (tgt := 1458) rfl (fun c108 => ?_) (fun c108 => ?_)
    · have h := itT c108 h
      obtain ⟨v109, ev109, h⟩ := ob h
      have ev109 := Option.some.inj ev109
      refine y_iinc C dL_law_1458 (by decide) rfl (v := v109) (by subst ev109; rfl) (L' := [(3, .int v109), (0, .ref 1000300), (1, .ref x), (2, .ref z)]) rfl ?_
      refine y_goto C dL_law_1461 (tgt := 18) rfl ?_
      have e0 := Option.some.inj h
      subst e0
      exact y_sel [0, 1, 2, 3] rfl (y_widen (k' := k9 + 3) (n' := n9 + 200) (by omega) (by omega) hX)
    · have h := itF c108 h
      refine y_iconst C dL_law_494 kc_0 ?_
      cases h
  replace h := itF c9 h
  rcases Classical.em (((xs (i).toNatClampNeg) &&& (63 : Int32)) = (8 : Int32)) with c10 | c10
  · have h := itT c10 h
    refine y_tabIn C dL_law_33 (off := 463) (tgt := 496) (by rw [c10]; decide) (by rw [c10]; decide) (by rw [c10]; rfl) rfl ?_
    refine y_aload_n C dL_law_496 rfl ?_
    refine y_aload_n C dL_law_497 rfl ?_
    refine y_iload_n C dL_law_498 rfl ?_
    refine y_iconst C dL_law_499 kc_1 ?_
    refine y_iadd C dL_law_500 ?_
    obtain ⟨g110, h⟩ := gp h
    refine y_sld C hs g110 dL_law_501 ?_
    refine y_aload_n C dL_law_502 rfl ?_
    refine y_iload_n C dL_law_503 rfl ?_
    refine y_iconst C dL_law_504 kc_2 ?_
    refine y_iadd C dL_law_505 ?_
    obtain ⟨g111, h⟩ := gp h
    refine y_sld C hs g111 dL_law_506 ?_
    refine y_aload_n C dL_law_507 rfl ?_
    refine y_iload_n C dL_law_508 rfl ?_
    refine y_iconst C dL_law_509 kc_3 ?_
    refine y_iadd C dL_law_510 ?_
    obtain ⟨g112, h⟩ := gp h
    refine y_sld C hs g112 dL_law_511 ?_
    obtain ⟨g113, h⟩ := gd h
    obtain ⟨r114, hr114, h⟩ := ob h
    refine y_cV (st := []) C [.int (xs ((i + (1 : Int32))).toNatClampNeg), .int (xs ((i + (2 : Int32))).toNatClampNeg), .int (xs ((i + (3 : Int32))).toNatClampNeg)] (m_X7_put K M x ((xs ((i + (1 : Int32))).toNatClampNeg)) ((xs ((i + (2 : Int32))).toNatClampNeg)) ((xs ((i + (3 : Int32))).toNatClampNeg))) hr114 g113 cw_L_51 rfl (by decide) ⟨rfl, rfl⟩ ⟨Nat.le_trans (Nat.le_add_right _ _) hk9, Nat.le_trans (Nat.le_add_right _ _) hn9⟩ (Nat.le_of_ble_eq_true rfl) rfl rfl rfl dL_law_512 ?_
    refine y_aload_n C dL_law_515 rfl ?_
    refine y_aload_n C dL_law_516 rfl ?_
    refine y_iload_n C dL_law_517 rfl ?_
    refine y_iconst C dL_law_518 kc_1 ?_
    refine y_iadd C dL_law_519 ?_
    refine y_sld C hs g110 dL_law_520 ?_
    refine y_aload_n C dL_law_521 rfl ?_
    refine y_iload_n C dL_law_522 rfl ?_
    refine y_iconst C dL_law_523 kc_2 ?_
    refine y_iadd C dL_law_524 ?_
    refine y_sld C hs g111 dL_law_525 ?_
    refine y_aload_n C dL_law_526 rfl ?_
    refine y_iload_n C dL_law_527 rfl ?_
    refine y_iconst C dL_law_528 kc_3 ?_
    refine y_iadd C dL_law_529 ?_
    refine y_sld C hs g112 dL_law_530 ?_
    obtain ⟨g115, h⟩ := gd h
    obtain ⟨r116, hr116, h⟩ := ob h
    refine y_cV (st := [.int r114.1]) C [.int (xs ((i + (1 : Int32))).toNatClampNeg), .int (xs ((i + (2 : Int32))).toNatClampNeg), .int (xs ((i + (3 : Int32))).toNatClampNeg)] (m_X8_put K r114.2 z ((xs ((i + (1 : Int32))).toNatClampNeg)) ((xs ((i + (2 : Int32))).toNatClampNeg)) ((xs ((i + (3 : Int32))).toNatClampNeg))) hr116 g115 cw_L_54 rfl (by decide) ⟨rfl, rfl⟩ ⟨Nat.le_trans (Nat.le_add_right _ _) hk9, Nat.le_trans (Nat.le_add_right _ _) hn9⟩ (Nat.le_of_ble_eq_true rfl) rfl rfl rfl dL_law_531 ?_
    refine y_icmp_eq C dL_law_534 (tgt := 1458) rfl (fun c117 => ?_) (fun c117 => ?_)
    · have h := itT c117 h
      obtain ⟨v118, ev118, h⟩ := ob h
      have ev118 := Option.some.inj ev118
      refine y_iinc C dL_law_1458 (by decide) rfl (v := v118) (by subst ev118; rfl) (L' := [(3, .int v118), (0, .ref 1000300), (1, .ref x), (2, .ref z)]) rfl ?_
      refine y_goto C dL_law_1461 (tgt := 18) rfl ?_
      have e0 := Option.some.inj h
      subst e0
      exact y_sel [0, 1, 2, 3] rfl (y_widen (k' := k9 + 3) (n' := n9 + 200) (by omega) (by omega) hX)
    · have h := itF c117 h
      refine y_iconst C dL_law_537 kc_0 ?_
      cases h
  replace h := itF c10 h
  rcases Classical.em (((xs (i).toNatClampNeg) &&& (63 : Int32)) = (9 : Int32)) with c11 | c11
  · have h := itT c11 h
    refine y_tabIn C dL_law_33 (off := 506) (tgt := 539) (by rw [c11]; decide) (by rw [c11]; decide) (by rw [c11]; rfl) rfl ?_
    refine y_aload_n C dL_law_539 rfl ?_
    obtain ⟨g119, h⟩ := gd h
    obtain ⟨r120, hr120, h⟩ := ob h
    refine y_cV (st := []) C [] (m_X7_live K M x) hr120 g119 cw_L_55 rfl (by decide) ⟨rfl, rfl⟩ ⟨Nat.le_trans (Nat.le_add_right _ _) hk9, Nat.le_trans (Nat.le_add_right _ _) hn9⟩ (Nat.le_of_ble_eq_true rfl) rfl rfl rfl dL_law_540 ?_
    refine y_aload_n C dL_law_543 rfl ?_
    obtain ⟨g121, h⟩ := gd h
    obtain ⟨r122, hr122, h⟩ := ob h
    refine y_cV (st := [.int r120.1]) C [] (m_X8_live K r120.2 z) hr122 g121 cw_L_58 rfl (by decide) ⟨rfl, rfl⟩ ⟨Nat.le_trans (Nat.le_add_right _ _) hk9, Nat.le_trans (Nat.le_add_right _ _) hn9⟩ (Nat.le_of_ble_eq_true rfl) rfl rfl rfl dL_law_544 ?_
    refine y_icmp_eq C dL_law_547 (tgt := 1458) rfl (fun c123 => ?_) (fun c123 => ?_)
    · have h := itT c123 h
      obtain ⟨v124, ev124, h⟩ := ob h
      have ev124 := Option.some.inj ev124
      refine y_iinc C dL_law_1458 (by decide) rfl (v := v124) (by subst ev124; rfl) (L' := [(3, .int v124), (0, .ref 1000300), (1, .ref x), (2, .ref z)]) rfl ?_
      refine y_goto C dL_law_1461 (tgt := 18) rfl ?_
      have e0 := Option.some.inj h
      subst e0
      exact y_sel [0, 1, 2, 3] rfl (y_widen (k' := k9 + 3) (n' := n9 + 200) (by omega) (by omega) hX)
    · have h := itF c123 h
      refine y_iconst C dL_law_550 kc_0 ?_
      cases h
  replace h := itF c11 h
  rcases Classical.em (((xs (i).toNatClampNeg) &&& (63 : Int32)) = (10 : Int32)) with c12 | c12
  · have h := itT c12 h
    refine y_tabIn C dL_law_33 (off := 519) (tgt := 552) (by rw [c12]; decide) (by rw [c12]; decide) (by rw [c12]; rfl) rfl ?_
    refine y_aload_n C dL_law_552 rfl ?_
    refine y_aload_n C dL_law_553 rfl ?_
    refine y_iload_n C dL_law_554 rfl ?_
    refine y_iconst C dL_law_555 kc_1 ?_
    refine y_iadd C dL_law_556 ?_
    obtain ⟨g125, h⟩ := gp h
    refine y_sld C hs g125 dL_law_557 ?_
    obtain ⟨g126, h⟩ := gd h
    obtain ⟨r127, hr127, h⟩ := ob h
    refine y_cV (st := []) C [.int (xs ((i + (1 : Int32))).toNatClampNeg)] (m_X7_now K M x ((xs ((i + (1 : Int32))).toNatClampNeg))) hr127 g126 cw_L_59 rfl (by decide) ⟨rfl, rfl⟩ ⟨Nat.le_trans (Nat.le_add_right _ _) hk9, Nat.le_trans (Nat.le_add_right _ _) hn9⟩ (Nat.le_of_ble_eq_true rfl) rfl rfl rfl dL_law_558 ?_
    refine y_aload_n C dL_law_561 rfl ?_
    refine y_aload_n C dL_law_562 rfl ?_
    refine y_iload_n C dL_law_563 rfl ?_
    refine y_iconst C dL_law_564 kc_1 ?_
    refine y_iadd C dL_law_565 ?_
    refine y_sld C hs g125 dL_law_566 ?_
    obtain ⟨g128, h⟩ := gd h
    obtain ⟨r129, hr129, h⟩ := ob h
    refine y_cV (st := [.int r127.1]) C [.int (xs ((i + (1 : Int32))).toNatClampNeg)] (m_X8_now K r127.2 z ((xs ((i + (1 : Int32))).toNatClampNeg))) hr129 g128 cw_L_62 rfl (by decide) ⟨rfl, rfl⟩ ⟨Nat.le_trans (Nat.le_add_right _ _) hk9, Nat.le_trans (Nat.le_add_right _ _) hn9⟩ (Nat.le_of_ble_eq_true rfl) rfl rfl rfl dL_law_567 ?_
    refine y_icmp_eq C dL_law_570 (tgt := 1458) rfl (fun c130 => ?_) (fun c130 => ?_)
    · have h := itT c130 h
      obtain ⟨v131, ev131, h⟩ := ob h
      have ev131 := Option.some.inj ev131
      refine y_iinc C dL_law_1458 (by decide) rfl (v := v131) (by subst ev131; rfl) (L' := [(3, .int v131), (0, .ref 1000300), (1, .ref x), (2, .ref z)]) rfl ?_
      refine y_goto C dL_law_1461 (tgt := 18) rfl ?_
      have e0 := Option.some.inj h
      subst e0
      exact y_sel [0, 1, 2, 3] rfl (y_widen (k' := k9 + 3) (n' := n9 + 200) (by omega) (by omega) hX)
    · have h := itF c130 h
      refine y_iconst C dL_law_573 kc_0 ?_
      cases h
  replace h := itF c12 h
  rcases Classical.em (((xs (i).toNatClampNeg) &&& (63 : Int32)) = (11 : Int32)) with c13 | c13
  · have h := itT c13 h
    refine y_tabIn C dL_law_33 (off := 542) (tgt := 575) (by rw [c13]; decide) (by rw [c13]; decide) (by rw [c13]; rfl) rfl ?_
    refine y_aload_n C dL_law_575 rfl ?_
    refine y_aload_n C dL_law_576 rfl ?_
    refine y_iload_n C dL_law_577 rfl ?_
    refine y_iconst C dL_law_578 kc_1 ?_
    refine y_iadd C dL_law_579 ?_
    obtain ⟨g132, h⟩ := gp h
    refine y_sld C hs g132 dL_law_580 ?_
    obtain ⟨g133, h⟩ := gd h
    obtain ⟨r134, hr134, h⟩ := ob h
    refine y_cV (st := []) C [.int (xs ((i + (1 : Int32))).toNatClampNeg)] (m_X7_deed K M x ((xs ((i + (1 : Int32))).toNatClampNeg))) hr134 g133 cw_L_63 rfl (by decide) ⟨rfl, rfl⟩ ⟨Nat.le_trans (Nat.le_add_right _ _) hk9, Nat.le_trans (Nat.le_add_right _ _) hn9⟩ (Nat.le_of_ble_eq_true rfl) rfl rfl rfl dL_law_581 ?_
    refine y_aload_n C dL_law_584 rfl ?_
    refine y_aload_n C dL_law_585 rfl ?_
    refine y_iload_n C dL_law_586 rfl ?_
    refine y_iconst C dL_law_587 kc_1 ?_
    refine y_iadd C dL_law_588 ?_
    refine y_sld C hs g132 dL_law_589 ?_
    obtain ⟨g135, h⟩ := gd h
    obtain ⟨r136, hr136, h⟩ := ob h
    refine y_cV (st := [.int r134.1]) C [.int (xs ((i + (1 : Int32))).toNatClampNeg)] (m_X8_deed K r134.2 z ((xs ((i + (1 : Int32))).toNatClampNeg))) hr136 g135 cw_L_66 rfl (by decide) ⟨rfl, rfl⟩ ⟨Nat.le_trans (Nat.le_add_right _ _) hk9, Nat.le_trans (Nat.le_add_right _ _) hn9⟩ (Nat.le_of_ble_eq_true rfl) rfl rfl rfl dL_law_590 ?_
    refine y_icmp_eq C dL_law_593 (tgt := 1458) rfl (fun c137 => ?_) (fun c137 => ?_)
    · have h := itT c137 h
      obtain ⟨v138, ev138, h⟩ := ob h
      have ev138 := Option.some.inj ev138
      refine y_iinc C dL_law_1458 (by decide) rfl (v := v138) (by subst ev138; rfl) (L' := [(3, .int v138), (0, .ref 1000300), (1, .ref x), (2, .ref z)]) rfl ?_
      refine y_goto C dL_law_1461 (tgt := 18) rfl ?_
      have e0 := Option.some.inj h
      subst e0
      exact y_sel [0, 1, 2, 3] rfl (y_widen (k' := k9 + 3) (n' := n9 + 200) (by omega) (by omega) hX)
    · have h := itF c137 h
      refine y_iconst C dL_law_596 kc_0 ?_
      cases h
  replace h := itF c13 h
  rcases Classical.em (((xs (i).toNatClampNeg) &&& (63 : Int32)) = (12 : Int32)) with c14 | c14
  · have h := itT c14 h
    refine y_tabIn C dL_law_33 (off := 565) (tgt := 598) (by rw [c14]; decide) (by rw [c14]; decide) (by rw [c14]; rfl) rfl ?_
    refine y_aload_n C dL_law_598 rfl ?_
    refine y_aload_n C dL_law_599 rfl ?_
    refine y_iload_n C dL_law_600 rfl ?_
    refine y_iconst C dL_law_601 kc_1 ?_
    refine y_iadd C dL_law_602 ?_
    obtain ⟨g139, h⟩ := gp h
    refine y_sld C hs g139 dL_law_603 ?_
    obtain ⟨g140, h⟩ := gd h
    obtain ⟨r141, hr141, h⟩ := ob h
    refine y_cV (st := []) C [.int (xs ((i + (1 : Int32))).toNatClampNeg)] (m_X7_needs K M x ((xs ((i + (1 : Int32))).toNatClampNeg))) hr141 g140 cw_L_67 rfl (by decide) ⟨rfl, rfl⟩ ⟨Nat.le_trans (Nat.le_add_right _ _) hk9, Nat.le_trans (Nat.le_add_right _ _) hn9⟩ (Nat.le_of_ble_eq_true rfl) rfl rfl rfl dL_law_604 ?_
    refine y_aload_n C dL_law_607 rfl ?_
    refine y_aload_n C dL_law_608 rfl ?_
    refine y_iload_n C dL_law_609 rfl ?_
    refine y_iconst C dL_law_610 kc_1 ?_
    refine y_iadd C dL_law_611 ?_
    refine y_sld C hs g139 dL_law_612 ?_
    obtain ⟨g142, h⟩ := gd h
    obtain ⟨r143, hr143, h⟩ := ob h
    refine y_cV (st := [.int r141]) C [.int (xs ((i + (1 : Int32))).toNatClampNeg)] (m_X8_needs K M z ((xs ((i + (1 : Int32))).toNatClampNeg))) hr143 g142 cw_L_70 rfl (by decide) ⟨rfl, rfl⟩ ⟨Nat.le_trans (Nat.le_add_right _ _) hk9, Nat.le_trans (Nat.le_add_right _ _) hn9⟩ (Nat.le_of_ble_eq_true rfl) rfl rfl rfl dL_law_613 ?_
    refine y_icmp_eq C dL_law_616 (tgt := 1458) rfl (fun c144 => ?_) (fun c144 => ?_)
    · have h := itT c144 h
      obtain ⟨v145, ev145, h⟩ := ob h
      have ev145 := Option.some.inj ev145
      refine y_iinc C dL_law_1458 (by decide) rfl (v := v145) (by subst ev145; rfl) (L' := [(3, .int v145), (0, .ref 1000300), (1, .ref x), (2, .ref z)]) rfl ?_
      refine y_goto C dL_law_1461 (tgt := 18) rfl ?_
      have e0 := Option.some.inj h
      subst e0
      exact y_sel [0, 1, 2, 3] rfl (y_widen (k' := k9 + 3) (n' := n9 + 200) (by omega) (by omega) hX)
    · have h := itF c144 h
      refine y_iconst C dL_law_619 kc_0 ?_
      cases h
  replace h := itF c14 h
  rcases Classical.em (((xs (i).toNatClampNeg) &&& (63 : Int32)) = (13 : Int32)) with c15 | c15
  · have h := itT c15 h
    refine y_tabIn C dL_law_33 (off := 588) (tgt := 621) (by rw [c15]; decide) (by rw [c15]; decide) (by rw [c15]; rfl) rfl ?_
    refine y_aload_n C dL_law_621 rfl ?_
    refine y_aload_n C dL_law_622 rfl ?_
    refine y_iload_n C dL_law_623 rfl ?_
    refine y_iconst C dL_law_624 kc_1 ?_
    refine y_iadd C dL_law_625 ?_
    obtain ⟨g146, h⟩ := gp h
    refine y_sld C hs g146 dL_law_626 ?_
    obtain ⟨g147, h⟩ := gd h
    obtain ⟨r148, hr148, h⟩ := ob h
    refine y_cV (st := []) C [.int (xs ((i + (1 : Int32))).toNatClampNeg)] (m_X7_done K M x ((xs ((i + (1 : Int32))).toNatClampNeg))) hr148 g147 cw_L_71 rfl (by decide) ⟨rfl, rfl⟩ ⟨Nat.le_trans (Nat.le_add_right _ _) hk9, Nat.le_trans (Nat.le_add_right _ _) hn9⟩ (Nat.le_of_ble_eq_true rfl) rfl rfl rfl dL_law_627 ?_
    refine y_aload_n C dL_law_630 rfl ?_
    refine y_aload_n C dL_law_631 rfl ?_
    refine y_iload_n C dL_law_632 rfl ?_
    refine y_iconst C dL_law_633 kc_1 ?_
    refine y_iadd C dL_law_634 ?_
    refine y_sld C hs g146 dL_law_635 ?_
    obtain ⟨g149, h⟩ := gd h
    obtain ⟨r150, hr150, h⟩ := ob h
    refine y_cV (st := [.int r148.1]) C [.int (xs ((i + (1 : Int32))).toNatClampNeg)] (m_X8_done K r148.2 z ((xs ((i + (1 : Int32))).toNatClampNeg))) hr150 g149 cw_L_74 rfl (by decide) ⟨rfl, rfl⟩ ⟨Nat.le_trans (Nat.le_add_right _ _) hk9, Nat.le_trans (Nat.le_add_right _ _) hn9⟩ (Nat.le_of_ble_eq_true rfl) rfl rfl rfl dL_law_636 ?_
    refine y_icmp_eq C dL_law_639 (tgt := 1458) rfl (fun c151 => ?_) (fun c151 => ?_)
    · have h := itT c151 h
      obtain ⟨v152, ev152, h⟩ := ob h
      have ev152 := Option.some.inj ev152
      refine y_iinc C dL_law_1458 (by decide) rfl (v := v152) (by subst ev152; rfl) (L' := [(3, .int v152), (0, .ref 1000300), (1, .ref x), (2, .ref z)]) rfl ?_
      refine y_goto C dL_law_1461 (tgt := 18) rfl ?_
      have e0 := Option.some.inj h
      subst e0
      exact y_sel [0, 1, 2, 3] rfl (y_widen (k' := k9 + 3) (n' := n9 + 200) (by omega) (by omega) hX)
    · have h := itF c151 h
      refine y_iconst C dL_law_642 kc_0 ?_
      cases h
  replace h := itF c15 h
  rcases Classical.em (((xs (i).toNatClampNeg) &&& (63 : Int32)) = (14 : Int32)) with c16 | c16
  · have h := itT c16 h
    refine y_tabIn C dL_law_33 (off := 611) (tgt := 644) (by rw [c16]; decide) (by rw [c16]; decide) (by rw [c16]; rfl) rfl ?_
    refine y_aload_n C dL_law_644 rfl ?_
    refine y_aload_n C dL_law_645 rfl ?_
    refine y_iload_n C dL_law_646 rfl ?_
    refine y_iconst C dL_law_647 kc_1 ?_
    refine y_iadd C dL_law_648 ?_
    obtain ⟨g153, h⟩ := gp h
    refine y_sld C hs g153 dL_law_649 ?_
    refine y_aload_n C dL_law_650 rfl ?_
    refine y_iload_n C dL_law_651 rfl ?_
    refine y_iconst C dL_law_652 kc_2 ?_
    refine y_iadd C dL_law_653 ?_
    obtain ⟨g154, h⟩ := gp h
    refine y_sld C hs g154 dL_law_654 ?_
    obtain ⟨g155, h⟩ := gd h
    obtain ⟨r156, hr156, h⟩ := ob h
    refine y_cV (st := []) C [.int (xs ((i + (1 : Int32))).toNatClampNeg), .int (xs ((i + (2 : Int32))).toNatClampNeg)] (m_X7_run K M x ((xs ((i + (1 : Int32))).toNatClampNeg)) ((xs ((i + (2 : Int32))).toNatClampNeg))) hr156 g155 cw_L_75 rfl (by decide) ⟨rfl, rfl⟩ ⟨Nat.le_trans (Nat.le_add_right _ _) hk9, Nat.le_trans (Nat.le_add_right _ _) hn9⟩ (Nat.le_of_ble_eq_true rfl) rfl rfl rfl dL_law_655 ?_
    refine y_aload_n C dL_law_658 rfl ?_
    refine y_aload_n C dL_law_659 rfl ?_
    refine y_iload_n C dL_law_660 rfl ?_
    refine y_iconst C dL_law_661 kc_1 ?_
    refine y_iadd C dL_law_662 ?_
    refine y_sld C hs g153 dL_law_663 ?_
    refine y_aload_n C dL_law_664 rfl ?_
    refine y_iload_n C dL_law_665 rfl ?_
    refine y_iconst C dL_law_666 kc_2 ?_
    refine y_iadd C dL_law_667 ?_
    refine y_sld C hs g154 dL_law_668 ?_
    obtain ⟨g157, h⟩ := gd h
    obtain ⟨r158, hr158, h⟩ := ob h
    refine y_cV (st := [.int r156.1]) C [.int (xs ((i + (1 : Int32))).toNatClampNeg), .int (xs ((i + (2 : Int32))).toNatClampNeg)] (m_X8_run K r156.2 z ((xs ((i + (1 : Int32))).toNatClampNeg)) ((xs ((i + (2 : Int32))).toNatClampNeg))) hr158 g157 cw_L_78 rfl (by decide) ⟨rfl, rfl⟩ ⟨Nat.le_trans (Nat.le_add_right _ _) hk9, Nat.le_trans (Nat.le_add_right _ _) hn9⟩ (Nat.le_of_ble_eq_true rfl) rfl rfl rfl dL_law_669 ?_
    refine y_icmp_eq C dL_law_672 (tgt := 1458) rfl (fun c159 => ?_) (fun c159 => ?_)
    · have h := itT c159 h
      obtain ⟨v160, ev160, h⟩ := ob h
      have ev160 := Option.some.inj ev160
      refine y_iinc C dL_law_1458 (by decide) rfl (v := v160) (by subst ev160; rfl) (L' := [(3, .int v160), (0, .ref 1000300), (1, .ref x), (2, .ref z)]) rfl ?_
      refine y_goto C dL_law_1461 (tgt := 18) rfl ?_
      have e0 := Option.some.inj h
      subst e0
      exact y_sel [0, 1, 2, 3] rfl (y_widen (k' := k9 + 3) (n' := n9 + 200) (by omega) (by omega) hX)
    · have h := itF c159 h
      refine y_iconst C dL_law_675 kc_0 ?_
      cases h
  replace h := itF c16 h
  rcases Classical.em (((xs (i).toNatClampNeg) &&& (63 : Int32)) = (15 : Int32)) with c17 | c17
  · have h := itT c17 h
    refine y_tabIn C dL_law_33 (off := 644) (tgt := 677) (by rw [c17]; decide) (by rw [c17]; decide) (by rw [c17]; rfl) rfl ?_
    refine y_aload_n C dL_law_677 rfl ?_
    refine y_aload_n C dL_law_678 rfl ?_
    refine y_iload_n C dL_law_679 rfl ?_
    refine y_iconst C dL_law_680 kc_1 ?_
    refine y_iadd C dL_law_681 ?_
    obtain ⟨g161, h⟩ := gp h
    refine y_sld C hs g161 dL_law_682 ?_
    refine y_aload_n C dL_law_683 rfl ?_
    refine y_iload_n C dL_law_684 rfl ?_
    refine y_iconst C dL_law_685 kc_2 ?_
    refine y_iadd C dL_law_686 ?_
    obtain ⟨g162, h⟩ := gp h
    refine y_sld C hs g162 dL_law_687 ?_
    refine y_aload_n C dL_law_688 rfl ?_
    refine y_iload_n C dL_law_689 rfl ?_
    refine y_iconst C dL_law_690 kc_3 ?_
    refine y_iadd C dL_law_691 ?_
    obtain ⟨g163, h⟩ := gp h
    refine y_sld C hs g163 dL_law_692 ?_
    obtain ⟨g164, h⟩ := gd h
    obtain ⟨r165, hr165, h⟩ := ob h
    refine y_cV (st := []) C [.int (xs ((i + (1 : Int32))).toNatClampNeg), .int (xs ((i + (2 : Int32))).toNatClampNeg), .int (xs ((i + (3 : Int32))).toNatClampNeg)] (m_X7_when K M x ((xs ((i + (1 : Int32))).toNatClampNeg)) ((xs ((i + (2 : Int32))).toNatClampNeg)) ((xs ((i + (3 : Int32))).toNatClampNeg))) hr165 g164 cw_L_79 rfl (by decide) ⟨rfl, rfl⟩ ⟨Nat.le_trans (Nat.le_add_right _ _) hk9, Nat.le_trans (Nat.le_add_right _ _) hn9⟩ (Nat.le_of_ble_eq_true rfl) rfl rfl rfl dL_law_693 ?_
    refine y_aload_n C dL_law_696 rfl ?_
    refine y_aload_n C dL_law_697 rfl ?_
    refine y_iload_n C dL_law_698 rfl ?_
    refine y_iconst C dL_law_699 kc_1 ?_
    refine y_iadd C dL_law_700 ?_
    refine y_sld C hs g161 dL_law_701 ?_
    refine y_aload_n C dL_law_702 rfl ?_
    refine y_iload_n C dL_law_703 rfl ?_
    refine y_iconst C dL_law_704 kc_2 ?_
    refine y_iadd C dL_law_705 ?_
    refine y_sld C hs g162 dL_law_706 ?_
    refine y_aload_n C dL_law_707 rfl ?_
    refine y_iload_n C dL_law_708 rfl ?_
    refine y_iconst C dL_law_709 kc_3 ?_
    refine y_iadd C dL_law_710 ?_
    refine y_sld C hs g163 dL_law_711 ?_
    obtain ⟨g166, h⟩ := gd h
    obtain ⟨r167, hr167, h⟩ := ob h
    refine y_cV (st := [.int r165.1]) C [.int (xs ((i + (1 : Int32))).toNatClampNeg), .int (xs ((i + (2 : Int32))).toNatClampNeg), .int (xs ((i + (3 : Int32))).toNatClampNeg)] (m_X8_when K r165.2 z ((xs ((i + (1 : Int32))).toNatClampNeg)) ((xs ((i + (2 : Int32))).toNatClampNeg)) ((xs ((i + (3 : Int32))).toNatClampNeg))) hr167 g166 cw_L_82 rfl (by decide) ⟨rfl, rfl⟩ ⟨Nat.le_trans (Nat.le_add_right _ _) hk9, Nat.le_trans (Nat.le_add_right _ _) hn9⟩ (Nat.le_of_ble_eq_true rfl) rfl rfl rfl dL_law_712 ?_
    refine y_icmp_eq C dL_law_715 (tgt := 1458) rfl (fun c168 => ?_) (fun c168 => ?_)
    · have h := itT c168 h
      obtain ⟨v169, ev169, h⟩ := ob h
      have ev169 := Option.some.inj ev169
      refine y_iinc C dL_law_1458 (by decide) rfl (v := v169) (by subst ev169; rfl) (L' := [(3, .int v169), (0, .ref 1000300), (1, .ref x), (2, .ref z)]) rfl ?_
      refine y_goto C dL_law_1461 (tgt := 18) rfl ?_
      have e0 := Option.some.inj h
      subst e0
      exact y_sel [0, 1, 2, 3] rfl (y_widen (k' := k9 + 3) (n' := n9 + 200) (by omega) (by omega) hX)
    · have h := itF c168 h
      refine y_iconst C dL_law_718 kc_0 ?_
      cases h
  replace h := itF c17 h
  rcases Classical.em (((xs (i).toNatClampNeg) &&& (63 : Int32)) = (16 : Int32)) with c18 | c18
  · have h := itT c18 h
    refine y_tabIn C dL_law_33 (off := 687) (tgt := 720) (by rw [c18]; decide) (by rw [c18]; decide) (by rw [c18]; rfl) rfl ?_
    refine y_aload_n C dL_law_720 rfl ?_
    refine y_aload_n C dL_law_721 rfl ?_
    refine y_iload_n C dL_law_722 rfl ?_
    refine y_iconst C dL_law_723 kc_1 ?_
    refine y_iadd C dL_law_724 ?_
    obtain ⟨g170, h⟩ := gp h
    refine y_sld C hs g170 dL_law_725 ?_
    refine y_aload_n C dL_law_726 rfl ?_
    refine y_iload_n C dL_law_727 rfl ?_
    refine y_iconst C dL_law_728 kc_2 ?_
    refine y_iadd C dL_law_729 ?_
    obtain ⟨g171, h⟩ := gp h
    refine y_sld C hs g171 dL_law_730 ?_
    obtain ⟨g172, h⟩ := gd h
    obtain ⟨r173, hr173, h⟩ := ob h
    refine y_cV (st := []) C [.int (xs ((i + (1 : Int32))).toNatClampNeg), .int (xs ((i + (2 : Int32))).toNatClampNeg)] (m_X7_begin K M x ((xs ((i + (1 : Int32))).toNatClampNeg)) ((xs ((i + (2 : Int32))).toNatClampNeg))) hr173 g172 cw_L_83 rfl (by decide) ⟨rfl, rfl⟩ ⟨Nat.le_trans (Nat.le_add_right _ _) hk9, Nat.le_trans (Nat.le_add_right _ _) hn9⟩ (Nat.le_of_ble_eq_true rfl) rfl rfl rfl dL_law_731 ?_
    refine y_aload_n C dL_law_734 rfl ?_
    refine y_aload_n C dL_law_735 rfl ?_
    refine y_iload_n C dL_law_736 rfl ?_
    refine y_iconst C dL_law_737 kc_1 ?_
    refine y_iadd C dL_law_738 ?_
    refine y_sld C hs g170 dL_law_739 ?_
    refine y_aload_n C dL_law_740 rfl ?_
    refine y_iload_n C dL_law_741 rfl ?_
    refine y_iconst C dL_law_742 kc_2 ?_
    refine y_iadd C dL_law_743 ?_
    refine y_sld C hs g171 dL_law_744 ?_
    obtain ⟨g174, h⟩ := gd h
    obtain ⟨r175, hr175, h⟩ := ob h
    refine y_cV (st := [.int r173.1]) C [.int (xs ((i + (1 : Int32))).toNatClampNeg), .int (xs ((i + (2 : Int32))).toNatClampNeg)] (m_X8_begin K r173.2 z ((xs ((i + (1 : Int32))).toNatClampNeg)) ((xs ((i + (2 : Int32))).toNatClampNeg))) hr175 g174 cw_L_86 rfl (by decide) ⟨rfl, rfl⟩ ⟨Nat.le_trans (Nat.le_add_right _ _) hk9, Nat.le_trans (Nat.le_add_right _ _) hn9⟩ (Nat.le_of_ble_eq_true rfl) rfl rfl rfl dL_law_745 ?_
    refine y_icmp_eq C dL_law_748 (tgt := 1458) rfl (fun c176 => ?_) (fun c176 => ?_)
    · have h := itT c176 h
      obtain ⟨v177, ev177, h⟩ := ob h
      have ev177 := Option.some.inj ev177
      refine y_iinc C dL_law_1458 (by decide) rfl (v := v177) (by subst ev177; rfl) (L' := [(3, .int v177), (0, .ref 1000300), (1, .ref x), (2, .ref z)]) rfl ?_
      refine y_goto C dL_law_1461 (tgt := 18) rfl ?_
      have e0 := Option.some.inj h
      subst e0
      exact y_sel [0, 1, 2, 3] rfl (y_widen (k' := k9 + 3) (n' := n9 + 200) (by omega) (by omega) hX)
    · have h := itF c176 h
      refine y_iconst C dL_law_751 kc_0 ?_
      cases h
  replace h := itF c18 h
  rcases Classical.em (((xs (i).toNatClampNeg) &&& (63 : Int32)) = (17 : Int32)) with c19 | c19
  · have h := itT c19 h
    refine y_tabIn C dL_law_33 (off := 720) (tgt := 753) (by rw [c19]; decide) (by rw [c19]; decide) (by rw [c19]; rfl) rfl ?_
    refine y_aload_n C dL_law_753 rfl ?_
    refine y_aload_n C dL_law_754 rfl ?_
    refine y_iload_n C dL_law_755 rfl ?_
    refine y_iconst C dL_law_756 kc_1 ?_
    refine y_iadd C dL_law_757 ?_
    obtain ⟨g178, h⟩ := gp h
    refine y_sld C hs g178 dL_law_758 ?_
    refine y_aload_n C dL_law_759 rfl ?_
    refine y_iload_n C dL_law_760 rfl ?_
    refine y_iconst C dL_law_761 kc_2 ?_
    refine y_iadd C dL_law_762 ?_
    obtain ⟨g179, h⟩ := gp h
    refine y_sld C hs g179 dL_law_763 ?_
    obtain ⟨g180, h⟩ := gd h
    obtain ⟨r181, hr181, h⟩ := ob h
    refine y_cV (st := []) C [.int (xs ((i + (1 : Int32))).toNatClampNeg), .int (xs ((i + (2 : Int32))).toNatClampNeg)] (m_X7_lobby K M x ((xs ((i + (1 : Int32))).toNatClampNeg)) ((xs ((i + (2 : Int32))).toNatClampNeg))) hr181 g180 cw_L_87 rfl (by decide) ⟨rfl, rfl⟩ ⟨Nat.le_trans (Nat.le_add_right _ _) hk9, Nat.le_trans (Nat.le_add_right _ _) hn9⟩ (Nat.le_of_ble_eq_true rfl) rfl rfl rfl dL_law_764 ?_
    refine y_aload_n C dL_law_767 rfl ?_
    refine y_aload_n C dL_law_768 rfl ?_
    refine y_iload_n C dL_law_769 rfl ?_
    refine y_iconst C dL_law_770 kc_1 ?_
    refine y_iadd C dL_law_771 ?_
    refine y_sld C hs g178 dL_law_772 ?_
    refine y_aload_n C dL_law_773 rfl ?_
    refine y_iload_n C dL_law_774 rfl ?_
    refine y_iconst C dL_law_775 kc_2 ?_
    refine y_iadd C dL_law_776 ?_
    refine y_sld C hs g179 dL_law_777 ?_
    obtain ⟨g182, h⟩ := gd h
    obtain ⟨r183, hr183, h⟩ := ob h
    refine y_cV (st := [.int r181.1]) C [.int (xs ((i + (1 : Int32))).toNatClampNeg), .int (xs ((i + (2 : Int32))).toNatClampNeg)] (m_X8_lobby K r181.2 z ((xs ((i + (1 : Int32))).toNatClampNeg)) ((xs ((i + (2 : Int32))).toNatClampNeg))) hr183 g182 cw_L_90 rfl (by decide) ⟨rfl, rfl⟩ ⟨Nat.le_trans (Nat.le_add_right _ _) hk9, Nat.le_trans (Nat.le_add_right _ _) hn9⟩ (Nat.le_of_ble_eq_true rfl) rfl rfl rfl dL_law_778 ?_
    refine y_icmp_eq C dL_law_781 (tgt := 1458) rfl (fun c184 => ?_) (fun c184 => ?_)
    · have h := itT c184 h
      obtain ⟨v185, ev185, h⟩ := ob h
      have ev185 := Option.some.inj ev185
      refine y_iinc C dL_law_1458 (by decide) rfl (v := v185) (by subst ev185; rfl) (L' := [(3, .int v185), (0, .ref 1000300), (1, .ref x), (2, .ref z)]) rfl ?_
      refine y_goto C dL_law_1461 (tgt := 18) rfl ?_
      have e0 := Option.some.inj h
      subst e0
      exact y_sel [0, 1, 2, 3] rfl (y_widen (k' := k9 + 3) (n' := n9 + 200) (by omega) (by omega) hX)
    · have h := itF c184 h
      refine y_iconst C dL_law_784 kc_0 ?_
      cases h
  replace h := itF c19 h
  rcases Classical.em (((xs (i).toNatClampNeg) &&& (63 : Int32)) = (18 : Int32)) with c20 | c20
  · have h := itT c20 h
    refine y_tabIn C dL_law_33 (off := 753) (tgt := 786) (by rw [c20]; decide) (by rw [c20]; decide) (by rw [c20]; rfl) rfl ?_
    refine y_aload_n C dL_law_786 rfl ?_
    refine y_aload_n C dL_law_787 rfl ?_
    refine y_iload_n C dL_law_788 rfl ?_
    refine y_iconst C dL_law_789 kc_1 ?_
    refine y_iadd C dL_law_790 ?_
    obtain ⟨g186, h⟩ := gp h
    refine y_sld C hs g186 dL_law_791 ?_
    refine y_aload_n C dL_law_792 rfl ?_
    refine y_iload_n C dL_law_793 rfl ?_
    refine y_iconst C dL_law_794 kc_2 ?_
    refine y_iadd C dL_law_795 ?_
    obtain ⟨g187, h⟩ := gp h
    refine y_sld C hs g187 dL_law_796 ?_
    obtain ⟨g188, h⟩ := gd h
    obtain ⟨r189, hr189, h⟩ := ob h
    refine y_cV (st := []) C [.int (xs ((i + (1 : Int32))).toNatClampNeg), .int (xs ((i + (2 : Int32))).toNatClampNeg)] (m_X7_soup K M x ((xs ((i + (1 : Int32))).toNatClampNeg)) ((xs ((i + (2 : Int32))).toNatClampNeg))) hr189 g188 cw_L_91 rfl (by decide) ⟨rfl, rfl⟩ ⟨Nat.le_trans (Nat.le_add_right _ _) hk9, Nat.le_trans (Nat.le_add_right _ _) hn9⟩ (Nat.le_of_ble_eq_true rfl) rfl rfl rfl dL_law_797 ?_
    refine y_aload_n C dL_law_800 rfl ?_
    refine y_aload_n C dL_law_801 rfl ?_
    refine y_iload_n C dL_law_802 rfl ?_
    refine y_iconst C dL_law_803 kc_1 ?_
    refine y_iadd C dL_law_804 ?_
    refine y_sld C hs g186 dL_law_805 ?_
    refine y_aload_n C dL_law_806 rfl ?_
    refine y_iload_n C dL_law_807 rfl ?_
    refine y_iconst C dL_law_808 kc_2 ?_
    refine y_iadd C dL_law_809 ?_
    refine y_sld C hs g187 dL_law_810 ?_
    obtain ⟨g190, h⟩ := gd h
    obtain ⟨r191, hr191, h⟩ := ob h
    refine y_cV (st := [.int r189.1]) C [.int (xs ((i + (1 : Int32))).toNatClampNeg), .int (xs ((i + (2 : Int32))).toNatClampNeg)] (m_X8_soup K r189.2 z ((xs ((i + (1 : Int32))).toNatClampNeg)) ((xs ((i + (2 : Int32))).toNatClampNeg))) hr191 g190 cw_L_94 rfl (by decide) ⟨rfl, rfl⟩ ⟨Nat.le_trans (Nat.le_add_right _ _) hk9, Nat.le_trans (Nat.le_add_right _ _) hn9⟩ (Nat.le_of_ble_eq_true rfl) rfl rfl rfl dL_law_811 ?_
    refine y_icmp_eq C dL_law_814 (tgt := 1458) rfl (fun c192 => ?_) (fun c192 => ?_)
    · have h := itT c192 h
      obtain ⟨v193, ev193, h⟩ := ob h
      have ev193 := Option.some.inj ev193
      refine y_iinc C dL_law_1458 (by decide) rfl (v := v193) (by subst ev193; rfl) (L' := [(3, .int v193), (0, .ref 1000300), (1, .ref x), (2, .ref z)]) rfl ?_
      refine y_goto C dL_law_1461 (tgt := 18) rfl ?_
      have e0 := Option.some.inj h
      subst e0
      exact y_sel [0, 1, 2, 3] rfl (y_widen (k' := k9 + 3) (n' := n9 + 200) (by omega) (by omega) hX)
    · have h := itF c192 h
      refine y_iconst C dL_law_817 kc_0 ?_
      cases h
  replace h := itF c20 h
  rcases Classical.em (((xs (i).toNatClampNeg) &&& (63 : Int32)) = (19 : Int32)) with c21 | c21
  · have h := itT c21 h
    refine y_tabIn C dL_law_33 (off := 786) (tgt := 819) (by rw [c21]; decide) (by rw [c21]; decide) (by rw [c21]; rfl) rfl ?_
    refine y_aload_n C dL_law_819 rfl ?_
    refine y_aload_n C dL_law_820 rfl ?_
    refine y_iload_n C dL_law_821 rfl ?_
    refine y_iconst C dL_law_822 kc_1 ?_
    refine y_iadd C dL_law_823 ?_
    obtain ⟨g194, h⟩ := gp h
    refine y_sld C hs g194 dL_law_824 ?_
    refine y_aload_n C dL_law_825 rfl ?_
    refine y_iload_n C dL_law_826 rfl ?_
    refine y_iconst C dL_law_827 kc_2 ?_
    refine y_iadd C dL_law_828 ?_
    obtain ⟨g195, h⟩ := gp h
    refine y_sld C hs g195 dL_law_829 ?_
    refine y_aload_n C dL_law_830 rfl ?_
    refine y_iload_n C dL_law_831 rfl ?_
    refine y_iconst C dL_law_832 kc_3 ?_
    refine y_iadd C dL_law_833 ?_
    obtain ⟨g196, h⟩ := gp h
    refine y_sld C hs g196 dL_law_834 ?_
    obtain ⟨g197, h⟩ := gd h
    obtain ⟨r198, hr198, h⟩ := ob h
    refine y_cV (st := []) C [.int (xs ((i + (1 : Int32))).toNatClampNeg), .int (xs ((i + (2 : Int32))).toNatClampNeg), .int (xs ((i + (3 : Int32))).toNatClampNeg)] (m_X7_road K M x ((xs ((i + (1 : Int32))).toNatClampNeg)) ((xs ((i + (2 : Int32))).toNatClampNeg)) ((xs ((i + (3 : Int32))).toNatClampNeg))) hr198 g197 cw_L_95 rfl (by decide) ⟨rfl, rfl⟩ ⟨Nat.le_trans (Nat.le_add_right _ _) hk9, Nat.le_trans (Nat.le_add_right _ _) hn9⟩ (Nat.le_of_ble_eq_true rfl) rfl rfl rfl dL_law_835 ?_
    refine y_aload_n C dL_law_838 rfl ?_
    refine y_aload_n C dL_law_839 rfl ?_
    refine y_iload_n C dL_law_840 rfl ?_
    refine y_iconst C dL_law_841 kc_1 ?_
    refine y_iadd C dL_law_842 ?_
    refine y_sld C hs g194 dL_law_843 ?_
    refine y_aload_n C dL_law_844 rfl ?_
    refine y_iload_n C dL_law_845 rfl ?_
    refine y_iconst C dL_law_846 kc_2 ?_
    refine y_iadd C dL_law_847 ?_
    refine y_sld C hs g195 dL_law_848 ?_
    refine y_aload_n C dL_law_849 rfl ?_
    refine y_iload_n C dL_law_850 rfl ?_
    refine y_iconst C dL_law_851 kc_3 ?_
    refine y_iadd C dL_law_852 ?_
    refine y_sld C hs g196 dL_law_853 ?_
    obtain ⟨g199, h⟩ := gd h
    obtain ⟨r200, hr200, h⟩ := ob h
    refine y_cV (st := [.int r198.1]) C [.int (xs ((i + (1 : Int32))).toNatClampNeg), .int (xs ((i + (2 : Int32))).toNatClampNeg), .int (xs ((i + (3 : Int32))).toNatClampNeg)] (m_X8_road K r198.2 z ((xs ((i + (1 : Int32))).toNatClampNeg)) ((xs ((i + (2 : Int32))).toNatClampNeg)) ((xs ((i + (3 : Int32))).toNatClampNeg))) hr200 g199 cw_L_98 rfl (by decide) ⟨rfl, rfl⟩ ⟨Nat.le_trans (Nat.le_add_right _ _) hk9, Nat.le_trans (Nat.le_add_right _ _) hn9⟩ (Nat.le_of_ble_eq_true rfl) rfl rfl rfl dL_law_854 ?_
    refine y_icmp_eq C dL_law_857 (tgt := 1458) rfl (fun c201 => ?_) (fun c201 => ?_)
    · have h := itT c201 h
      obtain ⟨v202, ev202, h⟩ := ob h
      have ev202 := Option.some.inj ev202
      refine y_iinc C dL_law_1458 (by decide) rfl (v := v202) (by subst ev202; rfl) (L' := [(3, .int v202), (0, .ref 1000300), (1, .ref x), (2, .ref z)]) rfl ?_
      refine y_goto C dL_law_1461 (tgt := 18) rfl ?_
      have e0 := Option.some.inj h
      subst e0
      exact y_sel [0, 1, 2, 3] rfl (y_widen (k' := k9 + 3) (n' := n9 + 200) (by omega) (by omega) hX)
    · have h := itF c201 h
      refine y_iconst C dL_law_860 kc_0 ?_
      cases h
  replace h := itF c21 h
  rcases Classical.em (((xs (i).toNatClampNeg) &&& (63 : Int32)) = (20 : Int32)) with c22 | c22
  · have h := itT c22 h
    refine y_tabIn C dL_law_33 (off := 829) (tgt := 862) (by rw [c22]; decide) (by rw [c22]; decide) (by rw [c22]; rfl) rfl ?_
    refine y_aload_n C dL_law_862 rfl ?_
    refine y_aload_n C dL_law_863 rfl ?_
    refine y_iload_n C dL_law_864 rfl ?_
    refine y_iconst C dL_law_865 kc_1 ?_
    refine y_iadd C dL_law_866 ?_
    obtain ⟨g203, h⟩ := gp h
    refine y_sld C hs g203 dL_law_867 ?_
    obtain ⟨g204, h⟩ := gd h
    obtain ⟨r205, hr205, h⟩ := ob h
    refine y_cV (st := []) C [.int (xs ((i + (1 : Int32))).toNatClampNeg)] (m_X7_chain K M x ((xs ((i + (1 : Int32))).toNatClampNeg))) hr205 g204 cw_L_99 rfl (by decide) ⟨rfl, rfl⟩ ⟨Nat.le_trans (Nat.le_add_right _ _) hk9, Nat.le_trans (Nat.le_add_right _ _) hn9⟩ (Nat.le_of_ble_eq_true rfl) rfl rfl rfl dL_law_868 ?_
    refine y_aload_n C dL_law_871 rfl ?_
    refine y_aload_n C dL_law_872 rfl ?_
    refine y_iload_n C dL_law_873 rfl ?_
    refine y_iconst C dL_law_874 kc_1 ?_
    refine y_iadd C dL_law_875 ?_
    refine y_sld C hs g203 dL_law_876 ?_
    obtain ⟨g206, h⟩ := gd h
    obtain ⟨r207, hr207, h⟩ := ob h
    refine y_cV (st := [.int r205]) C [.int (xs ((i + (1 : Int32))).toNatClampNeg)] (m_X8_chain K M z ((xs ((i + (1 : Int32))).toNatClampNeg))) hr207 g206 cw_L_102 rfl (by decide) ⟨rfl, rfl⟩ ⟨Nat.le_trans (Nat.le_add_right _ _) hk9, Nat.le_trans (Nat.le_add_right _ _) hn9⟩ (Nat.le_of_ble_eq_true rfl) rfl rfl rfl dL_law_877 ?_
    refine y_icmp_eq C dL_law_880 (tgt := 1458) rfl (fun c208 => ?_) (fun c208 => ?_)
    · have h := itT c208 h
      obtain ⟨v209, ev209, h⟩ := ob h
      have ev209 := Option.some.inj ev209
      refine y_iinc C dL_law_1458 (by decide) rfl (v := v209) (by subst ev209; rfl) (L' := [(3, .int v209), (0, .ref 1000300), (1, .ref x), (2, .ref z)]) rfl ?_
      refine y_goto C dL_law_1461 (tgt := 18) rfl ?_
      have e0 := Option.some.inj h
      subst e0
      exact y_sel [0, 1, 2, 3] rfl (y_widen (k' := k9 + 3) (n' := n9 + 200) (by omega) (by omega) hX)
    · have h := itF c208 h
      refine y_iconst C dL_law_883 kc_0 ?_
      cases h
  replace h := itF c22 h
  rcases Classical.em (((xs (i).toNatClampNeg) &&& (63 : Int32)) = (21 : Int32)) with c23 | c23
  · have h := itT c23 h
    refine y_tabIn C dL_law_33 (off := 852) (tgt := 885) (by rw [c23]; decide) (by rw [c23]; decide) (by rw [c23]; rfl) rfl ?_
    refine y_aload_n C dL_law_885 rfl ?_
    obtain ⟨g210, h⟩ := gd h
    obtain ⟨r211, hr211, h⟩ := ob h
    refine y_cV (st := []) C [] (m_X7_rings K M x) hr211 g210 cw_L_103 rfl (by decide) ⟨rfl, rfl⟩ ⟨Nat.le_trans (Nat.le_add_right _ _) hk9, Nat.le_trans (Nat.le_add_right _ _) hn9⟩ (Nat.le_of_ble_eq_true rfl) rfl rfl rfl dL_law_886 ?_
    refine y_aload_n C dL_law_889 rfl ?_
    obtain ⟨g212, h⟩ := gd h
    obtain ⟨r213, hr213, h⟩ := ob h
    refine y_cV (st := [.int r211]) C [] (m_X8_rings K M z) hr213 g212 cw_L_106 rfl (by decide) ⟨rfl, rfl⟩ ⟨Nat.le_trans (Nat.le_add_right _ _) hk9, Nat.le_trans (Nat.le_add_right _ _) hn9⟩ (Nat.le_of_ble_eq_true rfl) rfl rfl rfl dL_law_890 ?_
    refine y_icmp_eq C dL_law_893 (tgt := 1458) rfl (fun c214 => ?_) (fun c214 => ?_)
    · have h := itT c214 h
      obtain ⟨v215, ev215, h⟩ := ob h
      have ev215 := Option.some.inj ev215
      refine y_iinc C dL_law_1458 (by decide) rfl (v := v215) (by subst ev215; rfl) (L' := [(3, .int v215), (0, .ref 1000300), (1, .ref x), (2, .ref z)]) rfl ?_
      refine y_goto C dL_law_1461 (tgt := 18) rfl ?_
      have e0 := Option.some.inj h
      subst e0
      exact y_sel [0, 1, 2, 3] rfl (y_widen (k' := k9 + 3) (n' := n9 + 200) (by omega) (by omega) hX)
    · have h := itF c214 h
      refine y_iconst C dL_law_896 kc_0 ?_
      cases h
  replace h := itF c23 h
  rcases Classical.em (((xs (i).toNatClampNeg) &&& (63 : Int32)) = (22 : Int32)) with c24 | c24
  · have h := itT c24 h
    refine y_tabIn C dL_law_33 (off := 865) (tgt := 898) (by rw [c24]; decide) (by rw [c24]; decide) (by rw [c24]; rfl) rfl ?_
    refine y_aload_n C dL_law_898 rfl ?_
    refine y_aload_n C dL_law_899 rfl ?_
    refine y_iload_n C dL_law_900 rfl ?_
    refine y_iconst C dL_law_901 kc_1 ?_
    refine y_iadd C dL_law_902 ?_
    obtain ⟨g216, h⟩ := gp h
    refine y_sld C hs g216 dL_law_903 ?_
    obtain ⟨g217, h⟩ := gd h
    obtain ⟨r218, hr218, h⟩ := ob h
    refine y_cV (st := []) C [.int (xs ((i + (1 : Int32))).toNatClampNeg)] (m_X7_longest K M x ((xs ((i + (1 : Int32))).toNatClampNeg))) hr218 g217 cw_L_107 rfl (by decide) ⟨rfl, rfl⟩ ⟨Nat.le_trans (Nat.le_add_right _ _) hk9, Nat.le_trans (Nat.le_add_right _ _) hn9⟩ (Nat.le_of_ble_eq_true rfl) rfl rfl rfl dL_law_904 ?_
    refine y_aload_n C dL_law_907 rfl ?_
    refine y_aload_n C dL_law_908 rfl ?_
    refine y_iload_n C dL_law_909 rfl ?_
    refine y_iconst C dL_law_910 kc_1 ?_
    refine y_iadd C dL_law_911 ?_
    refine y_sld C hs g216 dL_law_912 ?_
    obtain ⟨g219, h⟩ := gd h
    obtain ⟨r220, hr220, h⟩ := ob h
    refine y_cV (st := [.int r218]) C [.int (xs ((i + (1 : Int32))).toNatClampNeg)] (m_X8_longest K M z ((xs ((i + (1 : Int32))).toNatClampNeg))) hr220 g219 cw_L_110 rfl (by decide) ⟨rfl, rfl⟩ ⟨Nat.le_trans (Nat.le_add_right _ _) hk9, Nat.le_trans (Nat.le_add_right _ _) hn9⟩ (Nat.le_of_ble_eq_true rfl) rfl rfl rfl dL_law_913 ?_
    refine y_icmp_eq C dL_law_916 (tgt := 1458) rfl (fun c221 => ?_) (fun c221 => ?_)
    · have h := itT c221 h
      obtain ⟨v222, ev222, h⟩ := ob h
      have ev222 := Option.some.inj ev222
      refine y_iinc C dL_law_1458 (by decide) rfl (v := v222) (by subst ev222; rfl) (L' := [(3, .int v222), (0, .ref 1000300), (1, .ref x), (2, .ref z)]) rfl ?_
      refine y_goto C dL_law_1461 (tgt := 18) rfl ?_
      have e0 := Option.some.inj h
      subst e0
      exact y_sel [0, 1, 2, 3] rfl (y_widen (k' := k9 + 3) (n' := n9 + 200) (by omega) (by omega) hX)
    · have h := itF c221 h
      refine y_iconst C dL_law_919 kc_0 ?_
      cases h
  replace h := itF c24 h
  rcases Classical.em (((xs (i).toNatClampNeg) &&& (63 : Int32)) = (23 : Int32)) with c25 | c25
  · have h := itT c25 h
    refine y_tabIn C dL_law_33 (off := 888) (tgt := 921) (by rw [c25]; decide) (by rw [c25]; decide) (by rw [c25]; rfl) rfl ?_
    refine y_aload_n C dL_law_921 rfl ?_
    refine y_aload_n C dL_law_922 rfl ?_
    refine y_iload_n C dL_law_923 rfl ?_
    refine y_iconst C dL_law_924 kc_1 ?_
    refine y_iadd C dL_law_925 ?_
    obtain ⟨g223, h⟩ := gp h
    refine y_sld C hs g223 dL_law_926 ?_
    obtain ⟨g224, h⟩ := gd h
    obtain ⟨r225, hr225, h⟩ := ob h
    refine y_cV (st := []) C [.int (xs ((i + (1 : Int32))).toNatClampNeg)] (m_X7_judge K M x ((xs ((i + (1 : Int32))).toNatClampNeg))) hr225 g224 cw_L_111 rfl (by decide) ⟨rfl, rfl⟩ ⟨Nat.le_trans (Nat.le_add_right _ _) hk9, Nat.le_trans (Nat.le_add_right _ _) hn9⟩ (Nat.le_of_ble_eq_true rfl) rfl rfl rfl dL_law_927 ?_
    refine y_aload_n C dL_law_930 rfl ?_
    refine y_aload_n C dL_law_931 rfl ?_
    refine y_iload_n C dL_law_932 rfl ?_
    refine y_iconst C dL_law_933 kc_1 ?_
    refine y_iadd C dL_law_934 ?_
    refine y_sld C hs g223 dL_law_935 ?_
    obtain ⟨g226, h⟩ := gd h
    obtain ⟨r227, hr227, h⟩ := ob h
    refine y_cV (st := [.int r225.1]) C [.int (xs ((i + (1 : Int32))).toNatClampNeg)] (m_X8_judge K r225.2 z ((xs ((i + (1 : Int32))).toNatClampNeg))) hr227 g226 cw_L_114 rfl (by decide) ⟨rfl, rfl⟩ ⟨Nat.le_trans (Nat.le_add_right _ _) hk9, Nat.le_trans (Nat.le_add_right _ _) hn9⟩ (Nat.le_of_ble_eq_true rfl) rfl rfl rfl dL_law_936 ?_
    refine y_icmp_eq C dL_law_939 (tgt := 1458) rfl (fun c228 => ?_) (fun c228 => ?_)
    · have h := itT c228 h
      obtain ⟨v229, ev229, h⟩ := ob h
      have ev229 := Option.some.inj ev229
      refine y_iinc C dL_law_1458 (by decide) rfl (v := v229) (by subst ev229; rfl) (L' := [(3, .int v229), (0, .ref 1000300), (1, .ref x), (2, .ref z)]) rfl ?_
      refine y_goto C dL_law_1461 (tgt := 18) rfl ?_
      have e0 := Option.some.inj h
      subst e0
      exact y_sel [0, 1, 2, 3] rfl (y_widen (k' := k9 + 3) (n' := n9 + 200) (by omega) (by omega) hX)
    · have h := itF c228 h
      refine y_iconst C dL_law_942 kc_0 ?_
      cases h
  replace h := itF c25 h
  rcases Classical.em (((xs (i).toNatClampNeg) &&& (63 : Int32)) = (24 : Int32)) with c26 | c26
  · have h := itT c26 h
    refine y_tabIn C dL_law_33 (off := 911) (tgt := 944) (by rw [c26]; decide) (by rw [c26]; decide) (by rw [c26]; rfl) rfl ?_
    refine y_aload_n C dL_law_944 rfl ?_
    refine y_aload_n C dL_law_945 rfl ?_
    refine y_iload_n C dL_law_946 rfl ?_
    refine y_iconst C dL_law_947 kc_1 ?_
    refine y_iadd C dL_law_948 ?_
    obtain ⟨g230, h⟩ := gp h
    refine y_sld C hs g230 dL_law_949 ?_
    obtain ⟨g231, h⟩ := gd h
    obtain ⟨r232, hr232, h⟩ := ob h
    refine y_cV (st := []) C [.int (xs ((i + (1 : Int32))).toNatClampNeg)] (m_X7_begins K M x ((xs ((i + (1 : Int32))).toNatClampNeg))) hr232 g231 cw_L_115 rfl (by decide) ⟨rfl, rfl⟩ ⟨Nat.le_trans (Nat.le_add_right _ _) hk9, Nat.le_trans (Nat.le_add_right _ _) hn9⟩ (Nat.le_of_ble_eq_true rfl) rfl rfl rfl dL_law_950 ?_
    refine y_aload_n C dL_law_953 rfl ?_
    refine y_aload_n C dL_law_954 rfl ?_
    refine y_iload_n C dL_law_955 rfl ?_
    refine y_iconst C dL_law_956 kc_1 ?_
    refine y_iadd C dL_law_957 ?_
    refine y_sld C hs g230 dL_law_958 ?_
    obtain ⟨g233, h⟩ := gd h
    obtain ⟨r234, hr234, h⟩ := ob h
    refine y_cV (st := [.int r232.1]) C [.int (xs ((i + (1 : Int32))).toNatClampNeg)] (m_X8_begins K r232.2 z ((xs ((i + (1 : Int32))).toNatClampNeg))) hr234 g233 cw_L_118 rfl (by decide) ⟨rfl, rfl⟩ ⟨Nat.le_trans (Nat.le_add_right _ _) hk9, Nat.le_trans (Nat.le_add_right _ _) hn9⟩ (Nat.le_of_ble_eq_true rfl) rfl rfl rfl dL_law_959 ?_
    refine y_icmp_eq C dL_law_962 (tgt := 1458) rfl (fun c235 => ?_) (fun c235 => ?_)
    · have h := itT c235 h
      obtain ⟨v236, ev236, h⟩ := ob h
      have ev236 := Option.some.inj ev236
      refine y_iinc C dL_law_1458 (by decide) rfl (v := v236) (by subst ev236; rfl) (L' := [(3, .int v236), (0, .ref 1000300), (1, .ref x), (2, .ref z)]) rfl ?_
      refine y_goto C dL_law_1461 (tgt := 18) rfl ?_
      have e0 := Option.some.inj h
      subst e0
      exact y_sel [0, 1, 2, 3] rfl (y_widen (k' := k9 + 3) (n' := n9 + 200) (by omega) (by omega) hX)
    · have h := itF c235 h
      refine y_iconst C dL_law_965 kc_0 ?_
      cases h
  replace h := itF c26 h
  rcases Classical.em (((xs (i).toNatClampNeg) &&& (63 : Int32)) = (25 : Int32)) with c27 | c27
  · have h := itT c27 h
    refine y_tabIn C dL_law_33 (off := 934) (tgt := 967) (by rw [c27]; decide) (by rw [c27]; decide) (by rw [c27]; rfl) rfl ?_
    refine y_aload_n C dL_law_967 rfl ?_
    refine y_aload_n C dL_law_968 rfl ?_
    refine y_iload_n C dL_law_969 rfl ?_
    refine y_iconst C dL_law_970 kc_1 ?_
    refine y_iadd C dL_law_971 ?_
    obtain ⟨g237, h⟩ := gp h
    refine y_sld C hs g237 dL_law_972 ?_
    refine y_aload_n C dL_law_973 rfl ?_
    refine y_iload_n C dL_law_974 rfl ?_
    refine y_iconst C dL_law_975 kc_2 ?_
    refine y_iadd C dL_law_976 ?_
    obtain ⟨g238, h⟩ := gp h
    refine y_sld C hs g238 dL_law_977 ?_
    refine y_aload_n C dL_law_978 rfl ?_
    refine y_iload_n C dL_law_979 rfl ?_
    refine y_iconst C dL_law_980 kc_3 ?_
    refine y_iadd C dL_law_981 ?_
    obtain ⟨g239, h⟩ := gp h
    refine y_sld C hs g239 dL_law_982 ?_
    obtain ⟨g240, h⟩ := gd h
    obtain ⟨r241, hr241, h⟩ := ob h
    refine y_cV (st := []) C [.int (xs ((i + (1 : Int32))).toNatClampNeg), .int (xs ((i + (2 : Int32))).toNatClampNeg), .int (xs ((i + (3 : Int32))).toNatClampNeg)] (m_X7_kinds K M x ((xs ((i + (1 : Int32))).toNatClampNeg)) ((xs ((i + (2 : Int32))).toNatClampNeg)) ((xs ((i + (3 : Int32))).toNatClampNeg))) hr241 g240 cw_L_119 rfl (by decide) ⟨rfl, rfl⟩ ⟨Nat.le_trans (Nat.le_add_right _ _) hk9, Nat.le_trans (Nat.le_add_right _ _) hn9⟩ (Nat.le_of_ble_eq_true rfl) rfl rfl rfl dL_law_983 ?_
    refine y_aload_n C dL_law_986 rfl ?_
    refine y_aload_n C dL_law_987 rfl ?_
    refine y_iload_n C dL_law_988 rfl ?_
    refine y_iconst C dL_law_989 kc_1 ?_
    refine y_iadd C dL_law_990 ?_
    refine y_sld C hs g237 dL_law_991 ?_
    refine y_aload_n C dL_law_992 rfl ?_
    refine y_iload_n C dL_law_993 rfl ?_
    refine y_iconst C dL_law_994 kc_2 ?_
    refine y_iadd C dL_law_995 ?_
    refine y_sld C hs g238 dL_law_996 ?_
    refine y_aload_n C dL_law_997 rfl ?_
    refine y_iload_n C dL_law_998 rfl ?_
    refine y_iconst C dL_law_999 kc_3 ?_
    refine y_iadd C dL_law_1000 ?_
    refine y_sld C hs g239 dL_law_1001 ?_
    obtain ⟨g242, h⟩ := gd h
    obtain ⟨r243, hr243, h⟩ := ob h
    refine y_cV (st := [.int r241.1]) C [.int (xs ((i + (1 : Int32))).toNatClampNeg), .int (xs ((i + (2 : Int32))).toNatClampNeg), .int (xs ((i + (3 : Int32))).toNatClampNeg)] (m_X8_kinds K r241.2 z ((xs ((i + (1 : Int32))).toNatClampNeg)) ((xs ((i + (2 : Int32))).toNatClampNeg)) ((xs ((i + (3 : Int32))).toNatClampNeg))) hr243 g242 cw_L_122 rfl (by decide) ⟨rfl, rfl⟩ ⟨Nat.le_trans (Nat.le_add_right _ _) hk9, Nat.le_trans (Nat.le_add_right _ _) hn9⟩ (Nat.le_of_ble_eq_true rfl) rfl rfl rfl dL_law_1002 ?_
    refine y_icmp_eq C dL_law_1005 (tgt := 1458) rfl (fun c244 => ?_) (fun c244 => ?_)
    · have h := itT c244 h
      obtain ⟨v245, ev245, h⟩ := ob h
      have ev245 := Option.some.inj ev245
      refine y_iinc C dL_law_1458 (by decide) rfl (v := v245) (by subst ev245; rfl) (L' := [(3, .int v245), (0, .ref 1000300), (1, .ref x), (2, .ref z)]) rfl ?_
      refine y_goto C dL_law_1461 (tgt := 18) rfl ?_
      have e0 := Option.some.inj h
      subst e0
      exact y_sel [0, 1, 2, 3] rfl (y_widen (k' := k9 + 3) (n' := n9 + 200) (by omega) (by omega) hX)
    · have h := itF c244 h
      refine y_iconst C dL_law_1008 kc_0 ?_
      cases h
  replace h := itF c27 h
  rcases Classical.em (((xs (i).toNatClampNeg) &&& (63 : Int32)) = (26 : Int32)) with c28 | c28
  · have h := itT c28 h
    refine y_tabIn C dL_law_33 (off := 977) (tgt := 1010) (by rw [c28]; decide) (by rw [c28]; decide) (by rw [c28]; rfl) rfl ?_
    refine y_aload_n C dL_law_1010 rfl ?_
    refine y_aload_n C dL_law_1011 rfl ?_
    refine y_iload_n C dL_law_1012 rfl ?_
    refine y_iconst C dL_law_1013 kc_1 ?_
    refine y_iadd C dL_law_1014 ?_
    obtain ⟨g246, h⟩ := gp h
    refine y_sld C hs g246 dL_law_1015 ?_
    obtain ⟨g247, h⟩ := gd h
    obtain ⟨r248, hr248, h⟩ := ob h
    refine y_cV (st := []) C [.int (xs ((i + (1 : Int32))).toNatClampNeg)] (m_X7_skipped K M x ((xs ((i + (1 : Int32))).toNatClampNeg))) hr248 g247 cw_L_123 rfl (by decide) ⟨rfl, rfl⟩ ⟨Nat.le_trans (Nat.le_add_right _ _) hk9, Nat.le_trans (Nat.le_add_right _ _) hn9⟩ (Nat.le_of_ble_eq_true rfl) rfl rfl rfl dL_law_1016 ?_
    refine y_aload_n C dL_law_1019 rfl ?_
    refine y_aload_n C dL_law_1020 rfl ?_
    refine y_iload_n C dL_law_1021 rfl ?_
    refine y_iconst C dL_law_1022 kc_1 ?_
    refine y_iadd C dL_law_1023 ?_
    refine y_sld C hs g246 dL_law_1024 ?_
    obtain ⟨g249, h⟩ := gd h
    obtain ⟨r250, hr250, h⟩ := ob h
    refine y_cV (st := [.int r248.1]) C [.int (xs ((i + (1 : Int32))).toNatClampNeg)] (m_X8_skipped K r248.2 z ((xs ((i + (1 : Int32))).toNatClampNeg))) hr250 g249 cw_L_126 rfl (by decide) ⟨rfl, rfl⟩ ⟨Nat.le_trans (Nat.le_add_right _ _) hk9, Nat.le_trans (Nat.le_add_right _ _) hn9⟩ (Nat.le_of_ble_eq_true rfl) rfl rfl rfl dL_law_1025 ?_
    refine y_icmp_eq C dL_law_1028 (tgt := 1458) rfl (fun c251 => ?_) (fun c251 => ?_)
    · have h := itT c251 h
      obtain ⟨v252, ev252, h⟩ := ob h
      have ev252 := Option.some.inj ev252
      refine y_iinc C dL_law_1458 (by decide) rfl (v := v252) (by subst ev252; rfl) (L' := [(3, .int v252), (0, .ref 1000300), (1, .ref x), (2, .ref z)]) rfl ?_
      refine y_goto C dL_law_1461 (tgt := 18) rfl ?_
      have e0 := Option.some.inj h
      subst e0
      exact y_sel [0, 1, 2, 3] rfl (y_widen (k' := k9 + 3) (n' := n9 + 200) (by omega) (by omega) hX)
    · have h := itF c251 h
      refine y_iconst C dL_law_1031 kc_0 ?_
      cases h
  replace h := itF c28 h
  rcases Classical.em (((xs (i).toNatClampNeg) &&& (63 : Int32)) = (27 : Int32)) with c29 | c29
  · have h := itT c29 h
    refine y_tabIn C dL_law_33 (off := 1000) (tgt := 1033) (by rw [c29]; decide) (by rw [c29]; decide) (by rw [c29]; rfl) rfl ?_
    refine y_aload_n C dL_law_1033 rfl ?_
    refine y_aload_n C dL_law_1034 rfl ?_
    refine y_iload_n C dL_law_1035 rfl ?_
    refine y_iconst C dL_law_1036 kc_1 ?_
    refine y_iadd C dL_law_1037 ?_
    obtain ⟨g253, h⟩ := gp h
    refine y_sld C hs g253 dL_law_1038 ?_
    obtain ⟨g254, h⟩ := gd h
    obtain ⟨r255, hr255, h⟩ := ob h
    refine y_cV (st := []) C [.int (xs ((i + (1 : Int32))).toNatClampNeg)] (m_X7_laws K M x ((xs ((i + (1 : Int32))).toNatClampNeg))) hr255 g254 cw_L_127 rfl (by decide) ⟨rfl, rfl⟩ ⟨Nat.le_trans (Nat.le_add_right _ _) hk9, Nat.le_trans (Nat.le_add_right _ _) hn9⟩ (Nat.le_of_ble_eq_true rfl) rfl rfl rfl dL_law_1039 ?_
    refine y_aload_n C dL_law_1042 rfl ?_
    refine y_aload_n C dL_law_1043 rfl ?_
    refine y_iload_n C dL_law_1044 rfl ?_
    refine y_iconst C dL_law_1045 kc_1 ?_
    refine y_iadd C dL_law_1046 ?_
    refine y_sld C hs g253 dL_law_1047 ?_
    obtain ⟨g256, h⟩ := gd h
    obtain ⟨r257, hr257, h⟩ := ob h
    refine y_cV (st := [.int r255.1]) C [.int (xs ((i + (1 : Int32))).toNatClampNeg)] (m_X8_laws K r255.2 z ((xs ((i + (1 : Int32))).toNatClampNeg))) hr257 g256 cw_L_130 rfl (by decide) ⟨rfl, rfl⟩ ⟨Nat.le_trans (Nat.le_add_right _ _) hk9, Nat.le_trans (Nat.le_add_right _ _) hn9⟩ (Nat.le_of_ble_eq_true rfl) rfl rfl rfl dL_law_1048 ?_
    refine y_icmp_eq C dL_law_1051 (tgt := 1458) rfl (fun c258 => ?_) (fun c258 => ?_)
    · have h := itT c258 h
      obtain ⟨v259, ev259, h⟩ := ob h
      have ev259 := Option.some.inj ev259
      refine y_iinc C dL_law_1458 (by decide) rfl (v := v259) (by subst ev259; rfl) (L' := [(3, .int v259), (0, .ref 1000300), (1, .ref x), (2, .ref z)]) rfl ?_
      refine y_goto C dL_law_1461 (tgt := 18) rfl ?_
      have e0 := Option.some.inj h
      subst e0
      exact y_sel [0, 1, 2, 3] rfl (y_widen (k' := k9 + 3) (n' := n9 + 200) (by omega) (by omega) hX)
    · have h := itF c258 h
      refine y_iconst C dL_law_1054 kc_0 ?_
      cases h
  replace h := itF c29 h
  rcases Classical.em (((xs (i).toNatClampNeg) &&& (63 : Int32)) = (28 : Int32)) with c30 | c30
  · have h := itT c30 h
    refine y_tabIn C dL_law_33 (off := 1023) (tgt := 1056) (by rw [c30]; decide) (by rw [c30]; decide) (by rw [c30]; rfl) rfl ?_
    refine y_aload_n C dL_law_1056 rfl ?_
    refine y_aload_n C dL_law_1057 rfl ?_
    refine y_iload_n C dL_law_1058 rfl ?_
    refine y_iconst C dL_law_1059 kc_1 ?_
    refine y_iadd C dL_law_1060 ?_
    obtain ⟨g260, h⟩ := gp h
    refine y_sld C hs g260 dL_law_1061 ?_
    refine y_aload_n C dL_law_1062 rfl ?_
    refine y_iload_n C dL_law_1063 rfl ?_
    refine y_iconst C dL_law_1064 kc_2 ?_
    refine y_iadd C dL_law_1065 ?_
    obtain ⟨g261, h⟩ := gp h
    refine y_sld C hs g261 dL_law_1066 ?_
    obtain ⟨g262, h⟩ := gd h
    obtain ⟨r263, hr263, h⟩ := ob h
    refine y_cV (st := []) C [.int (xs ((i + (1 : Int32))).toNatClampNeg), .int (xs ((i + (2 : Int32))).toNatClampNeg)] (m_X7_film K M x ((xs ((i + (1 : Int32))).toNatClampNeg)) ((xs ((i + (2 : Int32))).toNatClampNeg))) hr263 g262 cw_L_131 rfl (by decide) ⟨rfl, rfl⟩ ⟨Nat.le_trans (Nat.le_add_right _ _) hk9, Nat.le_trans (Nat.le_add_right _ _) hn9⟩ (Nat.le_of_ble_eq_true rfl) rfl rfl rfl dL_law_1067 ?_
    refine y_aload_n C dL_law_1070 rfl ?_
    refine y_aload_n C dL_law_1071 rfl ?_
    refine y_iload_n C dL_law_1072 rfl ?_
    refine y_iconst C dL_law_1073 kc_1 ?_
    refine y_iadd C dL_law_1074 ?_
    refine y_sld C hs g260 dL_law_1075 ?_
    refine y_aload_n C dL_law_1076 rfl ?_
    refine y_iload_n C dL_law_1077 rfl ?_
    refine y_iconst C dL_law_1078 kc_2 ?_
    refine y_iadd C dL_law_1079 ?_
    refine y_sld C hs g261 dL_law_1080 ?_
    obtain ⟨g264, h⟩ := gd h
    obtain ⟨r265, hr265, h⟩ := ob h
    refine y_cV (st := [.int r263.1]) C [.int (xs ((i + (1 : Int32))).toNatClampNeg), .int (xs ((i + (2 : Int32))).toNatClampNeg)] (m_X8_film K r263.2 z ((xs ((i + (1 : Int32))).toNatClampNeg)) ((xs ((i + (2 : Int32))).toNatClampNeg))) hr265 g264 cw_L_134 rfl (by decide) ⟨rfl, rfl⟩ ⟨Nat.le_trans (Nat.le_add_right _ _) hk9, Nat.le_trans (Nat.le_add_right _ _) hn9⟩ (Nat.le_of_ble_eq_true rfl) rfl rfl rfl dL_law_1081 ?_
    refine y_icmp_eq C dL_law_1084 (tgt := 1458) rfl (fun c266 => ?_) (fun c266 => ?_)
    · have h := itT c266 h
      obtain ⟨v267, ev267, h⟩ := ob h
      have ev267 := Option.some.inj ev267
      refine y_iinc C dL_law_1458 (by decide) rfl (v := v267) (by subst ev267; rfl) (L' := [(3, .int v267), (0, .ref 1000300), (1, .ref x), (2, .ref z)]) rfl ?_
      refine y_goto C dL_law_1461 (tgt := 18) rfl ?_
      have e0 := Option.some.inj h
      subst e0
      exact y_sel [0, 1, 2, 3] rfl (y_widen (k' := k9 + 3) (n' := n9 + 200) (by omega) (by omega) hX)
    · have h := itF c266 h
      refine y_iconst C dL_law_1087 kc_0 ?_
      cases h
  replace h := itF c30 h
  rcases Classical.em (((xs (i).toNatClampNeg) &&& (63 : Int32)) = (29 : Int32)) with c31 | c31
  · have h := itT c31 h
    refine y_tabIn C dL_law_33 (off := 1056) (tgt := 1089) (by rw [c31]; decide) (by rw [c31]; decide) (by rw [c31]; rfl) rfl ?_
    refine y_aload_n C dL_law_1089 rfl ?_
    refine y_aload_n C dL_law_1090 rfl ?_
    refine y_iload_n C dL_law_1091 rfl ?_
    refine y_iconst C dL_law_1092 kc_1 ?_
    refine y_iadd C dL_law_1093 ?_
    obtain ⟨g268, h⟩ := gp h
    refine y_sld C hs g268 dL_law_1094 ?_
    refine y_aload_n C dL_law_1095 rfl ?_
    refine y_iload_n C dL_law_1096 rfl ?_
    refine y_iconst C dL_law_1097 kc_2 ?_
    refine y_iadd C dL_law_1098 ?_
    obtain ⟨g269, h⟩ := gp h
    refine y_sld C hs g269 dL_law_1099 ?_
    refine y_aload_n C dL_law_1100 rfl ?_
    refine y_iload_n C dL_law_1101 rfl ?_
    refine y_iconst C dL_law_1102 kc_3 ?_
    refine y_iadd C dL_law_1103 ?_
    obtain ⟨g270, h⟩ := gp h
    refine y_sld C hs g270 dL_law_1104 ?_
    obtain ⟨g271, h⟩ := gd h
    obtain ⟨r272, hr272, h⟩ := ob h
    refine y_cV (st := []) C [.int (xs ((i + (1 : Int32))).toNatClampNeg), .int (xs ((i + (2 : Int32))).toNatClampNeg), .int (xs ((i + (3 : Int32))).toNatClampNeg)] (m_X7_drawn K M x ((xs ((i + (1 : Int32))).toNatClampNeg)) ((xs ((i + (2 : Int32))).toNatClampNeg)) ((xs ((i + (3 : Int32))).toNatClampNeg))) hr272 g271 cw_L_135 rfl (by decide) ⟨rfl, rfl⟩ ⟨Nat.le_trans (Nat.le_add_right _ _) hk9, Nat.le_trans (Nat.le_add_right _ _) hn9⟩ (Nat.le_of_ble_eq_true rfl) rfl rfl rfl dL_law_1105 ?_
    refine y_aload_n C dL_law_1108 rfl ?_
    refine y_aload_n C dL_law_1109 rfl ?_
    refine y_iload_n C dL_law_1110 rfl ?_
    refine y_iconst C dL_law_1111 kc_1 ?_
    refine y_iadd C dL_law_1112 ?_
    refine y_sld C hs g268 dL_law_1113 ?_
    refine y_aload_n C dL_law_1114 rfl ?_
    refine y_iload_n C dL_law_1115 rfl ?_
    refine y_iconst C dL_law_1116 kc_2 ?_
    refine y_iadd C dL_law_1117 ?_
    refine y_sld C hs g269 dL_law_1118 ?_
    refine y_aload_n C dL_law_1119 rfl ?_
    refine y_iload_n C dL_law_1120 rfl ?_
    refine y_iconst C dL_law_1121 kc_3 ?_
    refine y_iadd C dL_law_1122 ?_
    refine y_sld C hs g270 dL_law_1123 ?_
    obtain ⟨g273, h⟩ := gd h
    obtain ⟨r274, hr274, h⟩ := ob h
    refine y_cV (st := [.int r272.1]) C [.int (xs ((i + (1 : Int32))).toNatClampNeg), .int (xs ((i + (2 : Int32))).toNatClampNeg), .int (xs ((i + (3 : Int32))).toNatClampNeg)] (m_X8_drawn K r272.2 z ((xs ((i + (1 : Int32))).toNatClampNeg)) ((xs ((i + (2 : Int32))).toNatClampNeg)) ((xs ((i + (3 : Int32))).toNatClampNeg))) hr274 g273 cw_L_138 rfl (by decide) ⟨rfl, rfl⟩ ⟨Nat.le_trans (Nat.le_add_right _ _) hk9, Nat.le_trans (Nat.le_add_right _ _) hn9⟩ (Nat.le_of_ble_eq_true rfl) rfl rfl rfl dL_law_1124 ?_
    refine y_icmp_eq C dL_law_1127 (tgt := 1458) rfl (fun c275 => ?_) (fun c275 => ?_)
    · have h := itT c275 h
      obtain ⟨v276, ev276, h⟩ := ob h
      have ev276 := Option.some.inj ev276
      refine y_iinc C dL_law_1458 (by decide) rfl (v := v276) (by subst ev276; rfl) (L' := [(3, .int v276), (0, .ref 1000300), (1, .ref x), (2, .ref z)]) rfl ?_
      refine y_goto C dL_law_1461 (tgt := 18) rfl ?_
      have e0 := Option.some.inj h
      subst e0
      exact y_sel [0, 1, 2, 3] rfl (y_widen (k' := k9 + 3) (n' := n9 + 200) (by omega) (by omega) hX)
    · have h := itF c275 h
      refine y_iconst C dL_law_1130 kc_0 ?_
      cases h
  replace h := itF c31 h
  rcases Classical.em (((xs (i).toNatClampNeg) &&& (63 : Int32)) = (30 : Int32)) with c32 | c32
  · have h := itT c32 h
    refine y_tabIn C dL_law_33 (off := 1099) (tgt := 1132) (by rw [c32]; decide) (by rw [c32]; decide) (by rw [c32]; rfl) rfl ?_
    refine y_aload_n C dL_law_1132 rfl ?_
    refine y_aload_n C dL_law_1133 rfl ?_
    refine y_iload_n C dL_law_1134 rfl ?_
    refine y_iconst C dL_law_1135 kc_1 ?_
    refine y_iadd C dL_law_1136 ?_
    obtain ⟨g277, h⟩ := gp h
    refine y_sld C hs g277 dL_law_1137 ?_
    refine y_aload_n C dL_law_1138 rfl ?_
    refine y_iload_n C dL_law_1139 rfl ?_
    refine y_iconst C dL_law_1140 kc_2 ?_
    refine y_iadd C dL_law_1141 ?_
    obtain ⟨g278, h⟩ := gp h
    refine y_sld C hs g278 dL_law_1142 ?_
    refine y_aload_n C dL_law_1143 rfl ?_
    refine y_iload_n C dL_law_1144 rfl ?_
    refine y_iconst C dL_law_1145 kc_3 ?_
    refine y_iadd C dL_law_1146 ?_
    obtain ⟨g279, h⟩ := gp h
    refine y_sld C hs g279 dL_law_1147 ?_
    refine y_aload_n C dL_law_1148 rfl ?_
    refine y_iload_n C dL_law_1149 rfl ?_
    refine y_iconst C dL_law_1150 kc_4 ?_
    refine y_iadd C dL_law_1151 ?_
    obtain ⟨g280, h⟩ := gp h
    refine y_sld C hs g280 dL_law_1152 ?_
    refine y_aload_n C dL_law_1153 rfl ?_
    refine y_iload_n C dL_law_1154 rfl ?_
    refine y_iconst C dL_law_1155 kc_5 ?_
    refine y_iadd C dL_law_1156 ?_
    obtain ⟨g281, h⟩ := gp h
    refine y_sld C hs g281 dL_law_1157 ?_
    obtain ⟨g282, h⟩ := gd h
    obtain ⟨r283, hr283, h⟩ := ob h
    refine y_cV (st := []) C [.int (xs ((i + (1 : Int32))).toNatClampNeg), .int (xs ((i + (2 : Int32))).toNatClampNeg), .int (xs ((i + (3 : Int32))).toNatClampNeg), .int (xs ((i + (4 : Int32))).toNatClampNeg), .int (xs ((i + (5 : Int32))).toNatClampNeg)] (m_X7_odds K M x ((xs ((i + (1 : Int32))).toNatClampNeg)) ((xs ((i + (2 : Int32))).toNatClampNeg)) ((xs ((i + (3 : Int32))).toNatClampNeg)) ((xs ((i + (4 : Int32))).toNatClampNeg)) ((xs ((i + (5 : Int32))).toNatClampNeg))) hr283 g282 cw_L_139 rfl (by decide) ⟨rfl, rfl⟩ ⟨Nat.le_trans (Nat.le_add_right _ _) hk9, Nat.le_trans (Nat.le_add_right _ _) hn9⟩ (Nat.le_of_ble_eq_true rfl) rfl rfl rfl dL_law_1158 ?_
    refine y_aload_n C dL_law_1161 rfl ?_
    refine y_aload_n C dL_law_1162 rfl ?_
    refine y_iload_n C dL_law_1163 rfl ?_
    refine y_iconst C dL_law_1164 kc_1 ?_
    refine y_iadd C dL_law_1165 ?_
    refine y_sld C hs g277 dL_law_1166 ?_
    refine y_aload_n C dL_law_1167 rfl ?_
    refine y_iload_n C dL_law_1168 rfl ?_
    refine y_iconst C dL_law_1169 kc_2 ?_
    refine y_iadd C dL_law_1170 ?_
    refine y_sld C hs g278 dL_law_1171 ?_
    refine y_aload_n C dL_law_1172 rfl ?_
    refine y_iload_n C dL_law_1173 rfl ?_
    refine y_iconst C dL_law_1174 kc_3 ?_
    refine y_iadd C dL_law_1175 ?_
    refine y_sld C hs g279 dL_law_1176 ?_
    refine y_aload_n C dL_law_1177 rfl ?_
    refine y_iload_n C dL_law_1178 rfl ?_
    refine y_iconst C dL_law_1179 kc_4 ?_
    refine y_iadd C dL_law_1180 ?_
    refine y_sld C hs g280 dL_law_1181 ?_
    refine y_aload_n C dL_law_1182 rfl ?_
    refine y_iload_n C dL_law_1183 rfl ?_
    refine y_iconst C dL_law_1184 kc_5 ?_
    refine y_iadd C dL_law_1185 ?_
    refine y_sld C hs g281 dL_law_1186 ?_
    obtain ⟨g284, h⟩ := gd h
    obtain ⟨r285, hr285, h⟩ := ob h
    refine y_cV (st := [.long r283.1]) C [.int (xs ((i + (1 : Int32))).toNatClampNeg), .int (xs ((i + (2 : Int32))).toNatClampNeg), .int (xs ((i + (3 : Int32))).toNatClampNeg), .int (xs ((i + (4 : Int32))).toNatClampNeg), .int (xs ((i + (5 : Int32))).toNatClampNeg)] (m_X8_odds K r283.2 z ((xs ((i + (1 : Int32))).toNatClampNeg)) ((xs ((i + (2 : Int32))).toNatClampNeg)) ((xs ((i + (3 : Int32))).toNatClampNeg)) ((xs ((i + (4 : Int32))).toNatClampNeg)) ((xs ((i + (5 : Int32))).toNatClampNeg))) hr285 g284 cw_L_143 rfl (by decide) ⟨rfl, rfl⟩ ⟨Nat.le_trans (Nat.le_add_right _ _) hk9, Nat.le_trans (Nat.le_add_right _ _) hn9⟩ (Nat.le_of_ble_eq_true rfl) rfl rfl rfl dL_law_1187 ?_
    refine y_lcmp C dL_law_1190 ?_
    refine y_if_eq C dL_law_1191 (tgt := 1458) rfl (fun c286 => ?_) (fun c286 => ?_)
    · have h := itT c286 h
      obtain ⟨v287, ev287, h⟩ := ob h
      have ev287 := Option.some.inj ev287
      refine y_iinc C dL_law_1458 (by decide) rfl (v := v287) (by subst ev287; rfl) (L' := [(3, .int v287), (0, .ref 1000300), (1, .ref x), (2, .ref z)]) rfl ?_
      refine y_goto C dL_law_1461 (tgt := 18) rfl ?_
      have e0 := Option.some.inj h
      subst e0
      exact y_sel [0, 1, 2, 3] rfl (y_widen (k' := k9 + 3) (n' := n9 + 200) (by omega) (by omega) hX)
    · have h := itF c286 h
      refine y_iconst C dL_law_1194 kc_0 ?_
      cases h
  replace h := itF c32 h
  rcases Classical.em (((xs (i).toNatClampNeg) &&& (63 : Int32)) = (31 : Int32)) with c33 | c33
  · have h := itT c33 h
    refine y_tabIn C dL_law_33 (off := 1163) (tgt := 1196) (by rw [c33]; decide) (by rw [c33]; decide) (by rw [c33]; rfl) rfl ?_
    refine y_aload_n C dL_law_1196 rfl ?_
    obtain ⟨g288, h⟩ := gd h
    obtain ⟨r289, hr289, h⟩ := ob h
    refine y_cV (st := []) C [] (m_X7_image K M x) hr289 g288 cw_L_144 rfl (by decide) ⟨rfl, rfl⟩ ⟨Nat.le_trans (Nat.le_add_right _ _) hk9, Nat.le_trans (Nat.le_add_right _ _) hn9⟩ (Nat.le_of_ble_eq_true rfl) rfl rfl rfl dL_law_1197 ?_
    refine y_aload_n C dL_law_1200 rfl ?_
    obtain ⟨g290, h⟩ := gd h
    obtain ⟨r291, hr291, h⟩ := ob h
    refine y_cV (st := [.int r289.1]) C [] (m_X8_image K r289.2 z) hr291 g290 cw_L_147 rfl (by decide) ⟨rfl, rfl⟩ ⟨Nat.le_trans (Nat.le_add_right _ _) hk9, Nat.le_trans (Nat.le_add_right _ _) hn9⟩ (Nat.le_of_ble_eq_true rfl) rfl rfl rfl dL_law_1201 ?_
    refine y_icmp_eq C dL_law_1204 (tgt := 1458) rfl (fun c292 => ?_) (fun c292 => ?_)
    · have h := itT c292 h
      obtain ⟨v293, ev293, h⟩ := ob h
      have ev293 := Option.some.inj ev293
      refine y_iinc C dL_law_1458 (by decide) rfl (v := v293) (by subst ev293; rfl) (L' := [(3, .int v293), (0, .ref 1000300), (1, .ref x), (2, .ref z)]) rfl ?_
      refine y_goto C dL_law_1461 (tgt := 18) rfl ?_
      have e0 := Option.some.inj h
      subst e0
      exact y_sel [0, 1, 2, 3] rfl (y_widen (k' := k9 + 3) (n' := n9 + 200) (by omega) (by omega) hX)
    · have h := itF c292 h
      refine y_iconst C dL_law_1207 kc_0 ?_
      cases h
  replace h := itF c33 h
  rcases Classical.em (((xs (i).toNatClampNeg) &&& (63 : Int32)) = (32 : Int32)) with c34 | c34
  · have h := itT c34 h
    refine y_tabIn C dL_law_33 (off := 1176) (tgt := 1209) (by rw [c34]; decide) (by rw [c34]; decide) (by rw [c34]; rfl) rfl ?_
    refine y_aload_n C dL_law_1209 rfl ?_
    obtain ⟨g294, h⟩ := gd h
    obtain ⟨r295, hr295, h⟩ := ob h
    refine y_cV (st := []) C [] (m_X7_back K M x) hr295 g294 cw_L_148 rfl (by decide) ⟨rfl, rfl⟩ ⟨Nat.le_trans (Nat.le_add_right _ _) hk9, Nat.le_trans (Nat.le_add_right _ _) hn9⟩ (Nat.le_of_ble_eq_true rfl) rfl rfl rfl dL_law_1210 ?_
    refine y_aload_n C dL_law_1213 rfl ?_
    obtain ⟨g296, h⟩ := gd h
    obtain ⟨r297, hr297, h⟩ := ob h
    refine y_cV (st := [.int r295.1]) C [] (m_X8_back K r295.2 z) hr297 g296 cw_L_151 rfl (by decide) ⟨rfl, rfl⟩ ⟨Nat.le_trans (Nat.le_add_right _ _) hk9, Nat.le_trans (Nat.le_add_right _ _) hn9⟩ (Nat.le_of_ble_eq_true rfl) rfl rfl rfl dL_law_1214 ?_
    refine y_icmp_eq C dL_law_1217 (tgt := 1458) rfl (fun c298 => ?_) (fun c298 => ?_)
    · have h := itT c298 h
      obtain ⟨v299, ev299, h⟩ := ob h
      have ev299 := Option.some.inj ev299
      refine y_iinc C dL_law_1458 (by decide) rfl (v := v299) (by subst ev299; rfl) (L' := [(3, .int v299), (0, .ref 1000300), (1, .ref x), (2, .ref z)]) rfl ?_
      refine y_goto C dL_law_1461 (tgt := 18) rfl ?_
      have e0 := Option.some.inj h
      subst e0
      exact y_sel [0, 1, 2, 3] rfl (y_widen (k' := k9 + 3) (n' := n9 + 200) (by omega) (by omega) hX)
    · have h := itF c298 h
      refine y_iconst C dL_law_1220 kc_0 ?_
      cases h
  replace h := itF c34 h
  rcases Classical.em (((xs (i).toNatClampNeg) &&& (63 : Int32)) = (33 : Int32)) with c35 | c35
  · have h := itT c35 h
    refine y_tabIn C dL_law_33 (off := 1189) (tgt := 1222) (by rw [c35]; decide) (by rw [c35]; decide) (by rw [c35]; rfl) rfl ?_
    refine y_aload_n C dL_law_1222 rfl ?_
    refine y_aload_n C dL_law_1223 rfl ?_
    refine y_iload_n C dL_law_1224 rfl ?_
    refine y_iconst C dL_law_1225 kc_1 ?_
    refine y_iadd C dL_law_1226 ?_
    obtain ⟨g300, h⟩ := gp h
    refine y_sld C hs g300 dL_law_1227 ?_
    refine y_aload_n C dL_law_1228 rfl ?_
    refine y_iload_n C dL_law_1229 rfl ?_
    refine y_iconst C dL_law_1230 kc_2 ?_
    refine y_iadd C dL_law_1231 ?_
    obtain ⟨g301, h⟩ := gp h
    refine y_sld C hs g301 dL_law_1232 ?_
    refine y_aload_n C dL_law_1233 rfl ?_
    refine y_iload_n C dL_law_1234 rfl ?_
    refine y_iconst C dL_law_1235 kc_3 ?_
    refine y_iadd C dL_law_1236 ?_
    obtain ⟨g302, h⟩ := gp h
    refine y_sld C hs g302 dL_law_1237 ?_
    obtain ⟨g303, h⟩ := gd h
    obtain ⟨r304, hr304, h⟩ := ob h
    refine y_cV (st := []) C [.int (xs ((i + (1 : Int32))).toNatClampNeg), .int (xs ((i + (2 : Int32))).toNatClampNeg), .int (xs ((i + (3 : Int32))).toNatClampNeg)] (m_X7_sheet K M x ((xs ((i + (1 : Int32))).toNatClampNeg)) ((xs ((i + (2 : Int32))).toNatClampNeg)) ((xs ((i + (3 : Int32))).toNatClampNeg))) hr304 g303 cw_L_152 rfl (by decide) ⟨rfl, rfl⟩ ⟨Nat.le_trans (Nat.le_add_right _ _) hk9, Nat.le_trans (Nat.le_add_right _ _) hn9⟩ (Nat.le_of_ble_eq_true rfl) rfl rfl rfl dL_law_1238 ?_
    refine y_aload_n C dL_law_1241 rfl ?_
    refine y_aload_n C dL_law_1242 rfl ?_
    refine y_iload_n C dL_law_1243 rfl ?_
    refine y_iconst C dL_law_1244 kc_1 ?_
    refine y_iadd C dL_law_1245 ?_
    refine y_sld C hs g300 dL_law_1246 ?_
    refine y_aload_n C dL_law_1247 rfl ?_
    refine y_iload_n C dL_law_1248 rfl ?_
    refine y_iconst C dL_law_1249 kc_2 ?_
    refine y_iadd C dL_law_1250 ?_
    refine y_sld C hs g301 dL_law_1251 ?_
    refine y_aload_n C dL_law_1252 rfl ?_
    refine y_iload_n C dL_law_1253 rfl ?_
    refine y_iconst C dL_law_1254 kc_3 ?_
    refine y_iadd C dL_law_1255 ?_
    refine y_sld C hs g302 dL_law_1256 ?_
    obtain ⟨g305, h⟩ := gd h
    obtain ⟨r306, hr306, h⟩ := ob h
    refine y_cV (st := [.int r304.1]) C [.int (xs ((i + (1 : Int32))).toNatClampNeg), .int (xs ((i + (2 : Int32))).toNatClampNeg), .int (xs ((i + (3 : Int32))).toNatClampNeg)] (m_X8_sheet K r304.2 z ((xs ((i + (1 : Int32))).toNatClampNeg)) ((xs ((i + (2 : Int32))).toNatClampNeg)) ((xs ((i + (3 : Int32))).toNatClampNeg))) hr306 g305 cw_L_155 rfl (by decide) ⟨rfl, rfl⟩ ⟨Nat.le_trans (Nat.le_add_right _ _) hk9, Nat.le_trans (Nat.le_add_right _ _) hn9⟩ (Nat.le_of_ble_eq_true rfl) rfl rfl rfl dL_law_1257 ?_
    refine y_icmp_eq C dL_law_1260 (tgt := 1458) rfl (fun c307 => ?_) (fun c307 => ?_)
    · have h := itT c307 h
      obtain ⟨v308, ev308, h⟩ := ob h
      have ev308 := Option.some.inj ev308
      refine y_iinc C dL_law_1458 (by decide) rfl (v := v308) (by subst ev308; rfl) (L' := [(3, .int v308), (0, .ref 1000300), (1, .ref x), (2, .ref z)]) rfl ?_
      refine y_goto C dL_law_1461 (tgt := 18) rfl ?_
      have e0 := Option.some.inj h
      subst e0
      exact y_sel [0, 1, 2, 3] rfl (y_widen (k' := k9 + 3) (n' := n9 + 200) (by omega) (by omega) hX)
    · have h := itF c307 h
      refine y_iconst C dL_law_1263 kc_0 ?_
      cases h
  replace h := itF c35 h
  rcases Classical.em (((xs (i).toNatClampNeg) &&& (63 : Int32)) = (34 : Int32)) with c36 | c36
  · have h := itT c36 h
    refine y_tabIn C dL_law_33 (off := 1232) (tgt := 1265) (by rw [c36]; decide) (by rw [c36]; decide) (by rw [c36]; rfl) rfl ?_
    refine y_aload_n C dL_law_1265 rfl ?_
    refine y_aload_n C dL_law_1266 rfl ?_
    refine y_iload_n C dL_law_1267 rfl ?_
    refine y_iconst C dL_law_1268 kc_1 ?_
    refine y_iadd C dL_law_1269 ?_
    obtain ⟨g309, h⟩ := gp h
    refine y_sld C hs g309 dL_law_1270 ?_
    refine y_aload_n C dL_law_1271 rfl ?_
    refine y_iload_n C dL_law_1272 rfl ?_
    refine y_iconst C dL_law_1273 kc_2 ?_
    refine y_iadd C dL_law_1274 ?_
    obtain ⟨g310, h⟩ := gp h
    refine y_sld C hs g310 dL_law_1275 ?_
    refine y_aload_n C dL_law_1276 rfl ?_
    refine y_iload_n C dL_law_1277 rfl ?_
    refine y_iconst C dL_law_1278 kc_3 ?_
    refine y_iadd C dL_law_1279 ?_
    obtain ⟨g311, h⟩ := gp h
    refine y_sld C hs g311 dL_law_1280 ?_
    obtain ⟨g312, h⟩ := gd h
    obtain ⟨r313, hr313, h⟩ := ob h
    refine y_cV (st := []) C [.int (xs ((i + (1 : Int32))).toNatClampNeg), .int (xs ((i + (2 : Int32))).toNatClampNeg), .int (xs ((i + (3 : Int32))).toNatClampNeg)] (m_X7_cell K M x ((xs ((i + (1 : Int32))).toNatClampNeg)) ((xs ((i + (2 : Int32))).toNatClampNeg)) ((xs ((i + (3 : Int32))).toNatClampNeg))) hr313 g312 cw_L_156 rfl (by decide) ⟨rfl, rfl⟩ ⟨Nat.le_trans (Nat.le_add_right _ _) hk9, Nat.le_trans (Nat.le_add_right _ _) hn9⟩ (Nat.le_of_ble_eq_true rfl) rfl rfl rfl dL_law_1281 ?_
    refine y_aload_n C dL_law_1284 rfl ?_
    refine y_aload_n C dL_law_1285 rfl ?_
    refine y_iload_n C dL_law_1286 rfl ?_
    refine y_iconst C dL_law_1287 kc_1 ?_
    refine y_iadd C dL_law_1288 ?_
    refine y_sld C hs g309 dL_law_1289 ?_
    refine y_aload_n C dL_law_1290 rfl ?_
    refine y_iload_n C dL_law_1291 rfl ?_
    refine y_iconst C dL_law_1292 kc_2 ?_
    refine y_iadd C dL_law_1293 ?_
    refine y_sld C hs g310 dL_law_1294 ?_
    refine y_aload_n C dL_law_1295 rfl ?_
    refine y_iload_n C dL_law_1296 rfl ?_
    refine y_iconst C dL_law_1297 kc_3 ?_
    refine y_iadd C dL_law_1298 ?_
    refine y_sld C hs g311 dL_law_1299 ?_
    obtain ⟨g314, h⟩ := gd h
    obtain ⟨r315, hr315, h⟩ := ob h
    refine y_cV (st := [.int r313.1]) C [.int (xs ((i + (1 : Int32))).toNatClampNeg), .int (xs ((i + (2 : Int32))).toNatClampNeg), .int (xs ((i + (3 : Int32))).toNatClampNeg)] (m_X8_cell K r313.2 z ((xs ((i + (1 : Int32))).toNatClampNeg)) ((xs ((i + (2 : Int32))).toNatClampNeg)) ((xs ((i + (3 : Int32))).toNatClampNeg))) hr315 g314 cw_L_159 rfl (by decide) ⟨rfl, rfl⟩ ⟨Nat.le_trans (Nat.le_add_right _ _) hk9, Nat.le_trans (Nat.le_add_right _ _) hn9⟩ (Nat.le_of_ble_eq_true rfl) rfl rfl rfl dL_law_1300 ?_
    refine y_icmp_eq C dL_law_1303 (tgt := 1458) rfl (fun c316 => ?_) (fun c316 => ?_)
    · have h := itT c316 h
      obtain ⟨v317, ev317, h⟩ := ob h
      have ev317 := Option.some.inj ev317
      refine y_iinc C dL_law_1458 (by decide) rfl (v := v317) (by subst ev317; rfl) (L' := [(3, .int v317), (0, .ref 1000300), (1, .ref x), (2, .ref z)]) rfl ?_
      refine y_goto C dL_law_1461 (tgt := 18) rfl ?_
      have e0 := Option.some.inj h
      subst e0
      exact y_sel [0, 1, 2, 3] rfl (y_widen (k' := k9 + 3) (n' := n9 + 200) (by omega) (by omega) hX)
    · have h := itF c316 h
      refine y_iconst C dL_law_1306 kc_0 ?_
      cases h
  replace h := itF c36 h
  rcases Classical.em (((xs (i).toNatClampNeg) &&& (63 : Int32)) = (35 : Int32)) with c37 | c37
  · have h := itT c37 h
    refine y_tabIn C dL_law_33 (off := 1275) (tgt := 1308) (by rw [c37]; decide) (by rw [c37]; decide) (by rw [c37]; rfl) rfl ?_
    refine y_aload_n C dL_law_1308 rfl ?_
    refine y_aload_n C dL_law_1309 rfl ?_
    refine y_iload_n C dL_law_1310 rfl ?_
    refine y_iconst C dL_law_1311 kc_1 ?_
    refine y_iadd C dL_law_1312 ?_
    obtain ⟨g318, h⟩ := gp h
    refine y_sld C hs g318 dL_law_1313 ?_
    refine y_aload_n C dL_law_1314 rfl ?_
    refine y_iload_n C dL_law_1315 rfl ?_
    refine y_iconst C dL_law_1316 kc_2 ?_
    refine y_iadd C dL_law_1317 ?_
    obtain ⟨g319, h⟩ := gp h
    refine y_sld C hs g319 dL_law_1318 ?_
    refine y_aload_n C dL_law_1319 rfl ?_
    refine y_iload_n C dL_law_1320 rfl ?_
    refine y_iconst C dL_law_1321 kc_3 ?_
    refine y_iadd C dL_law_1322 ?_
    obtain ⟨g320, h⟩ := gp h
    refine y_sld C hs g320 dL_law_1323 ?_
    refine y_aload_n C dL_law_1324 rfl ?_
    refine y_iload_n C dL_law_1325 rfl ?_
    refine y_iconst C dL_law_1326 kc_4 ?_
    refine y_iadd C dL_law_1327 ?_
    obtain ⟨g321, h⟩ := gp h
    refine y_sld C hs g321 dL_law_1328 ?_
    refine y_aload_n C dL_law_1329 rfl ?_
    refine y_iload_n C dL_law_1330 rfl ?_
    refine y_iconst C dL_law_1331 kc_5 ?_
    refine y_iadd C dL_law_1332 ?_
    obtain ⟨g322, h⟩ := gp h
    refine y_sld C hs g322 dL_law_1333 ?_
    obtain ⟨g323, h⟩ := gd h
    obtain ⟨r324, hr324, h⟩ := ob h
    refine y_cV (st := []) C [.int (xs ((i + (1 : Int32))).toNatClampNeg), .int (xs ((i + (2 : Int32))).toNatClampNeg), .int (xs ((i + (3 : Int32))).toNatClampNeg), .int (xs ((i + (4 : Int32))).toNatClampNeg), .int (xs ((i + (5 : Int32))).toNatClampNeg)] (m_X7_copy K M x ((xs ((i + (1 : Int32))).toNatClampNeg)) ((xs ((i + (2 : Int32))).toNatClampNeg)) ((xs ((i + (3 : Int32))).toNatClampNeg)) ((xs ((i + (4 : Int32))).toNatClampNeg)) ((xs ((i + (5 : Int32))).toNatClampNeg))) hr324 g323 cw_L_160 rfl (by decide) ⟨rfl, rfl⟩ ⟨Nat.le_trans (Nat.le_add_right _ _) hk9, Nat.le_trans (Nat.le_add_right _ _) hn9⟩ (Nat.le_of_ble_eq_true rfl) rfl rfl rfl dL_law_1334 ?_
    refine y_aload_n C dL_law_1337 rfl ?_
    refine y_aload_n C dL_law_1338 rfl ?_
    refine y_iload_n C dL_law_1339 rfl ?_
    refine y_iconst C dL_law_1340 kc_1 ?_
    refine y_iadd C dL_law_1341 ?_
    refine y_sld C hs g318 dL_law_1342 ?_
    refine y_aload_n C dL_law_1343 rfl ?_
    refine y_iload_n C dL_law_1344 rfl ?_
    refine y_iconst C dL_law_1345 kc_2 ?_
    refine y_iadd C dL_law_1346 ?_
    refine y_sld C hs g319 dL_law_1347 ?_
    refine y_aload_n C dL_law_1348 rfl ?_
    refine y_iload_n C dL_law_1349 rfl ?_
    refine y_iconst C dL_law_1350 kc_3 ?_
    refine y_iadd C dL_law_1351 ?_
    refine y_sld C hs g320 dL_law_1352 ?_
    refine y_aload_n C dL_law_1353 rfl ?_
    refine y_iload_n C dL_law_1354 rfl ?_
    refine y_iconst C dL_law_1355 kc_4 ?_
    refine y_iadd C dL_law_1356 ?_
    refine y_sld C hs g321 dL_law_1357 ?_
    refine y_aload_n C dL_law_1358 rfl ?_
    refine y_iload_n C dL_law_1359 rfl ?_
    refine y_iconst C dL_law_1360 kc_5 ?_
    refine y_iadd C dL_law_1361 ?_
    refine y_sld C hs g322 dL_law_1362 ?_
    obtain ⟨g325, h⟩ := gd h
    obtain ⟨r326, hr326, h⟩ := ob h
    refine y_cV (st := [.int r324.1]) C [.int (xs ((i + (1 : Int32))).toNatClampNeg), .int (xs ((i + (2 : Int32))).toNatClampNeg), .int (xs ((i + (3 : Int32))).toNatClampNeg), .int (xs ((i + (4 : Int32))).toNatClampNeg), .int (xs ((i + (5 : Int32))).toNatClampNeg)] (m_X8_copy K r324.2 z ((xs ((i + (1 : Int32))).toNatClampNeg)) ((xs ((i + (2 : Int32))).toNatClampNeg)) ((xs ((i + (3 : Int32))).toNatClampNeg)) ((xs ((i + (4 : Int32))).toNatClampNeg)) ((xs ((i + (5 : Int32))).toNatClampNeg))) hr326 g325 cw_L_164 rfl (by decide) ⟨rfl, rfl⟩ ⟨Nat.le_trans (Nat.le_add_right _ _) hk9, Nat.le_trans (Nat.le_add_right _ _) hn9⟩ (Nat.le_of_ble_eq_true rfl) rfl rfl rfl dL_law_1363 ?_
    refine y_icmp_eq C dL_law_1366 (tgt := 1458) rfl (fun c327 => ?_) (fun c327 => ?_)
    · have h := itT c327 h
      obtain ⟨v328, ev328, h⟩ := ob h
      have ev328 := Option.some.inj ev328
      refine y_iinc C dL_law_1458 (by decide) rfl (v := v328) (by subst ev328; rfl) (L' := [(3, .int v328), (0, .ref 1000300), (1, .ref x), (2, .ref z)]) rfl ?_
      refine y_goto C dL_law_1461 (tgt := 18) rfl ?_
      have e0 := Option.some.inj h
      subst e0
      exact y_sel [0, 1, 2, 3] rfl (y_widen (k' := k9 + 3) (n' := n9 + 200) (by omega) (by omega) hX)
    · have h := itF c327 h
      refine y_iconst C dL_law_1369 kc_0 ?_
      cases h
  replace h := itF c37 h
  rcases Classical.em (((xs (i).toNatClampNeg) &&& (63 : Int32)) = (36 : Int32)) with c38 | c38
  · have h := itT c38 h
    refine y_tabIn C dL_law_33 (off := 1338) (tgt := 1371) (by rw [c38]; decide) (by rw [c38]; decide) (by rw [c38]; rfl) rfl ?_
    refine y_aload_n C dL_law_1371 rfl ?_
    refine y_aload_n C dL_law_1372 rfl ?_
    refine y_iload_n C dL_law_1373 rfl ?_
    refine y_iconst C dL_law_1374 kc_1 ?_
    refine y_iadd C dL_law_1375 ?_
    obtain ⟨g329, h⟩ := gp h
    refine y_sld C hs g329 dL_law_1376 ?_
    refine y_aload_n C dL_law_1377 rfl ?_
    refine y_iload_n C dL_law_1378 rfl ?_
    refine y_iconst C dL_law_1379 kc_2 ?_
    refine y_iadd C dL_law_1380 ?_
    obtain ⟨g330, h⟩ := gp h
    refine y_sld C hs g330 dL_law_1381 ?_
    refine y_aload_n C dL_law_1382 rfl ?_
    refine y_iload_n C dL_law_1383 rfl ?_
    refine y_iconst C dL_law_1384 kc_3 ?_
    refine y_iadd C dL_law_1385 ?_
    obtain ⟨g331, h⟩ := gp h
    refine y_sld C hs g331 dL_law_1386 ?_
    refine y_aload_n C dL_law_1387 rfl ?_
    refine y_iload_n C dL_law_1388 rfl ?_
    refine y_iconst C dL_law_1389 kc_4 ?_
    refine y_iadd C dL_law_1390 ?_
    obtain ⟨g332, h⟩ := gp h
    refine y_sld C hs g332 dL_law_1391 ?_
    obtain ⟨g333, h⟩ := gd h
    obtain ⟨r334, hr334, h⟩ := ob h
    refine y_cV (st := []) C [.int (xs ((i + (1 : Int32))).toNatClampNeg), .int (xs ((i + (2 : Int32))).toNatClampNeg), .int (xs ((i + (3 : Int32))).toNatClampNeg), .int (xs ((i + (4 : Int32))).toNatClampNeg)] (m_X7_wordsBy K M x ((xs ((i + (1 : Int32))).toNatClampNeg)) ((xs ((i + (2 : Int32))).toNatClampNeg)) ((xs ((i + (3 : Int32))).toNatClampNeg)) ((xs ((i + (4 : Int32))).toNatClampNeg))) hr334 g333 cw_L_165 rfl (by decide) ⟨rfl, rfl⟩ ⟨Nat.le_trans (Nat.le_add_right _ _) hk9, Nat.le_trans (Nat.le_add_right _ _) hn9⟩ (Nat.le_of_ble_eq_true rfl) rfl rfl rfl dL_law_1392 ?_
    refine y_aload_n C dL_law_1395 rfl ?_
    refine y_aload_n C dL_law_1396 rfl ?_
    refine y_iload_n C dL_law_1397 rfl ?_
    refine y_iconst C dL_law_1398 kc_1 ?_
    refine y_iadd C dL_law_1399 ?_
    refine y_sld C hs g329 dL_law_1400 ?_
    refine y_aload_n C dL_law_1401 rfl ?_
    refine y_iload_n C dL_law_1402 rfl ?_
    refine y_iconst C dL_law_1403 kc_2 ?_
    refine y_iadd C dL_law_1404 ?_
    refine y_sld C hs g330 dL_law_1405 ?_
    refine y_aload_n C dL_law_1406 rfl ?_
    refine y_iload_n C dL_law_1407 rfl ?_
    refine y_iconst C dL_law_1408 kc_3 ?_
    refine y_iadd C dL_law_1409 ?_
    refine y_sld C hs g331 dL_law_1410 ?_
    refine y_aload_n C dL_law_1411 rfl ?_
    refine y_iload_n C dL_law_1412 rfl ?_
    refine y_iconst C dL_law_1413 kc_4 ?_
    refine y_iadd C dL_law_1414 ?_
    refine y_sld C hs g332 dL_law_1415 ?_
    obtain ⟨g335, h⟩ := gd h
    obtain ⟨r336, hr336, h⟩ := ob h
    refine y_cV (st := [.int r334.1]) C [.int (xs ((i + (1 : Int32))).toNatClampNeg), .int (xs ((i + (2 : Int32))).toNatClampNeg), .int (xs ((i + (3 : Int32))).toNatClampNeg), .int (xs ((i + (4 : Int32))).toNatClampNeg)] (m_X8_wordsBy K r334.2 z ((xs ((i + (1 : Int32))).toNatClampNeg)) ((xs ((i + (2 : Int32))).toNatClampNeg)) ((xs ((i + (3 : Int32))).toNatClampNeg)) ((xs ((i + (4 : Int32))).toNatClampNeg))) hr336 g335 cw_L_168 rfl (by decide) ⟨rfl, rfl⟩ ⟨Nat.le_trans (Nat.le_add_right _ _) hk9, Nat.le_trans (Nat.le_add_right _ _) hn9⟩ (Nat.le_of_ble_eq_true rfl) rfl rfl rfl dL_law_1416 ?_
    refine y_icmp_eq C dL_law_1419 (tgt := 1458) rfl (fun c337 => ?_) (fun c337 => ?_)
    · have h := itT c337 h
      obtain ⟨v338, ev338, h⟩ := ob h
      have ev338 := Option.some.inj ev338
      refine y_iinc C dL_law_1458 (by decide) rfl (v := v338) (by subst ev338; rfl) (L' := [(3, .int v338), (0, .ref 1000300), (1, .ref x), (2, .ref z)]) rfl ?_
      refine y_goto C dL_law_1461 (tgt := 18) rfl ?_
      have e0 := Option.some.inj h
      subst e0
      exact y_sel [0, 1, 2, 3] rfl (y_widen (k' := k9 + 3) (n' := n9 + 200) (by omega) (by omega) hX)
    · have h := itF c337 h
      refine y_iconst C dL_law_1422 kc_0 ?_
      cases h
  replace h := itF c38 h
  rcases Classical.em (((xs (i).toNatClampNeg) &&& (63 : Int32)) = (37 : Int32)) with c39 | c39
  · have h := itT c39 h
    refine y_tabIn C dL_law_33 (off := 1391) (tgt := 1424) (by rw [c39]; decide) (by rw [c39]; decide) (by rw [c39]; rfl) rfl ?_
    refine y_aload_n C dL_law_1424 rfl ?_
    refine y_aload_n C dL_law_1425 rfl ?_
    refine y_iload_n C dL_law_1426 rfl ?_
    refine y_iconst C dL_law_1427 kc_1 ?_
    refine y_iadd C dL_law_1428 ?_
    obtain ⟨g339, h⟩ := gp h
    refine y_sld C hs g339 dL_law_1429 ?_
    refine y_aload_n C dL_law_1430 rfl ?_
    refine y_iload_n C dL_law_1431 rfl ?_
    refine y_iconst C dL_law_1432 kc_2 ?_
    refine y_iadd C dL_law_1433 ?_
    obtain ⟨g340, h⟩ := gp h
    refine y_sld C hs g340 dL_law_1434 ?_
    obtain ⟨g341, h⟩ := gd h
    obtain ⟨r342, hr342, h⟩ := ob h
    refine y_cV (st := []) C [.int (xs ((i + (1 : Int32))).toNatClampNeg), .int (xs ((i + (2 : Int32))).toNatClampNeg)] (m_X7_taken K M x ((xs ((i + (1 : Int32))).toNatClampNeg)) ((xs ((i + (2 : Int32))).toNatClampNeg))) hr342 g341 cw_L_169 rfl (by decide) ⟨rfl, rfl⟩ ⟨Nat.le_trans (Nat.le_add_right _ _) hk9, Nat.le_trans (Nat.le_add_right _ _) hn9⟩ (Nat.le_of_ble_eq_true rfl) rfl rfl rfl dL_law_1435 ?_
    refine y_aload_n C dL_law_1438 rfl ?_
    refine y_aload_n C dL_law_1439 rfl ?_
    refine y_iload_n C dL_law_1440 rfl ?_
    refine y_iconst C dL_law_1441 kc_1 ?_
    refine y_iadd C dL_law_1442 ?_
    refine y_sld C hs g339 dL_law_1443 ?_
    refine y_aload_n C dL_law_1444 rfl ?_
    refine y_iload_n C dL_law_1445 rfl ?_
    refine y_iconst C dL_law_1446 kc_2 ?_
    refine y_iadd C dL_law_1447 ?_
    refine y_sld C hs g340 dL_law_1448 ?_
    obtain ⟨g343, h⟩ := gd h
    obtain ⟨r344, hr344, h⟩ := ob h
    refine y_cV (st := [.long r342]) C [.int (xs ((i + (1 : Int32))).toNatClampNeg), .int (xs ((i + (2 : Int32))).toNatClampNeg)] (m_X8_taken K M z ((xs ((i + (1 : Int32))).toNatClampNeg)) ((xs ((i + (2 : Int32))).toNatClampNeg))) hr344 g343 cw_L_173 rfl (by decide) ⟨rfl, rfl⟩ ⟨Nat.le_trans (Nat.le_add_right _ _) hk9, Nat.le_trans (Nat.le_add_right _ _) hn9⟩ (Nat.le_of_ble_eq_true rfl) rfl rfl rfl dL_law_1449 ?_
    refine y_lcmp C dL_law_1452 ?_
    refine y_if_eq C dL_law_1453 (tgt := 1458) rfl (fun c345 => ?_) (fun c345 => ?_)
    · have h := itT c345 h
      obtain ⟨v346, ev346, h⟩ := ob h
      have ev346 := Option.some.inj ev346
      refine y_iinc C dL_law_1458 (by decide) rfl (v := v346) (by subst ev346; rfl) (L' := [(3, .int v346), (0, .ref 1000300), (1, .ref x), (2, .ref z)]) rfl ?_
      refine y_goto C dL_law_1461 (tgt := 18) rfl ?_
      have e0 := Option.some.inj h
      subst e0
      exact y_sel [0, 1, 2, 3] rfl (y_widen (k' := k9 + 3) (n' := n9 + 200) (by omega) (by omega) hX)
    · have h := itF c345 h
      refine y_iconst C dL_law_1456 kc_0 ?_
      cases h
  replace h := itF c39 h
  refine y_tabOut C dL_law_33 (tgt := 1458) (by have q0 : (((xs (i).toNatClampNeg) &&& (63 : Int32))).toInt ≠ 0 := yNe c2; have q1 : (((xs (i).toNatClampNeg) &&& (63 : Int32))).toInt ≠ 1 := yNe c3; have q2 : (((xs (i).toNatClampNeg) &&& (63 : Int32))).toInt ≠ 2 := yNe c4; have q3 : (((xs (i).toNatClampNeg) &&& (63 : Int32))).toInt ≠ 3 := yNe c5; have q4 : (((xs (i).toNatClampNeg) &&& (63 : Int32))).toInt ≠ 4 := yNe c6; have q5 : (((xs (i).toNatClampNeg) &&& (63 : Int32))).toInt ≠ 5 := yNe c7; have q6 : (((xs (i).toNatClampNeg) &&& (63 : Int32))).toInt ≠ 6 := yNe c8; have q7 : (((xs (i).toNatClampNeg) &&& (63 : Int32))).toInt ≠ 7 := yNe c9; have q8 : (((xs (i).toNatClampNeg) &&& (63 : Int32))).toInt ≠ 8 := yNe c10; have q9 : (((xs (i).toNatClampNeg) &&& (63 : Int32))).toInt ≠ 9 := yNe c11; have q10 : (((xs (i).toNatClampNeg) &&& (63 : Int32))).toInt ≠ 10 := yNe c12; have q11 : (((xs (i).toNatClampNeg) &&& (63 : Int32))).toInt ≠ 11 := yNe c13; have q12 : (((xs (i).toNatClampNeg) &&& (63 : Int32))).toInt ≠ 12 := yNe c14; have q13 : (((xs (i).toNatClampNeg) &&& (63 : Int32))).toInt ≠ 13 := yNe c15; have q14 : (((xs (i).toNatClampNeg) &&& (63 : Int32))).toInt ≠ 14 := yNe c16; have q15 : (((xs (i).toNatClampNeg) &&& (63 : Int32))).toInt ≠ 15 := yNe c17; have q16 : (((xs (i).toNatClampNeg) &&& (63 : Int32))).toInt ≠ 16 := yNe c18; have q17 : (((xs (i).toNatClampNeg) &&& (63 : Int32))).toInt ≠ 17 := yNe c19; have q18 : (((xs (i).toNatClampNeg) &&& (63 : Int32))).toInt ≠ 18 := yNe c20; have q19 : (((xs (i).toNatClampNeg) &&& (63 : Int32))).toInt ≠ 19 := yNe c21; have q20 : (((xs (i).toNatClampNeg) &&& (63 : Int32))).toInt ≠ 20 := yNe c22; have q21 : (((xs (i).toNatClampNeg) &&& (63 : Int32))).toInt ≠ 21 := yNe c23; have q22 : (((xs (i).toNatClampNeg) &&& (63 : Int32))).toInt ≠ 22 := yNe c24; have q23 : (((xs (i).toNatClampNeg) &&& (63 : Int32))).toInt ≠ 23 := yNe c25; have q24 : (((xs (i).toNatClampNeg) &&& (63 : Int32))).toInt ≠ 24 := yNe c26; have q25 : (((xs (i).toNatClampNeg) &&& (63 : Int32))).toInt ≠ 25 := yNe c27; have q26 : (((xs (i).toNatClampNeg) &&& (63 : Int32))).toInt ≠ 26 := yNe c28; have q27 : (((xs (i).toNatClampNeg) &&& (63 : Int32))).toInt ≠ 27 := yNe c29; have q28 : (((xs (i).toNatClampNeg) &&& (63 : Int32))).toInt ≠ 28 := yNe c30; have q29 : (((xs (i).toNatClampNeg) &&& (63 : Int32))).toInt ≠ 29 := yNe c31; have q30 : (((xs (i).toNatClampNeg) &&& (63 : Int32))).toInt ≠ 30 := yNe c32; have q31 : (((xs (i).toNatClampNeg) &&& (63 : Int32))).toInt ≠ 31 := yNe c33; have q32 : (((xs (i).toNatClampNeg) &&& (63 : Int32))).toInt ≠ 32 := yNe c34; have q33 : (((xs (i).toNatClampNeg) &&& (63 : Int32))).toInt ≠ 33 := yNe c35; have q34 : (((xs (i).toNatClampNeg) &&& (63 : Int32))).toInt ≠ 34 := yNe c36; have q35 : (((xs (i).toNatClampNeg) &&& (63 : Int32))).toInt ≠ 35 := yNe c37; have q36 : (((xs (i).toNatClampNeg) &&& (63 : Int32))).toInt ≠ 36 := yNe c38; have q37 : (((xs (i).toNatClampNeg) &&& (63 : Int32))).toInt ≠ 37 := yNe c39; omega) rfl ?_
  obtain ⟨v347, ev347, h⟩ := ob h
  have ev347 := Option.some.inj ev347
  refine y_iinc C dL_law_1458 (by decide) rfl (v := v347) (by subst ev347; rfl) (L' := [(3, .int v347), (0, .ref 1000300), (1, .ref x), (2, .ref z)]) rfl ?_
  refine y_goto C dL_law_1461 (tgt := 18) rfl ?_
  have e0 := Option.some.inj h
  subst e0
  exact y_sel [0, 1, 2, 3] rfl (y_widen (k' := k9 + 3) (n' := n9 + 200) (by omega) (by omega) hX)
