theorem dX0_init_0 : decode cX0_init 0 = .ok (.aload_n 0, 1) := by decide +kernel
theorem dX0_init_1 : decode cX0_init 1 = .ok (.invokespecial 3, 3) := by decide +kernel
theorem dX0_init_4 : decode cX0_init 4 = .ok (.aload_n 0, 1) := by decide +kernel
theorem dX0_init_5 : decode cX0_init 5 = .ok (.bipush 12, 2) := by decide +kernel
theorem dX0_init_7 : decode cX0_init 7 = .ok (.newarray .int, 2) := by decide +kernel
theorem dX0_init_9 : decode cX0_init 9 = .ok (.putfield 9, 3) := by decide +kernel
theorem dX0_init_12 : decode cX0_init 12 = .ok (.aload_n 0, 1) := by decide +kernel
theorem dX0_init_13 : decode cX0_init 13 = .ok (.bipush 12, 2) := by decide +kernel
theorem dX0_init_15 : decode cX0_init 15 = .ok (.newarray .int, 2) := by decide +kernel
theorem dX0_init_17 : decode cX0_init 17 = .ok (.putfield 15, 3) := by decide +kernel
theorem dX0_init_20 : decode cX0_init 20 = .ok (.aload_n 0, 1) := by decide +kernel
theorem dX0_init_21 : decode cX0_init 21 = .ok (.bipush 12, 2) := by decide +kernel
theorem dX0_init_23 : decode cX0_init 23 = .ok (.newarray .int, 2) := by decide +kernel
theorem dX0_init_25 : decode cX0_init 25 = .ok (.putfield 18, 3) := by decide +kernel
theorem dX0_init_28 : decode cX0_init 28 = .ok (.aload_n 0, 1) := by decide +kernel
theorem dX0_init_29 : decode cX0_init 29 = .ok (.bipush 12, 2) := by decide +kernel
theorem dX0_init_31 : decode cX0_init 31 = .ok (.newarray .int, 2) := by decide +kernel
theorem dX0_init_33 : decode cX0_init 33 = .ok (.putfield 21, 3) := by decide +kernel
theorem dX0_init_36 : decode cX0_init 36 = .ok (.aload_n 0, 1) := by decide +kernel
theorem dX0_init_37 : decode cX0_init 37 = .ok (.bipush 12, 2) := by decide +kernel
theorem dX0_init_39 : decode cX0_init 39 = .ok (.newarray .int, 2) := by decide +kernel
theorem dX0_init_41 : decode cX0_init 41 = .ok (.putfield 24, 3) := by decide +kernel
theorem dX0_init_44 : decode cX0_init 44 = .ok (.aload_n 0, 1) := by decide +kernel
theorem dX0_init_45 : decode cX0_init 45 = .ok (.bipush 13, 2) := by decide +kernel
theorem dX0_init_47 : decode cX0_init 47 = .ok (.newarray .int, 2) := by decide +kernel
theorem dX0_init_49 : decode cX0_init 49 = .ok (.putfield 27, 3) := by decide +kernel
theorem dX0_init_52 : decode cX0_init 52 = .ok (.aload_n 0, 1) := by decide +kernel
theorem dX0_init_53 : decode cX0_init 53 = .ok (.bipush 12, 2) := by decide +kernel
theorem dX0_init_55 : decode cX0_init 55 = .ok (.newarray .int, 2) := by decide +kernel
theorem dX0_init_57 : decode cX0_init 57 = .ok (.putfield 30, 3) := by decide +kernel
theorem dX0_init_60 : decode cX0_init 60 = .ok (.aload_n 0, 1) := by decide +kernel
theorem dX0_init_61 : decode cX0_init 61 = .ok (.bipush 6, 2) := by decide +kernel
theorem dX0_init_63 : decode cX0_init 63 = .ok (.newarray .int, 2) := by decide +kernel
theorem dX0_init_65 : decode cX0_init 65 = .ok (.putfield 33, 3) := by decide +kernel
theorem dX0_init_68 : decode cX0_init 68 = .ok (.aload_n 0, 1) := by decide +kernel
theorem dX0_init_69 : decode cX0_init 69 = .ok (.iconst (-1), 1) := by decide +kernel
theorem dX0_init_70 : decode cX0_init 70 = .ok (.putfield 36, 3) := by decide +kernel
theorem dX0_init_73 : decode cX0_init 73 = .ok (.aload_n 0, 1) := by decide +kernel
theorem dX0_init_74 : decode cX0_init 74 = .ok (.aload_n 1, 1) := by decide +kernel
theorem dX0_init_75 : decode cX0_init 75 = .ok (.putfield 40, 3) := by decide +kernel
theorem dX0_init_78 : decode cX0_init 78 = .ok (.aload_n 0, 1) := by decide +kernel
theorem dX0_init_79 : decode cX0_init 79 = .ok (.aload_n 2, 1) := by decide +kernel
theorem dX0_init_80 : decode cX0_init 80 = .ok (.putfield 44, 3) := by decide +kernel
theorem dX0_init_83 : decode cX0_init 83 = .ok (.return_, 1) := by decide +kernel
theorem dX0_takeFrom_0 : decode cX0_takeFrom 0 = .ok (.aload_n 1, 1) := by decide +kernel
theorem dX0_takeFrom_1 : decode cX0_takeFrom 1 = .ok (.getfield 9, 3) := by decide +kernel
theorem dX0_takeFrom_4 : decode cX0_takeFrom 4 = .ok (.iconst 0, 1) := by decide +kernel
theorem dX0_takeFrom_5 : decode cX0_takeFrom 5 = .ok (.aload_n 0, 1) := by decide +kernel
theorem dX0_takeFrom_6 : decode cX0_takeFrom 6 = .ok (.getfield 9, 3) := by decide +kernel
theorem dX0_takeFrom_9 : decode cX0_takeFrom 9 = .ok (.iconst 0, 1) := by decide +kernel
theorem dX0_takeFrom_10 : decode cX0_takeFrom 10 = .ok (.bipush 12, 2) := by decide +kernel
theorem dX0_takeFrom_12 : decode cX0_takeFrom 12 = .ok (.invokestatic 48, 3) := by decide +kernel
theorem dX0_takeFrom_15 : decode cX0_takeFrom 15 = .ok (.aload_n 1, 1) := by decide +kernel
theorem dX0_takeFrom_16 : decode cX0_takeFrom 16 = .ok (.getfield 15, 3) := by decide +kernel
theorem dX0_takeFrom_19 : decode cX0_takeFrom 19 = .ok (.iconst 0, 1) := by decide +kernel
theorem dX0_takeFrom_20 : decode cX0_takeFrom 20 = .ok (.aload_n 0, 1) := by decide +kernel
theorem dX0_takeFrom_21 : decode cX0_takeFrom 21 = .ok (.getfield 15, 3) := by decide +kernel
theorem dX0_takeFrom_24 : decode cX0_takeFrom 24 = .ok (.iconst 0, 1) := by decide +kernel
theorem dX0_takeFrom_25 : decode cX0_takeFrom 25 = .ok (.bipush 12, 2) := by decide +kernel
theorem dX0_takeFrom_27 : decode cX0_takeFrom 27 = .ok (.invokestatic 48, 3) := by decide +kernel
theorem dX0_takeFrom_30 : decode cX0_takeFrom 30 = .ok (.aload_n 1, 1) := by decide +kernel
theorem dX0_takeFrom_31 : decode cX0_takeFrom 31 = .ok (.getfield 18, 3) := by decide +kernel
theorem dX0_takeFrom_34 : decode cX0_takeFrom 34 = .ok (.iconst 0, 1) := by decide +kernel
theorem dX0_takeFrom_35 : decode cX0_takeFrom 35 = .ok (.aload_n 0, 1) := by decide +kernel
theorem dX0_takeFrom_36 : decode cX0_takeFrom 36 = .ok (.getfield 18, 3) := by decide +kernel
theorem dX0_takeFrom_39 : decode cX0_takeFrom 39 = .ok (.iconst 0, 1) := by decide +kernel
theorem dX0_takeFrom_40 : decode cX0_takeFrom 40 = .ok (.bipush 12, 2) := by decide +kernel
theorem dX0_takeFrom_42 : decode cX0_takeFrom 42 = .ok (.invokestatic 48, 3) := by decide +kernel
theorem dX0_takeFrom_45 : decode cX0_takeFrom 45 = .ok (.aload_n 1, 1) := by decide +kernel
theorem dX0_takeFrom_46 : decode cX0_takeFrom 46 = .ok (.getfield 21, 3) := by decide +kernel
theorem dX0_takeFrom_49 : decode cX0_takeFrom 49 = .ok (.iconst 0, 1) := by decide +kernel
theorem dX0_takeFrom_50 : decode cX0_takeFrom 50 = .ok (.aload_n 0, 1) := by decide +kernel
theorem dX0_takeFrom_51 : decode cX0_takeFrom 51 = .ok (.getfield 21, 3) := by decide +kernel
theorem dX0_takeFrom_54 : decode cX0_takeFrom 54 = .ok (.iconst 0, 1) := by decide +kernel
theorem dX0_takeFrom_55 : decode cX0_takeFrom 55 = .ok (.bipush 12, 2) := by decide +kernel
theorem dX0_takeFrom_57 : decode cX0_takeFrom 57 = .ok (.invokestatic 48, 3) := by decide +kernel
theorem dX0_takeFrom_60 : decode cX0_takeFrom 60 = .ok (.aload_n 1, 1) := by decide +kernel
theorem dX0_takeFrom_61 : decode cX0_takeFrom 61 = .ok (.getfield 24, 3) := by decide +kernel
theorem dX0_takeFrom_64 : decode cX0_takeFrom 64 = .ok (.iconst 0, 1) := by decide +kernel
theorem dX0_takeFrom_65 : decode cX0_takeFrom 65 = .ok (.aload_n 0, 1) := by decide +kernel
theorem dX0_takeFrom_66 : decode cX0_takeFrom 66 = .ok (.getfield 24, 3) := by decide +kernel
theorem dX0_takeFrom_69 : decode cX0_takeFrom 69 = .ok (.iconst 0, 1) := by decide +kernel
theorem dX0_takeFrom_70 : decode cX0_takeFrom 70 = .ok (.bipush 12, 2) := by decide +kernel
theorem dX0_takeFrom_72 : decode cX0_takeFrom 72 = .ok (.invokestatic 48, 3) := by decide +kernel
theorem dX0_takeFrom_75 : decode cX0_takeFrom 75 = .ok (.aload_n 1, 1) := by decide +kernel
theorem dX0_takeFrom_76 : decode cX0_takeFrom 76 = .ok (.getfield 27, 3) := by decide +kernel
theorem dX0_takeFrom_79 : decode cX0_takeFrom 79 = .ok (.iconst 0, 1) := by decide +kernel
theorem dX0_takeFrom_80 : decode cX0_takeFrom 80 = .ok (.aload_n 0, 1) := by decide +kernel
theorem dX0_takeFrom_81 : decode cX0_takeFrom 81 = .ok (.getfield 27, 3) := by decide +kernel
theorem dX0_takeFrom_84 : decode cX0_takeFrom 84 = .ok (.iconst 0, 1) := by decide +kernel
theorem dX0_takeFrom_85 : decode cX0_takeFrom 85 = .ok (.bipush 13, 2) := by decide +kernel
theorem dX0_takeFrom_87 : decode cX0_takeFrom 87 = .ok (.invokestatic 48, 3) := by decide +kernel
theorem dX0_takeFrom_90 : decode cX0_takeFrom 90 = .ok (.aload_n 1, 1) := by decide +kernel
theorem dX0_takeFrom_91 : decode cX0_takeFrom 91 = .ok (.getfield 30, 3) := by decide +kernel
theorem dX0_takeFrom_94 : decode cX0_takeFrom 94 = .ok (.iconst 0, 1) := by decide +kernel
theorem dX0_takeFrom_95 : decode cX0_takeFrom 95 = .ok (.aload_n 0, 1) := by decide +kernel
theorem dX0_takeFrom_96 : decode cX0_takeFrom 96 = .ok (.getfield 30, 3) := by decide +kernel
theorem dX0_takeFrom_99 : decode cX0_takeFrom 99 = .ok (.iconst 0, 1) := by decide +kernel
theorem dX0_takeFrom_100 : decode cX0_takeFrom 100 = .ok (.bipush 12, 2) := by decide +kernel
theorem dX0_takeFrom_102 : decode cX0_takeFrom 102 = .ok (.invokestatic 48, 3) := by decide +kernel
theorem dX0_takeFrom_105 : decode cX0_takeFrom 105 = .ok (.aload_n 1, 1) := by decide +kernel
theorem dX0_takeFrom_106 : decode cX0_takeFrom 106 = .ok (.getfield 33, 3) := by decide +kernel
theorem dX0_takeFrom_109 : decode cX0_takeFrom 109 = .ok (.iconst 0, 1) := by decide +kernel
theorem dX0_takeFrom_110 : decode cX0_takeFrom 110 = .ok (.aload_n 0, 1) := by decide +kernel
theorem dX0_takeFrom_111 : decode cX0_takeFrom 111 = .ok (.getfield 33, 3) := by decide +kernel
theorem dX0_takeFrom_114 : decode cX0_takeFrom 114 = .ok (.iconst 0, 1) := by decide +kernel
theorem dX0_takeFrom_115 : decode cX0_takeFrom 115 = .ok (.bipush 6, 2) := by decide +kernel
theorem dX0_takeFrom_117 : decode cX0_takeFrom 117 = .ok (.invokestatic 48, 3) := by decide +kernel
theorem dX0_takeFrom_120 : decode cX0_takeFrom 120 = .ok (.aload_n 0, 1) := by decide +kernel
theorem dX0_takeFrom_121 : decode cX0_takeFrom 121 = .ok (.aload_n 1, 1) := by decide +kernel
theorem dX0_takeFrom_122 : decode cX0_takeFrom 122 = .ok (.getfield 54, 3) := by decide +kernel
theorem dX0_takeFrom_125 : decode cX0_takeFrom 125 = .ok (.putfield 54, 3) := by decide +kernel
theorem dX0_takeFrom_128 : decode cX0_takeFrom 128 = .ok (.aload_n 0, 1) := by decide +kernel
theorem dX0_takeFrom_129 : decode cX0_takeFrom 129 = .ok (.aload_n 1, 1) := by decide +kernel
theorem dX0_takeFrom_130 : decode cX0_takeFrom 130 = .ok (.getfield 57, 3) := by decide +kernel
theorem dX0_takeFrom_133 : decode cX0_takeFrom 133 = .ok (.putfield 57, 3) := by decide +kernel
theorem dX0_takeFrom_136 : decode cX0_takeFrom 136 = .ok (.aload_n 0, 1) := by decide +kernel
theorem dX0_takeFrom_137 : decode cX0_takeFrom 137 = .ok (.aload_n 1, 1) := by decide +kernel
theorem dX0_takeFrom_138 : decode cX0_takeFrom 138 = .ok (.getfield 60, 3) := by decide +kernel
theorem dX0_takeFrom_141 : decode cX0_takeFrom 141 = .ok (.putfield 60, 3) := by decide +kernel
theorem dX0_takeFrom_144 : decode cX0_takeFrom 144 = .ok (.aload_n 0, 1) := by decide +kernel
theorem dX0_takeFrom_145 : decode cX0_takeFrom 145 = .ok (.aload_n 1, 1) := by decide +kernel
theorem dX0_takeFrom_146 : decode cX0_takeFrom 146 = .ok (.getfield 63, 3) := by decide +kernel
theorem dX0_takeFrom_149 : decode cX0_takeFrom 149 = .ok (.putfield 63, 3) := by decide +kernel
theorem dX0_takeFrom_152 : decode cX0_takeFrom 152 = .ok (.aload_n 0, 1) := by decide +kernel
theorem dX0_takeFrom_153 : decode cX0_takeFrom 153 = .ok (.aload_n 1, 1) := by decide +kernel
theorem dX0_takeFrom_154 : decode cX0_takeFrom 154 = .ok (.getfield 36, 3) := by decide +kernel
theorem dX0_takeFrom_157 : decode cX0_takeFrom 157 = .ok (.putfield 36, 3) := by decide +kernel
theorem dX0_takeFrom_160 : decode cX0_takeFrom 160 = .ok (.aload_n 0, 1) := by decide +kernel
theorem dX0_takeFrom_161 : decode cX0_takeFrom 161 = .ok (.aload_n 1, 1) := by decide +kernel
theorem dX0_takeFrom_162 : decode cX0_takeFrom 162 = .ok (.getfield 66, 3) := by decide +kernel
theorem dX0_takeFrom_165 : decode cX0_takeFrom 165 = .ok (.putfield 66, 3) := by decide +kernel
theorem dX0_takeFrom_168 : decode cX0_takeFrom 168 = .ok (.aload_n 0, 1) := by decide +kernel
theorem dX0_takeFrom_169 : decode cX0_takeFrom 169 = .ok (.aload_n 1, 1) := by decide +kernel
theorem dX0_takeFrom_170 : decode cX0_takeFrom 170 = .ok (.getfield 69, 3) := by decide +kernel
theorem dX0_takeFrom_173 : decode cX0_takeFrom 173 = .ok (.putfield 69, 3) := by decide +kernel
theorem dX0_takeFrom_176 : decode cX0_takeFrom 176 = .ok (.aload_n 0, 1) := by decide +kernel
theorem dX0_takeFrom_177 : decode cX0_takeFrom 177 = .ok (.aload_n 1, 1) := by decide +kernel
theorem dX0_takeFrom_178 : decode cX0_takeFrom 178 = .ok (.getfield 72, 3) := by decide +kernel
theorem dX0_takeFrom_181 : decode cX0_takeFrom 181 = .ok (.putfield 72, 3) := by decide +kernel
theorem dX0_takeFrom_184 : decode cX0_takeFrom 184 = .ok (.return_, 1) := by decide +kernel
theorem dX0_has_0 : decode cX0_has 0 = .ok (.iload_n 1, 1) := by decide +kernel
theorem dX0_has_1 : decode cX0_has 1 = .ok (.ifCond .lt 21, 3) := by decide +kernel
theorem dX0_has_4 : decode cX0_has 4 = .ok (.iload_n 1, 1) := by decide +kernel
theorem dX0_has_5 : decode cX0_has 5 = .ok (.aload_n 0, 1) := by decide +kernel
theorem dX0_has_6 : decode cX0_has 6 = .ok (.getfield 54, 3) := by decide +kernel
theorem dX0_has_9 : decode cX0_has 9 = .ok (.if_icmp .ge 13, 3) := by decide +kernel
theorem dX0_has_12 : decode cX0_has 12 = .ok (.iload_n 1, 1) := by decide +kernel
theorem dX0_has_13 : decode cX0_has 13 = .ok (.bipush 12, 2) := by decide +kernel
theorem dX0_has_15 : decode cX0_has 15 = .ok (.if_icmp .ge 7, 3) := by decide +kernel
theorem dX0_has_18 : decode cX0_has 18 = .ok (.iconst 1, 1) := by decide +kernel
theorem dX0_has_19 : decode cX0_has 19 = .ok (.goto 4, 3) := by decide +kernel
theorem dX0_has_22 : decode cX0_has 22 = .ok (.iconst 0, 1) := by decide +kernel
theorem dX0_has_23 : decode cX0_has 23 = .ok (.ireturn, 1) := by decide +kernel
theorem dX0_hasDeed_0 : decode cX0_hasDeed 0 = .ok (.iload_n 1, 1) := by decide +kernel
theorem dX0_hasDeed_1 : decode cX0_hasDeed 1 = .ok (.ifCond .lt 21, 3) := by decide +kernel
theorem dX0_hasDeed_4 : decode cX0_hasDeed 4 = .ok (.iload_n 1, 1) := by decide +kernel
theorem dX0_hasDeed_5 : decode cX0_hasDeed 5 = .ok (.aload_n 0, 1) := by decide +kernel
theorem dX0_hasDeed_6 : decode cX0_hasDeed 6 = .ok (.getfield 57, 3) := by decide +kernel
theorem dX0_hasDeed_9 : decode cX0_hasDeed 9 = .ok (.if_icmp .ge 13, 3) := by decide +kernel
theorem dX0_hasDeed_12 : decode cX0_hasDeed 12 = .ok (.iload_n 1, 1) := by decide +kernel
theorem dX0_hasDeed_13 : decode cX0_hasDeed 13 = .ok (.bipush 6, 2) := by decide +kernel
theorem dX0_hasDeed_15 : decode cX0_hasDeed 15 = .ok (.if_icmp .ge 7, 3) := by decide +kernel
theorem dX0_hasDeed_18 : decode cX0_hasDeed 18 = .ok (.iconst 1, 1) := by decide +kernel
theorem dX0_hasDeed_19 : decode cX0_hasDeed 19 = .ok (.goto 4, 3) := by decide +kernel
theorem dX0_hasDeed_22 : decode cX0_hasDeed 22 = .ok (.iconst 0, 1) := by decide +kernel
theorem dX0_hasDeed_23 : decode cX0_hasDeed 23 = .ok (.ireturn, 1) := by decide +kernel
theorem dX0_allEntries_0 : decode cX0_allEntries 0 = .ok (.iconst 1, 1) := by decide +kernel
theorem dX0_allEntries_1 : decode cX0_allEntries 1 = .ok (.aload_n 0, 1) := by decide +kernel
theorem dX0_allEntries_2 : decode cX0_allEntries 2 = .ok (.getfield 54, 3) := by decide +kernel
theorem dX0_allEntries_5 : decode cX0_allEntries 5 = .ok (.ishl, 1) := by decide +kernel
theorem dX0_allEntries_6 : decode cX0_allEntries 6 = .ok (.iconst 1, 1) := by decide +kernel
theorem dX0_allEntries_7 : decode cX0_allEntries 7 = .ok (.isub, 1) := by decide +kernel
theorem dX0_allEntries_8 : decode cX0_allEntries 8 = .ok (.ireturn, 1) := by decide +kernel
theorem dX0_pages_0 : decode cX0_pages 0 = .ok (.aload_n 0, 1) := by decide +kernel
theorem dX0_pages_1 : decode cX0_pages 1 = .ok (.aload_n 0, 1) := by decide +kernel
theorem dX0_pages_2 : decode cX0_pages 2 = .ok (.getfield 54, 3) := by decide +kernel
theorem dX0_pages_5 : decode cX0_pages 5 = .ok (.invokevirtual 75, 3) := by decide +kernel
theorem dX0_pages_8 : decode cX0_pages 8 = .ok (.ireturn, 1) := by decide +kernel
theorem dX0_firstOf_0 : decode cX0_firstOf 0 = .ok (.iload_n 1, 1) := by decide +kernel
theorem dX0_firstOf_1 : decode cX0_firstOf 1 = .ok (.ifCond .lt 21, 3) := by decide +kernel
theorem dX0_firstOf_4 : decode cX0_firstOf 4 = .ok (.iload_n 1, 1) := by decide +kernel
theorem dX0_firstOf_5 : decode cX0_firstOf 5 = .ok (.aload_n 0, 1) := by decide +kernel
theorem dX0_firstOf_6 : decode cX0_firstOf 6 = .ok (.getfield 27, 3) := by decide +kernel
theorem dX0_firstOf_9 : decode cX0_firstOf 9 = .ok (.arraylength, 1) := by decide +kernel
theorem dX0_firstOf_10 : decode cX0_firstOf 10 = .ok (.if_icmp .ge 12, 3) := by decide +kernel
theorem dX0_firstOf_13 : decode cX0_firstOf 13 = .ok (.aload_n 0, 1) := by decide +kernel
theorem dX0_firstOf_14 : decode cX0_firstOf 14 = .ok (.getfield 27, 3) := by decide +kernel
theorem dX0_firstOf_17 : decode cX0_firstOf 17 = .ok (.iload_n 1, 1) := by decide +kernel
theorem dX0_firstOf_18 : decode cX0_firstOf 18 = .ok (.iaload, 1) := by decide +kernel
theorem dX0_firstOf_19 : decode cX0_firstOf 19 = .ok (.goto 4, 3) := by decide +kernel
theorem dX0_firstOf_22 : decode cX0_firstOf 22 = .ok (.iconst 0, 1) := by decide +kernel
theorem dX0_firstOf_23 : decode cX0_firstOf 23 = .ok (.ireturn, 1) := by decide +kernel
theorem dX0_takesOf_0 : decode cX0_takesOf 0 = .ok (.aload_n 0, 1) := by decide +kernel
theorem dX0_takesOf_1 : decode cX0_takesOf 1 = .ok (.iload_n 1, 1) := by decide +kernel
theorem dX0_takesOf_2 : decode cX0_takesOf 2 = .ok (.invokevirtual 79, 3) := by decide +kernel
theorem dX0_takesOf_5 : decode cX0_takesOf 5 = .ok (.ifCond .eq 27, 3) := by decide +kernel
theorem dX0_takesOf_8 : decode cX0_takesOf 8 = .ok (.aload_n 0, 1) := by decide +kernel
theorem dX0_takesOf_9 : decode cX0_takesOf 9 = .ok (.getfield 9, 3) := by decide +kernel
theorem dX0_takesOf_12 : decode cX0_takesOf 12 = .ok (.iload_n 1, 1) := by decide +kernel
theorem dX0_takesOf_13 : decode cX0_takesOf 13 = .ok (.iaload, 1) := by decide +kernel
theorem dX0_takesOf_14 : decode cX0_takesOf 14 = .ok (.aload_n 0, 1) := by decide +kernel
theorem dX0_takesOf_15 : decode cX0_takesOf 15 = .ok (.getfield 15, 3) := by decide +kernel
theorem dX0_takesOf_18 : decode cX0_takesOf 18 = .ok (.iload_n 1, 1) := by decide +kernel
theorem dX0_takesOf_19 : decode cX0_takesOf 19 = .ok (.iaload, 1) := by decide +kernel
theorem dX0_takesOf_20 : decode cX0_takesOf 20 = .ok (.aload_n 0, 1) := by decide +kernel
theorem dX0_takesOf_21 : decode cX0_takesOf 21 = .ok (.getfield 18, 3) := by decide +kernel
theorem dX0_takesOf_24 : decode cX0_takesOf 24 = .ok (.iload_n 1, 1) := by decide +kernel
theorem dX0_takesOf_25 : decode cX0_takesOf 25 = .ok (.iaload, 1) := by decide +kernel
theorem dX0_takesOf_26 : decode cX0_takesOf 26 = .ok (.invokestatic 83, 3) := by decide +kernel
theorem dX0_takesOf_29 : decode cX0_takesOf 29 = .ok (.goto 4, 3) := by decide +kernel
theorem dX0_takesOf_32 : decode cX0_takesOf 32 = .ok (.iconst 0, 1) := by decide +kernel
theorem dX0_takesOf_33 : decode cX0_takesOf 33 = .ok (.ireturn, 1) := by decide +kernel
theorem dX0_add_0 : decode cX0_add 0 = .ok (.aload_n 0, 1) := by decide +kernel
theorem dX0_add_1 : decode cX0_add 1 = .ok (.getfield 54, 3) := by decide +kernel
theorem dX0_add_4 : decode cX0_add 4 = .ok (.istore 4, 2) := by decide +kernel
theorem dX0_add_6 : decode cX0_add 6 = .ok (.iload 4, 2) := by decide +kernel
theorem dX0_add_8 : decode cX0_add 8 = .ok (.ifCond .lt 10, 3) := by decide +kernel
theorem dX0_add_11 : decode cX0_add 11 = .ok (.iload 4, 2) := by decide +kernel
theorem dX0_add_13 : decode cX0_add 13 = .ok (.bipush 12, 2) := by decide +kernel
theorem dX0_add_15 : decode cX0_add 15 = .ok (.if_icmp .lt 5, 3) := by decide +kernel
theorem dX0_add_18 : decode cX0_add 18 = .ok (.iconst 0, 1) := by decide +kernel
theorem dX0_add_19 : decode cX0_add 19 = .ok (.ireturn, 1) := by decide +kernel
theorem dX0_add_20 : decode cX0_add 20 = .ok (.aload_n 0, 1) := by decide +kernel
theorem dX0_add_21 : decode cX0_add 21 = .ok (.getfield 9, 3) := by decide +kernel
theorem dX0_add_24 : decode cX0_add 24 = .ok (.iload 4, 2) := by decide +kernel
theorem dX0_add_26 : decode cX0_add 26 = .ok (.iload_n 1, 1) := by decide +kernel
theorem dX0_add_27 : decode cX0_add 27 = .ok (.bipush 10, 2) := by decide +kernel
theorem dX0_add_29 : decode cX0_add 29 = .ok (.idiv, 1) := by decide +kernel
theorem dX0_add_30 : decode cX0_add 30 = .ok (.iastore, 1) := by decide +kernel
theorem dX0_add_31 : decode cX0_add 31 = .ok (.aload_n 0, 1) := by decide +kernel
theorem dX0_add_32 : decode cX0_add 32 = .ok (.getfield 15, 3) := by decide +kernel
theorem dX0_add_35 : decode cX0_add 35 = .ok (.iload 4, 2) := by decide +kernel
theorem dX0_add_37 : decode cX0_add 37 = .ok (.iload_n 1, 1) := by decide +kernel
theorem dX0_add_38 : decode cX0_add 38 = .ok (.bipush 10, 2) := by decide +kernel
theorem dX0_add_40 : decode cX0_add 40 = .ok (.irem, 1) := by decide +kernel
theorem dX0_add_41 : decode cX0_add 41 = .ok (.iastore, 1) := by decide +kernel
theorem dX0_add_42 : decode cX0_add 42 = .ok (.aload_n 0, 1) := by decide +kernel
theorem dX0_add_43 : decode cX0_add 43 = .ok (.getfield 18, 3) := by decide +kernel
theorem dX0_add_46 : decode cX0_add 46 = .ok (.iload 4, 2) := by decide +kernel
theorem dX0_add_48 : decode cX0_add 48 = .ok (.iload_n 2, 1) := by decide +kernel
theorem dX0_add_49 : decode cX0_add 49 = .ok (.iastore, 1) := by decide +kernel
theorem dX0_add_50 : decode cX0_add 50 = .ok (.aload_n 0, 1) := by decide +kernel
theorem dX0_add_51 : decode cX0_add 51 = .ok (.getfield 21, 3) := by decide +kernel
theorem dX0_add_54 : decode cX0_add 54 = .ok (.iload 4, 2) := by decide +kernel
theorem dX0_add_56 : decode cX0_add 56 = .ok (.iload_n 3, 1) := by decide +kernel
theorem dX0_add_57 : decode cX0_add 57 = .ok (.iastore, 1) := by decide +kernel
theorem dX0_add_58 : decode cX0_add 58 = .ok (.aload_n 0, 1) := by decide +kernel
theorem dX0_add_59 : decode cX0_add 59 = .ok (.getfield 24, 3) := by decide +kernel
theorem dX0_add_62 : decode cX0_add 62 = .ok (.iload 4, 2) := by decide +kernel
theorem dX0_add_64 : decode cX0_add 64 = .ok (.iconst (-1), 1) := by decide +kernel
theorem dX0_add_65 : decode cX0_add 65 = .ok (.iastore, 1) := by decide +kernel
theorem dX0_add_66 : decode cX0_add 66 = .ok (.aload_n 0, 1) := by decide +kernel
theorem dX0_add_67 : decode cX0_add 67 = .ok (.dup, 1) := by decide +kernel
theorem dX0_add_68 : decode cX0_add 68 = .ok (.getfield 54, 3) := by decide +kernel
theorem dX0_add_71 : decode cX0_add 71 = .ok (.iconst 1, 1) := by decide +kernel
theorem dX0_add_72 : decode cX0_add 72 = .ok (.iadd, 1) := by decide +kernel
theorem dX0_add_73 : decode cX0_add 73 = .ok (.putfield 54, 3) := by decide +kernel
theorem dX0_add_76 : decode cX0_add 76 = .ok (.aload_n 0, 1) := by decide +kernel
theorem dX0_add_77 : decode cX0_add 77 = .ok (.invokevirtual 89, 3) := by decide +kernel
theorem dX0_add_80 : decode cX0_add 80 = .ok (.iconst 1, 1) := by decide +kernel
theorem dX0_add_81 : decode cX0_add 81 = .ok (.ireturn, 1) := by decide +kernel
theorem dX0_addDeed_0 : decode cX0_addDeed 0 = .ok (.aload_n 0, 1) := by decide +kernel
theorem dX0_addDeed_1 : decode cX0_addDeed 1 = .ok (.getfield 57, 3) := by decide +kernel
theorem dX0_addDeed_4 : decode cX0_addDeed 4 = .ok (.ifCond .lt 12, 3) := by decide +kernel
theorem dX0_addDeed_7 : decode cX0_addDeed 7 = .ok (.aload_n 0, 1) := by decide +kernel
theorem dX0_addDeed_8 : decode cX0_addDeed 8 = .ok (.getfield 57, 3) := by decide +kernel
theorem dX0_addDeed_11 : decode cX0_addDeed 11 = .ok (.bipush 6, 2) := by decide +kernel
theorem dX0_addDeed_13 : decode cX0_addDeed 13 = .ok (.if_icmp .lt 5, 3) := by decide +kernel
theorem dX0_addDeed_16 : decode cX0_addDeed 16 = .ok (.iconst 0, 1) := by decide +kernel
theorem dX0_addDeed_17 : decode cX0_addDeed 17 = .ok (.ireturn, 1) := by decide +kernel
theorem dX0_addDeed_18 : decode cX0_addDeed 18 = .ok (.aload_n 0, 1) := by decide +kernel
theorem dX0_addDeed_19 : decode cX0_addDeed 19 = .ok (.getfield 33, 3) := by decide +kernel
theorem dX0_addDeed_22 : decode cX0_addDeed 22 = .ok (.aload_n 0, 1) := by decide +kernel
theorem dX0_addDeed_23 : decode cX0_addDeed 23 = .ok (.getfield 57, 3) := by decide +kernel
theorem dX0_addDeed_26 : decode cX0_addDeed 26 = .ok (.iload_n 1, 1) := by decide +kernel
theorem dX0_addDeed_27 : decode cX0_addDeed 27 = .ok (.iastore, 1) := by decide +kernel
theorem dX0_addDeed_28 : decode cX0_addDeed 28 = .ok (.aload_n 0, 1) := by decide +kernel
theorem dX0_addDeed_29 : decode cX0_addDeed 29 = .ok (.dup, 1) := by decide +kernel
theorem dX0_addDeed_30 : decode cX0_addDeed 30 = .ok (.getfield 57, 3) := by decide +kernel
theorem dX0_addDeed_33 : decode cX0_addDeed 33 = .ok (.iconst 1, 1) := by decide +kernel
theorem dX0_addDeed_34 : decode cX0_addDeed 34 = .ok (.iadd, 1) := by decide +kernel
theorem dX0_addDeed_35 : decode cX0_addDeed 35 = .ok (.putfield 57, 3) := by decide +kernel
theorem dX0_addDeed_38 : decode cX0_addDeed 38 = .ok (.iconst 1, 1) := by decide +kernel
theorem dX0_addDeed_39 : decode cX0_addDeed 39 = .ok (.ireturn, 1) := by decide +kernel
theorem dX0_settle_0 : decode cX0_settle 0 = .ok (.iconst 0, 1) := by decide +kernel
theorem dX0_settle_1 : decode cX0_settle 1 = .ok (.istore_n 1, 1) := by decide +kernel
theorem dX0_settle_2 : decode cX0_settle 2 = .ok (.iconst 0, 1) := by decide +kernel
theorem dX0_settle_3 : decode cX0_settle 3 = .ok (.istore_n 2, 1) := by decide +kernel
theorem dX0_settle_4 : decode cX0_settle 4 = .ok (.iload_n 2, 1) := by decide +kernel
theorem dX0_settle_5 : decode cX0_settle 5 = .ok (.aload_n 0, 1) := by decide +kernel
theorem dX0_settle_6 : decode cX0_settle 6 = .ok (.getfield 54, 3) := by decide +kernel
theorem dX0_settle_9 : decode cX0_settle 9 = .ok (.if_icmp .ge 35, 3) := by decide +kernel
theorem dX0_settle_12 : decode cX0_settle 12 = .ok (.aload_n 0, 1) := by decide +kernel
theorem dX0_settle_13 : decode cX0_settle 13 = .ok (.getfield 27, 3) := by decide +kernel
theorem dX0_settle_16 : decode cX0_settle 16 = .ok (.iload_n 2, 1) := by decide +kernel
theorem dX0_settle_17 : decode cX0_settle 17 = .ok (.iload_n 1, 1) := by decide +kernel
theorem dX0_settle_18 : decode cX0_settle 18 = .ok (.iastore, 1) := by decide +kernel
theorem dX0_settle_19 : decode cX0_settle 19 = .ok (.iload_n 1, 1) := by decide +kernel
theorem dX0_settle_20 : decode cX0_settle 20 = .ok (.aload_n 0, 1) := by decide +kernel
theorem dX0_settle_21 : decode cX0_settle 21 = .ok (.iload_n 2, 1) := by decide +kernel
theorem dX0_settle_22 : decode cX0_settle 22 = .ok (.invokevirtual 92, 3) := by decide +kernel
theorem dX0_settle_25 : decode cX0_settle 25 = .ok (.iadd, 1) := by decide +kernel
theorem dX0_settle_26 : decode cX0_settle 26 = .ok (.istore_n 1, 1) := by decide +kernel
theorem dX0_settle_27 : decode cX0_settle 27 = .ok (.aload_n 0, 1) := by decide +kernel
theorem dX0_settle_28 : decode cX0_settle 28 = .ok (.getfield 30, 3) := by decide +kernel
theorem dX0_settle_31 : decode cX0_settle 31 = .ok (.iload_n 2, 1) := by decide +kernel
theorem dX0_settle_32 : decode cX0_settle 32 = .ok (.aload_n 0, 1) := by decide +kernel
theorem dX0_settle_33 : decode cX0_settle 33 = .ok (.iload_n 2, 1) := by decide +kernel
theorem dX0_settle_34 : decode cX0_settle 34 = .ok (.invokevirtual 95, 3) := by decide +kernel
theorem dX0_settle_37 : decode cX0_settle 37 = .ok (.iastore, 1) := by decide +kernel
theorem dX0_settle_38 : decode cX0_settle 38 = .ok (.iinc 2 1, 3) := by decide +kernel
theorem dX0_settle_41 : decode cX0_settle 41 = .ok (.goto (-37), 3) := by decide +kernel
theorem dX0_settle_44 : decode cX0_settle 44 = .ok (.aload_n 0, 1) := by decide +kernel
theorem dX0_settle_45 : decode cX0_settle 45 = .ok (.getfield 27, 3) := by decide +kernel
theorem dX0_settle_48 : decode cX0_settle 48 = .ok (.aload_n 0, 1) := by decide +kernel
theorem dX0_settle_49 : decode cX0_settle 49 = .ok (.getfield 54, 3) := by decide +kernel
theorem dX0_settle_52 : decode cX0_settle 52 = .ok (.iload_n 1, 1) := by decide +kernel
theorem dX0_settle_53 : decode cX0_settle 53 = .ok (.iastore, 1) := by decide +kernel
theorem dX0_settle_54 : decode cX0_settle 54 = .ok (.return_, 1) := by decide +kernel
theorem dX0_chainOf_0 : decode cX0_chainOf 0 = .ok (.iconst 0, 1) := by decide +kernel
theorem dX0_chainOf_1 : decode cX0_chainOf 1 = .ok (.istore_n 2, 1) := by decide +kernel
theorem dX0_chainOf_2 : decode cX0_chainOf 2 = .ok (.iload_n 1, 1) := by decide +kernel
theorem dX0_chainOf_3 : decode cX0_chainOf 3 = .ok (.istore_n 3, 1) := by decide +kernel
theorem dX0_chainOf_4 : decode cX0_chainOf 4 = .ok (.iconst 0, 1) := by decide +kernel
theorem dX0_chainOf_5 : decode cX0_chainOf 5 = .ok (.istore 4, 2) := by decide +kernel
theorem dX0_chainOf_7 : decode cX0_chainOf 7 = .ok (.iload 4, 2) := by decide +kernel
theorem dX0_chainOf_9 : decode cX0_chainOf 9 = .ok (.bipush 12, 2) := by decide +kernel
theorem dX0_chainOf_11 : decode cX0_chainOf 11 = .ok (.if_icmp .ge 54, 3) := by decide +kernel
theorem dX0_chainOf_14 : decode cX0_chainOf 14 = .ok (.aload_n 0, 1) := by decide +kernel
theorem dX0_chainOf_15 : decode cX0_chainOf 15 = .ok (.iload_n 3, 1) := by decide +kernel
theorem dX0_chainOf_16 : decode cX0_chainOf 16 = .ok (.invokevirtual 79, 3) := by decide +kernel
theorem dX0_chainOf_19 : decode cX0_chainOf 19 = .ok (.ifCond .eq 46, 3) := by decide +kernel
theorem dX0_chainOf_22 : decode cX0_chainOf 22 = .ok (.iload_n 2, 1) := by decide +kernel
theorem dX0_chainOf_23 : decode cX0_chainOf 23 = .ok (.iload_n 3, 1) := by decide +kernel
theorem dX0_chainOf_24 : decode cX0_chainOf 24 = .ok (.ishr, 1) := by decide +kernel
theorem dX0_chainOf_25 : decode cX0_chainOf 25 = .ok (.iconst 1, 1) := by decide +kernel
theorem dX0_chainOf_26 : decode cX0_chainOf 26 = .ok (.iand, 1) := by decide +kernel
theorem dX0_chainOf_27 : decode cX0_chainOf 27 = .ok (.ifCond .ne 38, 3) := by decide +kernel
theorem dX0_chainOf_30 : decode cX0_chainOf 30 = .ok (.iload_n 2, 1) := by decide +kernel
theorem dX0_chainOf_31 : decode cX0_chainOf 31 = .ok (.iconst 1, 1) := by decide +kernel
theorem dX0_chainOf_32 : decode cX0_chainOf 32 = .ok (.iload_n 3, 1) := by decide +kernel
theorem dX0_chainOf_33 : decode cX0_chainOf 33 = .ok (.ishl, 1) := by decide +kernel
theorem dX0_chainOf_34 : decode cX0_chainOf 34 = .ok (.ior, 1) := by decide +kernel
theorem dX0_chainOf_35 : decode cX0_chainOf 35 = .ok (.istore_n 2, 1) := by decide +kernel
theorem dX0_chainOf_36 : decode cX0_chainOf 36 = .ok (.aload_n 0, 1) := by decide +kernel
theorem dX0_chainOf_37 : decode cX0_chainOf 37 = .ok (.getfield 9, 3) := by decide +kernel
theorem dX0_chainOf_40 : decode cX0_chainOf 40 = .ok (.iload_n 3, 1) := by decide +kernel
theorem dX0_chainOf_41 : decode cX0_chainOf 41 = .ok (.iaload, 1) := by decide +kernel
theorem dX0_chainOf_42 : decode cX0_chainOf 42 = .ok (.invokestatic 98, 3) := by decide +kernel
theorem dX0_chainOf_45 : decode cX0_chainOf 45 = .ok (.ifCond .eq 12, 3) := by decide +kernel
theorem dX0_chainOf_48 : decode cX0_chainOf 48 = .ok (.aload_n 0, 1) := by decide +kernel
theorem dX0_chainOf_49 : decode cX0_chainOf 49 = .ok (.getfield 21, 3) := by decide +kernel
theorem dX0_chainOf_52 : decode cX0_chainOf 52 = .ok (.iload_n 3, 1) := by decide +kernel
theorem dX0_chainOf_53 : decode cX0_chainOf 53 = .ok (.iaload, 1) := by decide +kernel
theorem dX0_chainOf_54 : decode cX0_chainOf 54 = .ok (.goto 4, 3) := by decide +kernel
theorem dX0_chainOf_57 : decode cX0_chainOf 57 = .ok (.iconst (-1), 1) := by decide +kernel
theorem dX0_chainOf_58 : decode cX0_chainOf 58 = .ok (.istore_n 3, 1) := by decide +kernel
theorem dX0_chainOf_59 : decode cX0_chainOf 59 = .ok (.iinc 4 1, 3) := by decide +kernel
theorem dX0_chainOf_62 : decode cX0_chainOf 62 = .ok (.goto (-55), 3) := by decide +kernel
theorem dX0_chainOf_65 : decode cX0_chainOf 65 = .ok (.iload_n 2, 1) := by decide +kernel
theorem dX0_chainOf_66 : decode cX0_chainOf 66 = .ok (.ireturn, 1) := by decide +kernel
theorem dX0_sendsToItself_0 : decode cX0_sendsToItself 0 = .ok (.iload_n 1, 1) := by decide +kernel
theorem dX0_sendsToItself_1 : decode cX0_sendsToItself 1 = .ok (.istore_n 2, 1) := by decide +kernel
theorem dX0_sendsToItself_2 : decode cX0_sendsToItself 2 = .ok (.iconst 0, 1) := by decide +kernel
theorem dX0_sendsToItself_3 : decode cX0_sendsToItself 3 = .ok (.istore_n 3, 1) := by decide +kernel
theorem dX0_sendsToItself_4 : decode cX0_sendsToItself 4 = .ok (.iload_n 3, 1) := by decide +kernel
theorem dX0_sendsToItself_5 : decode cX0_sendsToItself 5 = .ok (.bipush 12, 2) := by decide +kernel
theorem dX0_sendsToItself_7 : decode cX0_sendsToItself 7 = .ok (.if_icmp .ge 31, 3) := by decide +kernel
theorem dX0_sendsToItself_10 : decode cX0_sendsToItself 10 = .ok (.aload_n 0, 1) := by decide +kernel
theorem dX0_sendsToItself_11 : decode cX0_sendsToItself 11 = .ok (.iload_n 2, 1) := by decide +kernel
theorem dX0_sendsToItself_12 : decode cX0_sendsToItself 12 = .ok (.invokevirtual 79, 3) := by decide +kernel
theorem dX0_sendsToItself_15 : decode cX0_sendsToItself 15 = .ok (.ifCond .eq 23, 3) := by decide +kernel
theorem dX0_sendsToItself_18 : decode cX0_sendsToItself 18 = .ok (.aload_n 0, 1) := by decide +kernel
theorem dX0_sendsToItself_19 : decode cX0_sendsToItself 19 = .ok (.getfield 21, 3) := by decide +kernel
theorem dX0_sendsToItself_22 : decode cX0_sendsToItself 22 = .ok (.iload_n 2, 1) := by decide +kernel
theorem dX0_sendsToItself_23 : decode cX0_sendsToItself 23 = .ok (.iaload, 1) := by decide +kernel
theorem dX0_sendsToItself_24 : decode cX0_sendsToItself 24 = .ok (.istore_n 2, 1) := by decide +kernel
theorem dX0_sendsToItself_25 : decode cX0_sendsToItself 25 = .ok (.iload_n 2, 1) := by decide +kernel
theorem dX0_sendsToItself_26 : decode cX0_sendsToItself 26 = .ok (.iload_n 1, 1) := by decide +kernel
theorem dX0_sendsToItself_27 : decode cX0_sendsToItself 27 = .ok (.if_icmp .ne 5, 3) := by decide +kernel
theorem dX0_sendsToItself_30 : decode cX0_sendsToItself 30 = .ok (.iconst 1, 1) := by decide +kernel
theorem dX0_sendsToItself_31 : decode cX0_sendsToItself 31 = .ok (.ireturn, 1) := by decide +kernel
theorem dX0_sendsToItself_32 : decode cX0_sendsToItself 32 = .ok (.iinc 3 1, 3) := by decide +kernel
theorem dX0_sendsToItself_35 : decode cX0_sendsToItself 35 = .ok (.goto (-31), 3) := by decide +kernel
theorem dX0_sendsToItself_38 : decode cX0_sendsToItself 38 = .ok (.iconst 0, 1) := by decide +kernel
theorem dX0_sendsToItself_39 : decode cX0_sendsToItself 39 = .ok (.ireturn, 1) := by decide +kernel
theorem dX0_passDay_0 : decode cX0_passDay 0 = .ok (.aload_n 0, 1) := by decide +kernel
theorem dX0_passDay_1 : decode cX0_passDay 1 = .ok (.dup, 1) := by decide +kernel
theorem dX0_passDay_2 : decode cX0_passDay 2 = .ok (.getfield 63, 3) := by decide +kernel
theorem dX0_passDay_5 : decode cX0_passDay 5 = .ok (.iconst 1, 1) := by decide +kernel
theorem dX0_passDay_6 : decode cX0_passDay 6 = .ok (.iadd, 1) := by decide +kernel
theorem dX0_passDay_7 : decode cX0_passDay 7 = .ok (.putfield 63, 3) := by decide +kernel
theorem dX0_passDay_10 : decode cX0_passDay 10 = .ok (.aload_n 0, 1) := by decide +kernel
theorem dX0_passDay_11 : decode cX0_passDay 11 = .ok (.iconst 0, 1) := by decide +kernel
theorem dX0_passDay_12 : decode cX0_passDay 12 = .ok (.putfield 69, 3) := by decide +kernel
theorem dX0_passDay_15 : decode cX0_passDay 15 = .ok (.aload_n 0, 1) := by decide +kernel
theorem dX0_passDay_16 : decode cX0_passDay 16 = .ok (.aload_n 0, 1) := by decide +kernel
theorem dX0_passDay_17 : decode cX0_passDay 17 = .ok (.getfield 60, 3) := by decide +kernel
theorem dX0_passDay_20 : decode cX0_passDay 20 = .ok (.putfield 101, 3) := by decide +kernel
theorem dX0_passDay_23 : decode cX0_passDay 23 = .ok (.aload_n 0, 1) := by decide +kernel
theorem dX0_passDay_24 : decode cX0_passDay 24 = .ok (.invokevirtual 104, 3) := by decide +kernel
theorem dX0_passDay_27 : decode cX0_passDay 27 = .ok (.istore_n 1, 1) := by decide +kernel
theorem dX0_passDay_28 : decode cX0_passDay 28 = .ok (.iload_n 1, 1) := by decide +kernel
theorem dX0_passDay_29 : decode cX0_passDay 29 = .ok (.ifCond .le 83, 3) := by decide +kernel
theorem dX0_passDay_32 : decode cX0_passDay 32 = .ok (.aload_n 0, 1) := by decide +kernel
theorem dX0_passDay_33 : decode cX0_passDay 33 = .ok (.aload_n 0, 1) := by decide +kernel
theorem dX0_passDay_34 : decode cX0_passDay 34 = .ok (.aload_n 0, 1) := by decide +kernel
theorem dX0_passDay_35 : decode cX0_passDay 35 = .ok (.getfield 36, 3) := by decide +kernel
theorem dX0_passDay_38 : decode cX0_passDay 38 = .ok (.invokevirtual 79, 3) := by decide +kernel
theorem dX0_passDay_41 : decode cX0_passDay 41 = .ok (.ifCond .eq 15, 3) := by decide +kernel
theorem dX0_passDay_44 : decode cX0_passDay 44 = .ok (.aload_n 0, 1) := by decide +kernel
theorem dX0_passDay_45 : decode cX0_passDay 45 = .ok (.getfield 27, 3) := by decide +kernel
theorem dX0_passDay_48 : decode cX0_passDay 48 = .ok (.aload_n 0, 1) := by decide +kernel
theorem dX0_passDay_49 : decode cX0_passDay 49 = .ok (.getfield 36, 3) := by decide +kernel
theorem dX0_passDay_52 : decode cX0_passDay 52 = .ok (.iaload, 1) := by decide +kernel
theorem dX0_passDay_53 : decode cX0_passDay 53 = .ok (.goto 9, 3) := by decide +kernel
theorem dX0_passDay_56 : decode cX0_passDay 56 = .ok (.aload_n 0, 1) := by decide +kernel
theorem dX0_passDay_57 : decode cX0_passDay 57 = .ok (.getfield 60, 3) := by decide +kernel
theorem dX0_passDay_60 : decode cX0_passDay 60 = .ok (.iload_n 1, 1) := by decide +kernel
theorem dX0_passDay_61 : decode cX0_passDay 61 = .ok (.irem, 1) := by decide +kernel
theorem dX0_passDay_62 : decode cX0_passDay 62 = .ok (.putfield 101, 3) := by decide +kernel
theorem dX0_passDay_65 : decode cX0_passDay 65 = .ok (.aload_n 0, 1) := by decide +kernel
theorem dX0_passDay_66 : decode cX0_passDay 66 = .ok (.iconst (-1), 1) := by decide +kernel
theorem dX0_passDay_67 : decode cX0_passDay 67 = .ok (.putfield 36, 3) := by decide +kernel
theorem dX0_passDay_70 : decode cX0_passDay 70 = .ok (.aload_n 0, 1) := by decide +kernel
theorem dX0_passDay_71 : decode cX0_passDay 71 = .ok (.iconst 0, 1) := by decide +kernel
theorem dX0_passDay_72 : decode cX0_passDay 72 = .ok (.aload_n 0, 1) := by decide +kernel
theorem dX0_passDay_73 : decode cX0_passDay 73 = .ok (.aload_n 0, 1) := by decide +kernel
theorem dX0_passDay_74 : decode cX0_passDay 74 = .ok (.getfield 101, 3) := by decide +kernel
theorem dX0_passDay_77 : decode cX0_passDay 77 = .ok (.invokevirtual 108, 3) := by decide +kernel
theorem dX0_passDay_80 : decode cX0_passDay 80 = .ok (.iconst 0, 1) := by decide +kernel
theorem dX0_passDay_81 : decode cX0_passDay 81 = .ok (.iconst 0, 1) := by decide +kernel
theorem dX0_passDay_82 : decode cX0_passDay 82 = .ok (.invokevirtual 111, 3) := by decide +kernel
theorem dX0_passDay_85 : decode cX0_passDay 85 = .ok (.iload_n 1, 1) := by decide +kernel
theorem dX0_passDay_86 : decode cX0_passDay 86 = .ok (.invokestatic 115, 3) := by decide +kernel
theorem dX0_passDay_89 : decode cX0_passDay 89 = .ok (.istore_n 2, 1) := by decide +kernel
theorem dX0_passDay_90 : decode cX0_passDay 90 = .ok (.aload_n 0, 1) := by decide +kernel
theorem dX0_passDay_91 : decode cX0_passDay 91 = .ok (.aload_n 0, 1) := by decide +kernel
theorem dX0_passDay_92 : decode cX0_passDay 92 = .ok (.getfield 101, 3) := by decide +kernel
theorem dX0_passDay_95 : decode cX0_passDay 95 = .ok (.iload_n 2, 1) := by decide +kernel
theorem dX0_passDay_96 : decode cX0_passDay 96 = .ok (.iload_n 1, 1) := by decide +kernel
theorem dX0_passDay_97 : decode cX0_passDay 97 = .ok (.invokevirtual 121, 3) := by decide +kernel
theorem dX0_passDay_100 : decode cX0_passDay 100 = .ok (.aload_n 0, 1) := by decide +kernel
theorem dX0_passDay_101 : decode cX0_passDay 101 = .ok (.aload_n 0, 1) := by decide +kernel
theorem dX0_passDay_102 : decode cX0_passDay 102 = .ok (.getfield 101, 3) := by decide +kernel
theorem dX0_passDay_105 : decode cX0_passDay 105 = .ok (.iload_n 2, 1) := by decide +kernel
theorem dX0_passDay_106 : decode cX0_passDay 106 = .ok (.iadd, 1) := by decide +kernel
theorem dX0_passDay_107 : decode cX0_passDay 107 = .ok (.iload_n 1, 1) := by decide +kernel
theorem dX0_passDay_108 : decode cX0_passDay 108 = .ok (.irem, 1) := by decide +kernel
theorem dX0_passDay_109 : decode cX0_passDay 109 = .ok (.putfield 60, 3) := by decide +kernel
theorem dX0_passDay_112 : decode cX0_passDay 112 = .ok (.return_, 1) := by decide +kernel
theorem dX0_entryOn_0 : decode cX0_entryOn 0 = .ok (.iconst 0, 1) := by decide +kernel
theorem dX0_entryOn_1 : decode cX0_entryOn 1 = .ok (.istore_n 2, 1) := by decide +kernel
theorem dX0_entryOn_2 : decode cX0_entryOn 2 = .ok (.iload_n 2, 1) := by decide +kernel
theorem dX0_entryOn_3 : decode cX0_entryOn 3 = .ok (.aload_n 0, 1) := by decide +kernel
theorem dX0_entryOn_4 : decode cX0_entryOn 4 = .ok (.getfield 54, 3) := by decide +kernel
theorem dX0_entryOn_7 : decode cX0_entryOn 7 = .ok (.if_icmp .ge 23, 3) := by decide +kernel
theorem dX0_entryOn_10 : decode cX0_entryOn 10 = .ok (.iload_n 1, 1) := by decide +kernel
theorem dX0_entryOn_11 : decode cX0_entryOn 11 = .ok (.aload_n 0, 1) := by decide +kernel
theorem dX0_entryOn_12 : decode cX0_entryOn 12 = .ok (.getfield 27, 3) := by decide +kernel
theorem dX0_entryOn_15 : decode cX0_entryOn 15 = .ok (.iload_n 2, 1) := by decide +kernel
theorem dX0_entryOn_16 : decode cX0_entryOn 16 = .ok (.iconst 1, 1) := by decide +kernel
theorem dX0_entryOn_17 : decode cX0_entryOn 17 = .ok (.iadd, 1) := by decide +kernel
theorem dX0_entryOn_18 : decode cX0_entryOn 18 = .ok (.iaload, 1) := by decide +kernel
theorem dX0_entryOn_19 : decode cX0_entryOn 19 = .ok (.if_icmp .ge 5, 3) := by decide +kernel
theorem dX0_entryOn_22 : decode cX0_entryOn 22 = .ok (.iload_n 2, 1) := by decide +kernel
theorem dX0_entryOn_23 : decode cX0_entryOn 23 = .ok (.ireturn, 1) := by decide +kernel
theorem dX0_entryOn_24 : decode cX0_entryOn 24 = .ok (.iinc 2 1, 3) := by decide +kernel
theorem dX0_entryOn_27 : decode cX0_entryOn 27 = .ok (.goto (-25), 3) := by decide +kernel
theorem dX0_entryOn_30 : decode cX0_entryOn 30 = .ok (.iconst (-1), 1) := by decide +kernel
theorem dX0_entryOn_31 : decode cX0_entryOn 31 = .ok (.ireturn, 1) := by decide +kernel
theorem dX0_readPages_0 : decode cX0_readPages 0 = .ok (.iconst 0, 1) := by decide +kernel
theorem dX0_readPages_1 : decode cX0_readPages 1 = .ok (.istore 4, 2) := by decide +kernel
theorem dX0_readPages_3 : decode cX0_readPages 3 = .ok (.iload 4, 2) := by decide +kernel
theorem dX0_readPages_5 : decode cX0_readPages 5 = .ok (.aload_n 0, 1) := by decide +kernel
theorem dX0_readPages_6 : decode cX0_readPages 6 = .ok (.getfield 54, 3) := by decide +kernel
theorem dX0_readPages_9 : decode cX0_readPages 9 = .ok (.if_icmp .ge 91, 3) := by decide +kernel
theorem dX0_readPages_12 : decode cX0_readPages 12 = .ok (.iload_n 2, 1) := by decide +kernel
theorem dX0_readPages_13 : decode cX0_readPages 13 = .ok (.ifCond .le 37, 3) := by decide +kernel
theorem dX0_readPages_16 : decode cX0_readPages 16 = .ok (.aload_n 0, 1) := by decide +kernel
theorem dX0_readPages_17 : decode cX0_readPages 17 = .ok (.iload 4, 2) := by decide +kernel
theorem dX0_readPages_19 : decode cX0_readPages 19 = .ok (.iload_n 1, 1) := by decide +kernel
theorem dX0_readPages_20 : decode cX0_readPages 20 = .ok (.iload_n 1, 1) := by decide +kernel
theorem dX0_readPages_21 : decode cX0_readPages 21 = .ok (.iload_n 2, 1) := by decide +kernel
theorem dX0_readPages_22 : decode cX0_readPages 22 = .ok (.iadd, 1) := by decide +kernel
theorem dX0_readPages_23 : decode cX0_readPages 23 = .ok (.invokevirtual 125, 3) := by decide +kernel
theorem dX0_readPages_26 : decode cX0_readPages 26 = .ok (.ifCond .ne 20, 3) := by decide +kernel
theorem dX0_readPages_29 : decode cX0_readPages 29 = .ok (.aload_n 0, 1) := by decide +kernel
theorem dX0_readPages_30 : decode cX0_readPages 30 = .ok (.iload 4, 2) := by decide +kernel
theorem dX0_readPages_32 : decode cX0_readPages 32 = .ok (.iload_n 1, 1) := by decide +kernel
theorem dX0_readPages_33 : decode cX0_readPages 33 = .ok (.iload_n 3, 1) := by decide +kernel
theorem dX0_readPages_34 : decode cX0_readPages 34 = .ok (.isub, 1) := by decide +kernel
theorem dX0_readPages_35 : decode cX0_readPages 35 = .ok (.iload_n 1, 1) := by decide +kernel
theorem dX0_readPages_36 : decode cX0_readPages 36 = .ok (.iload_n 2, 1) := by decide +kernel
theorem dX0_readPages_37 : decode cX0_readPages 37 = .ok (.iadd, 1) := by decide +kernel
theorem dX0_readPages_38 : decode cX0_readPages 38 = .ok (.iload_n 3, 1) := by decide +kernel
theorem dX0_readPages_39 : decode cX0_readPages 39 = .ok (.isub, 1) := by decide +kernel
theorem dX0_readPages_40 : decode cX0_readPages 40 = .ok (.invokevirtual 125, 3) := by decide +kernel
theorem dX0_readPages_43 : decode cX0_readPages 43 = .ok (.ifCond .eq 7, 3) := by decide +kernel
theorem dX0_readPages_46 : decode cX0_readPages 46 = .ok (.iconst 1, 1) := by decide +kernel
theorem dX0_readPages_47 : decode cX0_readPages 47 = .ok (.goto 4, 3) := by decide +kernel
theorem dX0_readPages_50 : decode cX0_readPages 50 = .ok (.iconst 0, 1) := by decide +kernel
theorem dX0_readPages_51 : decode cX0_readPages 51 = .ok (.istore 5, 2) := by decide +kernel
theorem dX0_readPages_53 : decode cX0_readPages 53 = .ok (.iload 5, 2) := by decide +kernel
theorem dX0_readPages_55 : decode cX0_readPages 55 = .ok (.ifCond .eq 39, 3) := by decide +kernel
theorem dX0_readPages_58 : decode cX0_readPages 58 = .ok (.aload_n 0, 1) := by decide +kernel
theorem dX0_readPages_59 : decode cX0_readPages 59 = .ok (.getfield 66, 3) := by decide +kernel
theorem dX0_readPages_62 : decode cX0_readPages 62 = .ok (.iload 4, 2) := by decide +kernel
theorem dX0_readPages_64 : decode cX0_readPages 64 = .ok (.ishr, 1) := by decide +kernel
theorem dX0_readPages_65 : decode cX0_readPages 65 = .ok (.iconst 1, 1) := by decide +kernel
theorem dX0_readPages_66 : decode cX0_readPages 66 = .ok (.iand, 1) := by decide +kernel
theorem dX0_readPages_67 : decode cX0_readPages 67 = .ok (.ifCond .ne 27, 3) := by decide +kernel
theorem dX0_readPages_70 : decode cX0_readPages 70 = .ok (.aload_n 0, 1) := by decide +kernel
theorem dX0_readPages_71 : decode cX0_readPages 71 = .ok (.dup, 1) := by decide +kernel
theorem dX0_readPages_72 : decode cX0_readPages 72 = .ok (.getfield 69, 3) := by decide +kernel
theorem dX0_readPages_75 : decode cX0_readPages 75 = .ok (.iconst 1, 1) := by decide +kernel
theorem dX0_readPages_76 : decode cX0_readPages 76 = .ok (.iload 4, 2) := by decide +kernel
theorem dX0_readPages_78 : decode cX0_readPages 78 = .ok (.ishl, 1) := by decide +kernel
theorem dX0_readPages_79 : decode cX0_readPages 79 = .ok (.ior, 1) := by decide +kernel
theorem dX0_readPages_80 : decode cX0_readPages 80 = .ok (.putfield 69, 3) := by decide +kernel
theorem dX0_readPages_83 : decode cX0_readPages 83 = .ok (.aload_n 0, 1) := by decide +kernel
theorem dX0_readPages_84 : decode cX0_readPages 84 = .ok (.getfield 24, 3) := by decide +kernel
theorem dX0_readPages_87 : decode cX0_readPages 87 = .ok (.iload 4, 2) := by decide +kernel
theorem dX0_readPages_89 : decode cX0_readPages 89 = .ok (.aload_n 0, 1) := by decide +kernel
theorem dX0_readPages_90 : decode cX0_readPages 90 = .ok (.getfield 63, 3) := by decide +kernel
theorem dX0_readPages_93 : decode cX0_readPages 93 = .ok (.iastore, 1) := by decide +kernel
theorem dX0_readPages_94 : decode cX0_readPages 94 = .ok (.iinc 4 1, 3) := by decide +kernel
theorem dX0_readPages_97 : decode cX0_readPages 97 = .ok (.goto (-94), 3) := by decide +kernel
theorem dX0_readPages_100 : decode cX0_readPages 100 = .ok (.return_, 1) := by decide +kernel
theorem dX0_liesIn_0 : decode cX0_liesIn 0 = .ok (.aload_n 0, 1) := by decide +kernel
theorem dX0_liesIn_1 : decode cX0_liesIn 1 = .ok (.getfield 27, 3) := by decide +kernel
theorem dX0_liesIn_4 : decode cX0_liesIn 4 = .ok (.iload_n 1, 1) := by decide +kernel
theorem dX0_liesIn_5 : decode cX0_liesIn 5 = .ok (.iaload, 1) := by decide +kernel
theorem dX0_liesIn_6 : decode cX0_liesIn 6 = .ok (.iload_n 3, 1) := by decide +kernel
theorem dX0_liesIn_7 : decode cX0_liesIn 7 = .ok (.if_icmp .ge 19, 3) := by decide +kernel
theorem dX0_liesIn_10 : decode cX0_liesIn 10 = .ok (.aload_n 0, 1) := by decide +kernel
theorem dX0_liesIn_11 : decode cX0_liesIn 11 = .ok (.getfield 27, 3) := by decide +kernel
theorem dX0_liesIn_14 : decode cX0_liesIn 14 = .ok (.iload_n 1, 1) := by decide +kernel
theorem dX0_liesIn_15 : decode cX0_liesIn 15 = .ok (.iconst 1, 1) := by decide +kernel
theorem dX0_liesIn_16 : decode cX0_liesIn 16 = .ok (.iadd, 1) := by decide +kernel
theorem dX0_liesIn_17 : decode cX0_liesIn 17 = .ok (.iaload, 1) := by decide +kernel
theorem dX0_liesIn_18 : decode cX0_liesIn 18 = .ok (.iload_n 2, 1) := by decide +kernel
theorem dX0_liesIn_19 : decode cX0_liesIn 19 = .ok (.if_icmp .le 7, 3) := by decide +kernel
theorem dX0_liesIn_22 : decode cX0_liesIn 22 = .ok (.iconst 1, 1) := by decide +kernel
theorem dX0_liesIn_23 : decode cX0_liesIn 23 = .ok (.goto 4, 3) := by decide +kernel
theorem dX0_liesIn_26 : decode cX0_liesIn 26 = .ok (.iconst 0, 1) := by decide +kernel
theorem dX0_liesIn_27 : decode cX0_liesIn 27 = .ok (.ireturn, 1) := by decide +kernel
theorem dX0_says_0 : decode cX0_says 0 = .ok (.aload_n 0, 1) := by decide +kernel
theorem dX0_says_1 : decode cX0_says 1 = .ok (.iload_n 2, 1) := by decide +kernel
theorem dX0_says_2 : decode cX0_says 2 = .ok (.invokevirtual 79, 3) := by decide +kernel
theorem dX0_says_5 : decode cX0_says 5 = .ok (.ifCond .eq 22, 3) := by decide +kernel
theorem dX0_says_8 : decode cX0_says 8 = .ok (.aload_n 0, 1) := by decide +kernel
theorem dX0_says_9 : decode cX0_says 9 = .ok (.getfield 72, 3) := by decide +kernel
theorem dX0_says_12 : decode cX0_says 12 = .ok (.ifCond .lt 15, 3) := by decide +kernel
theorem dX0_says_15 : decode cX0_says 15 = .ok (.aload_n 0, 1) := by decide +kernel
theorem dX0_says_16 : decode cX0_says 16 = .ok (.getfield 72, 3) := by decide +kernel
theorem dX0_says_19 : decode cX0_says 19 = .ok (.aload_n 0, 1) := by decide +kernel
theorem dX0_says_20 : decode cX0_says 20 = .ok (.getfield 40, 3) := by decide +kernel
theorem dX0_says_23 : decode cX0_says 23 = .ok (.arraylength, 1) := by decide +kernel
theorem dX0_says_24 : decode cX0_says 24 = .ok (.if_icmp .lt 5, 3) := by decide +kernel
theorem dX0_says_27 : decode cX0_says 27 = .ok (.iconst 0, 1) := by decide +kernel
theorem dX0_says_28 : decode cX0_says 28 = .ok (.ireturn, 1) := by decide +kernel
theorem dX0_says_29 : decode cX0_says 29 = .ok (.aload_n 0, 1) := by decide +kernel
theorem dX0_says_30 : decode cX0_says 30 = .ok (.getfield 44, 3) := by decide +kernel
theorem dX0_says_33 : decode cX0_says 33 = .ok (.aload_n 0, 1) := by decide +kernel
theorem dX0_says_34 : decode cX0_says 34 = .ok (.getfield 63, 3) := by decide +kernel
theorem dX0_says_37 : decode cX0_says 37 = .ok (.aload_n 0, 1) := by decide +kernel
theorem dX0_says_38 : decode cX0_says 38 = .ok (.getfield 15, 3) := by decide +kernel
theorem dX0_says_41 : decode cX0_says 41 = .ok (.iload_n 2, 1) := by decide +kernel
theorem dX0_says_42 : decode cX0_says 42 = .ok (.iaload, 1) := by decide +kernel
theorem dX0_says_43 : decode cX0_says 43 = .ok (.aload_n 0, 1) := by decide +kernel
theorem dX0_says_44 : decode cX0_says 44 = .ok (.getfield 18, 3) := by decide +kernel
theorem dX0_says_47 : decode cX0_says 47 = .ok (.iload_n 2, 1) := by decide +kernel
theorem dX0_says_48 : decode cX0_says 48 = .ok (.iaload, 1) := by decide +kernel
theorem dX0_says_49 : decode cX0_says 49 = .ok (.iload_n 2, 1) := by decide +kernel
theorem dX0_says_50 : decode cX0_says 50 = .ok (.iload_n 3, 1) := by decide +kernel
theorem dX0_says_51 : decode cX0_says 51 = .ok (.iload 4, 2) := by decide +kernel
theorem dX0_says_53 : decode cX0_says 53 = .ok (.invokevirtual 129, 3) := by decide +kernel
theorem dX0_says_56 : decode cX0_says 56 = .ok (.aload_n 0, 1) := by decide +kernel
theorem dX0_says_57 : decode cX0_says 57 = .ok (.getfield 44, 3) := by decide +kernel
theorem dX0_says_60 : decode cX0_says 60 = .ok (.aload_n 0, 1) := by decide +kernel
theorem dX0_says_61 : decode cX0_says 61 = .ok (.getfield 40, 3) := by decide +kernel
theorem dX0_says_64 : decode cX0_says 64 = .ok (.aload_n 0, 1) := by decide +kernel
theorem dX0_says_65 : decode cX0_says 65 = .ok (.getfield 72, 3) := by decide +kernel
theorem dX0_says_68 : decode cX0_says 68 = .ok (.aaload, 1) := by decide +kernel
theorem dX0_says_69 : decode cX0_says 69 = .ok (.iload_n 1, 1) := by decide +kernel
theorem dX0_says_70 : decode cX0_says 70 = .ok (.invokevirtual 135, 3) := by decide +kernel
theorem dX0_says_73 : decode cX0_says 73 = .ok (.istore 5, 2) := by decide +kernel
theorem dX0_says_75 : decode cX0_says 75 = .ok (.iload_n 1, 1) := by decide +kernel
theorem dX0_says_76 : decode cX0_says 76 = .ok (.iconst 1, 1) := by decide +kernel
theorem dX0_says_77 : decode cX0_says 77 = .ok (.if_icmp .ne 14, 3) := by decide +kernel
theorem dX0_says_80 : decode cX0_says 80 = .ok (.iload 5, 2) := by decide +kernel
theorem dX0_says_82 : decode cX0_says 82 = .ok (.ifCond .eq 7, 3) := by decide +kernel
theorem dX0_says_85 : decode cX0_says 85 = .ok (.iconst 1, 1) := by decide +kernel
theorem dX0_says_86 : decode cX0_says 86 = .ok (.goto 4, 3) := by decide +kernel
theorem dX0_says_89 : decode cX0_says 89 = .ok (.iconst 0, 1) := by decide +kernel
theorem dX0_says_90 : decode cX0_says 90 = .ok (.ireturn, 1) := by decide +kernel
theorem dX0_says_91 : decode cX0_says 91 = .ok (.iconst 0, 1) := by decide +kernel
theorem dX0_says_92 : decode cX0_says 92 = .ok (.bipush 99, 2) := by decide +kernel
theorem dX0_says_94 : decode cX0_says 94 = .ok (.iload 5, 2) := by decide +kernel
theorem dX0_says_96 : decode cX0_says 96 = .ok (.invokestatic 115, 3) := by decide +kernel
theorem dX0_says_99 : decode cX0_says 99 = .ok (.invokestatic 139, 3) := by decide +kernel
theorem dX0_says_102 : decode cX0_says 102 = .ok (.ireturn, 1) := by decide +kernel
theorem dX0_behindOf_0 : decode cX0_behindOf 0 = .ok (.aload_n 0, 1) := by decide +kernel
theorem dX0_behindOf_1 : decode cX0_behindOf 1 = .ok (.getfield 24, 3) := by decide +kernel
theorem dX0_behindOf_4 : decode cX0_behindOf 4 = .ok (.iload_n 1, 1) := by decide +kernel
theorem dX0_behindOf_5 : decode cX0_behindOf 5 = .ok (.iaload, 1) := by decide +kernel
theorem dX0_behindOf_6 : decode cX0_behindOf 6 = .ok (.iconst (-1), 1) := by decide +kernel
theorem dX0_behindOf_7 : decode cX0_behindOf 7 = .ok (.if_icmp .ne 9, 3) := by decide +kernel
theorem dX0_behindOf_10 : decode cX0_behindOf 10 = .ok (.sipush 999, 3) := by decide +kernel
theorem dX0_behindOf_13 : decode cX0_behindOf 13 = .ok (.goto 18, 3) := by decide +kernel
theorem dX0_behindOf_16 : decode cX0_behindOf 16 = .ok (.iconst 0, 1) := by decide +kernel
theorem dX0_behindOf_17 : decode cX0_behindOf 17 = .ok (.aload_n 0, 1) := by decide +kernel
theorem dX0_behindOf_18 : decode cX0_behindOf 18 = .ok (.getfield 63, 3) := by decide +kernel
theorem dX0_behindOf_21 : decode cX0_behindOf 21 = .ok (.aload_n 0, 1) := by decide +kernel
theorem dX0_behindOf_22 : decode cX0_behindOf 22 = .ok (.getfield 24, 3) := by decide +kernel
theorem dX0_behindOf_25 : decode cX0_behindOf 25 = .ok (.iload_n 1, 1) := by decide +kernel
theorem dX0_behindOf_26 : decode cX0_behindOf 26 = .ok (.iaload, 1) := by decide +kernel
theorem dX0_behindOf_27 : decode cX0_behindOf 27 = .ok (.isub, 1) := by decide +kernel
theorem dX0_behindOf_28 : decode cX0_behindOf 28 = .ok (.invokestatic 139, 3) := by decide +kernel
theorem dX0_behindOf_31 : decode cX0_behindOf 31 = .ok (.ireturn, 1) := by decide +kernel
theorem dX0_itself_0 : decode cX0_itself 0 = .ok (.iconst 0, 1) := by decide +kernel
theorem dX0_itself_1 : decode cX0_itself 1 = .ok (.istore_n 1, 1) := by decide +kernel
theorem dX0_itself_2 : decode cX0_itself 2 = .ok (.aload_n 0, 1) := by decide +kernel
theorem dX0_itself_3 : decode cX0_itself 3 = .ok (.getfield 69, 3) := by decide +kernel
theorem dX0_itself_6 : decode cX0_itself 6 = .ok (.invokestatic 142, 3) := by decide +kernel
theorem dX0_itself_9 : decode cX0_itself 9 = .ok (.istore_n 2, 1) := by decide +kernel
theorem dX0_itself_10 : decode cX0_itself 10 = .ok (.iconst 0, 1) := by decide +kernel
theorem dX0_itself_11 : decode cX0_itself 11 = .ok (.istore_n 3, 1) := by decide +kernel
theorem dX0_itself_12 : decode cX0_itself 12 = .ok (.iload_n 3, 1) := by decide +kernel
theorem dX0_itself_13 : decode cX0_itself 13 = .ok (.aload_n 0, 1) := by decide +kernel
theorem dX0_itself_14 : decode cX0_itself 14 = .ok (.getfield 54, 3) := by decide +kernel
theorem dX0_itself_17 : decode cX0_itself 17 = .ok (.if_icmp .ge 105, 3) := by decide +kernel
theorem dX0_itself_20 : decode cX0_itself 20 = .ok (.aload_n 0, 1) := by decide +kernel
theorem dX0_itself_21 : decode cX0_itself 21 = .ok (.iload_n 3, 1) := by decide +kernel
theorem dX0_itself_22 : decode cX0_itself 22 = .ok (.invokevirtual 147, 3) := by decide +kernel
theorem dX0_itself_25 : decode cX0_itself 25 = .ok (.istore 4, 2) := by decide +kernel
theorem dX0_itself_27 : decode cX0_itself 27 = .ok (.aload_n 0, 1) := by decide +kernel
theorem dX0_itself_28 : decode cX0_itself 28 = .ok (.getfield 24, 3) := by decide +kernel
theorem dX0_itself_31 : decode cX0_itself 31 = .ok (.iload_n 3, 1) := by decide +kernel
theorem dX0_itself_32 : decode cX0_itself 32 = .ok (.iaload, 1) := by decide +kernel
theorem dX0_itself_33 : decode cX0_itself 33 = .ok (.aload_n 0, 1) := by decide +kernel
theorem dX0_itself_34 : decode cX0_itself 34 = .ok (.getfield 63, 3) := by decide +kernel
theorem dX0_itself_37 : decode cX0_itself 37 = .ok (.if_icmp .ne 7, 3) := by decide +kernel
theorem dX0_itself_40 : decode cX0_itself 40 = .ok (.iconst 1, 1) := by decide +kernel
theorem dX0_itself_41 : decode cX0_itself 41 = .ok (.goto 4, 3) := by decide +kernel
theorem dX0_itself_44 : decode cX0_itself 44 = .ok (.iconst 0, 1) := by decide +kernel
theorem dX0_itself_45 : decode cX0_itself 45 = .ok (.istore 5, 2) := by decide +kernel
theorem dX0_itself_47 : decode cX0_itself 47 = .ok (.iload 5, 2) := by decide +kernel
theorem dX0_itself_49 : decode cX0_itself 49 = .ok (.ifCond .ne 14, 3) := by decide +kernel
theorem dX0_itself_52 : decode cX0_itself 52 = .ok (.iload 4, 2) := by decide +kernel
theorem dX0_itself_54 : decode cX0_itself 54 = .ok (.aload_n 0, 1) := by decide +kernel
theorem dX0_itself_55 : decode cX0_itself 55 = .ok (.getfield 15, 3) := by decide +kernel
theorem dX0_itself_58 : decode cX0_itself 58 = .ok (.iload_n 3, 1) := by decide +kernel
theorem dX0_itself_59 : decode cX0_itself 59 = .ok (.iaload, 1) := by decide +kernel
theorem dX0_itself_60 : decode cX0_itself 60 = .ok (.if_icmp .gt 19, 3) := by decide +kernel
theorem dX0_itself_63 : decode cX0_itself 63 = .ok (.aload_n 0, 1) := by decide +kernel
theorem dX0_itself_64 : decode cX0_itself 64 = .ok (.iconst 1, 1) := by decide +kernel
theorem dX0_itself_65 : decode cX0_itself 65 = .ok (.iload_n 3, 1) := by decide +kernel
theorem dX0_itself_66 : decode cX0_itself 66 = .ok (.iload_n 2, 1) := by decide +kernel
theorem dX0_itself_67 : decode cX0_itself 67 = .ok (.iload 4, 2) := by decide +kernel
theorem dX0_itself_69 : decode cX0_itself 69 = .ok (.invokevirtual 111, 3) := by decide +kernel
theorem dX0_itself_72 : decode cX0_itself 72 = .ok (.ifCond .eq 7, 3) := by decide +kernel
theorem dX0_itself_75 : decode cX0_itself 75 = .ok (.iconst 1, 1) := by decide +kernel
theorem dX0_itself_76 : decode cX0_itself 76 = .ok (.goto 4, 3) := by decide +kernel
theorem dX0_itself_79 : decode cX0_itself 79 = .ok (.iconst 0, 1) := by decide +kernel
theorem dX0_itself_80 : decode cX0_itself 80 = .ok (.istore 6, 2) := by decide +kernel
theorem dX0_itself_82 : decode cX0_itself 82 = .ok (.aload_n 0, 1) := by decide +kernel
theorem dX0_itself_83 : decode cX0_itself 83 = .ok (.getfield 9, 3) := by decide +kernel
theorem dX0_itself_86 : decode cX0_itself 86 = .ok (.iload_n 3, 1) := by decide +kernel
theorem dX0_itself_87 : decode cX0_itself 87 = .ok (.iaload, 1) := by decide +kernel
theorem dX0_itself_88 : decode cX0_itself 88 = .ok (.aload_n 0, 1) := by decide +kernel
theorem dX0_itself_89 : decode cX0_itself 89 = .ok (.getfield 15, 3) := by decide +kernel
theorem dX0_itself_92 : decode cX0_itself 92 = .ok (.iload_n 3, 1) := by decide +kernel
theorem dX0_itself_93 : decode cX0_itself 93 = .ok (.iaload, 1) := by decide +kernel
theorem dX0_itself_94 : decode cX0_itself 94 = .ok (.iload 5, 2) := by decide +kernel
theorem dX0_itself_96 : decode cX0_itself 96 = .ok (.iload 6, 2) := by decide +kernel
theorem dX0_itself_98 : decode cX0_itself 98 = .ok (.iload 4, 2) := by decide +kernel
theorem dX0_itself_100 : decode cX0_itself 100 = .ok (.aload_n 0, 1) := by decide +kernel
theorem dX0_itself_101 : decode cX0_itself 101 = .ok (.getfield 63, 3) := by decide +kernel
theorem dX0_itself_104 : decode cX0_itself 104 = .ok (.invokestatic 150, 3) := by decide +kernel
theorem dX0_itself_107 : decode cX0_itself 107 = .ok (.ifCond .eq 9, 3) := by decide +kernel
theorem dX0_itself_110 : decode cX0_itself 110 = .ok (.iload_n 1, 1) := by decide +kernel
theorem dX0_itself_111 : decode cX0_itself 111 = .ok (.iconst 1, 1) := by decide +kernel
theorem dX0_itself_112 : decode cX0_itself 112 = .ok (.iload_n 3, 1) := by decide +kernel
theorem dX0_itself_113 : decode cX0_itself 113 = .ok (.ishl, 1) := by decide +kernel
theorem dX0_itself_114 : decode cX0_itself 114 = .ok (.ior, 1) := by decide +kernel
theorem dX0_itself_115 : decode cX0_itself 115 = .ok (.istore_n 1, 1) := by decide +kernel
theorem dX0_itself_116 : decode cX0_itself 116 = .ok (.iinc 3 1, 3) := by decide +kernel
theorem dX0_itself_119 : decode cX0_itself 119 = .ok (.goto (-107), 3) := by decide +kernel
theorem dX0_itself_122 : decode cX0_itself 122 = .ok (.iload_n 1, 1) := by decide +kernel
theorem dX0_itself_123 : decode cX0_itself 123 = .ok (.ireturn, 1) := by decide +kernel
theorem dX0_held_0 : decode cX0_held 0 = .ok (.iconst 0, 1) := by decide +kernel
theorem dX0_held_1 : decode cX0_held 1 = .ok (.istore_n 2, 1) := by decide +kernel
theorem dX0_held_2 : decode cX0_held 2 = .ok (.iconst 0, 1) := by decide +kernel
theorem dX0_held_3 : decode cX0_held 3 = .ok (.istore_n 3, 1) := by decide +kernel
theorem dX0_held_4 : decode cX0_held 4 = .ok (.iload_n 3, 1) := by decide +kernel
theorem dX0_held_5 : decode cX0_held 5 = .ok (.aload_n 0, 1) := by decide +kernel
theorem dX0_held_6 : decode cX0_held 6 = .ok (.getfield 54, 3) := by decide +kernel
theorem dX0_held_9 : decode cX0_held 9 = .ok (.if_icmp .ge 28, 3) := by decide +kernel
theorem dX0_held_12 : decode cX0_held 12 = .ok (.aload_n 0, 1) := by decide +kernel
theorem dX0_held_13 : decode cX0_held 13 = .ok (.getfield 30, 3) := by decide +kernel
theorem dX0_held_16 : decode cX0_held 16 = .ok (.iload_n 3, 1) := by decide +kernel
theorem dX0_held_17 : decode cX0_held 17 = .ok (.iaload, 1) := by decide +kernel
theorem dX0_held_18 : decode cX0_held 18 = .ok (.iload_n 1, 1) := by decide +kernel
theorem dX0_held_19 : decode cX0_held 19 = .ok (.iconst (-1), 1) := by decide +kernel
theorem dX0_held_20 : decode cX0_held 20 = .ok (.ixor, 1) := by decide +kernel
theorem dX0_held_21 : decode cX0_held 21 = .ok (.iand, 1) := by decide +kernel
theorem dX0_held_22 : decode cX0_held 22 = .ok (.ifCond .ne 9, 3) := by decide +kernel
theorem dX0_held_25 : decode cX0_held 25 = .ok (.iload_n 2, 1) := by decide +kernel
theorem dX0_held_26 : decode cX0_held 26 = .ok (.iconst 1, 1) := by decide +kernel
theorem dX0_held_27 : decode cX0_held 27 = .ok (.iload_n 3, 1) := by decide +kernel
theorem dX0_held_28 : decode cX0_held 28 = .ok (.ishl, 1) := by decide +kernel
theorem dX0_held_29 : decode cX0_held 29 = .ok (.ior, 1) := by decide +kernel
theorem dX0_held_30 : decode cX0_held 30 = .ok (.istore_n 2, 1) := by decide +kernel
theorem dX0_held_31 : decode cX0_held 31 = .ok (.iinc 3 1, 3) := by decide +kernel
theorem dX0_held_34 : decode cX0_held 34 = .ok (.goto (-30), 3) := by decide +kernel
theorem dX0_held_37 : decode cX0_held 37 = .ok (.iload_n 2, 1) := by decide +kernel
theorem dX0_held_38 : decode cX0_held 38 = .ok (.ireturn, 1) := by decide +kernel
theorem dX0_canDo_0 : decode cX0_canDo 0 = .ok (.iconst 0, 1) := by decide +kernel
theorem dX0_canDo_1 : decode cX0_canDo 1 = .ok (.istore_n 2, 1) := by decide +kernel
theorem dX0_canDo_2 : decode cX0_canDo 2 = .ok (.iconst 0, 1) := by decide +kernel
theorem dX0_canDo_3 : decode cX0_canDo 3 = .ok (.istore_n 3, 1) := by decide +kernel
theorem dX0_canDo_4 : decode cX0_canDo 4 = .ok (.iload_n 3, 1) := by decide +kernel
theorem dX0_canDo_5 : decode cX0_canDo 5 = .ok (.aload_n 0, 1) := by decide +kernel
theorem dX0_canDo_6 : decode cX0_canDo 6 = .ok (.getfield 57, 3) := by decide +kernel
theorem dX0_canDo_9 : decode cX0_canDo 9 = .ok (.if_icmp .ge 28, 3) := by decide +kernel
theorem dX0_canDo_12 : decode cX0_canDo 12 = .ok (.aload_n 0, 1) := by decide +kernel
theorem dX0_canDo_13 : decode cX0_canDo 13 = .ok (.getfield 33, 3) := by decide +kernel
theorem dX0_canDo_16 : decode cX0_canDo 16 = .ok (.iload_n 3, 1) := by decide +kernel
theorem dX0_canDo_17 : decode cX0_canDo 17 = .ok (.iaload, 1) := by decide +kernel
theorem dX0_canDo_18 : decode cX0_canDo 18 = .ok (.iload_n 1, 1) := by decide +kernel
theorem dX0_canDo_19 : decode cX0_canDo 19 = .ok (.iconst (-1), 1) := by decide +kernel
theorem dX0_canDo_20 : decode cX0_canDo 20 = .ok (.ixor, 1) := by decide +kernel
theorem dX0_canDo_21 : decode cX0_canDo 21 = .ok (.iand, 1) := by decide +kernel
theorem dX0_canDo_22 : decode cX0_canDo 22 = .ok (.ifCond .ne 9, 3) := by decide +kernel
theorem dX0_canDo_25 : decode cX0_canDo 25 = .ok (.iload_n 2, 1) := by decide +kernel
theorem dX0_canDo_26 : decode cX0_canDo 26 = .ok (.iconst 1, 1) := by decide +kernel
theorem dX0_canDo_27 : decode cX0_canDo 27 = .ok (.iload_n 3, 1) := by decide +kernel
theorem dX0_canDo_28 : decode cX0_canDo 28 = .ok (.ishl, 1) := by decide +kernel
theorem dX0_canDo_29 : decode cX0_canDo 29 = .ok (.ior, 1) := by decide +kernel
theorem dX0_canDo_30 : decode cX0_canDo 30 = .ok (.istore_n 2, 1) := by decide +kernel
theorem dX0_canDo_31 : decode cX0_canDo 31 = .ok (.iinc 3 1, 3) := by decide +kernel
theorem dX0_canDo_34 : decode cX0_canDo 34 = .ok (.goto (-30), 3) := by decide +kernel
theorem dX0_canDo_37 : decode cX0_canDo 37 = .ok (.iload_n 2, 1) := by decide +kernel
theorem dX0_canDo_38 : decode cX0_canDo 38 = .ok (.ireturn, 1) := by decide +kernel
theorem dX0_worthOf_0 : decode cX0_worthOf 0 = .ok (.iconst 0, 1) := by decide +kernel
theorem dX0_worthOf_1 : decode cX0_worthOf 1 = .ok (.istore_n 2, 1) := by decide +kernel
theorem dX0_worthOf_2 : decode cX0_worthOf 2 = .ok (.iconst 0, 1) := by decide +kernel
theorem dX0_worthOf_3 : decode cX0_worthOf 3 = .ok (.istore_n 3, 1) := by decide +kernel
theorem dX0_worthOf_4 : decode cX0_worthOf 4 = .ok (.iload_n 3, 1) := by decide +kernel
theorem dX0_worthOf_5 : decode cX0_worthOf 5 = .ok (.aload_n 0, 1) := by decide +kernel
theorem dX0_worthOf_6 : decode cX0_worthOf 6 = .ok (.getfield 57, 3) := by decide +kernel
theorem dX0_worthOf_9 : decode cX0_worthOf 9 = .ok (.if_icmp .ge 45, 3) := by decide +kernel
theorem dX0_worthOf_12 : decode cX0_worthOf 12 = .ok (.iload_n 1, 1) := by decide +kernel
theorem dX0_worthOf_13 : decode cX0_worthOf 13 = .ok (.iload_n 3, 1) := by decide +kernel
theorem dX0_worthOf_14 : decode cX0_worthOf 14 = .ok (.ishr, 1) := by decide +kernel
theorem dX0_worthOf_15 : decode cX0_worthOf 15 = .ok (.iconst 1, 1) := by decide +kernel
theorem dX0_worthOf_16 : decode cX0_worthOf 16 = .ok (.iand, 1) := by decide +kernel
theorem dX0_worthOf_17 : decode cX0_worthOf 17 = .ok (.iconst 1, 1) := by decide +kernel
theorem dX0_worthOf_18 : decode cX0_worthOf 18 = .ok (.if_icmp .ne 30, 3) := by decide +kernel
theorem dX0_worthOf_21 : decode cX0_worthOf 21 = .ok (.iload_n 2, 1) := by decide +kernel
theorem dX0_worthOf_22 : decode cX0_worthOf 22 = .ok (.aload_n 0, 1) := by decide +kernel
theorem dX0_worthOf_23 : decode cX0_worthOf 23 = .ok (.iconst 2, 1) := by decide +kernel
theorem dX0_worthOf_24 : decode cX0_worthOf 24 = .ok (.aload_n 0, 1) := by decide +kernel
theorem dX0_worthOf_25 : decode cX0_worthOf 25 = .ok (.getfield 33, 3) := by decide +kernel
theorem dX0_worthOf_28 : decode cX0_worthOf 28 = .ok (.iload_n 3, 1) := by decide +kernel
theorem dX0_worthOf_29 : decode cX0_worthOf 29 = .ok (.iaload, 1) := by decide +kernel
theorem dX0_worthOf_30 : decode cX0_worthOf 30 = .ok (.invokestatic 154, 3) := by decide +kernel
theorem dX0_worthOf_33 : decode cX0_worthOf 33 = .ok (.aload_n 0, 1) := by decide +kernel
theorem dX0_worthOf_34 : decode cX0_worthOf 34 = .ok (.getfield 33, 3) := by decide +kernel
theorem dX0_worthOf_37 : decode cX0_worthOf 37 = .ok (.iload_n 3, 1) := by decide +kernel
theorem dX0_worthOf_38 : decode cX0_worthOf 38 = .ok (.iaload, 1) := by decide +kernel
theorem dX0_worthOf_39 : decode cX0_worthOf 39 = .ok (.invokestatic 142, 3) := by decide +kernel
theorem dX0_worthOf_42 : decode cX0_worthOf 42 = .ok (.iconst 0, 1) := by decide +kernel
theorem dX0_worthOf_43 : decode cX0_worthOf 43 = .ok (.invokevirtual 111, 3) := by decide +kernel
theorem dX0_worthOf_46 : decode cX0_worthOf 46 = .ok (.iadd, 1) := by decide +kernel
theorem dX0_worthOf_47 : decode cX0_worthOf 47 = .ok (.istore_n 2, 1) := by decide +kernel
theorem dX0_worthOf_48 : decode cX0_worthOf 48 = .ok (.iinc 3 1, 3) := by decide +kernel
theorem dX0_worthOf_51 : decode cX0_worthOf 51 = .ok (.goto (-47), 3) := by decide +kernel
theorem dX0_worthOf_54 : decode cX0_worthOf 54 = .ok (.iload_n 2, 1) := by decide +kernel
theorem dX0_worthOf_55 : decode cX0_worthOf 55 = .ok (.ireturn, 1) := by decide +kernel
theorem dX0_lowest_0 : decode cX0_lowest 0 = .ok (.iconst 0, 1) := by decide +kernel
theorem dX0_lowest_1 : decode cX0_lowest 1 = .ok (.istore_n 1, 1) := by decide +kernel
theorem dX0_lowest_2 : decode cX0_lowest 2 = .ok (.iload_n 1, 1) := by decide +kernel
theorem dX0_lowest_3 : decode cX0_lowest 3 = .ok (.bipush 12, 2) := by decide +kernel
theorem dX0_lowest_5 : decode cX0_lowest 5 = .ok (.if_icmp .ge 20, 3) := by decide +kernel
theorem dX0_lowest_8 : decode cX0_lowest 8 = .ok (.iload_n 0, 1) := by decide +kernel
theorem dX0_lowest_9 : decode cX0_lowest 9 = .ok (.iload_n 1, 1) := by decide +kernel
theorem dX0_lowest_10 : decode cX0_lowest 10 = .ok (.ishr, 1) := by decide +kernel
theorem dX0_lowest_11 : decode cX0_lowest 11 = .ok (.iconst 1, 1) := by decide +kernel
theorem dX0_lowest_12 : decode cX0_lowest 12 = .ok (.iand, 1) := by decide +kernel
theorem dX0_lowest_13 : decode cX0_lowest 13 = .ok (.iconst 1, 1) := by decide +kernel
theorem dX0_lowest_14 : decode cX0_lowest 14 = .ok (.if_icmp .ne 5, 3) := by decide +kernel
theorem dX0_lowest_17 : decode cX0_lowest 17 = .ok (.iload_n 1, 1) := by decide +kernel
theorem dX0_lowest_18 : decode cX0_lowest 18 = .ok (.ireturn, 1) := by decide +kernel
theorem dX0_lowest_19 : decode cX0_lowest 19 = .ok (.iinc 1 1, 3) := by decide +kernel
theorem dX0_lowest_22 : decode cX0_lowest 22 = .ok (.goto (-20), 3) := by decide +kernel
theorem dX0_lowest_25 : decode cX0_lowest 25 = .ok (.iconst (-1), 1) := by decide +kernel
theorem dX0_lowest_26 : decode cX0_lowest 26 = .ok (.ireturn, 1) := by decide +kernel
theorem dX1_init_0 : decode cX1_init 0 = .ok (.aload_n 0, 1) := by decide +kernel
theorem dX1_init_1 : decode cX1_init 1 = .ok (.invokespecial 3, 3) := by decide +kernel
theorem dX1_init_4 : decode cX1_init 4 = .ok (.aload_n 0, 1) := by decide +kernel
theorem dX1_init_5 : decode cX1_init 5 = .ok (.new 9, 3) := by decide +kernel
theorem dX1_init_8 : decode cX1_init 8 = .ok (.dup, 1) := by decide +kernel
theorem dX1_init_9 : decode cX1_init 9 = .ok (.invokespecial 11, 3) := by decide +kernel
theorem dX1_init_12 : decode cX1_init 12 = .ok (.putfield 12, 3) := by decide +kernel
theorem dX1_init_15 : decode cX1_init 15 = .ok (.aload_n 0, 1) := by decide +kernel
theorem dX1_init_16 : decode cX1_init 16 = .ok (.sipush 160, 3) := by decide +kernel
theorem dX1_init_19 : decode cX1_init 19 = .ok (.newarray .int, 2) := by decide +kernel
theorem dX1_init_21 : decode cX1_init 21 = .ok (.putfield 18, 3) := by decide +kernel
theorem dX1_init_24 : decode cX1_init 24 = .ok (.return_, 1) := by decide +kernel
theorem dX1_fault_0 : decode cX1_fault 0 = .ok (.aload_n 0, 1) := by decide +kernel
theorem dX1_fault_1 : decode cX1_fault 1 = .ok (.getfield 22, 3) := by decide +kernel
theorem dX1_fault_4 : decode cX1_fault 4 = .ok (.ireturn, 1) := by decide +kernel
theorem dX1_lawOf_0 : decode cX1_lawOf 0 = .ok (.aload_n 0, 1) := by decide +kernel
theorem dX1_lawOf_1 : decode cX1_lawOf 1 = .ok (.getfield 12, 3) := by decide +kernel
theorem dX1_lawOf_4 : decode cX1_lawOf 4 = .ok (.aload_n 1, 1) := by decide +kernel
theorem dX1_lawOf_5 : decode cX1_lawOf 5 = .ok (.iload_n 2, 1) := by decide +kernel
theorem dX1_lawOf_6 : decode cX1_lawOf 6 = .ok (.invokevirtual 26, 3) := by decide +kernel
theorem dX1_lawOf_9 : decode cX1_lawOf 9 = .ok (.aload_n 0, 1) := by decide +kernel
theorem dX1_lawOf_10 : decode cX1_lawOf 10 = .ok (.iconst 0, 1) := by decide +kernel
theorem dX1_lawOf_11 : decode cX1_lawOf 11 = .ok (.putfield 30, 3) := by decide +kernel
theorem dX1_lawOf_14 : decode cX1_lawOf 14 = .ok (.aload_n 0, 1) := by decide +kernel
theorem dX1_lawOf_15 : decode cX1_lawOf 15 = .ok (.aload_n 0, 1) := by decide +kernel
theorem dX1_lawOf_16 : decode cX1_lawOf 16 = .ok (.getfield 12, 3) := by decide +kernel
theorem dX1_lawOf_19 : decode cX1_lawOf 19 = .ok (.iconst 0, 1) := by decide +kernel
theorem dX1_lawOf_20 : decode cX1_lawOf 20 = .ok (.invokevirtual 33, 3) := by decide +kernel
theorem dX1_lawOf_23 : decode cX1_lawOf 23 = .ok (.putfield 37, 3) := by decide +kernel
theorem dX1_lawOf_26 : decode cX1_lawOf 26 = .ok (.aload_n 0, 1) := by decide +kernel
theorem dX1_lawOf_27 : decode cX1_lawOf 27 = .ok (.iconst 0, 1) := by decide +kernel
theorem dX1_lawOf_28 : decode cX1_lawOf 28 = .ok (.putfield 40, 3) := by decide +kernel
theorem dX1_lawOf_31 : decode cX1_lawOf 31 = .ok (.aload_n 0, 1) := by decide +kernel
theorem dX1_lawOf_32 : decode cX1_lawOf 32 = .ok (.iconst (-1), 1) := by decide +kernel
theorem dX1_lawOf_33 : decode cX1_lawOf 33 = .ok (.putfield 22, 3) := by decide +kernel
theorem dX1_lawOf_36 : decode cX1_lawOf 36 = .ok (.aload_n 0, 1) := by decide +kernel
theorem dX1_lawOf_37 : decode cX1_lawOf 37 = .ok (.iconst 0, 1) := by decide +kernel
theorem dX1_lawOf_38 : decode cX1_lawOf 38 = .ok (.putfield 43, 3) := by decide +kernel
theorem dX1_lawOf_41 : decode cX1_lawOf 41 = .ok (.aload_n 0, 1) := by decide +kernel
theorem dX1_lawOf_42 : decode cX1_lawOf 42 = .ok (.iconst 0, 1) := by decide +kernel
theorem dX1_lawOf_43 : decode cX1_lawOf 43 = .ok (.invokevirtual 46, 3) := by decide +kernel
theorem dX1_lawOf_46 : decode cX1_lawOf 46 = .ok (.aload_n 0, 1) := by decide +kernel
theorem dX1_lawOf_47 : decode cX1_lawOf 47 = .ok (.getfield 43, 3) := by decide +kernel
theorem dX1_lawOf_50 : decode cX1_lawOf 50 = .ok (.istore_n 3, 1) := by decide +kernel
theorem dX1_lawOf_51 : decode cX1_lawOf 51 = .ok (.aload_n 0, 1) := by decide +kernel
theorem dX1_lawOf_52 : decode cX1_lawOf 52 = .ok (.iconst 1, 1) := by decide +kernel
theorem dX1_lawOf_53 : decode cX1_lawOf 53 = .ok (.invokevirtual 46, 3) := by decide +kernel
theorem dX1_lawOf_56 : decode cX1_lawOf 56 = .ok (.aload_n 0, 1) := by decide +kernel
theorem dX1_lawOf_57 : decode cX1_lawOf 57 = .ok (.getfield 43, 3) := by decide +kernel
theorem dX1_lawOf_60 : decode cX1_lawOf 60 = .ok (.istore 4, 2) := by decide +kernel
theorem dX1_lawOf_62 : decode cX1_lawOf 62 = .ok (.aload_n 0, 1) := by decide +kernel
theorem dX1_lawOf_63 : decode cX1_lawOf 63 = .ok (.iconst 2, 1) := by decide +kernel
theorem dX1_lawOf_64 : decode cX1_lawOf 64 = .ok (.invokevirtual 46, 3) := by decide +kernel
theorem dX1_lawOf_67 : decode cX1_lawOf 67 = .ok (.aload_n 0, 1) := by decide +kernel
theorem dX1_lawOf_68 : decode cX1_lawOf 68 = .ok (.getfield 37, 3) := by decide +kernel
theorem dX1_lawOf_71 : decode cX1_lawOf 71 = .ok (.ifCond .eq 7, 3) := by decide +kernel
theorem dX1_lawOf_74 : decode cX1_lawOf 74 = .ok (.aload_n 0, 1) := by decide +kernel
theorem dX1_lawOf_75 : decode cX1_lawOf 75 = .ok (.invokevirtual 50, 3) := by decide +kernel
theorem dX1_lawOf_78 : decode cX1_lawOf 78 = .ok (.aload_n 0, 1) := by decide +kernel
theorem dX1_lawOf_79 : decode cX1_lawOf 79 = .ok (.getfield 22, 3) := by decide +kernel
theorem dX1_lawOf_82 : decode cX1_lawOf 82 = .ok (.ifCond .ge 27, 3) := by decide +kernel
theorem dX1_lawOf_85 : decode cX1_lawOf 85 = .ok (.new 53, 3) := by decide +kernel
theorem dX1_lawOf_88 : decode cX1_lawOf 88 = .ok (.dup, 1) := by decide +kernel
theorem dX1_lawOf_89 : decode cX1_lawOf 89 = .ok (.aload_n 0, 1) := by decide +kernel
theorem dX1_lawOf_90 : decode cX1_lawOf 90 = .ok (.getfield 18, 3) := by decide +kernel
theorem dX1_lawOf_93 : decode cX1_lawOf 93 = .ok (.aload_n 0, 1) := by decide +kernel
theorem dX1_lawOf_94 : decode cX1_lawOf 94 = .ok (.getfield 43, 3) := by decide +kernel
theorem dX1_lawOf_97 : decode cX1_lawOf 97 = .ok (.invokestatic 55, 3) := by decide +kernel
theorem dX1_lawOf_100 : decode cX1_lawOf 100 = .ok (.iload_n 3, 1) := by decide +kernel
theorem dX1_lawOf_101 : decode cX1_lawOf 101 = .ok (.iload 4, 2) := by decide +kernel
theorem dX1_lawOf_103 : decode cX1_lawOf 103 = .ok (.invokespecial 61, 3) := by decide +kernel
theorem dX1_lawOf_106 : decode cX1_lawOf 106 = .ok (.goto 4, 3) := by decide +kernel
theorem dX1_lawOf_109 : decode cX1_lawOf 109 = .ok (.aconst_null, 1) := by decide +kernel
theorem dX1_lawOf_110 : decode cX1_lawOf 110 = .ok (.areturn, 1) := by decide +kernel
theorem dX1_next_0 : decode cX1_next 0 = .ok (.aload_n 0, 1) := by decide +kernel
theorem dX1_next_1 : decode cX1_next 1 = .ok (.dup, 1) := by decide +kernel
theorem dX1_next_2 : decode cX1_next 2 = .ok (.getfield 30, 3) := by decide +kernel
theorem dX1_next_5 : decode cX1_next 5 = .ok (.iconst 1, 1) := by decide +kernel
theorem dX1_next_6 : decode cX1_next 6 = .ok (.iadd, 1) := by decide +kernel
theorem dX1_next_7 : decode cX1_next 7 = .ok (.putfield 30, 3) := by decide +kernel
theorem dX1_next_10 : decode cX1_next 10 = .ok (.aload_n 0, 1) := by decide +kernel
theorem dX1_next_11 : decode cX1_next 11 = .ok (.aload_n 0, 1) := by decide +kernel
theorem dX1_next_12 : decode cX1_next 12 = .ok (.getfield 12, 3) := by decide +kernel
theorem dX1_next_15 : decode cX1_next 15 = .ok (.aload_n 0, 1) := by decide +kernel
theorem dX1_next_16 : decode cX1_next 16 = .ok (.getfield 30, 3) := by decide +kernel
theorem dX1_next_19 : decode cX1_next 19 = .ok (.invokevirtual 33, 3) := by decide +kernel
theorem dX1_next_22 : decode cX1_next 22 = .ok (.putfield 37, 3) := by decide +kernel
theorem dX1_next_25 : decode cX1_next 25 = .ok (.return_, 1) := by decide +kernel
theorem dX1_fail_0 : decode cX1_fail 0 = .ok (.aload_n 0, 1) := by decide +kernel
theorem dX1_fail_1 : decode cX1_fail 1 = .ok (.getfield 22, 3) := by decide +kernel
theorem dX1_fail_4 : decode cX1_fail 4 = .ok (.ifCond .ge 18, 3) := by decide +kernel
theorem dX1_fail_7 : decode cX1_fail 7 = .ok (.aload_n 0, 1) := by decide +kernel
theorem dX1_fail_8 : decode cX1_fail 8 = .ok (.aload_n 0, 1) := by decide +kernel
theorem dX1_fail_9 : decode cX1_fail 9 = .ok (.getfield 12, 3) := by decide +kernel
theorem dX1_fail_12 : decode cX1_fail 12 = .ok (.aload_n 0, 1) := by decide +kernel
theorem dX1_fail_13 : decode cX1_fail 13 = .ok (.getfield 30, 3) := by decide +kernel
theorem dX1_fail_16 : decode cX1_fail 16 = .ok (.invokevirtual 64, 3) := by decide +kernel
theorem dX1_fail_19 : decode cX1_fail 19 = .ok (.putfield 22, 3) := by decide +kernel
theorem dX1_fail_22 : decode cX1_fail 22 = .ok (.aload_n 0, 1) := by decide +kernel
theorem dX1_fail_23 : decode cX1_fail 23 = .ok (.iconst (-1), 1) := by decide +kernel
theorem dX1_fail_24 : decode cX1_fail 24 = .ok (.putfield 37, 3) := by decide +kernel
theorem dX1_fail_27 : decode cX1_fail 27 = .ok (.return_, 1) := by decide +kernel
theorem dX1_expect_0 : decode cX1_expect 0 = .ok (.aload_n 0, 1) := by decide +kernel
theorem dX1_expect_1 : decode cX1_expect 1 = .ok (.getfield 37, 3) := by decide +kernel
theorem dX1_expect_4 : decode cX1_expect 4 = .ok (.iload_n 1, 1) := by decide +kernel
theorem dX1_expect_5 : decode cX1_expect 5 = .ok (.if_icmp .ne 10, 3) := by decide +kernel
theorem dX1_expect_8 : decode cX1_expect 8 = .ok (.aload_n 0, 1) := by decide +kernel
theorem dX1_expect_9 : decode cX1_expect 9 = .ok (.invokevirtual 67, 3) := by decide +kernel
theorem dX1_expect_12 : decode cX1_expect 12 = .ok (.goto 7, 3) := by decide +kernel
theorem dX1_expect_15 : decode cX1_expect 15 = .ok (.aload_n 0, 1) := by decide +kernel
theorem dX1_expect_16 : decode cX1_expect 16 = .ok (.invokevirtual 50, 3) := by decide +kernel
theorem dX1_expect_19 : decode cX1_expect 19 = .ok (.return_, 1) := by decide +kernel
theorem dX1_enter_0 : decode cX1_enter 0 = .ok (.aload_n 0, 1) := by decide +kernel
theorem dX1_enter_1 : decode cX1_enter 1 = .ok (.getfield 40, 3) := by decide +kernel
theorem dX1_enter_4 : decode cX1_enter 4 = .ok (.iconst 5, 1) := by decide +kernel
theorem dX1_enter_5 : decode cX1_enter 5 = .ok (.if_icmp .lt 9, 3) := by decide +kernel
theorem dX1_enter_8 : decode cX1_enter 8 = .ok (.aload_n 0, 1) := by decide +kernel
theorem dX1_enter_9 : decode cX1_enter 9 = .ok (.invokevirtual 50, 3) := by decide +kernel
theorem dX1_enter_12 : decode cX1_enter 12 = .ok (.iconst 0, 1) := by decide +kernel
theorem dX1_enter_13 : decode cX1_enter 13 = .ok (.ireturn, 1) := by decide +kernel
theorem dX1_enter_14 : decode cX1_enter 14 = .ok (.aload_n 0, 1) := by decide +kernel
theorem dX1_enter_15 : decode cX1_enter 15 = .ok (.dup, 1) := by decide +kernel
theorem dX1_enter_16 : decode cX1_enter 16 = .ok (.getfield 40, 3) := by decide +kernel
theorem dX1_enter_19 : decode cX1_enter 19 = .ok (.iconst 1, 1) := by decide +kernel
theorem dX1_enter_20 : decode cX1_enter 20 = .ok (.iadd, 1) := by decide +kernel
theorem dX1_enter_21 : decode cX1_enter 21 = .ok (.putfield 40, 3) := by decide +kernel
theorem dX1_enter_24 : decode cX1_enter 24 = .ok (.aload_n 0, 1) := by decide +kernel
theorem dX1_enter_25 : decode cX1_enter 25 = .ok (.invokevirtual 67, 3) := by decide +kernel
theorem dX1_enter_28 : decode cX1_enter 28 = .ok (.iconst 1, 1) := by decide +kernel
theorem dX1_enter_29 : decode cX1_enter 29 = .ok (.ireturn, 1) := by decide +kernel
theorem dX1_emit_0 : decode cX1_emit 0 = .ok (.aload_n 0, 1) := by decide +kernel
theorem dX1_emit_1 : decode cX1_emit 1 = .ok (.getfield 43, 3) := by decide +kernel
theorem dX1_emit_4 : decode cX1_emit 4 = .ok (.ifCond .lt 35, 3) := by decide +kernel
theorem dX1_emit_7 : decode cX1_emit 7 = .ok (.aload_n 0, 1) := by decide +kernel
theorem dX1_emit_8 : decode cX1_emit 8 = .ok (.getfield 43, 3) := by decide +kernel
theorem dX1_emit_11 : decode cX1_emit 11 = .ok (.aload_n 0, 1) := by decide +kernel
theorem dX1_emit_12 : decode cX1_emit 12 = .ok (.getfield 18, 3) := by decide +kernel
theorem dX1_emit_15 : decode cX1_emit 15 = .ok (.arraylength, 1) := by decide +kernel
theorem dX1_emit_16 : decode cX1_emit 16 = .ok (.if_icmp .ge 23, 3) := by decide +kernel
theorem dX1_emit_19 : decode cX1_emit 19 = .ok (.aload_n 0, 1) := by decide +kernel
theorem dX1_emit_20 : decode cX1_emit 20 = .ok (.getfield 18, 3) := by decide +kernel
theorem dX1_emit_23 : decode cX1_emit 23 = .ok (.aload_n 0, 1) := by decide +kernel
theorem dX1_emit_24 : decode cX1_emit 24 = .ok (.getfield 43, 3) := by decide +kernel
theorem dX1_emit_27 : decode cX1_emit 27 = .ok (.iload_n 1, 1) := by decide +kernel
theorem dX1_emit_28 : decode cX1_emit 28 = .ok (.iastore, 1) := by decide +kernel
theorem dX1_emit_29 : decode cX1_emit 29 = .ok (.aload_n 0, 1) := by decide +kernel
theorem dX1_emit_30 : decode cX1_emit 30 = .ok (.dup, 1) := by decide +kernel
theorem dX1_emit_31 : decode cX1_emit 31 = .ok (.getfield 43, 3) := by decide +kernel
theorem dX1_emit_34 : decode cX1_emit 34 = .ok (.iconst 1, 1) := by decide +kernel
theorem dX1_emit_35 : decode cX1_emit 35 = .ok (.iadd, 1) := by decide +kernel
theorem dX1_emit_36 : decode cX1_emit 36 = .ok (.putfield 43, 3) := by decide +kernel
theorem dX1_emit_39 : decode cX1_emit 39 = .ok (.return_, 1) := by decide +kernel
theorem dX1_readPart_0 : decode cX1_readPart 0 = .ok (.aload_n 0, 1) := by decide +kernel
theorem dX1_readPart_1 : decode cX1_readPart 1 = .ok (.sipush 256, 3) := by decide +kernel
theorem dX1_readPart_4 : decode cX1_readPart 4 = .ok (.iload_n 1, 1) := by decide +kernel
theorem dX1_readPart_5 : decode cX1_readPart 5 = .ok (.iadd, 1) := by decide +kernel
theorem dX1_readPart_6 : decode cX1_readPart 6 = .ok (.invokevirtual 70, 3) := by decide +kernel
theorem dX1_readPart_9 : decode cX1_readPart 9 = .ok (.aload_n 0, 1) := by decide +kernel
theorem dX1_readPart_10 : decode cX1_readPart 10 = .ok (.invokevirtual 73, 3) := by decide +kernel
theorem dX1_readPart_13 : decode cX1_readPart 13 = .ok (.aload_n 0, 1) := by decide +kernel
theorem dX1_readPart_14 : decode cX1_readPart 14 = .ok (.bipush 59, 2) := by decide +kernel
theorem dX1_readPart_16 : decode cX1_readPart 16 = .ok (.invokevirtual 70, 3) := by decide +kernel
theorem dX1_readPart_19 : decode cX1_readPart 19 = .ok (.return_, 1) := by decide +kernel
theorem dX1_readOr_0 : decode cX1_readOr 0 = .ok (.aload_n 0, 1) := by decide +kernel
theorem dX1_readOr_1 : decode cX1_readOr 1 = .ok (.invokevirtual 76, 3) := by decide +kernel
theorem dX1_readOr_4 : decode cX1_readOr 4 = .ok (.iconst 0, 1) := by decide +kernel
theorem dX1_readOr_5 : decode cX1_readOr 5 = .ok (.istore_n 1, 1) := by decide +kernel
theorem dX1_readOr_6 : decode cX1_readOr 6 = .ok (.iload_n 1, 1) := by decide +kernel
theorem dX1_readOr_7 : decode cX1_readOr 7 = .ok (.sipush 160, 3) := by decide +kernel
theorem dX1_readOr_10 : decode cX1_readOr 10 = .ok (.if_icmp .ge 34, 3) := by decide +kernel
theorem dX1_readOr_13 : decode cX1_readOr 13 = .ok (.aload_n 0, 1) := by decide +kernel
theorem dX1_readOr_14 : decode cX1_readOr 14 = .ok (.getfield 37, 3) := by decide +kernel
theorem dX1_readOr_17 : decode cX1_readOr 17 = .ok (.sipush 259, 3) := by decide +kernel
theorem dX1_readOr_20 : decode cX1_readOr 20 = .ok (.if_icmp .ne 24, 3) := by decide +kernel
theorem dX1_readOr_23 : decode cX1_readOr 23 = .ok (.aload_n 0, 1) := by decide +kernel
theorem dX1_readOr_24 : decode cX1_readOr 24 = .ok (.invokevirtual 67, 3) := by decide +kernel
theorem dX1_readOr_27 : decode cX1_readOr 27 = .ok (.aload_n 0, 1) := by decide +kernel
theorem dX1_readOr_28 : decode cX1_readOr 28 = .ok (.invokevirtual 76, 3) := by decide +kernel
theorem dX1_readOr_31 : decode cX1_readOr 31 = .ok (.aload_n 0, 1) := by decide +kernel
theorem dX1_readOr_32 : decode cX1_readOr 32 = .ok (.sipush (-259), 3) := by decide +kernel
theorem dX1_readOr_35 : decode cX1_readOr 35 = .ok (.invokevirtual 79, 3) := by decide +kernel
theorem dX1_readOr_38 : decode cX1_readOr 38 = .ok (.iinc 1 1, 3) := by decide +kernel
theorem dX1_readOr_41 : decode cX1_readOr 41 = .ok (.goto (-35), 3) := by decide +kernel
theorem dX1_readOr_44 : decode cX1_readOr 44 = .ok (.return_, 1) := by decide +kernel
theorem dX1_readAnd_0 : decode cX1_readAnd 0 = .ok (.aload_n 0, 1) := by decide +kernel
theorem dX1_readAnd_1 : decode cX1_readAnd 1 = .ok (.invokevirtual 82, 3) := by decide +kernel
theorem dX1_readAnd_4 : decode cX1_readAnd 4 = .ok (.iconst 0, 1) := by decide +kernel
theorem dX1_readAnd_5 : decode cX1_readAnd 5 = .ok (.istore_n 1, 1) := by decide +kernel
theorem dX1_readAnd_6 : decode cX1_readAnd 6 = .ok (.iload_n 1, 1) := by decide +kernel
theorem dX1_readAnd_7 : decode cX1_readAnd 7 = .ok (.sipush 160, 3) := by decide +kernel
theorem dX1_readAnd_10 : decode cX1_readAnd 10 = .ok (.if_icmp .ge 34, 3) := by decide +kernel
theorem dX1_readAnd_13 : decode cX1_readAnd 13 = .ok (.aload_n 0, 1) := by decide +kernel
theorem dX1_readAnd_14 : decode cX1_readAnd 14 = .ok (.getfield 37, 3) := by decide +kernel
theorem dX1_readAnd_17 : decode cX1_readAnd 17 = .ok (.sipush 260, 3) := by decide +kernel
theorem dX1_readAnd_20 : decode cX1_readAnd 20 = .ok (.if_icmp .ne 24, 3) := by decide +kernel
theorem dX1_readAnd_23 : decode cX1_readAnd 23 = .ok (.aload_n 0, 1) := by decide +kernel
theorem dX1_readAnd_24 : decode cX1_readAnd 24 = .ok (.invokevirtual 67, 3) := by decide +kernel
theorem dX1_readAnd_27 : decode cX1_readAnd 27 = .ok (.aload_n 0, 1) := by decide +kernel
theorem dX1_readAnd_28 : decode cX1_readAnd 28 = .ok (.invokevirtual 82, 3) := by decide +kernel
theorem dX1_readAnd_31 : decode cX1_readAnd 31 = .ok (.aload_n 0, 1) := by decide +kernel
theorem dX1_readAnd_32 : decode cX1_readAnd 32 = .ok (.sipush (-260), 3) := by decide +kernel
theorem dX1_readAnd_35 : decode cX1_readAnd 35 = .ok (.invokevirtual 79, 3) := by decide +kernel
theorem dX1_readAnd_38 : decode cX1_readAnd 38 = .ok (.iinc 1 1, 3) := by decide +kernel
theorem dX1_readAnd_41 : decode cX1_readAnd 41 = .ok (.goto (-35), 3) := by decide +kernel
theorem dX1_readAnd_44 : decode cX1_readAnd 44 = .ok (.return_, 1) := by decide +kernel
theorem dX1_readNot_0 : decode cX1_readNot 0 = .ok (.aload_n 0, 1) := by decide +kernel
theorem dX1_readNot_1 : decode cX1_readNot 1 = .ok (.getfield 37, 3) := by decide +kernel
theorem dX1_readNot_4 : decode cX1_readNot 4 = .ok (.sipush 261, 3) := by decide +kernel
theorem dX1_readNot_7 : decode cX1_readNot 7 = .ok (.if_icmp .ne 32, 3) := by decide +kernel
theorem dX1_readNot_10 : decode cX1_readNot 10 = .ok (.aload_n 0, 1) := by decide +kernel
theorem dX1_readNot_11 : decode cX1_readNot 11 = .ok (.invokevirtual 85, 3) := by decide +kernel
theorem dX1_readNot_14 : decode cX1_readNot 14 = .ok (.ifCond .eq 24, 3) := by decide +kernel
theorem dX1_readNot_17 : decode cX1_readNot 17 = .ok (.aload_n 0, 1) := by decide +kernel
theorem dX1_readNot_18 : decode cX1_readNot 18 = .ok (.invokevirtual 82, 3) := by decide +kernel
theorem dX1_readNot_21 : decode cX1_readNot 21 = .ok (.aload_n 0, 1) := by decide +kernel
theorem dX1_readNot_22 : decode cX1_readNot 22 = .ok (.dup, 1) := by decide +kernel
theorem dX1_readNot_23 : decode cX1_readNot 23 = .ok (.getfield 40, 3) := by decide +kernel
theorem dX1_readNot_26 : decode cX1_readNot 26 = .ok (.iconst 1, 1) := by decide +kernel
theorem dX1_readNot_27 : decode cX1_readNot 27 = .ok (.isub, 1) := by decide +kernel
theorem dX1_readNot_28 : decode cX1_readNot 28 = .ok (.putfield 40, 3) := by decide +kernel
theorem dX1_readNot_31 : decode cX1_readNot 31 = .ok (.aload_n 0, 1) := by decide +kernel
theorem dX1_readNot_32 : decode cX1_readNot 32 = .ok (.sipush (-261), 3) := by decide +kernel
theorem dX1_readNot_35 : decode cX1_readNot 35 = .ok (.invokevirtual 79, 3) := by decide +kernel
theorem dX1_readNot_38 : decode cX1_readNot 38 = .ok (.return_, 1) := by decide +kernel
theorem dX1_readNot_39 : decode cX1_readNot 39 = .ok (.aload_n 0, 1) := by decide +kernel
theorem dX1_readNot_40 : decode cX1_readNot 40 = .ok (.invokevirtual 89, 3) := by decide +kernel
theorem dX1_readNot_43 : decode cX1_readNot 43 = .ok (.aload_n 0, 1) := by decide +kernel
theorem dX1_readNot_44 : decode cX1_readNot 44 = .ok (.getfield 37, 3) := by decide +kernel
theorem dX1_readNot_47 : decode cX1_readNot 47 = .ok (.bipush 60, 2) := by decide +kernel
theorem dX1_readNot_49 : decode cX1_readNot 49 = .ok (.if_icmp .eq 12, 3) := by decide +kernel
theorem dX1_readNot_52 : decode cX1_readNot 52 = .ok (.aload_n 0, 1) := by decide +kernel
theorem dX1_readNot_53 : decode cX1_readNot 53 = .ok (.getfield 37, 3) := by decide +kernel
theorem dX1_readNot_56 : decode cX1_readNot 56 = .ok (.bipush 61, 2) := by decide +kernel
theorem dX1_readNot_58 : decode cX1_readNot 58 = .ok (.if_icmp .ne 22, 3) := by decide +kernel
theorem dX1_readNot_61 : decode cX1_readNot 61 = .ok (.aload_n 0, 1) := by decide +kernel
theorem dX1_readNot_62 : decode cX1_readNot 62 = .ok (.getfield 37, 3) := by decide +kernel
theorem dX1_readNot_65 : decode cX1_readNot 65 = .ok (.istore_n 1, 1) := by decide +kernel
theorem dX1_readNot_66 : decode cX1_readNot 66 = .ok (.aload_n 0, 1) := by decide +kernel
theorem dX1_readNot_67 : decode cX1_readNot 67 = .ok (.invokevirtual 67, 3) := by decide +kernel
theorem dX1_readNot_70 : decode cX1_readNot 70 = .ok (.aload_n 0, 1) := by decide +kernel
theorem dX1_readNot_71 : decode cX1_readNot 71 = .ok (.invokevirtual 89, 3) := by decide +kernel
theorem dX1_readNot_74 : decode cX1_readNot 74 = .ok (.aload_n 0, 1) := by decide +kernel
theorem dX1_readNot_75 : decode cX1_readNot 75 = .ok (.iload_n 1, 1) := by decide +kernel
theorem dX1_readNot_76 : decode cX1_readNot 76 = .ok (.ineg, 1) := by decide +kernel
theorem dX1_readNot_77 : decode cX1_readNot 77 = .ok (.invokevirtual 79, 3) := by decide +kernel
theorem dX1_readNot_80 : decode cX1_readNot 80 = .ok (.return_, 1) := by decide +kernel
theorem dX1_readSum_0 : decode cX1_readSum 0 = .ok (.aload_n 0, 1) := by decide +kernel
theorem dX1_readSum_1 : decode cX1_readSum 1 = .ok (.invokevirtual 92, 3) := by decide +kernel
theorem dX1_readSum_4 : decode cX1_readSum 4 = .ok (.iconst 0, 1) := by decide +kernel
theorem dX1_readSum_5 : decode cX1_readSum 5 = .ok (.istore_n 1, 1) := by decide +kernel
theorem dX1_readSum_6 : decode cX1_readSum 6 = .ok (.iload_n 1, 1) := by decide +kernel
theorem dX1_readSum_7 : decode cX1_readSum 7 = .ok (.sipush 160, 3) := by decide +kernel
theorem dX1_readSum_10 : decode cX1_readSum 10 = .ok (.if_icmp .ge 46, 3) := by decide +kernel
theorem dX1_readSum_13 : decode cX1_readSum 13 = .ok (.aload_n 0, 1) := by decide +kernel
theorem dX1_readSum_14 : decode cX1_readSum 14 = .ok (.getfield 37, 3) := by decide +kernel
theorem dX1_readSum_17 : decode cX1_readSum 17 = .ok (.bipush 43, 2) := by decide +kernel
theorem dX1_readSum_19 : decode cX1_readSum 19 = .ok (.if_icmp .eq 12, 3) := by decide +kernel
theorem dX1_readSum_22 : decode cX1_readSum 22 = .ok (.aload_n 0, 1) := by decide +kernel
theorem dX1_readSum_23 : decode cX1_readSum 23 = .ok (.getfield 37, 3) := by decide +kernel
theorem dX1_readSum_26 : decode cX1_readSum 26 = .ok (.bipush 45, 2) := by decide +kernel
theorem dX1_readSum_28 : decode cX1_readSum 28 = .ok (.if_icmp .ne 28, 3) := by decide +kernel
theorem dX1_readSum_31 : decode cX1_readSum 31 = .ok (.aload_n 0, 1) := by decide +kernel
theorem dX1_readSum_32 : decode cX1_readSum 32 = .ok (.getfield 37, 3) := by decide +kernel
theorem dX1_readSum_35 : decode cX1_readSum 35 = .ok (.istore_n 2, 1) := by decide +kernel
theorem dX1_readSum_36 : decode cX1_readSum 36 = .ok (.aload_n 0, 1) := by decide +kernel
theorem dX1_readSum_37 : decode cX1_readSum 37 = .ok (.invokevirtual 67, 3) := by decide +kernel
theorem dX1_readSum_40 : decode cX1_readSum 40 = .ok (.aload_n 0, 1) := by decide +kernel
theorem dX1_readSum_41 : decode cX1_readSum 41 = .ok (.invokevirtual 92, 3) := by decide +kernel
theorem dX1_readSum_44 : decode cX1_readSum 44 = .ok (.aload_n 0, 1) := by decide +kernel
theorem dX1_readSum_45 : decode cX1_readSum 45 = .ok (.iload_n 2, 1) := by decide +kernel
theorem dX1_readSum_46 : decode cX1_readSum 46 = .ok (.ineg, 1) := by decide +kernel
theorem dX1_readSum_47 : decode cX1_readSum 47 = .ok (.invokevirtual 79, 3) := by decide +kernel
theorem dX1_readSum_50 : decode cX1_readSum 50 = .ok (.iinc 1 1, 3) := by decide +kernel
theorem dX1_readSum_53 : decode cX1_readSum 53 = .ok (.goto (-47), 3) := by decide +kernel
theorem dX1_readSum_56 : decode cX1_readSum 56 = .ok (.return_, 1) := by decide +kernel
theorem dX1_readTerm_0 : decode cX1_readTerm 0 = .ok (.aload_n 0, 1) := by decide +kernel
theorem dX1_readTerm_1 : decode cX1_readTerm 1 = .ok (.invokevirtual 95, 3) := by decide +kernel
theorem dX1_readTerm_4 : decode cX1_readTerm 4 = .ok (.iconst 0, 1) := by decide +kernel
theorem dX1_readTerm_5 : decode cX1_readTerm 5 = .ok (.istore_n 1, 1) := by decide +kernel
theorem dX1_readTerm_6 : decode cX1_readTerm 6 = .ok (.iload_n 1, 1) := by decide +kernel
theorem dX1_readTerm_7 : decode cX1_readTerm 7 = .ok (.sipush 160, 3) := by decide +kernel
theorem dX1_readTerm_10 : decode cX1_readTerm 10 = .ok (.if_icmp .ge 32, 3) := by decide +kernel
theorem dX1_readTerm_13 : decode cX1_readTerm 13 = .ok (.aload_n 0, 1) := by decide +kernel
theorem dX1_readTerm_14 : decode cX1_readTerm 14 = .ok (.getfield 37, 3) := by decide +kernel
theorem dX1_readTerm_17 : decode cX1_readTerm 17 = .ok (.bipush 42, 2) := by decide +kernel
theorem dX1_readTerm_19 : decode cX1_readTerm 19 = .ok (.if_icmp .ne 23, 3) := by decide +kernel
theorem dX1_readTerm_22 : decode cX1_readTerm 22 = .ok (.aload_n 0, 1) := by decide +kernel
theorem dX1_readTerm_23 : decode cX1_readTerm 23 = .ok (.invokevirtual 67, 3) := by decide +kernel
theorem dX1_readTerm_26 : decode cX1_readTerm 26 = .ok (.aload_n 0, 1) := by decide +kernel
theorem dX1_readTerm_27 : decode cX1_readTerm 27 = .ok (.invokevirtual 95, 3) := by decide +kernel
theorem dX1_readTerm_30 : decode cX1_readTerm 30 = .ok (.aload_n 0, 1) := by decide +kernel
theorem dX1_readTerm_31 : decode cX1_readTerm 31 = .ok (.bipush (-42), 2) := by decide +kernel
theorem dX1_readTerm_33 : decode cX1_readTerm 33 = .ok (.invokevirtual 79, 3) := by decide +kernel
theorem dX1_readTerm_36 : decode cX1_readTerm 36 = .ok (.iinc 1 1, 3) := by decide +kernel
theorem dX1_readTerm_39 : decode cX1_readTerm 39 = .ok (.goto (-33), 3) := by decide +kernel
theorem dX1_readTerm_42 : decode cX1_readTerm 42 = .ok (.return_, 1) := by decide +kernel
theorem dX1_readOne_0 : decode cX1_readOne 0 = .ok (.aload_n 0, 1) := by decide +kernel
theorem dX1_readOne_1 : decode cX1_readOne 1 = .ok (.getfield 37, 3) := by decide +kernel
theorem dX1_readOne_4 : decode cX1_readOne 4 = .ok (.iconst 1, 1) := by decide +kernel
theorem dX1_readOne_5 : decode cX1_readOne 5 = .ok (.if_icmp .ne 25, 3) := by decide +kernel
theorem dX1_readOne_8 : decode cX1_readOne 8 = .ok (.aload_n 0, 1) := by decide +kernel
theorem dX1_readOne_9 : decode cX1_readOne 9 = .ok (.aload_n 0, 1) := by decide +kernel
theorem dX1_readOne_10 : decode cX1_readOne 10 = .ok (.getfield 12, 3) := by decide +kernel
theorem dX1_readOne_13 : decode cX1_readOne 13 = .ok (.aload_n 0, 1) := by decide +kernel
theorem dX1_readOne_14 : decode cX1_readOne 14 = .ok (.getfield 30, 3) := by decide +kernel
theorem dX1_readOne_17 : decode cX1_readOne 17 = .ok (.invokevirtual 98, 3) := by decide +kernel
theorem dX1_readOne_20 : decode cX1_readOne 20 = .ok (.invokevirtual 79, 3) := by decide +kernel
theorem dX1_readOne_23 : decode cX1_readOne 23 = .ok (.aload_n 0, 1) := by decide +kernel
theorem dX1_readOne_24 : decode cX1_readOne 24 = .ok (.invokevirtual 67, 3) := by decide +kernel
theorem dX1_readOne_27 : decode cX1_readOne 27 = .ok (.goto 121, 3) := by decide +kernel
theorem dX1_readOne_30 : decode cX1_readOne 30 = .ok (.aload_n 0, 1) := by decide +kernel
theorem dX1_readOne_31 : decode cX1_readOne 31 = .ok (.getfield 37, 3) := by decide +kernel
theorem dX1_readOne_34 : decode cX1_readOne 34 = .ok (.sipush 262, 3) := by decide +kernel
theorem dX1_readOne_37 : decode cX1_readOne 37 = .ok (.if_icmp .lt 29, 3) := by decide +kernel
theorem dX1_readOne_40 : decode cX1_readOne 40 = .ok (.aload_n 0, 1) := by decide +kernel
theorem dX1_readOne_41 : decode cX1_readOne 41 = .ok (.getfield 37, 3) := by decide +kernel
theorem dX1_readOne_44 : decode cX1_readOne 44 = .ok (.sipush 268, 3) := by decide +kernel
theorem dX1_readOne_47 : decode cX1_readOne 47 = .ok (.if_icmp .ge 19, 3) := by decide +kernel
theorem dX1_readOne_50 : decode cX1_readOne 50 = .ok (.aload_n 0, 1) := by decide +kernel
theorem dX1_readOne_51 : decode cX1_readOne 51 = .ok (.aload_n 0, 1) := by decide +kernel
theorem dX1_readOne_52 : decode cX1_readOne 52 = .ok (.getfield 37, 3) := by decide +kernel
theorem dX1_readOne_55 : decode cX1_readOne 55 = .ok (.ineg, 1) := by decide +kernel
theorem dX1_readOne_56 : decode cX1_readOne 56 = .ok (.invokevirtual 79, 3) := by decide +kernel
theorem dX1_readOne_59 : decode cX1_readOne 59 = .ok (.aload_n 0, 1) := by decide +kernel
theorem dX1_readOne_60 : decode cX1_readOne 60 = .ok (.invokevirtual 67, 3) := by decide +kernel
theorem dX1_readOne_63 : decode cX1_readOne 63 = .ok (.goto 85, 3) := by decide +kernel
theorem dX1_readOne_66 : decode cX1_readOne 66 = .ok (.aload_n 0, 1) := by decide +kernel
theorem dX1_readOne_67 : decode cX1_readOne 67 = .ok (.getfield 37, 3) := by decide +kernel
theorem dX1_readOne_70 : decode cX1_readOne 70 = .ok (.bipush 45, 2) := by decide +kernel
theorem dX1_readOne_72 : decode cX1_readOne 72 = .ok (.if_icmp .ne 33, 3) := by decide +kernel
theorem dX1_readOne_75 : decode cX1_readOne 75 = .ok (.aload_n 0, 1) := by decide +kernel
theorem dX1_readOne_76 : decode cX1_readOne 76 = .ok (.invokevirtual 85, 3) := by decide +kernel
theorem dX1_readOne_79 : decode cX1_readOne 79 = .ok (.ifCond .eq 69, 3) := by decide +kernel
theorem dX1_readOne_82 : decode cX1_readOne 82 = .ok (.aload_n 0, 1) := by decide +kernel
theorem dX1_readOne_83 : decode cX1_readOne 83 = .ok (.invokevirtual 95, 3) := by decide +kernel
theorem dX1_readOne_86 : decode cX1_readOne 86 = .ok (.aload_n 0, 1) := by decide +kernel
theorem dX1_readOne_87 : decode cX1_readOne 87 = .ok (.dup, 1) := by decide +kernel
theorem dX1_readOne_88 : decode cX1_readOne 88 = .ok (.getfield 40, 3) := by decide +kernel
theorem dX1_readOne_91 : decode cX1_readOne 91 = .ok (.iconst 1, 1) := by decide +kernel
theorem dX1_readOne_92 : decode cX1_readOne 92 = .ok (.isub, 1) := by decide +kernel
theorem dX1_readOne_93 : decode cX1_readOne 93 = .ok (.putfield 40, 3) := by decide +kernel
theorem dX1_readOne_96 : decode cX1_readOne 96 = .ok (.aload_n 0, 1) := by decide +kernel
theorem dX1_readOne_97 : decode cX1_readOne 97 = .ok (.bipush (-2), 2) := by decide +kernel
theorem dX1_readOne_99 : decode cX1_readOne 99 = .ok (.invokevirtual 79, 3) := by decide +kernel
theorem dX1_readOne_102 : decode cX1_readOne 102 = .ok (.goto 46, 3) := by decide +kernel
theorem dX1_readOne_105 : decode cX1_readOne 105 = .ok (.aload_n 0, 1) := by decide +kernel
theorem dX1_readOne_106 : decode cX1_readOne 106 = .ok (.getfield 37, 3) := by decide +kernel
theorem dX1_readOne_109 : decode cX1_readOne 109 = .ok (.bipush 40, 2) := by decide +kernel
theorem dX1_readOne_111 : decode cX1_readOne 111 = .ok (.if_icmp .ne 33, 3) := by decide +kernel
theorem dX1_readOne_114 : decode cX1_readOne 114 = .ok (.aload_n 0, 1) := by decide +kernel
theorem dX1_readOne_115 : decode cX1_readOne 115 = .ok (.invokevirtual 85, 3) := by decide +kernel
theorem dX1_readOne_118 : decode cX1_readOne 118 = .ok (.ifCond .eq 30, 3) := by decide +kernel
theorem dX1_readOne_121 : decode cX1_readOne 121 = .ok (.aload_n 0, 1) := by decide +kernel
theorem dX1_readOne_122 : decode cX1_readOne 122 = .ok (.invokevirtual 73, 3) := by decide +kernel
theorem dX1_readOne_125 : decode cX1_readOne 125 = .ok (.aload_n 0, 1) := by decide +kernel
theorem dX1_readOne_126 : decode cX1_readOne 126 = .ok (.dup, 1) := by decide +kernel
theorem dX1_readOne_127 : decode cX1_readOne 127 = .ok (.getfield 40, 3) := by decide +kernel
theorem dX1_readOne_130 : decode cX1_readOne 130 = .ok (.iconst 1, 1) := by decide +kernel
theorem dX1_readOne_131 : decode cX1_readOne 131 = .ok (.isub, 1) := by decide +kernel
theorem dX1_readOne_132 : decode cX1_readOne 132 = .ok (.putfield 40, 3) := by decide +kernel
theorem dX1_readOne_135 : decode cX1_readOne 135 = .ok (.aload_n 0, 1) := by decide +kernel
theorem dX1_readOne_136 : decode cX1_readOne 136 = .ok (.bipush 41, 2) := by decide +kernel
theorem dX1_readOne_138 : decode cX1_readOne 138 = .ok (.invokevirtual 70, 3) := by decide +kernel
theorem dX1_readOne_141 : decode cX1_readOne 141 = .ok (.goto 7, 3) := by decide +kernel
theorem dX1_readOne_144 : decode cX1_readOne 144 = .ok (.aload_n 0, 1) := by decide +kernel
theorem dX1_readOne_145 : decode cX1_readOne 145 = .ok (.invokevirtual 50, 3) := by decide +kernel
theorem dX1_readOne_148 : decode cX1_readOne 148 = .ok (.return_, 1) := by decide +kernel
theorem dX2_isA_0 : decode cX2_isA 0 = .ok (.iload_n 0, 1) := by decide +kernel
theorem dX2_isA_1 : decode cX2_isA 1 = .ok (.istore_n 2, 1) := by decide +kernel
theorem dX2_isA_2 : decode cX2_isA 2 = .ok (.iconst 0, 1) := by decide +kernel
theorem dX2_isA_3 : decode cX2_isA 3 = .ok (.istore_n 3, 1) := by decide +kernel
theorem dX2_isA_4 : decode cX2_isA 4 = .ok (.iload_n 3, 1) := by decide +kernel
theorem dX2_isA_5 : decode cX2_isA 5 = .ok (.bipush 6, 2) := by decide +kernel
theorem dX2_isA_7 : decode cX2_isA 7 = .ok (.if_icmp .ge 32, 3) := by decide +kernel
theorem dX2_isA_10 : decode cX2_isA 10 = .ok (.iload_n 2, 1) := by decide +kernel
theorem dX2_isA_11 : decode cX2_isA 11 = .ok (.ifCond .lt 28, 3) := by decide +kernel
theorem dX2_isA_14 : decode cX2_isA 14 = .ok (.iload_n 2, 1) := by decide +kernel
theorem dX2_isA_15 : decode cX2_isA 15 = .ok (.bipush 6, 2) := by decide +kernel
theorem dX2_isA_17 : decode cX2_isA 17 = .ok (.if_icmp .ge 22, 3) := by decide +kernel
theorem dX2_isA_20 : decode cX2_isA 20 = .ok (.iload_n 2, 1) := by decide +kernel
theorem dX2_isA_21 : decode cX2_isA 21 = .ok (.iload_n 1, 1) := by decide +kernel
theorem dX2_isA_22 : decode cX2_isA 22 = .ok (.if_icmp .ne 5, 3) := by decide +kernel
theorem dX2_isA_25 : decode cX2_isA 25 = .ok (.iconst 1, 1) := by decide +kernel
theorem dX2_isA_26 : decode cX2_isA 26 = .ok (.ireturn, 1) := by decide +kernel
theorem dX2_isA_27 : decode cX2_isA 27 = .ok (.getstatic 9, 3) := by decide +kernel
theorem dX2_isA_30 : decode cX2_isA 30 = .ok (.iload_n 2, 1) := by decide +kernel
theorem dX2_isA_31 : decode cX2_isA 31 = .ok (.iaload, 1) := by decide +kernel
theorem dX2_isA_32 : decode cX2_isA 32 = .ok (.istore_n 2, 1) := by decide +kernel
theorem dX2_isA_33 : decode cX2_isA 33 = .ok (.iinc 3 1, 3) := by decide +kernel
theorem dX2_isA_36 : decode cX2_isA 36 = .ok (.goto (-32), 3) := by decide +kernel
theorem dX2_isA_39 : decode cX2_isA 39 = .ok (.iconst 0, 1) := by decide +kernel
theorem dX2_isA_40 : decode cX2_isA 40 = .ok (.ireturn, 1) := by decide +kernel
theorem dX2_needsNext_0 : decode cX2_needsNext 0 = .ok (.iload_n 0, 1) := by decide +kernel
theorem dX2_needsNext_1 : decode cX2_needsNext 1 = .ok (.iconst 2, 1) := by decide +kernel
theorem dX2_needsNext_2 : decode cX2_needsNext 2 = .ok (.invokestatic 15, 3) := by decide +kernel
theorem dX2_needsNext_5 : decode cX2_needsNext 5 = .ok (.ifCond .ne 7, 3) := by decide +kernel
theorem dX2_needsNext_8 : decode cX2_needsNext 8 = .ok (.iconst 1, 1) := by decide +kernel
theorem dX2_needsNext_9 : decode cX2_needsNext 9 = .ok (.goto 4, 3) := by decide +kernel
theorem dX2_needsNext_12 : decode cX2_needsNext 12 = .ok (.iconst 0, 1) := by decide +kernel
theorem dX2_needsNext_13 : decode cX2_needsNext 13 = .ok (.ireturn, 1) := by decide +kernel
theorem dX2_takes_0 : decode cX2_takes 0 = .ok (.iload_n 0, 1) := by decide +kernel
theorem dX2_takes_1 : decode cX2_takes 1 = .ok (.iconst 2, 1) := by decide +kernel
theorem dX2_takes_2 : decode cX2_takes 2 = .ok (.invokestatic 15, 3) := by decide +kernel
theorem dX2_takes_5 : decode cX2_takes 5 = .ok (.ifCond .eq 9, 3) := by decide +kernel
theorem dX2_takes_8 : decode cX2_takes 8 = .ok (.iload_n 2, 1) := by decide +kernel
theorem dX2_takes_9 : decode cX2_takes 9 = .ok (.iload_n 1, 1) := by decide +kernel
theorem dX2_takes_10 : decode cX2_takes 10 = .ok (.iconst 3, 1) := by decide +kernel
theorem dX2_takes_11 : decode cX2_takes 11 = .ok (.idiv, 1) := by decide +kernel
theorem dX2_takes_12 : decode cX2_takes 12 = .ok (.iadd, 1) := by decide +kernel
theorem dX2_takes_13 : decode cX2_takes 13 = .ok (.ireturn, 1) := by decide +kernel
theorem dX2_takes_14 : decode cX2_takes 14 = .ok (.iload_n 0, 1) := by decide +kernel
theorem dX2_takes_15 : decode cX2_takes 15 = .ok (.iconst 5, 1) := by decide +kernel
theorem dX2_takes_16 : decode cX2_takes 16 = .ok (.if_icmp .ne 13, 3) := by decide +kernel
theorem dX2_takes_19 : decode cX2_takes 19 = .ok (.iconst 1, 1) := by decide +kernel
theorem dX2_takes_20 : decode cX2_takes 20 = .ok (.iload_n 2, 1) := by decide +kernel
theorem dX2_takes_21 : decode cX2_takes 21 = .ok (.iconst 2, 1) := by decide +kernel
theorem dX2_takes_22 : decode cX2_takes 22 = .ok (.idiv, 1) := by decide +kernel
theorem dX2_takes_23 : decode cX2_takes 23 = .ok (.invokestatic 19, 3) := by decide +kernel
theorem dX2_takes_26 : decode cX2_takes 26 = .ok (.goto 4, 3) := by decide +kernel
theorem dX2_takes_29 : decode cX2_takes 29 = .ok (.iload_n 2, 1) := by decide +kernel
theorem dX2_takes_30 : decode cX2_takes 30 = .ok (.ireturn, 1) := by decide +kernel
theorem dX2_holds_0 : decode cX2_holds 0 = .ok (.iload_n 2, 1) := by decide +kernel
theorem dX2_holds_1 : decode cX2_holds 1 = .ok (.ifCond .eq 11, 3) := by decide +kernel
theorem dX2_holds_4 : decode cX2_holds 4 = .ok (.iload_n 3, 1) := by decide +kernel
theorem dX2_holds_5 : decode cX2_holds 5 = .ok (.ifCond .eq 7, 3) := by decide +kernel
theorem dX2_holds_8 : decode cX2_holds 8 = .ok (.iconst 1, 1) := by decide +kernel
theorem dX2_holds_9 : decode cX2_holds 9 = .ok (.goto 4, 3) := by decide +kernel
theorem dX2_holds_12 : decode cX2_holds 12 = .ok (.iconst 0, 1) := by decide +kernel
theorem dX2_holds_13 : decode cX2_holds 13 = .ok (.istore 6, 2) := by decide +kernel
theorem dX2_holds_15 : decode cX2_holds 15 = .ok (.iload_n 0, 1) := by decide +kernel
theorem dX2_holds_16 : decode cX2_holds 16 = .ok (.tableswitch 121 1 5 #[36, 121, 46, 84, 100], 36) := by decide +kernel
theorem dX2_holds_52 : decode cX2_holds 52 = .ok (.iload_n 1, 1) := by decide +kernel
theorem dX2_holds_53 : decode cX2_holds 53 = .ok (.iload 6, 2) := by decide +kernel
theorem dX2_holds_55 : decode cX2_holds 55 = .ok (.iload_n 3, 1) := by decide +kernel
theorem dX2_holds_56 : decode cX2_holds 56 = .ok (.iload 4, 2) := by decide +kernel
theorem dX2_holds_58 : decode cX2_holds 58 = .ok (.invokestatic 25, 3) := by decide +kernel
theorem dX2_holds_61 : decode cX2_holds 61 = .ok (.ireturn, 1) := by decide +kernel
theorem dX2_holds_62 : decode cX2_holds 62 = .ok (.iload 5, 2) := by decide +kernel
theorem dX2_holds_64 : decode cX2_holds 64 = .ok (.bipush 10, 2) := by decide +kernel
theorem dX2_holds_66 : decode cX2_holds 66 = .ok (.irem, 1) := by decide +kernel
theorem dX2_holds_67 : decode cX2_holds 67 = .ok (.iload_n 1, 1) := by decide +kernel
theorem dX2_holds_68 : decode cX2_holds 68 = .ok (.if_icmp .eq 26, 3) := by decide +kernel
theorem dX2_holds_71 : decode cX2_holds 71 = .ok (.iload 5, 2) := by decide +kernel
theorem dX2_holds_73 : decode cX2_holds 73 = .ok (.bipush 10, 2) := by decide +kernel
theorem dX2_holds_75 : decode cX2_holds 75 = .ok (.irem, 1) := by decide +kernel
theorem dX2_holds_76 : decode cX2_holds 76 = .ok (.iload_n 1, 1) := by decide +kernel
theorem dX2_holds_77 : decode cX2_holds 77 = .ok (.iconst 2, 1) := by decide +kernel
theorem dX2_holds_78 : decode cX2_holds 78 = .ok (.idiv, 1) := by decide +kernel
theorem dX2_holds_79 : decode cX2_holds 79 = .ok (.if_icmp .lt 19, 3) := by decide +kernel
theorem dX2_holds_82 : decode cX2_holds 82 = .ok (.iload_n 1, 1) := by decide +kernel
theorem dX2_holds_83 : decode cX2_holds 83 = .ok (.iload 6, 2) := by decide +kernel
theorem dX2_holds_85 : decode cX2_holds 85 = .ok (.iload_n 3, 1) := by decide +kernel
theorem dX2_holds_86 : decode cX2_holds 86 = .ok (.iload 4, 2) := by decide +kernel
theorem dX2_holds_88 : decode cX2_holds 88 = .ok (.invokestatic 25, 3) := by decide +kernel
theorem dX2_holds_91 : decode cX2_holds 91 = .ok (.ifCond .eq 7, 3) := by decide +kernel
theorem dX2_holds_94 : decode cX2_holds 94 = .ok (.iconst 1, 1) := by decide +kernel
theorem dX2_holds_95 : decode cX2_holds 95 = .ok (.goto 4, 3) := by decide +kernel
theorem dX2_holds_98 : decode cX2_holds 98 = .ok (.iconst 0, 1) := by decide +kernel
theorem dX2_holds_99 : decode cX2_holds 99 = .ok (.ireturn, 1) := by decide +kernel
theorem dX2_holds_100 : decode cX2_holds 100 = .ok (.iload 6, 2) := by decide +kernel
theorem dX2_holds_102 : decode cX2_holds 102 = .ok (.ifCond .ne 8, 3) := by decide +kernel
theorem dX2_holds_105 : decode cX2_holds 105 = .ok (.iload_n 1, 1) := by decide +kernel
theorem dX2_holds_106 : decode cX2_holds 106 = .ok (.iconst 4, 1) := by decide +kernel
theorem dX2_holds_107 : decode cX2_holds 107 = .ok (.if_icmp .le 7, 3) := by decide +kernel
theorem dX2_holds_110 : decode cX2_holds 110 = .ok (.iconst 1, 1) := by decide +kernel
theorem dX2_holds_111 : decode cX2_holds 111 = .ok (.goto 4, 3) := by decide +kernel
theorem dX2_holds_114 : decode cX2_holds 114 = .ok (.iconst 0, 1) := by decide +kernel
theorem dX2_holds_115 : decode cX2_holds 115 = .ok (.ireturn, 1) := by decide +kernel
theorem dX2_holds_116 : decode cX2_holds 116 = .ok (.iload 6, 2) := by decide +kernel
theorem dX2_holds_118 : decode cX2_holds 118 = .ok (.ifCond .eq 17, 3) := by decide +kernel
theorem dX2_holds_121 : decode cX2_holds 121 = .ok (.iload 4, 2) := by decide +kernel
theorem dX2_holds_123 : decode cX2_holds 123 = .ok (.iconst 2, 1) := by decide +kernel
theorem dX2_holds_124 : decode cX2_holds 124 = .ok (.irem, 1) := by decide +kernel
theorem dX2_holds_125 : decode cX2_holds 125 = .ok (.iload_n 1, 1) := by decide +kernel
theorem dX2_holds_126 : decode cX2_holds 126 = .ok (.iconst 2, 1) := by decide +kernel
theorem dX2_holds_127 : decode cX2_holds 127 = .ok (.irem, 1) := by decide +kernel
theorem dX2_holds_128 : decode cX2_holds 128 = .ok (.if_icmp .ne 7, 3) := by decide +kernel
theorem dX2_holds_131 : decode cX2_holds 131 = .ok (.iconst 1, 1) := by decide +kernel
theorem dX2_holds_132 : decode cX2_holds 132 = .ok (.goto 4, 3) := by decide +kernel
theorem dX2_holds_135 : decode cX2_holds 135 = .ok (.iconst 0, 1) := by decide +kernel
theorem dX2_holds_136 : decode cX2_holds 136 = .ok (.ireturn, 1) := by decide +kernel
theorem dX2_holds_137 : decode cX2_holds 137 = .ok (.iload 6, 2) := by decide +kernel
theorem dX2_holds_139 : decode cX2_holds 139 = .ok (.ireturn, 1) := by decide +kernel
theorem dX2_asHabit_0 : decode cX2_asHabit 0 = .ok (.iload_n 1, 1) := by decide +kernel
theorem dX2_asHabit_1 : decode cX2_asHabit 1 = .ok (.ifCond .ne 12, 3) := by decide +kernel
theorem dX2_asHabit_4 : decode cX2_asHabit 4 = .ok (.iload_n 2, 1) := by decide +kernel
theorem dX2_asHabit_5 : decode cX2_asHabit 5 = .ok (.ifCond .eq 12, 3) := by decide +kernel
theorem dX2_asHabit_8 : decode cX2_asHabit 8 = .ok (.iload_n 3, 1) := by decide +kernel
theorem dX2_asHabit_9 : decode cX2_asHabit 9 = .ok (.iload_n 0, 1) := by decide +kernel
theorem dX2_asHabit_10 : decode cX2_asHabit 10 = .ok (.if_icmp .gt 7, 3) := by decide +kernel
theorem dX2_asHabit_13 : decode cX2_asHabit 13 = .ok (.iconst 1, 1) := by decide +kernel
theorem dX2_asHabit_14 : decode cX2_asHabit 14 = .ok (.goto 4, 3) := by decide +kernel
theorem dX2_asHabit_17 : decode cX2_asHabit 17 = .ok (.iconst 0, 1) := by decide +kernel
theorem dX2_asHabit_18 : decode cX2_asHabit 18 = .ok (.ireturn, 1) := by decide +kernel
theorem dX3_init_0 : decode cX3_init 0 = .ok (.aload_n 0, 1) := by decide +kernel
theorem dX3_init_1 : decode cX3_init 1 = .ok (.invokespecial 3, 3) := by decide +kernel
theorem dX3_init_4 : decode cX3_init 4 = .ok (.aload_n 0, 1) := by decide +kernel
theorem dX3_init_5 : decode cX3_init 5 = .ok (.aload_n 1, 1) := by decide +kernel
theorem dX3_init_6 : decode cX3_init 6 = .ok (.putfield 9, 3) := by decide +kernel
theorem dX3_init_9 : decode cX3_init 9 = .ok (.aload_n 0, 1) := by decide +kernel
theorem dX3_init_10 : decode cX3_init 10 = .ok (.iload_n 2, 1) := by decide +kernel
theorem dX3_init_11 : decode cX3_init 11 = .ok (.putfield 15, 3) := by decide +kernel
theorem dX3_init_14 : decode cX3_init 14 = .ok (.aload_n 0, 1) := by decide +kernel
theorem dX3_init_15 : decode cX3_init 15 = .ok (.iload_n 3, 1) := by decide +kernel
theorem dX3_init_16 : decode cX3_init 16 = .ok (.putfield 19, 3) := by decide +kernel
theorem dX3_init_19 : decode cX3_init 19 = .ok (.return_, 1) := by decide +kernel
theorem dX3_startOf_0 : decode cX3_startOf 0 = .ok (.iload_n 1, 1) := by decide +kernel
theorem dX3_startOf_1 : decode cX3_startOf 1 = .ok (.ifCond .ne 5, 3) := by decide +kernel
theorem dX3_startOf_4 : decode cX3_startOf 4 = .ok (.iconst 0, 1) := by decide +kernel
theorem dX3_startOf_5 : decode cX3_startOf 5 = .ok (.ireturn, 1) := by decide +kernel
theorem dX3_startOf_6 : decode cX3_startOf 6 = .ok (.iload_n 1, 1) := by decide +kernel
theorem dX3_startOf_7 : decode cX3_startOf 7 = .ok (.iconst 1, 1) := by decide +kernel
theorem dX3_startOf_8 : decode cX3_startOf 8 = .ok (.if_icmp .ne 10, 3) := by decide +kernel
theorem dX3_startOf_11 : decode cX3_startOf 11 = .ok (.aload_n 0, 1) := by decide +kernel
theorem dX3_startOf_12 : decode cX3_startOf 12 = .ok (.getfield 15, 3) := by decide +kernel
theorem dX3_startOf_15 : decode cX3_startOf 15 = .ok (.goto 7, 3) := by decide +kernel
theorem dX3_startOf_18 : decode cX3_startOf 18 = .ok (.aload_n 0, 1) := by decide +kernel
theorem dX3_startOf_19 : decode cX3_startOf 19 = .ok (.getfield 19, 3) := by decide +kernel
theorem dX3_startOf_22 : decode cX3_startOf 22 = .ok (.ireturn, 1) := by decide +kernel
theorem dX3_endOf_0 : decode cX3_endOf 0 = .ok (.iload_n 1, 1) := by decide +kernel
theorem dX3_endOf_1 : decode cX3_endOf 1 = .ok (.ifCond .ne 8, 3) := by decide +kernel
theorem dX3_endOf_4 : decode cX3_endOf 4 = .ok (.aload_n 0, 1) := by decide +kernel
theorem dX3_endOf_5 : decode cX3_endOf 5 = .ok (.getfield 15, 3) := by decide +kernel
theorem dX3_endOf_8 : decode cX3_endOf 8 = .ok (.ireturn, 1) := by decide +kernel
theorem dX3_endOf_9 : decode cX3_endOf 9 = .ok (.iload_n 1, 1) := by decide +kernel
theorem dX3_endOf_10 : decode cX3_endOf 10 = .ok (.iconst 1, 1) := by decide +kernel
theorem dX3_endOf_11 : decode cX3_endOf 11 = .ok (.if_icmp .ne 10, 3) := by decide +kernel
theorem dX3_endOf_14 : decode cX3_endOf 14 = .ok (.aload_n 0, 1) := by decide +kernel
theorem dX3_endOf_15 : decode cX3_endOf 15 = .ok (.getfield 19, 3) := by decide +kernel
theorem dX3_endOf_18 : decode cX3_endOf 18 = .ok (.goto 8, 3) := by decide +kernel
theorem dX3_endOf_21 : decode cX3_endOf 21 = .ok (.aload_n 0, 1) := by decide +kernel
theorem dX3_endOf_22 : decode cX3_endOf 22 = .ok (.getfield 9, 3) := by decide +kernel
theorem dX3_endOf_25 : decode cX3_endOf 25 = .ok (.arraylength, 1) := by decide +kernel
theorem dX3_endOf_26 : decode cX3_endOf 26 = .ok (.ireturn, 1) := by decide +kernel
theorem dX3_codeAt_0 : decode cX3_codeAt 0 = .ok (.iload_n 1, 1) := by decide +kernel
theorem dX3_codeAt_1 : decode cX3_codeAt 1 = .ok (.ifCond .lt 21, 3) := by decide +kernel
theorem dX3_codeAt_4 : decode cX3_codeAt 4 = .ok (.iload_n 1, 1) := by decide +kernel
theorem dX3_codeAt_5 : decode cX3_codeAt 5 = .ok (.aload_n 0, 1) := by decide +kernel
theorem dX3_codeAt_6 : decode cX3_codeAt 6 = .ok (.getfield 9, 3) := by decide +kernel
theorem dX3_codeAt_9 : decode cX3_codeAt 9 = .ok (.arraylength, 1) := by decide +kernel
theorem dX3_codeAt_10 : decode cX3_codeAt 10 = .ok (.if_icmp .ge 12, 3) := by decide +kernel
theorem dX3_codeAt_13 : decode cX3_codeAt 13 = .ok (.aload_n 0, 1) := by decide +kernel
theorem dX3_codeAt_14 : decode cX3_codeAt 14 = .ok (.getfield 9, 3) := by decide +kernel
theorem dX3_codeAt_17 : decode cX3_codeAt 17 = .ok (.iload_n 1, 1) := by decide +kernel
theorem dX3_codeAt_18 : decode cX3_codeAt 18 = .ok (.iaload, 1) := by decide +kernel
theorem dX3_codeAt_19 : decode cX3_codeAt 19 = .ok (.goto 4, 3) := by decide +kernel
theorem dX3_codeAt_22 : decode cX3_codeAt 22 = .ok (.iconst 0, 1) := by decide +kernel
theorem dX3_codeAt_23 : decode cX3_codeAt 23 = .ok (.ireturn, 1) := by decide +kernel
theorem dX4_init_0 : decode cX4_init 0 = .ok (.aload_n 0, 1) := by decide +kernel
theorem dX4_init_1 : decode cX4_init 1 = .ok (.invokespecial 3, 3) := by decide +kernel
theorem dX4_init_4 : decode cX4_init 4 = .ok (.aload_n 0, 1) := by decide +kernel
theorem dX4_init_5 : decode cX4_init 5 = .ok (.sipush 160, 3) := by decide +kernel
theorem dX4_init_8 : decode cX4_init 8 = .ok (.newarray .int, 2) := by decide +kernel
theorem dX4_init_10 : decode cX4_init 10 = .ok (.putfield 9, 3) := by decide +kernel
theorem dX4_init_13 : decode cX4_init 13 = .ok (.aload_n 0, 1) := by decide +kernel
theorem dX4_init_14 : decode cX4_init 14 = .ok (.bipush 6, 2) := by decide +kernel
theorem dX4_init_16 : decode cX4_init 16 = .ok (.newarray .int, 2) := by decide +kernel
theorem dX4_init_18 : decode cX4_init 18 = .ok (.putfield 15, 3) := by decide +kernel
theorem dX4_init_21 : decode cX4_init 21 = .ok (.return_, 1) := by decide +kernel
theorem dX4_about_0 : decode cX4_about 0 = .ok (.aload_n 0, 1) := by decide +kernel
theorem dX4_about_1 : decode cX4_about 1 = .ok (.getfield 15, 3) := by decide +kernel
theorem dX4_about_4 : decode cX4_about 4 = .ok (.iconst 0, 1) := by decide +kernel
theorem dX4_about_5 : decode cX4_about 5 = .ok (.iload_n 1, 1) := by decide +kernel
theorem dX4_about_6 : decode cX4_about 6 = .ok (.iastore, 1) := by decide +kernel
theorem dX4_about_7 : decode cX4_about 7 = .ok (.aload_n 0, 1) := by decide +kernel
theorem dX4_about_8 : decode cX4_about 8 = .ok (.getfield 15, 3) := by decide +kernel
theorem dX4_about_11 : decode cX4_about 11 = .ok (.iconst 1, 1) := by decide +kernel
theorem dX4_about_12 : decode cX4_about 12 = .ok (.iload_n 2, 1) := by decide +kernel
theorem dX4_about_13 : decode cX4_about 13 = .ok (.iastore, 1) := by decide +kernel
theorem dX4_about_14 : decode cX4_about 14 = .ok (.aload_n 0, 1) := by decide +kernel
theorem dX4_about_15 : decode cX4_about 15 = .ok (.getfield 15, 3) := by decide +kernel
theorem dX4_about_18 : decode cX4_about 18 = .ok (.iconst 2, 1) := by decide +kernel
theorem dX4_about_19 : decode cX4_about 19 = .ok (.iload_n 3, 1) := by decide +kernel
theorem dX4_about_20 : decode cX4_about 20 = .ok (.iastore, 1) := by decide +kernel
theorem dX4_about_21 : decode cX4_about 21 = .ok (.aload_n 0, 1) := by decide +kernel
theorem dX4_about_22 : decode cX4_about 22 = .ok (.getfield 15, 3) := by decide +kernel
theorem dX4_about_25 : decode cX4_about 25 = .ok (.iconst 3, 1) := by decide +kernel
theorem dX4_about_26 : decode cX4_about 26 = .ok (.iload 4, 2) := by decide +kernel
theorem dX4_about_28 : decode cX4_about 28 = .ok (.iastore, 1) := by decide +kernel
theorem dX4_about_29 : decode cX4_about 29 = .ok (.aload_n 0, 1) := by decide +kernel
theorem dX4_about_30 : decode cX4_about 30 = .ok (.getfield 15, 3) := by decide +kernel
theorem dX4_about_33 : decode cX4_about 33 = .ok (.iconst 4, 1) := by decide +kernel
theorem dX4_about_34 : decode cX4_about 34 = .ok (.iload 5, 2) := by decide +kernel
theorem dX4_about_36 : decode cX4_about 36 = .ok (.iastore, 1) := by decide +kernel
theorem dX4_about_37 : decode cX4_about 37 = .ok (.aload_n 0, 1) := by decide +kernel
theorem dX4_about_38 : decode cX4_about 38 = .ok (.getfield 15, 3) := by decide +kernel
theorem dX4_about_41 : decode cX4_about 41 = .ok (.iconst 5, 1) := by decide +kernel
theorem dX4_about_42 : decode cX4_about 42 = .ok (.iload 6, 2) := by decide +kernel
theorem dX4_about_44 : decode cX4_about 44 = .ok (.iastore, 1) := by decide +kernel
theorem dX4_about_45 : decode cX4_about 45 = .ok (.return_, 1) := by decide +kernel
theorem dX4_value_0 : decode cX4_value 0 = .ok (.aload_n 1, 1) := by decide +kernel
theorem dX4_value_1 : decode cX4_value 1 = .ok (.ifnonnull 5, 3) := by decide +kernel
theorem dX4_value_4 : decode cX4_value 4 = .ok (.iconst 0, 1) := by decide +kernel
theorem dX4_value_5 : decode cX4_value 5 = .ok (.ireturn, 1) := by decide +kernel
theorem dX4_value_6 : decode cX4_value 6 = .ok (.iconst 0, 1) := by decide +kernel
theorem dX4_value_7 : decode cX4_value 7 = .ok (.istore_n 3, 1) := by decide +kernel
theorem dX4_value_8 : decode cX4_value 8 = .ok (.aload_n 1, 1) := by decide +kernel
theorem dX4_value_9 : decode cX4_value 9 = .ok (.iload_n 2, 1) := by decide +kernel
theorem dX4_value_10 : decode cX4_value 10 = .ok (.invokevirtual 18, 3) := by decide +kernel
theorem dX4_value_13 : decode cX4_value 13 = .ok (.istore 4, 2) := by decide +kernel
theorem dX4_value_15 : decode cX4_value 15 = .ok (.aload_n 1, 1) := by decide +kernel
theorem dX4_value_16 : decode cX4_value 16 = .ok (.iload_n 2, 1) := by decide +kernel
theorem dX4_value_17 : decode cX4_value 17 = .ok (.invokevirtual 24, 3) := by decide +kernel
theorem dX4_value_20 : decode cX4_value 20 = .ok (.istore 5, 2) := by decide +kernel
theorem dX4_value_22 : decode cX4_value 22 = .ok (.iload 5, 2) := by decide +kernel
theorem dX4_value_24 : decode cX4_value 24 = .ok (.iload 4, 2) := by decide +kernel
theorem dX4_value_26 : decode cX4_value 26 = .ok (.if_icmp .ge 105, 3) := by decide +kernel
theorem dX4_value_29 : decode cX4_value 29 = .ok (.aload_n 1, 1) := by decide +kernel
theorem dX4_value_30 : decode cX4_value 30 = .ok (.iload 5, 2) := by decide +kernel
theorem dX4_value_32 : decode cX4_value 32 = .ok (.invokevirtual 27, 3) := by decide +kernel
theorem dX4_value_35 : decode cX4_value 35 = .ok (.istore 6, 2) := by decide +kernel
theorem dX4_value_37 : decode cX4_value 37 = .ok (.iload 6, 2) := by decide +kernel
theorem dX4_value_39 : decode cX4_value 39 = .ok (.ineg, 1) := by decide +kernel
theorem dX4_value_40 : decode cX4_value 40 = .ok (.sipush 262, 3) := by decide +kernel
theorem dX4_value_43 : decode cX4_value 43 = .ok (.isub, 1) := by decide +kernel
theorem dX4_value_44 : decode cX4_value 44 = .ok (.istore 7, 2) := by decide +kernel
theorem dX4_value_46 : decode cX4_value 46 = .ok (.iload 7, 2) := by decide +kernel
theorem dX4_value_48 : decode cX4_value 48 = .ok (.ifCond .lt 17, 3) := by decide +kernel
theorem dX4_value_51 : decode cX4_value 51 = .ok (.iload 7, 2) := by decide +kernel
theorem dX4_value_53 : decode cX4_value 53 = .ok (.aload_n 0, 1) := by decide +kernel
theorem dX4_value_54 : decode cX4_value 54 = .ok (.getfield 15, 3) := by decide +kernel
theorem dX4_value_57 : decode cX4_value 57 = .ok (.arraylength, 1) := by decide +kernel
theorem dX4_value_58 : decode cX4_value 58 = .ok (.if_icmp .ge 7, 3) := by decide +kernel
theorem dX4_value_61 : decode cX4_value 61 = .ok (.iconst 1, 1) := by decide +kernel
theorem dX4_value_62 : decode cX4_value 62 = .ok (.goto 4, 3) := by decide +kernel
theorem dX4_value_65 : decode cX4_value 65 = .ok (.iconst 0, 1) := by decide +kernel
theorem dX4_value_66 : decode cX4_value 66 = .ok (.istore 8, 2) := by decide +kernel
theorem dX4_value_68 : decode cX4_value 68 = .ok (.iload 6, 2) := by decide +kernel
theorem dX4_value_70 : decode cX4_value 70 = .ok (.ifCond .ge 20, 3) := by decide +kernel
theorem dX4_value_73 : decode cX4_value 73 = .ok (.iload 8, 2) := by decide +kernel
theorem dX4_value_75 : decode cX4_value 75 = .ok (.ifCond .ne 15, 3) := by decide +kernel
theorem dX4_value_78 : decode cX4_value 78 = .ok (.aload_n 0, 1) := by decide +kernel
theorem dX4_value_79 : decode cX4_value 79 = .ok (.iload 6, 2) := by decide +kernel
theorem dX4_value_81 : decode cX4_value 81 = .ok (.ineg, 1) := by decide +kernel
theorem dX4_value_82 : decode cX4_value 82 = .ok (.iload_n 3, 1) := by decide +kernel
theorem dX4_value_83 : decode cX4_value 83 = .ok (.invokevirtual 30, 3) := by decide +kernel
theorem dX4_value_86 : decode cX4_value 86 = .ok (.istore_n 3, 1) := by decide +kernel
theorem dX4_value_87 : decode cX4_value 87 = .ok (.goto 38, 3) := by decide +kernel
theorem dX4_value_90 : decode cX4_value 90 = .ok (.iload_n 3, 1) := by decide +kernel
theorem dX4_value_91 : decode cX4_value 91 = .ok (.aload_n 0, 1) := by decide +kernel
theorem dX4_value_92 : decode cX4_value 92 = .ok (.getfield 9, 3) := by decide +kernel
theorem dX4_value_95 : decode cX4_value 95 = .ok (.arraylength, 1) := by decide +kernel
theorem dX4_value_96 : decode cX4_value 96 = .ok (.if_icmp .ge 29, 3) := by decide +kernel
theorem dX4_value_99 : decode cX4_value 99 = .ok (.aload_n 0, 1) := by decide +kernel
theorem dX4_value_100 : decode cX4_value 100 = .ok (.getfield 9, 3) := by decide +kernel
theorem dX4_value_103 : decode cX4_value 103 = .ok (.iload_n 3, 1) := by decide +kernel
theorem dX4_value_104 : decode cX4_value 104 = .ok (.iload 8, 2) := by decide +kernel
theorem dX4_value_106 : decode cX4_value 106 = .ok (.ifCond .eq 13, 3) := by decide +kernel
theorem dX4_value_109 : decode cX4_value 109 = .ok (.aload_n 0, 1) := by decide +kernel
theorem dX4_value_110 : decode cX4_value 110 = .ok (.getfield 15, 3) := by decide +kernel
theorem dX4_value_113 : decode cX4_value 113 = .ok (.iload 7, 2) := by decide +kernel
theorem dX4_value_115 : decode cX4_value 115 = .ok (.iaload, 1) := by decide +kernel
theorem dX4_value_116 : decode cX4_value 116 = .ok (.goto 5, 3) := by decide +kernel
theorem dX4_value_119 : decode cX4_value 119 = .ok (.iload 6, 2) := by decide +kernel
theorem dX4_value_121 : decode cX4_value 121 = .ok (.iastore, 1) := by decide +kernel
theorem dX4_value_122 : decode cX4_value 122 = .ok (.iinc 3 1, 3) := by decide +kernel
theorem dX4_value_125 : decode cX4_value 125 = .ok (.iinc 5 1, 3) := by decide +kernel
theorem dX4_value_128 : decode cX4_value 128 = .ok (.goto (-106), 3) := by decide +kernel
theorem dX4_value_131 : decode cX4_value 131 = .ok (.iload_n 3, 1) := by decide +kernel
theorem dX4_value_132 : decode cX4_value 132 = .ok (.ifCond .le 12, 3) := by decide +kernel
theorem dX4_value_135 : decode cX4_value 135 = .ok (.aload_n 0, 1) := by decide +kernel
theorem dX4_value_136 : decode cX4_value 136 = .ok (.getfield 9, 3) := by decide +kernel
theorem dX4_value_139 : decode cX4_value 139 = .ok (.iconst 0, 1) := by decide +kernel
theorem dX4_value_140 : decode cX4_value 140 = .ok (.iaload, 1) := by decide +kernel
theorem dX4_value_141 : decode cX4_value 141 = .ok (.goto 4, 3) := by decide +kernel
theorem dX4_value_144 : decode cX4_value 144 = .ok (.iconst 0, 1) := by decide +kernel
theorem dX4_value_145 : decode cX4_value 145 = .ok (.ireturn, 1) := by decide +kernel
theorem dX4_act_0 : decode cX4_act 0 = .ok (.iload_n 1, 1) := by decide +kernel
theorem dX4_act_1 : decode cX4_act 1 = .ok (.iconst 2, 1) := by decide +kernel
theorem dX4_act_2 : decode cX4_act 2 = .ok (.if_icmp .eq 10, 3) := by decide +kernel
theorem dX4_act_5 : decode cX4_act 5 = .ok (.iload_n 1, 1) := by decide +kernel
theorem dX4_act_6 : decode cX4_act 6 = .ok (.sipush 261, 3) := by decide +kernel
theorem dX4_act_9 : decode cX4_act 9 = .ok (.if_icmp .ne 7, 3) := by decide +kernel
theorem dX4_act_12 : decode cX4_act 12 = .ok (.iconst 1, 1) := by decide +kernel
theorem dX4_act_13 : decode cX4_act 13 = .ok (.goto 4, 3) := by decide +kernel
theorem dX4_act_16 : decode cX4_act 16 = .ok (.iconst 2, 1) := by decide +kernel
theorem dX4_act_17 : decode cX4_act 17 = .ok (.istore_n 3, 1) := by decide +kernel
theorem dX4_act_18 : decode cX4_act 18 = .ok (.iload_n 2, 1) := by decide +kernel
theorem dX4_act_19 : decode cX4_act 19 = .ok (.iload_n 3, 1) := by decide +kernel
theorem dX4_act_20 : decode cX4_act 20 = .ok (.if_icmp .lt 12, 3) := by decide +kernel
theorem dX4_act_23 : decode cX4_act 23 = .ok (.iload_n 2, 1) := by decide +kernel
theorem dX4_act_24 : decode cX4_act 24 = .ok (.aload_n 0, 1) := by decide +kernel
theorem dX4_act_25 : decode cX4_act 25 = .ok (.getfield 9, 3) := by decide +kernel
theorem dX4_act_28 : decode cX4_act 28 = .ok (.arraylength, 1) := by decide +kernel
theorem dX4_act_29 : decode cX4_act 29 = .ok (.if_icmp .le 5, 3) := by decide +kernel
theorem dX4_act_32 : decode cX4_act 32 = .ok (.iload_n 2, 1) := by decide +kernel
theorem dX4_act_33 : decode cX4_act 33 = .ok (.ireturn, 1) := by decide +kernel
theorem dX4_act_34 : decode cX4_act 34 = .ok (.aload_n 0, 1) := by decide +kernel
theorem dX4_act_35 : decode cX4_act 35 = .ok (.getfield 9, 3) := by decide +kernel
theorem dX4_act_38 : decode cX4_act 38 = .ok (.iload_n 2, 1) := by decide +kernel
theorem dX4_act_39 : decode cX4_act 39 = .ok (.iload_n 3, 1) := by decide +kernel
theorem dX4_act_40 : decode cX4_act 40 = .ok (.isub, 1) := by decide +kernel
theorem dX4_act_41 : decode cX4_act 41 = .ok (.iaload, 1) := by decide +kernel
theorem dX4_act_42 : decode cX4_act 42 = .ok (.istore 4, 2) := by decide +kernel
theorem dX4_act_44 : decode cX4_act 44 = .ok (.aload_n 0, 1) := by decide +kernel
theorem dX4_act_45 : decode cX4_act 45 = .ok (.getfield 9, 3) := by decide +kernel
theorem dX4_act_48 : decode cX4_act 48 = .ok (.iload_n 2, 1) := by decide +kernel
theorem dX4_act_49 : decode cX4_act 49 = .ok (.iconst 1, 1) := by decide +kernel
theorem dX4_act_50 : decode cX4_act 50 = .ok (.isub, 1) := by decide +kernel
theorem dX4_act_51 : decode cX4_act 51 = .ok (.iaload, 1) := by decide +kernel
theorem dX4_act_52 : decode cX4_act 52 = .ok (.istore 5, 2) := by decide +kernel
theorem dX4_act_54 : decode cX4_act 54 = .ok (.iload_n 1, 1) := by decide +kernel
theorem dX4_act_55 : decode cX4_act 55 = .ok (.lookupswitch 180 #[(2, 73), (42, 116), (43, 96), (45, 106), (60, 126), (61, 143), (260, 160), (261, 81)], 73) := by decide +kernel
theorem dX4_act_128 : decode cX4_act 128 = .ok (.iload 5, 2) := by decide +kernel
theorem dX4_act_130 : decode cX4_act 130 = .ok (.ineg, 1) := by decide +kernel
theorem dX4_act_131 : decode cX4_act 131 = .ok (.istore 6, 2) := by decide +kernel
theorem dX4_act_133 : decode cX4_act 133 = .ok (.goto 119, 3) := by decide +kernel
theorem dX4_act_136 : decode cX4_act 136 = .ok (.iload 5, 2) := by decide +kernel
theorem dX4_act_138 : decode cX4_act 138 = .ok (.ifCond .ne 7, 3) := by decide +kernel
theorem dX4_act_141 : decode cX4_act 141 = .ok (.iconst 1, 1) := by decide +kernel
theorem dX4_act_142 : decode cX4_act 142 = .ok (.goto 4, 3) := by decide +kernel
theorem dX4_act_145 : decode cX4_act 145 = .ok (.iconst 0, 1) := by decide +kernel
theorem dX4_act_146 : decode cX4_act 146 = .ok (.istore 6, 2) := by decide +kernel
theorem dX4_act_148 : decode cX4_act 148 = .ok (.goto 104, 3) := by decide +kernel
theorem dX4_act_151 : decode cX4_act 151 = .ok (.iload 4, 2) := by decide +kernel
theorem dX4_act_153 : decode cX4_act 153 = .ok (.iload 5, 2) := by decide +kernel
theorem dX4_act_155 : decode cX4_act 155 = .ok (.iadd, 1) := by decide +kernel
theorem dX4_act_156 : decode cX4_act 156 = .ok (.istore 6, 2) := by decide +kernel
theorem dX4_act_158 : decode cX4_act 158 = .ok (.goto 94, 3) := by decide +kernel
theorem dX4_act_161 : decode cX4_act 161 = .ok (.iload 4, 2) := by decide +kernel
theorem dX4_act_163 : decode cX4_act 163 = .ok (.iload 5, 2) := by decide +kernel
theorem dX4_act_165 : decode cX4_act 165 = .ok (.isub, 1) := by decide +kernel
theorem dX4_act_166 : decode cX4_act 166 = .ok (.istore 6, 2) := by decide +kernel
theorem dX4_act_168 : decode cX4_act 168 = .ok (.goto 84, 3) := by decide +kernel
theorem dX4_act_171 : decode cX4_act 171 = .ok (.iload 4, 2) := by decide +kernel
theorem dX4_act_173 : decode cX4_act 173 = .ok (.iload 5, 2) := by decide +kernel
theorem dX4_act_175 : decode cX4_act 175 = .ok (.imul, 1) := by decide +kernel
theorem dX4_act_176 : decode cX4_act 176 = .ok (.istore 6, 2) := by decide +kernel
theorem dX4_act_178 : decode cX4_act 178 = .ok (.goto 74, 3) := by decide +kernel
theorem dX4_act_181 : decode cX4_act 181 = .ok (.iload 4, 2) := by decide +kernel
theorem dX4_act_183 : decode cX4_act 183 = .ok (.iload 5, 2) := by decide +kernel
theorem dX4_act_185 : decode cX4_act 185 = .ok (.if_icmp .ge 7, 3) := by decide +kernel
theorem dX4_act_188 : decode cX4_act 188 = .ok (.iconst 1, 1) := by decide +kernel
theorem dX4_act_189 : decode cX4_act 189 = .ok (.goto 4, 3) := by decide +kernel
theorem dX4_act_192 : decode cX4_act 192 = .ok (.iconst 0, 1) := by decide +kernel
theorem dX4_act_193 : decode cX4_act 193 = .ok (.istore 6, 2) := by decide +kernel
theorem dX4_act_195 : decode cX4_act 195 = .ok (.goto 57, 3) := by decide +kernel
theorem dX4_act_198 : decode cX4_act 198 = .ok (.iload 4, 2) := by decide +kernel
theorem dX4_act_200 : decode cX4_act 200 = .ok (.iload 5, 2) := by decide +kernel
theorem dX4_act_202 : decode cX4_act 202 = .ok (.if_icmp .ne 7, 3) := by decide +kernel
theorem dX4_act_205 : decode cX4_act 205 = .ok (.iconst 1, 1) := by decide +kernel
theorem dX4_act_206 : decode cX4_act 206 = .ok (.goto 4, 3) := by decide +kernel
theorem dX4_act_209 : decode cX4_act 209 = .ok (.iconst 0, 1) := by decide +kernel
theorem dX4_act_210 : decode cX4_act 210 = .ok (.istore 6, 2) := by decide +kernel
theorem dX4_act_212 : decode cX4_act 212 = .ok (.goto 40, 3) := by decide +kernel
theorem dX4_act_215 : decode cX4_act 215 = .ok (.iload 4, 2) := by decide +kernel
theorem dX4_act_217 : decode cX4_act 217 = .ok (.ifCond .eq 12, 3) := by decide +kernel
theorem dX4_act_220 : decode cX4_act 220 = .ok (.iload 5, 2) := by decide +kernel
theorem dX4_act_222 : decode cX4_act 222 = .ok (.ifCond .eq 7, 3) := by decide +kernel
theorem dX4_act_225 : decode cX4_act 225 = .ok (.iconst 1, 1) := by decide +kernel
theorem dX4_act_226 : decode cX4_act 226 = .ok (.goto 4, 3) := by decide +kernel
theorem dX4_act_229 : decode cX4_act 229 = .ok (.iconst 0, 1) := by decide +kernel
theorem dX4_act_230 : decode cX4_act 230 = .ok (.istore 6, 2) := by decide +kernel
theorem dX4_act_232 : decode cX4_act 232 = .ok (.goto 20, 3) := by decide +kernel
theorem dX4_act_235 : decode cX4_act 235 = .ok (.iload 4, 2) := by decide +kernel
theorem dX4_act_237 : decode cX4_act 237 = .ok (.ifCond .ne 8, 3) := by decide +kernel
theorem dX4_act_240 : decode cX4_act 240 = .ok (.iload 5, 2) := by decide +kernel
theorem dX4_act_242 : decode cX4_act 242 = .ok (.ifCond .eq 7, 3) := by decide +kernel
theorem dX4_act_245 : decode cX4_act 245 = .ok (.iconst 1, 1) := by decide +kernel
theorem dX4_act_246 : decode cX4_act 246 = .ok (.goto 4, 3) := by decide +kernel
theorem dX4_act_249 : decode cX4_act 249 = .ok (.iconst 0, 1) := by decide +kernel
theorem dX4_act_250 : decode cX4_act 250 = .ok (.istore 6, 2) := by decide +kernel
theorem dX4_act_252 : decode cX4_act 252 = .ok (.aload_n 0, 1) := by decide +kernel
theorem dX4_act_253 : decode cX4_act 253 = .ok (.getfield 9, 3) := by decide +kernel
theorem dX4_act_256 : decode cX4_act 256 = .ok (.iload_n 2, 1) := by decide +kernel
theorem dX4_act_257 : decode cX4_act 257 = .ok (.iload_n 3, 1) := by decide +kernel
theorem dX4_act_258 : decode cX4_act 258 = .ok (.isub, 1) := by decide +kernel
theorem dX4_act_259 : decode cX4_act 259 = .ok (.iload 6, 2) := by decide +kernel
theorem dX4_act_261 : decode cX4_act 261 = .ok (.iastore, 1) := by decide +kernel
theorem dX4_act_262 : decode cX4_act 262 = .ok (.iload_n 2, 1) := by decide +kernel
theorem dX4_act_263 : decode cX4_act 263 = .ok (.iload_n 3, 1) := by decide +kernel
theorem dX4_act_264 : decode cX4_act 264 = .ok (.isub, 1) := by decide +kernel
theorem dX4_act_265 : decode cX4_act 265 = .ok (.iconst 1, 1) := by decide +kernel
theorem dX4_act_266 : decode cX4_act 266 = .ok (.iadd, 1) := by decide +kernel
theorem dX4_act_267 : decode cX4_act 267 = .ok (.ireturn, 1) := by decide +kernel
theorem dX5_init_0 : decode cX5_init 0 = .ok (.aload_n 0, 1) := by decide +kernel
theorem dX5_init_1 : decode cX5_init 1 = .ok (.invokespecial 3, 3) := by decide +kernel
theorem dX5_init_4 : decode cX5_init 4 = .ok (.aload_n 0, 1) := by decide +kernel
theorem dX5_init_5 : decode cX5_init 5 = .ok (.bipush 40, 2) := by decide +kernel
theorem dX5_init_7 : decode cX5_init 7 = .ok (.newarray .int, 2) := by decide +kernel
theorem dX5_init_9 : decode cX5_init 9 = .ok (.putfield 9, 3) := by decide +kernel
theorem dX5_init_12 : decode cX5_init 12 = .ok (.aload_n 0, 1) := by decide +kernel
theorem dX5_init_13 : decode cX5_init 13 = .ok (.iconst (-1), 1) := by decide +kernel
theorem dX5_init_14 : decode cX5_init 14 = .ok (.putfield 15, 3) := by decide +kernel
theorem dX5_init_17 : decode cX5_init 17 = .ok (.return_, 1) := by decide +kernel
theorem dX5_isMissing_0 : decode cX5_isMissing 0 = .ok (.aload_n 0, 1) := by decide +kernel
theorem dX5_isMissing_1 : decode cX5_isMissing 1 = .ok (.getfield 15, 3) := by decide +kernel
theorem dX5_isMissing_4 : decode cX5_isMissing 4 = .ok (.iconst (-1), 1) := by decide +kernel
theorem dX5_isMissing_5 : decode cX5_isMissing 5 = .ok (.if_icmp .ne 7, 3) := by decide +kernel
theorem dX5_isMissing_8 : decode cX5_isMissing 8 = .ok (.iconst 1, 1) := by decide +kernel
theorem dX5_isMissing_9 : decode cX5_isMissing 9 = .ok (.goto 4, 3) := by decide +kernel
theorem dX5_isMissing_12 : decode cX5_isMissing 12 = .ok (.iconst 0, 1) := by decide +kernel
theorem dX5_isMissing_13 : decode cX5_isMissing 13 = .ok (.ireturn, 1) := by decide +kernel
theorem dX5_become_0 : decode cX5_become 0 = .ok (.aload_n 0, 1) := by decide +kernel
theorem dX5_become_1 : decode cX5_become 1 = .ok (.getfield 9, 3) := by decide +kernel
theorem dX5_become_4 : decode cX5_become 4 = .ok (.iconst 0, 1) := by decide +kernel
theorem dX5_become_5 : decode cX5_become 5 = .ok (.invokestatic 19, 3) := by decide +kernel
theorem dX5_become_8 : decode cX5_become 8 = .ok (.aload_n 0, 1) := by decide +kernel
theorem dX5_become_9 : decode cX5_become 9 = .ok (.iload_n 1, 1) := by decide +kernel
theorem dX5_become_10 : decode cX5_become 10 = .ok (.putfield 15, 3) := by decide +kernel
theorem dX5_become_13 : decode cX5_become 13 = .ok (.aload_n 0, 1) := by decide +kernel
theorem dX5_become_14 : decode cX5_become 14 = .ok (.iconst 0, 1) := by decide +kernel
theorem dX5_become_15 : decode cX5_become 15 = .ok (.iload_n 2, 1) := by decide +kernel
theorem dX5_become_16 : decode cX5_become 16 = .ok (.bipush 40, 2) := by decide +kernel
theorem dX5_become_18 : decode cX5_become 18 = .ok (.invokestatic 25, 3) := by decide +kernel
theorem dX5_become_21 : decode cX5_become 21 = .ok (.invokestatic 31, 3) := by decide +kernel
theorem dX5_become_24 : decode cX5_become 24 = .ok (.putfield 34, 3) := by decide +kernel
theorem dX5_become_27 : decode cX5_become 27 = .ok (.return_, 1) := by decide +kernel
theorem dX5_hasRow_0 : decode cX5_hasRow 0 = .ok (.iload_n 2, 1) := by decide +kernel
theorem dX5_hasRow_1 : decode cX5_hasRow 1 = .ok (.ifCond .lt 21, 3) := by decide +kernel
theorem dX5_hasRow_4 : decode cX5_hasRow 4 = .ok (.iload_n 1, 1) := by decide +kernel
theorem dX5_hasRow_5 : decode cX5_hasRow 5 = .ok (.ifCond .lt 17, 3) := by decide +kernel
theorem dX5_hasRow_8 : decode cX5_hasRow 8 = .ok (.iload_n 1, 1) := by decide +kernel
theorem dX5_hasRow_9 : decode cX5_hasRow 9 = .ok (.aload_n 0, 1) := by decide +kernel
theorem dX5_hasRow_10 : decode cX5_hasRow 10 = .ok (.getfield 34, 3) := by decide +kernel
theorem dX5_hasRow_13 : decode cX5_hasRow 13 = .ok (.iload_n 2, 1) := by decide +kernel
theorem dX5_hasRow_14 : decode cX5_hasRow 14 = .ok (.isub, 1) := by decide +kernel
theorem dX5_hasRow_15 : decode cX5_hasRow 15 = .ok (.if_icmp .gt 7, 3) := by decide +kernel
theorem dX5_hasRow_18 : decode cX5_hasRow 18 = .ok (.iconst 1, 1) := by decide +kernel
theorem dX5_hasRow_19 : decode cX5_hasRow 19 = .ok (.goto 4, 3) := by decide +kernel
theorem dX5_hasRow_22 : decode cX5_hasRow 22 = .ok (.iconst 0, 1) := by decide +kernel
theorem dX5_hasRow_23 : decode cX5_hasRow 23 = .ok (.ireturn, 1) := by decide +kernel
theorem dX5_write_0 : decode cX5_write 0 = .ok (.iload_n 1, 1) := by decide +kernel
theorem dX5_write_1 : decode cX5_write 1 = .ok (.ifCond .lt 44, 3) := by decide +kernel
theorem dX5_write_4 : decode cX5_write 4 = .ok (.iload_n 1, 1) := by decide +kernel
theorem dX5_write_5 : decode cX5_write 5 = .ok (.aload_n 0, 1) := by decide +kernel
theorem dX5_write_6 : decode cX5_write 6 = .ok (.getfield 9, 3) := by decide +kernel
theorem dX5_write_9 : decode cX5_write 9 = .ok (.arraylength, 1) := by decide +kernel
theorem dX5_write_10 : decode cX5_write 10 = .ok (.if_icmp .ge 35, 3) := by decide +kernel
theorem dX5_write_13 : decode cX5_write 13 = .ok (.aload_n 0, 1) := by decide +kernel
theorem dX5_write_14 : decode cX5_write 14 = .ok (.getfield 9, 3) := by decide +kernel
theorem dX5_write_17 : decode cX5_write 17 = .ok (.iload_n 1, 1) := by decide +kernel
theorem dX5_write_18 : decode cX5_write 18 = .ok (.aload_n 0, 1) := by decide +kernel
theorem dX5_write_19 : decode cX5_write 19 = .ok (.getfield 15, 3) := by decide +kernel
theorem dX5_write_22 : decode cX5_write 22 = .ok (.ifCond .ne 8, 3) := by decide +kernel
theorem dX5_write_25 : decode cX5_write 25 = .ok (.iload_n 2, 1) := by decide +kernel
theorem dX5_write_26 : decode cX5_write 26 = .ok (.i2b, 1) := by decide +kernel
theorem dX5_write_27 : decode cX5_write 27 = .ok (.goto 17, 3) := by decide +kernel
theorem dX5_write_30 : decode cX5_write 30 = .ok (.aload_n 0, 1) := by decide +kernel
theorem dX5_write_31 : decode cX5_write 31 = .ok (.getfield 15, 3) := by decide +kernel
theorem dX5_write_34 : decode cX5_write 34 = .ok (.iconst 1, 1) := by decide +kernel
theorem dX5_write_35 : decode cX5_write 35 = .ok (.if_icmp .ne 8, 3) := by decide +kernel
theorem dX5_write_38 : decode cX5_write 38 = .ok (.iload_n 2, 1) := by decide +kernel
theorem dX5_write_39 : decode cX5_write 39 = .ok (.i2s, 1) := by decide +kernel
theorem dX5_write_40 : decode cX5_write 40 = .ok (.goto 4, 3) := by decide +kernel
theorem dX5_write_43 : decode cX5_write 43 = .ok (.iload_n 2, 1) := by decide +kernel
theorem dX5_write_44 : decode cX5_write 44 = .ok (.iastore, 1) := by decide +kernel
theorem dX5_write_45 : decode cX5_write 45 = .ok (.return_, 1) := by decide +kernel
theorem dX6_init_0 : decode cX6_init 0 = .ok (.aload_n 0, 1) := by decide +kernel
theorem dX6_init_1 : decode cX6_init 1 = .ok (.invokespecial 3, 3) := by decide +kernel
theorem dX6_init_4 : decode cX6_init 4 = .ok (.aload_n 0, 1) := by decide +kernel
theorem dX6_init_5 : decode cX6_init 5 = .ok (.sipush 161, 3) := by decide +kernel
theorem dX6_init_8 : decode cX6_init 8 = .ok (.newarray .int, 2) := by decide +kernel
theorem dX6_init_10 : decode cX6_init 10 = .ok (.putfield 9, 3) := by decide +kernel
theorem dX6_init_13 : decode cX6_init 13 = .ok (.aload_n 0, 1) := by decide +kernel
theorem dX6_init_14 : decode cX6_init 14 = .ok (.sipush 161, 3) := by decide +kernel
theorem dX6_init_17 : decode cX6_init 17 = .ok (.newarray .int, 2) := by decide +kernel
theorem dX6_init_19 : decode cX6_init 19 = .ok (.putfield 15, 3) := by decide +kernel
theorem dX6_init_22 : decode cX6_init 22 = .ok (.aload_n 0, 1) := by decide +kernel
theorem dX6_init_23 : decode cX6_init 23 = .ok (.sipush 161, 3) := by decide +kernel
theorem dX6_init_26 : decode cX6_init 26 = .ok (.newarray .int, 2) := by decide +kernel
theorem dX6_init_28 : decode cX6_init 28 = .ok (.putfield 18, 3) := by decide +kernel
theorem dX6_init_31 : decode cX6_init 31 = .ok (.return_, 1) := by decide +kernel
theorem dX6_tokenAt_0 : decode cX6_tokenAt 0 = .ok (.iload_n 1, 1) := by decide +kernel
theorem dX6_tokenAt_1 : decode cX6_tokenAt 1 = .ok (.ifCond .lt 20, 3) := by decide +kernel
theorem dX6_tokenAt_4 : decode cX6_tokenAt 4 = .ok (.iload_n 1, 1) := by decide +kernel
theorem dX6_tokenAt_5 : decode cX6_tokenAt 5 = .ok (.aload_n 0, 1) := by decide +kernel
theorem dX6_tokenAt_6 : decode cX6_tokenAt 6 = .ok (.getfield 21, 3) := by decide +kernel
theorem dX6_tokenAt_9 : decode cX6_tokenAt 9 = .ok (.if_icmp .ge 12, 3) := by decide +kernel
theorem dX6_tokenAt_12 : decode cX6_tokenAt 12 = .ok (.aload_n 0, 1) := by decide +kernel
theorem dX6_tokenAt_13 : decode cX6_tokenAt 13 = .ok (.getfield 9, 3) := by decide +kernel
theorem dX6_tokenAt_16 : decode cX6_tokenAt 16 = .ok (.iload_n 1, 1) := by decide +kernel
theorem dX6_tokenAt_17 : decode cX6_tokenAt 17 = .ok (.iaload, 1) := by decide +kernel
theorem dX6_tokenAt_18 : decode cX6_tokenAt 18 = .ok (.goto 4, 3) := by decide +kernel
theorem dX6_tokenAt_21 : decode cX6_tokenAt 21 = .ok (.iconst 0, 1) := by decide +kernel
theorem dX6_tokenAt_22 : decode cX6_tokenAt 22 = .ok (.ireturn, 1) := by decide +kernel
theorem dX6_placeAt_0 : decode cX6_placeAt 0 = .ok (.iload_n 1, 1) := by decide +kernel
theorem dX6_placeAt_1 : decode cX6_placeAt 1 = .ok (.ifCond .lt 20, 3) := by decide +kernel
theorem dX6_placeAt_4 : decode cX6_placeAt 4 = .ok (.iload_n 1, 1) := by decide +kernel
theorem dX6_placeAt_5 : decode cX6_placeAt 5 = .ok (.aload_n 0, 1) := by decide +kernel
theorem dX6_placeAt_6 : decode cX6_placeAt 6 = .ok (.getfield 21, 3) := by decide +kernel
theorem dX6_placeAt_9 : decode cX6_placeAt 9 = .ok (.if_icmp .ge 12, 3) := by decide +kernel
theorem dX6_placeAt_12 : decode cX6_placeAt 12 = .ok (.aload_n 0, 1) := by decide +kernel
theorem dX6_placeAt_13 : decode cX6_placeAt 13 = .ok (.getfield 15, 3) := by decide +kernel
theorem dX6_placeAt_16 : decode cX6_placeAt 16 = .ok (.iload_n 1, 1) := by decide +kernel
theorem dX6_placeAt_17 : decode cX6_placeAt 17 = .ok (.iaload, 1) := by decide +kernel
theorem dX6_placeAt_18 : decode cX6_placeAt 18 = .ok (.goto 4, 3) := by decide +kernel
theorem dX6_placeAt_21 : decode cX6_placeAt 21 = .ok (.iconst 0, 1) := by decide +kernel
theorem dX6_placeAt_22 : decode cX6_placeAt 22 = .ok (.ireturn, 1) := by decide +kernel
theorem dX6_numberAt_0 : decode cX6_numberAt 0 = .ok (.iload_n 1, 1) := by decide +kernel
theorem dX6_numberAt_1 : decode cX6_numberAt 1 = .ok (.ifCond .lt 20, 3) := by decide +kernel
theorem dX6_numberAt_4 : decode cX6_numberAt 4 = .ok (.iload_n 1, 1) := by decide +kernel
theorem dX6_numberAt_5 : decode cX6_numberAt 5 = .ok (.aload_n 0, 1) := by decide +kernel
theorem dX6_numberAt_6 : decode cX6_numberAt 6 = .ok (.getfield 21, 3) := by decide +kernel
theorem dX6_numberAt_9 : decode cX6_numberAt 9 = .ok (.if_icmp .ge 12, 3) := by decide +kernel
theorem dX6_numberAt_12 : decode cX6_numberAt 12 = .ok (.aload_n 0, 1) := by decide +kernel
theorem dX6_numberAt_13 : decode cX6_numberAt 13 = .ok (.getfield 18, 3) := by decide +kernel
theorem dX6_numberAt_16 : decode cX6_numberAt 16 = .ok (.iload_n 1, 1) := by decide +kernel
theorem dX6_numberAt_17 : decode cX6_numberAt 17 = .ok (.iaload, 1) := by decide +kernel
theorem dX6_numberAt_18 : decode cX6_numberAt 18 = .ok (.goto 4, 3) := by decide +kernel
theorem dX6_numberAt_21 : decode cX6_numberAt 21 = .ok (.iconst 0, 1) := by decide +kernel
theorem dX6_numberAt_22 : decode cX6_numberAt 22 = .ok (.ireturn, 1) := by decide +kernel
theorem dX6_scan_0 : decode cX6_scan 0 = .ok (.aload_n 0, 1) := by decide +kernel
theorem dX6_scan_1 : decode cX6_scan 1 = .ok (.iconst 0, 1) := by decide +kernel
theorem dX6_scan_2 : decode cX6_scan 2 = .ok (.putfield 21, 3) := by decide +kernel
theorem dX6_scan_5 : decode cX6_scan 5 = .ok (.iload_n 2, 1) := by decide +kernel
theorem dX6_scan_6 : decode cX6_scan 6 = .ok (.aload_n 1, 1) := by decide +kernel
theorem dX6_scan_7 : decode cX6_scan 7 = .ok (.arraylength, 1) := by decide +kernel
theorem dX6_scan_8 : decode cX6_scan 8 = .ok (.invokestatic 25, 3) := by decide +kernel
theorem dX6_scan_11 : decode cX6_scan 11 = .ok (.istore_n 3, 1) := by decide +kernel
theorem dX6_scan_12 : decode cX6_scan 12 = .ok (.iconst 0, 1) := by decide +kernel
theorem dX6_scan_13 : decode cX6_scan 13 = .ok (.istore 4, 2) := by decide +kernel
theorem dX6_scan_15 : decode cX6_scan 15 = .ok (.iconst 0, 1) := by decide +kernel
theorem dX6_scan_16 : decode cX6_scan 16 = .ok (.istore 5, 2) := by decide +kernel
theorem dX6_scan_18 : decode cX6_scan 18 = .ok (.iload 5, 2) := by decide +kernel
theorem dX6_scan_20 : decode cX6_scan 20 = .ok (.sipush 160, 3) := by decide +kernel
theorem dX6_scan_23 : decode cX6_scan 23 = .ok (.if_icmp .ge 60, 3) := by decide +kernel
theorem dX6_scan_26 : decode cX6_scan 26 = .ok (.iload 4, 2) := by decide +kernel
theorem dX6_scan_28 : decode cX6_scan 28 = .ok (.iload_n 3, 1) := by decide +kernel
theorem dX6_scan_29 : decode cX6_scan 29 = .ok (.if_icmp .ge 54, 3) := by decide +kernel
theorem dX6_scan_32 : decode cX6_scan 32 = .ok (.aload_n 1, 1) := by decide +kernel
theorem dX6_scan_33 : decode cX6_scan 33 = .ok (.iload 4, 2) := by decide +kernel
theorem dX6_scan_35 : decode cX6_scan 35 = .ok (.iload_n 3, 1) := by decide +kernel
theorem dX6_scan_36 : decode cX6_scan 36 = .ok (.invokestatic 31, 3) := by decide +kernel
theorem dX6_scan_39 : decode cX6_scan 39 = .ok (.istore 6, 2) := by decide +kernel
theorem dX6_scan_41 : decode cX6_scan 41 = .ok (.aload_n 1, 1) := by decide +kernel
theorem dX6_scan_42 : decode cX6_scan 42 = .ok (.iload 4, 2) := by decide +kernel
theorem dX6_scan_44 : decode cX6_scan 44 = .ok (.iaload, 1) := by decide +kernel
theorem dX6_scan_45 : decode cX6_scan 45 = .ok (.invokestatic 35, 3) := by decide +kernel
theorem dX6_scan_48 : decode cX6_scan 48 = .ok (.ifCond .ne 25, 3) := by decide +kernel
theorem dX6_scan_51 : decode cX6_scan 51 = .ok (.aload_n 0, 1) := by decide +kernel
theorem dX6_scan_52 : decode cX6_scan 52 = .ok (.aload_n 1, 1) := by decide +kernel
theorem dX6_scan_53 : decode cX6_scan 53 = .ok (.iload 4, 2) := by decide +kernel
theorem dX6_scan_55 : decode cX6_scan 55 = .ok (.iload 6, 2) := by decide +kernel
theorem dX6_scan_57 : decode cX6_scan 57 = .ok (.invokestatic 39, 3) := by decide +kernel
theorem dX6_scan_60 : decode cX6_scan 60 = .ok (.iload 4, 2) := by decide +kernel
theorem dX6_scan_62 : decode cX6_scan 62 = .ok (.aload_n 1, 1) := by decide +kernel
theorem dX6_scan_63 : decode cX6_scan 63 = .ok (.iload 4, 2) := by decide +kernel
theorem dX6_scan_65 : decode cX6_scan 65 = .ok (.iload 6, 2) := by decide +kernel
theorem dX6_scan_67 : decode cX6_scan 67 = .ok (.invokestatic 42, 3) := by decide +kernel
theorem dX6_scan_70 : decode cX6_scan 70 = .ok (.invokevirtual 45, 3) := by decide +kernel
theorem dX6_scan_73 : decode cX6_scan 73 = .ok (.iload 6, 2) := by decide +kernel
theorem dX6_scan_75 : decode cX6_scan 75 = .ok (.istore 4, 2) := by decide +kernel
theorem dX6_scan_77 : decode cX6_scan 77 = .ok (.iinc 5 1, 3) := by decide +kernel
theorem dX6_scan_80 : decode cX6_scan 80 = .ok (.goto (-62), 3) := by decide +kernel
theorem dX6_scan_83 : decode cX6_scan 83 = .ok (.aload_n 0, 1) := by decide +kernel
theorem dX6_scan_84 : decode cX6_scan 84 = .ok (.iconst 0, 1) := by decide +kernel
theorem dX6_scan_85 : decode cX6_scan 85 = .ok (.iload_n 2, 1) := by decide +kernel
theorem dX6_scan_86 : decode cX6_scan 86 = .ok (.iconst 0, 1) := by decide +kernel
theorem dX6_scan_87 : decode cX6_scan 87 = .ok (.invokevirtual 45, 3) := by decide +kernel
theorem dX6_scan_90 : decode cX6_scan 90 = .ok (.return_, 1) := by decide +kernel
theorem dX6_append_0 : decode cX6_append 0 = .ok (.aload_n 0, 1) := by decide +kernel
theorem dX6_append_1 : decode cX6_append 1 = .ok (.getfield 21, 3) := by decide +kernel
theorem dX6_append_4 : decode cX6_append 4 = .ok (.ifCond .lt 55, 3) := by decide +kernel
theorem dX6_append_7 : decode cX6_append 7 = .ok (.aload_n 0, 1) := by decide +kernel
theorem dX6_append_8 : decode cX6_append 8 = .ok (.getfield 21, 3) := by decide +kernel
theorem dX6_append_11 : decode cX6_append 11 = .ok (.aload_n 0, 1) := by decide +kernel
theorem dX6_append_12 : decode cX6_append 12 = .ok (.getfield 9, 3) := by decide +kernel
theorem dX6_append_15 : decode cX6_append 15 = .ok (.arraylength, 1) := by decide +kernel
theorem dX6_append_16 : decode cX6_append 16 = .ok (.if_icmp .ge 43, 3) := by decide +kernel
theorem dX6_append_19 : decode cX6_append 19 = .ok (.aload_n 0, 1) := by decide +kernel
theorem dX6_append_20 : decode cX6_append 20 = .ok (.getfield 9, 3) := by decide +kernel
theorem dX6_append_23 : decode cX6_append 23 = .ok (.aload_n 0, 1) := by decide +kernel
theorem dX6_append_24 : decode cX6_append 24 = .ok (.getfield 21, 3) := by decide +kernel
theorem dX6_append_27 : decode cX6_append 27 = .ok (.iload_n 1, 1) := by decide +kernel
theorem dX6_append_28 : decode cX6_append 28 = .ok (.iastore, 1) := by decide +kernel
theorem dX6_append_29 : decode cX6_append 29 = .ok (.aload_n 0, 1) := by decide +kernel
theorem dX6_append_30 : decode cX6_append 30 = .ok (.getfield 15, 3) := by decide +kernel
theorem dX6_append_33 : decode cX6_append 33 = .ok (.aload_n 0, 1) := by decide +kernel
theorem dX6_append_34 : decode cX6_append 34 = .ok (.getfield 21, 3) := by decide +kernel
theorem dX6_append_37 : decode cX6_append 37 = .ok (.iload_n 2, 1) := by decide +kernel
theorem dX6_append_38 : decode cX6_append 38 = .ok (.iastore, 1) := by decide +kernel
theorem dX6_append_39 : decode cX6_append 39 = .ok (.aload_n 0, 1) := by decide +kernel
theorem dX6_append_40 : decode cX6_append 40 = .ok (.getfield 18, 3) := by decide +kernel
theorem dX6_append_43 : decode cX6_append 43 = .ok (.aload_n 0, 1) := by decide +kernel
theorem dX6_append_44 : decode cX6_append 44 = .ok (.getfield 21, 3) := by decide +kernel
theorem dX6_append_47 : decode cX6_append 47 = .ok (.iload_n 3, 1) := by decide +kernel
theorem dX6_append_48 : decode cX6_append 48 = .ok (.iastore, 1) := by decide +kernel
theorem dX6_append_49 : decode cX6_append 49 = .ok (.aload_n 0, 1) := by decide +kernel
theorem dX6_append_50 : decode cX6_append 50 = .ok (.dup, 1) := by decide +kernel
theorem dX6_append_51 : decode cX6_append 51 = .ok (.getfield 21, 3) := by decide +kernel
theorem dX6_append_54 : decode cX6_append 54 = .ok (.iconst 1, 1) := by decide +kernel
theorem dX6_append_55 : decode cX6_append 55 = .ok (.iadd, 1) := by decide +kernel
theorem dX6_append_56 : decode cX6_append 56 = .ok (.putfield 21, 3) := by decide +kernel
theorem dX6_append_59 : decode cX6_append 59 = .ok (.return_, 1) := by decide +kernel
theorem dX6_endOfToken_0 : decode cX6_endOfToken 0 = .ok (.aload_n 0, 1) := by decide +kernel
theorem dX6_endOfToken_1 : decode cX6_endOfToken 1 = .ok (.iload_n 1, 1) := by decide +kernel
theorem dX6_endOfToken_2 : decode cX6_endOfToken 2 = .ok (.iaload, 1) := by decide +kernel
theorem dX6_endOfToken_3 : decode cX6_endOfToken 3 = .ok (.invokestatic 49, 3) := by decide +kernel
theorem dX6_endOfToken_6 : decode cX6_endOfToken 6 = .ok (.istore_n 3, 1) := by decide +kernel
theorem dX6_endOfToken_7 : decode cX6_endOfToken 7 = .ok (.aload_n 0, 1) := by decide +kernel
theorem dX6_endOfToken_8 : decode cX6_endOfToken 8 = .ok (.iload_n 1, 1) := by decide +kernel
theorem dX6_endOfToken_9 : decode cX6_endOfToken 9 = .ok (.iaload, 1) := by decide +kernel
theorem dX6_endOfToken_10 : decode cX6_endOfToken 10 = .ok (.invokestatic 52, 3) := by decide +kernel
theorem dX6_endOfToken_13 : decode cX6_endOfToken 13 = .ok (.istore 4, 2) := by decide +kernel
theorem dX6_endOfToken_15 : decode cX6_endOfToken 15 = .ok (.iload_n 1, 1) := by decide +kernel
theorem dX6_endOfToken_16 : decode cX6_endOfToken 16 = .ok (.iconst 1, 1) := by decide +kernel
theorem dX6_endOfToken_17 : decode cX6_endOfToken 17 = .ok (.iadd, 1) := by decide +kernel
theorem dX6_endOfToken_18 : decode cX6_endOfToken 18 = .ok (.istore 5, 2) := by decide +kernel
theorem dX6_endOfToken_20 : decode cX6_endOfToken 20 = .ok (.iload 5, 2) := by decide +kernel
theorem dX6_endOfToken_22 : decode cX6_endOfToken 22 = .ok (.iload_n 2, 1) := by decide +kernel
theorem dX6_endOfToken_23 : decode cX6_endOfToken 23 = .ok (.if_icmp .ge 38, 3) := by decide +kernel
theorem dX6_endOfToken_26 : decode cX6_endOfToken 26 = .ok (.iload_n 3, 1) := by decide +kernel
theorem dX6_endOfToken_27 : decode cX6_endOfToken 27 = .ok (.ifCond .eq 13, 3) := by decide +kernel
theorem dX6_endOfToken_30 : decode cX6_endOfToken 30 = .ok (.aload_n 0, 1) := by decide +kernel
theorem dX6_endOfToken_31 : decode cX6_endOfToken 31 = .ok (.iload 5, 2) := by decide +kernel
theorem dX6_endOfToken_33 : decode cX6_endOfToken 33 = .ok (.iaload, 1) := by decide +kernel
theorem dX6_endOfToken_34 : decode cX6_endOfToken 34 = .ok (.invokestatic 49, 3) := by decide +kernel
theorem dX6_endOfToken_37 : decode cX6_endOfToken 37 = .ok (.ifCond .ne 18, 3) := by decide +kernel
theorem dX6_endOfToken_40 : decode cX6_endOfToken 40 = .ok (.iload 4, 2) := by decide +kernel
theorem dX6_endOfToken_42 : decode cX6_endOfToken 42 = .ok (.ifCond .eq 19, 3) := by decide +kernel
theorem dX6_endOfToken_45 : decode cX6_endOfToken 45 = .ok (.aload_n 0, 1) := by decide +kernel
theorem dX6_endOfToken_46 : decode cX6_endOfToken 46 = .ok (.iload 5, 2) := by decide +kernel
theorem dX6_endOfToken_48 : decode cX6_endOfToken 48 = .ok (.iaload, 1) := by decide +kernel
theorem dX6_endOfToken_49 : decode cX6_endOfToken 49 = .ok (.invokestatic 52, 3) := by decide +kernel
theorem dX6_endOfToken_52 : decode cX6_endOfToken 52 = .ok (.ifCond .eq 9, 3) := by decide +kernel
theorem dX6_endOfToken_55 : decode cX6_endOfToken 55 = .ok (.iinc 5 1, 3) := by decide +kernel
theorem dX6_endOfToken_58 : decode cX6_endOfToken 58 = .ok (.goto (-38), 3) := by decide +kernel
theorem dX6_endOfToken_61 : decode cX6_endOfToken 61 = .ok (.iload 5, 2) := by decide +kernel
theorem dX6_endOfToken_63 : decode cX6_endOfToken 63 = .ok (.ireturn, 1) := by decide +kernel
theorem dX6_tokenOf_0 : decode cX6_tokenOf 0 = .ok (.aload_n 0, 1) := by decide +kernel
theorem dX6_tokenOf_1 : decode cX6_tokenOf 1 = .ok (.iload_n 1, 1) := by decide +kernel
theorem dX6_tokenOf_2 : decode cX6_tokenOf 2 = .ok (.iaload, 1) := by decide +kernel
theorem dX6_tokenOf_3 : decode cX6_tokenOf 3 = .ok (.invokestatic 49, 3) := by decide +kernel
theorem dX6_tokenOf_6 : decode cX6_tokenOf 6 = .ok (.ifCond .eq 10, 3) := by decide +kernel
theorem dX6_tokenOf_9 : decode cX6_tokenOf 9 = .ok (.aload_n 0, 1) := by decide +kernel
theorem dX6_tokenOf_10 : decode cX6_tokenOf 10 = .ok (.iload_n 1, 1) := by decide +kernel
theorem dX6_tokenOf_11 : decode cX6_tokenOf 11 = .ok (.iload_n 2, 1) := by decide +kernel
theorem dX6_tokenOf_12 : decode cX6_tokenOf 12 = .ok (.invokestatic 55, 3) := by decide +kernel
theorem dX6_tokenOf_15 : decode cX6_tokenOf 15 = .ok (.ireturn, 1) := by decide +kernel
theorem dX6_tokenOf_16 : decode cX6_tokenOf 16 = .ok (.aload_n 0, 1) := by decide +kernel
theorem dX6_tokenOf_17 : decode cX6_tokenOf 17 = .ok (.iload_n 1, 1) := by decide +kernel
theorem dX6_tokenOf_18 : decode cX6_tokenOf 18 = .ok (.iaload, 1) := by decide +kernel
theorem dX6_tokenOf_19 : decode cX6_tokenOf 19 = .ok (.invokestatic 52, 3) := by decide +kernel
theorem dX6_tokenOf_22 : decode cX6_tokenOf 22 = .ok (.ifCond .eq 16, 3) := by decide +kernel
theorem dX6_tokenOf_25 : decode cX6_tokenOf 25 = .ok (.iload_n 2, 1) := by decide +kernel
theorem dX6_tokenOf_26 : decode cX6_tokenOf 26 = .ok (.iload_n 1, 1) := by decide +kernel
theorem dX6_tokenOf_27 : decode cX6_tokenOf 27 = .ok (.isub, 1) := by decide +kernel
theorem dX6_tokenOf_28 : decode cX6_tokenOf 28 = .ok (.iconst 4, 1) := by decide +kernel
theorem dX6_tokenOf_29 : decode cX6_tokenOf 29 = .ok (.if_icmp .le 7, 3) := by decide +kernel
theorem dX6_tokenOf_32 : decode cX6_tokenOf 32 = .ok (.iconst (-1), 1) := by decide +kernel
theorem dX6_tokenOf_33 : decode cX6_tokenOf 33 = .ok (.goto 4, 3) := by decide +kernel
theorem dX6_tokenOf_36 : decode cX6_tokenOf 36 = .ok (.iconst 1, 1) := by decide +kernel
theorem dX6_tokenOf_37 : decode cX6_tokenOf 37 = .ok (.ireturn, 1) := by decide +kernel
theorem dX6_tokenOf_38 : decode cX6_tokenOf 38 = .ok (.aload_n 0, 1) := by decide +kernel
theorem dX6_tokenOf_39 : decode cX6_tokenOf 39 = .ok (.iload_n 1, 1) := by decide +kernel
theorem dX6_tokenOf_40 : decode cX6_tokenOf 40 = .ok (.iaload, 1) := by decide +kernel
theorem dX6_tokenOf_41 : decode cX6_tokenOf 41 = .ok (.invokestatic 58, 3) := by decide +kernel
theorem dX6_tokenOf_44 : decode cX6_tokenOf 44 = .ok (.ifCond .eq 9, 3) := by decide +kernel
theorem dX6_tokenOf_47 : decode cX6_tokenOf 47 = .ok (.aload_n 0, 1) := by decide +kernel
theorem dX6_tokenOf_48 : decode cX6_tokenOf 48 = .ok (.iload_n 1, 1) := by decide +kernel
theorem dX6_tokenOf_49 : decode cX6_tokenOf 49 = .ok (.iaload, 1) := by decide +kernel
theorem dX6_tokenOf_50 : decode cX6_tokenOf 50 = .ok (.goto 4, 3) := by decide +kernel
theorem dX6_tokenOf_53 : decode cX6_tokenOf 53 = .ok (.iconst (-1), 1) := by decide +kernel
theorem dX6_tokenOf_54 : decode cX6_tokenOf 54 = .ok (.ireturn, 1) := by decide +kernel
theorem dX6_numberOf_0 : decode cX6_numberOf 0 = .ok (.iconst 0, 1) := by decide +kernel
theorem dX6_numberOf_1 : decode cX6_numberOf 1 = .ok (.istore_n 3, 1) := by decide +kernel
theorem dX6_numberOf_2 : decode cX6_numberOf 2 = .ok (.iload_n 1, 1) := by decide +kernel
theorem dX6_numberOf_3 : decode cX6_numberOf 3 = .ok (.istore 4, 2) := by decide +kernel
theorem dX6_numberOf_5 : decode cX6_numberOf 5 = .ok (.iload 4, 2) := by decide +kernel
theorem dX6_numberOf_7 : decode cX6_numberOf 7 = .ok (.iload_n 2, 1) := by decide +kernel
theorem dX6_numberOf_8 : decode cX6_numberOf 8 = .ok (.if_icmp .ge 22, 3) := by decide +kernel
theorem dX6_numberOf_11 : decode cX6_numberOf 11 = .ok (.iload_n 3, 1) := by decide +kernel
theorem dX6_numberOf_12 : decode cX6_numberOf 12 = .ok (.bipush 10, 2) := by decide +kernel
theorem dX6_numberOf_14 : decode cX6_numberOf 14 = .ok (.imul, 1) := by decide +kernel
theorem dX6_numberOf_15 : decode cX6_numberOf 15 = .ok (.aload_n 0, 1) := by decide +kernel
theorem dX6_numberOf_16 : decode cX6_numberOf 16 = .ok (.iload 4, 2) := by decide +kernel
theorem dX6_numberOf_18 : decode cX6_numberOf 18 = .ok (.iaload, 1) := by decide +kernel
theorem dX6_numberOf_19 : decode cX6_numberOf 19 = .ok (.iadd, 1) := by decide +kernel
theorem dX6_numberOf_20 : decode cX6_numberOf 20 = .ok (.bipush 48, 2) := by decide +kernel
theorem dX6_numberOf_22 : decode cX6_numberOf 22 = .ok (.isub, 1) := by decide +kernel
theorem dX6_numberOf_23 : decode cX6_numberOf 23 = .ok (.istore_n 3, 1) := by decide +kernel
theorem dX6_numberOf_24 : decode cX6_numberOf 24 = .ok (.iinc 4 1, 3) := by decide +kernel
theorem dX6_numberOf_27 : decode cX6_numberOf 27 = .ok (.goto (-22), 3) := by decide +kernel
theorem dX6_numberOf_30 : decode cX6_numberOf 30 = .ok (.iload_n 3, 1) := by decide +kernel
theorem dX6_numberOf_31 : decode cX6_numberOf 31 = .ok (.ireturn, 1) := by decide +kernel
theorem dX6_wordOf_0 : decode cX6_wordOf 0 = .ok (.sipush 256, 3) := by decide +kernel
theorem dX6_wordOf_3 : decode cX6_wordOf 3 = .ok (.istore_n 3, 1) := by decide +kernel
theorem dX6_wordOf_4 : decode cX6_wordOf 4 = .ok (.iload_n 3, 1) := by decide +kernel
theorem dX6_wordOf_5 : decode cX6_wordOf 5 = .ok (.sipush 268, 3) := by decide +kernel
theorem dX6_wordOf_8 : decode cX6_wordOf 8 = .ok (.if_icmp .ge 24, 3) := by decide +kernel
theorem dX6_wordOf_11 : decode cX6_wordOf 11 = .ok (.iload_n 3, 1) := by decide +kernel
theorem dX6_wordOf_12 : decode cX6_wordOf 12 = .ok (.invokestatic 61, 3) := by decide +kernel
theorem dX6_wordOf_15 : decode cX6_wordOf 15 = .ok (.aload_n 0, 1) := by decide +kernel
theorem dX6_wordOf_16 : decode cX6_wordOf 16 = .ok (.iload_n 1, 1) := by decide +kernel
theorem dX6_wordOf_17 : decode cX6_wordOf 17 = .ok (.iload_n 2, 1) := by decide +kernel
theorem dX6_wordOf_18 : decode cX6_wordOf 18 = .ok (.invokestatic 65, 3) := by decide +kernel
theorem dX6_wordOf_21 : decode cX6_wordOf 21 = .ok (.ifCond .eq 5, 3) := by decide +kernel
theorem dX6_wordOf_24 : decode cX6_wordOf 24 = .ok (.iload_n 3, 1) := by decide +kernel
theorem dX6_wordOf_25 : decode cX6_wordOf 25 = .ok (.ireturn, 1) := by decide +kernel
theorem dX6_wordOf_26 : decode cX6_wordOf 26 = .ok (.iinc 3 1, 3) := by decide +kernel
theorem dX6_wordOf_29 : decode cX6_wordOf 29 = .ok (.goto (-25), 3) := by decide +kernel
theorem dX6_wordOf_32 : decode cX6_wordOf 32 = .ok (.iconst (-1), 1) := by decide +kernel
theorem dX6_wordOf_33 : decode cX6_wordOf 33 = .ok (.ireturn, 1) := by decide +kernel
theorem dX6_isSpelled_0 : decode cX6_isSpelled 0 = .ok (.aload_n 0, 1) := by decide +kernel
theorem dX6_isSpelled_1 : decode cX6_isSpelled 1 = .ok (.invokevirtual 69, 3) := by decide +kernel
theorem dX6_isSpelled_4 : decode cX6_isSpelled 4 = .ok (.iload_n 3, 1) := by decide +kernel
theorem dX6_isSpelled_5 : decode cX6_isSpelled 5 = .ok (.iload_n 2, 1) := by decide +kernel
theorem dX6_isSpelled_6 : decode cX6_isSpelled 6 = .ok (.isub, 1) := by decide +kernel
theorem dX6_isSpelled_7 : decode cX6_isSpelled 7 = .ok (.if_icmp .eq 5, 3) := by decide +kernel
theorem dX6_isSpelled_10 : decode cX6_isSpelled 10 = .ok (.iconst 0, 1) := by decide +kernel
theorem dX6_isSpelled_11 : decode cX6_isSpelled 11 = .ok (.ireturn, 1) := by decide +kernel
theorem dX6_isSpelled_12 : decode cX6_isSpelled 12 = .ok (.iconst 0, 1) := by decide +kernel
theorem dX6_isSpelled_13 : decode cX6_isSpelled 13 = .ok (.istore 4, 2) := by decide +kernel
theorem dX6_isSpelled_15 : decode cX6_isSpelled 15 = .ok (.iload 4, 2) := by decide +kernel
theorem dX6_isSpelled_17 : decode cX6_isSpelled 17 = .ok (.aload_n 0, 1) := by decide +kernel
theorem dX6_isSpelled_18 : decode cX6_isSpelled 18 = .ok (.invokevirtual 69, 3) := by decide +kernel
theorem dX6_isSpelled_21 : decode cX6_isSpelled 21 = .ok (.if_icmp .ge 26, 3) := by decide +kernel
theorem dX6_isSpelled_24 : decode cX6_isSpelled 24 = .ok (.aload_n 0, 1) := by decide +kernel
theorem dX6_isSpelled_25 : decode cX6_isSpelled 25 = .ok (.iload 4, 2) := by decide +kernel
theorem dX6_isSpelled_27 : decode cX6_isSpelled 27 = .ok (.invokevirtual 75, 3) := by decide +kernel
theorem dX6_isSpelled_30 : decode cX6_isSpelled 30 = .ok (.aload_n 1, 1) := by decide +kernel
theorem dX6_isSpelled_31 : decode cX6_isSpelled 31 = .ok (.iload_n 2, 1) := by decide +kernel
theorem dX6_isSpelled_32 : decode cX6_isSpelled 32 = .ok (.iload 4, 2) := by decide +kernel
theorem dX6_isSpelled_34 : decode cX6_isSpelled 34 = .ok (.iadd, 1) := by decide +kernel
theorem dX6_isSpelled_35 : decode cX6_isSpelled 35 = .ok (.iaload, 1) := by decide +kernel
theorem dX6_isSpelled_36 : decode cX6_isSpelled 36 = .ok (.if_icmp .eq 5, 3) := by decide +kernel
theorem dX6_isSpelled_39 : decode cX6_isSpelled 39 = .ok (.iconst 0, 1) := by decide +kernel
theorem dX6_isSpelled_40 : decode cX6_isSpelled 40 = .ok (.ireturn, 1) := by decide +kernel
theorem dX6_isSpelled_41 : decode cX6_isSpelled 41 = .ok (.iinc 4 1, 3) := by decide +kernel
theorem dX6_isSpelled_44 : decode cX6_isSpelled 44 = .ok (.goto (-29), 3) := by decide +kernel
theorem dX6_isSpelled_47 : decode cX6_isSpelled 47 = .ok (.iconst 1, 1) := by decide +kernel
theorem dX6_isSpelled_48 : decode cX6_isSpelled 48 = .ok (.ireturn, 1) := by decide +kernel
theorem dX6_spelling_0 : decode cX6_spelling 0 = .ok (.iload_n 0, 1) := by decide +kernel
theorem dX6_spelling_1 : decode cX6_spelling 1 = .ok (.sipush 256, 3) := by decide +kernel
theorem dX6_spelling_4 : decode cX6_spelling 4 = .ok (.isub, 1) := by decide +kernel
theorem dX6_spelling_5 : decode cX6_spelling 5 = .ok (.tableswitch 92 0 10 #[59, 62, 65, 68, 71, 74, 77, 80, 83, 86, 89], 59) := by decide +kernel
theorem dX6_spelling_64 : decode cX6_spelling 64 = .ok (.ldc 79, 2) := by decide +kernel
theorem dX6_spelling_66 : decode cX6_spelling 66 = .ok (.areturn, 1) := by decide +kernel
theorem dX6_spelling_67 : decode cX6_spelling 67 = .ok (.ldc 81, 2) := by decide +kernel
theorem dX6_spelling_69 : decode cX6_spelling 69 = .ok (.areturn, 1) := by decide +kernel
theorem dX6_spelling_70 : decode cX6_spelling 70 = .ok (.ldc 83, 2) := by decide +kernel
theorem dX6_spelling_72 : decode cX6_spelling 72 = .ok (.areturn, 1) := by decide +kernel
theorem dX6_spelling_73 : decode cX6_spelling 73 = .ok (.ldc 85, 2) := by decide +kernel
theorem dX6_spelling_75 : decode cX6_spelling 75 = .ok (.areturn, 1) := by decide +kernel
theorem dX6_spelling_76 : decode cX6_spelling 76 = .ok (.ldc 87, 2) := by decide +kernel
theorem dX6_spelling_78 : decode cX6_spelling 78 = .ok (.areturn, 1) := by decide +kernel
theorem dX6_spelling_79 : decode cX6_spelling 79 = .ok (.ldc 89, 2) := by decide +kernel
theorem dX6_spelling_81 : decode cX6_spelling 81 = .ok (.areturn, 1) := by decide +kernel
theorem dX6_spelling_82 : decode cX6_spelling 82 = .ok (.ldc 91, 2) := by decide +kernel
theorem dX6_spelling_84 : decode cX6_spelling 84 = .ok (.areturn, 1) := by decide +kernel
theorem dX6_spelling_85 : decode cX6_spelling 85 = .ok (.ldc 93, 2) := by decide +kernel
theorem dX6_spelling_87 : decode cX6_spelling 87 = .ok (.areturn, 1) := by decide +kernel
theorem dX6_spelling_88 : decode cX6_spelling 88 = .ok (.ldc 95, 2) := by decide +kernel
theorem dX6_spelling_90 : decode cX6_spelling 90 = .ok (.areturn, 1) := by decide +kernel
theorem dX6_spelling_91 : decode cX6_spelling 91 = .ok (.ldc 97, 2) := by decide +kernel
theorem dX6_spelling_93 : decode cX6_spelling 93 = .ok (.areturn, 1) := by decide +kernel
theorem dX6_spelling_94 : decode cX6_spelling 94 = .ok (.ldc 99, 2) := by decide +kernel
theorem dX6_spelling_96 : decode cX6_spelling 96 = .ok (.areturn, 1) := by decide +kernel
theorem dX6_spelling_97 : decode cX6_spelling 97 = .ok (.ldc 101, 2) := by decide +kernel
theorem dX6_spelling_99 : decode cX6_spelling 99 = .ok (.areturn, 1) := by decide +kernel
theorem dX6_isBlank_0 : decode cX6_isBlank 0 = .ok (.iload_n 0, 1) := by decide +kernel
theorem dX6_isBlank_1 : decode cX6_isBlank 1 = .ok (.bipush 32, 2) := by decide +kernel
theorem dX6_isBlank_3 : decode cX6_isBlank 3 = .ok (.if_icmp .eq 9, 3) := by decide +kernel
theorem dX6_isBlank_6 : decode cX6_isBlank 6 = .ok (.iload_n 0, 1) := by decide +kernel
theorem dX6_isBlank_7 : decode cX6_isBlank 7 = .ok (.bipush 10, 2) := by decide +kernel
theorem dX6_isBlank_9 : decode cX6_isBlank 9 = .ok (.if_icmp .ne 7, 3) := by decide +kernel
theorem dX6_isBlank_12 : decode cX6_isBlank 12 = .ok (.iconst 1, 1) := by decide +kernel
theorem dX6_isBlank_13 : decode cX6_isBlank 13 = .ok (.goto 4, 3) := by decide +kernel
theorem dX6_isBlank_16 : decode cX6_isBlank 16 = .ok (.iconst 0, 1) := by decide +kernel
theorem dX6_isBlank_17 : decode cX6_isBlank 17 = .ok (.ireturn, 1) := by decide +kernel
theorem dX6_isLetter_0 : decode cX6_isLetter 0 = .ok (.iload_n 0, 1) := by decide +kernel
theorem dX6_isLetter_1 : decode cX6_isLetter 1 = .ok (.bipush 97, 2) := by decide +kernel
theorem dX6_isLetter_3 : decode cX6_isLetter 3 = .ok (.if_icmp .lt 13, 3) := by decide +kernel
theorem dX6_isLetter_6 : decode cX6_isLetter 6 = .ok (.iload_n 0, 1) := by decide +kernel
theorem dX6_isLetter_7 : decode cX6_isLetter 7 = .ok (.bipush 122, 2) := by decide +kernel
theorem dX6_isLetter_9 : decode cX6_isLetter 9 = .ok (.if_icmp .gt 7, 3) := by decide +kernel
theorem dX6_isLetter_12 : decode cX6_isLetter 12 = .ok (.iconst 1, 1) := by decide +kernel
theorem dX6_isLetter_13 : decode cX6_isLetter 13 = .ok (.goto 4, 3) := by decide +kernel
theorem dX6_isLetter_16 : decode cX6_isLetter 16 = .ok (.iconst 0, 1) := by decide +kernel
theorem dX6_isLetter_17 : decode cX6_isLetter 17 = .ok (.ireturn, 1) := by decide +kernel
theorem dX6_isDigit_0 : decode cX6_isDigit 0 = .ok (.iload_n 0, 1) := by decide +kernel
theorem dX6_isDigit_1 : decode cX6_isDigit 1 = .ok (.bipush 48, 2) := by decide +kernel
theorem dX6_isDigit_3 : decode cX6_isDigit 3 = .ok (.if_icmp .lt 13, 3) := by decide +kernel
theorem dX6_isDigit_6 : decode cX6_isDigit 6 = .ok (.iload_n 0, 1) := by decide +kernel
theorem dX6_isDigit_7 : decode cX6_isDigit 7 = .ok (.bipush 57, 2) := by decide +kernel
theorem dX6_isDigit_9 : decode cX6_isDigit 9 = .ok (.if_icmp .gt 7, 3) := by decide +kernel
theorem dX6_isDigit_12 : decode cX6_isDigit 12 = .ok (.iconst 1, 1) := by decide +kernel
theorem dX6_isDigit_13 : decode cX6_isDigit 13 = .ok (.goto 4, 3) := by decide +kernel
theorem dX6_isDigit_16 : decode cX6_isDigit 16 = .ok (.iconst 0, 1) := by decide +kernel
theorem dX6_isDigit_17 : decode cX6_isDigit 17 = .ok (.ireturn, 1) := by decide +kernel
theorem dX6_isSign_0 : decode cX6_isSign 0 = .ok (.iload_n 0, 1) := by decide +kernel
theorem dX6_isSign_1 : decode cX6_isSign 1 = .ok (.tableswitch 105 40 61 #[103, 103, 103, 103, 105, 103, 105, 105, 105, 105, 105, 105, 105, 105, 105, 105, 105, 105, 105, 103, 103, 103], 103) := by decide +kernel
theorem dX6_isSign_104 : decode cX6_isSign 104 = .ok (.iconst 1, 1) := by decide +kernel
theorem dX6_isSign_105 : decode cX6_isSign 105 = .ok (.ireturn, 1) := by decide +kernel
theorem dX6_isSign_106 : decode cX6_isSign 106 = .ok (.iconst 0, 1) := by decide +kernel
theorem dX6_isSign_107 : decode cX6_isSign 107 = .ok (.ireturn, 1) := by decide +kernel
theorem dX7_init_0 : decode cX7_init 0 = .ok (.aload_n 0, 1) := by decide +kernel
theorem dX7_init_1 : decode cX7_init 1 = .ok (.invokespecial 1, 3) := by decide +kernel
theorem dX7_init_4 : decode cX7_init 4 = .ok (.bipush 6, 2) := by decide +kernel
theorem dX7_init_6 : decode cX7_init 6 = .ok (.anewarray 9, 3) := by decide +kernel
theorem dX7_init_9 : decode cX7_init 9 = .ok (.astore_n 1, 1) := by decide +kernel
theorem dX7_init_10 : decode cX7_init 10 = .ok (.aload_n 1, 1) := by decide +kernel
theorem dX7_init_11 : decode cX7_init 11 = .ok (.iconst 0, 1) := by decide +kernel
theorem dX7_init_12 : decode cX7_init 12 = .ok (.invokestatic 11, 3) := by decide +kernel
theorem dX7_init_15 : decode cX7_init 15 = .ok (.aastore, 1) := by decide +kernel
theorem dX7_init_16 : decode cX7_init 16 = .ok (.aload_n 0, 1) := by decide +kernel
theorem dX7_init_17 : decode cX7_init 17 = .ok (.iconst 1, 1) := by decide +kernel
theorem dX7_init_18 : decode cX7_init 18 = .ok (.putfield 15, 3) := by decide +kernel
theorem dX7_init_21 : decode cX7_init 21 = .ok (.new 19, 3) := by decide +kernel
theorem dX7_init_24 : decode cX7_init 24 = .ok (.dup, 1) := by decide +kernel
theorem dX7_init_25 : decode cX7_init 25 = .ok (.invokespecial 21, 3) := by decide +kernel
theorem dX7_init_28 : decode cX7_init 28 = .ok (.astore_n 2, 1) := by decide +kernel
theorem dX7_init_29 : decode cX7_init 29 = .ok (.aload_n 0, 1) := by decide +kernel
theorem dX7_init_30 : decode cX7_init 30 = .ok (.new 22, 3) := by decide +kernel
theorem dX7_init_33 : decode cX7_init 33 = .ok (.dup, 1) := by decide +kernel
theorem dX7_init_34 : decode cX7_init 34 = .ok (.aload_n 1, 1) := by decide +kernel
theorem dX7_init_35 : decode cX7_init 35 = .ok (.aload_n 2, 1) := by decide +kernel
theorem dX7_init_36 : decode cX7_init 36 = .ok (.invokespecial 24, 3) := by decide +kernel
theorem dX7_init_39 : decode cX7_init 39 = .ok (.putfield 27, 3) := by decide +kernel
theorem dX7_init_42 : decode cX7_init 42 = .ok (.aload_n 0, 1) := by decide +kernel
theorem dX7_init_43 : decode cX7_init 43 = .ok (.new 22, 3) := by decide +kernel
theorem dX7_init_46 : decode cX7_init 46 = .ok (.dup, 1) := by decide +kernel
theorem dX7_init_47 : decode cX7_init 47 = .ok (.aload_n 1, 1) := by decide +kernel
theorem dX7_init_48 : decode cX7_init 48 = .ok (.aload_n 2, 1) := by decide +kernel
theorem dX7_init_49 : decode cX7_init 49 = .ok (.invokespecial 24, 3) := by decide +kernel
theorem dX7_init_52 : decode cX7_init 52 = .ok (.putfield 31, 3) := by decide +kernel
theorem dX7_init_55 : decode cX7_init 55 = .ok (.aload_n 0, 1) := by decide +kernel
theorem dX7_init_56 : decode cX7_init 56 = .ok (.new 22, 3) := by decide +kernel
theorem dX7_init_59 : decode cX7_init 59 = .ok (.dup, 1) := by decide +kernel
theorem dX7_init_60 : decode cX7_init 60 = .ok (.aload_n 1, 1) := by decide +kernel
theorem dX7_init_61 : decode cX7_init 61 = .ok (.aload_n 2, 1) := by decide +kernel
theorem dX7_init_62 : decode cX7_init 62 = .ok (.invokespecial 24, 3) := by decide +kernel
theorem dX7_init_65 : decode cX7_init 65 = .ok (.putfield 34, 3) := by decide +kernel
theorem dX7_init_68 : decode cX7_init 68 = .ok (.aload_n 0, 1) := by decide +kernel
theorem dX7_init_69 : decode cX7_init 69 = .ok (.new 37, 3) := by decide +kernel
theorem dX7_init_72 : decode cX7_init 72 = .ok (.dup, 1) := by decide +kernel
theorem dX7_init_73 : decode cX7_init 73 = .ok (.invokespecial 39, 3) := by decide +kernel
theorem dX7_init_76 : decode cX7_init 76 = .ok (.putfield 40, 3) := by decide +kernel
theorem dX7_init_79 : decode cX7_init 79 = .ok (.aload_n 0, 1) := by decide +kernel
theorem dX7_init_80 : decode cX7_init 80 = .ok (.iconst 4, 1) := by decide +kernel
theorem dX7_init_81 : decode cX7_init 81 = .ok (.anewarray 44, 3) := by decide +kernel
theorem dX7_init_84 : decode cX7_init 84 = .ok (.putfield 46, 3) := by decide +kernel
theorem dX7_init_87 : decode cX7_init 87 = .ok (.iconst 0, 1) := by decide +kernel
theorem dX7_init_88 : decode cX7_init 88 = .ok (.istore_n 3, 1) := by decide +kernel
theorem dX7_init_89 : decode cX7_init 89 = .ok (.iload_n 3, 1) := by decide +kernel
theorem dX7_init_90 : decode cX7_init 90 = .ok (.iconst 4, 1) := by decide +kernel
theorem dX7_init_91 : decode cX7_init 91 = .ok (.if_icmp .ge 22, 3) := by decide +kernel
theorem dX7_init_94 : decode cX7_init 94 = .ok (.aload_n 0, 1) := by decide +kernel
theorem dX7_init_95 : decode cX7_init 95 = .ok (.getfield 46, 3) := by decide +kernel
theorem dX7_init_98 : decode cX7_init 98 = .ok (.iload_n 3, 1) := by decide +kernel
theorem dX7_init_99 : decode cX7_init 99 = .ok (.new 44, 3) := by decide +kernel
theorem dX7_init_102 : decode cX7_init 102 = .ok (.dup, 1) := by decide +kernel
theorem dX7_init_103 : decode cX7_init 103 = .ok (.invokespecial 50, 3) := by decide +kernel
theorem dX7_init_106 : decode cX7_init 106 = .ok (.aastore, 1) := by decide +kernel
theorem dX7_init_107 : decode cX7_init 107 = .ok (.iinc 3 1, 3) := by decide +kernel
theorem dX7_init_110 : decode cX7_init 110 = .ok (.goto (-21), 3) := by decide +kernel
theorem dX7_init_113 : decode cX7_init 113 = .ok (.aload_n 0, 1) := by decide +kernel
theorem dX7_init_114 : decode cX7_init 114 = .ok (.sipush 160, 3) := by decide +kernel
theorem dX7_init_117 : decode cX7_init 117 = .ok (.newarray .int, 2) := by decide +kernel
theorem dX7_init_119 : decode cX7_init 119 = .ok (.putfield 51, 3) := by decide +kernel
theorem dX7_init_122 : decode cX7_init 122 = .ok (.return_, 1) := by decide +kernel
theorem dX7_count_0 : decode cX7_count 0 = .ok (.iload_n 1, 1) := by decide +kernel
theorem dX7_count_1 : decode cX7_count 1 = .ok (.tableswitch 117 0 8 #[51, 59, 67, 75, 83, 91, 99, 104, 112], 51) := by decide +kernel
theorem dX7_count_52 : decode cX7_count 52 = .ok (.aload_n 0, 1) := by decide +kernel
theorem dX7_count_53 : decode cX7_count 53 = .ok (.getfield 27, 3) := by decide +kernel
theorem dX7_count_56 : decode cX7_count 56 = .ok (.getfield 55, 3) := by decide +kernel
theorem dX7_count_59 : decode cX7_count 59 = .ok (.ireturn, 1) := by decide +kernel
theorem dX7_count_60 : decode cX7_count 60 = .ok (.aload_n 0, 1) := by decide +kernel
theorem dX7_count_61 : decode cX7_count 61 = .ok (.getfield 27, 3) := by decide +kernel
theorem dX7_count_64 : decode cX7_count 64 = .ok (.getfield 58, 3) := by decide +kernel
theorem dX7_count_67 : decode cX7_count 67 = .ok (.ireturn, 1) := by decide +kernel
theorem dX7_count_68 : decode cX7_count 68 = .ok (.aload_n 0, 1) := by decide +kernel
theorem dX7_count_69 : decode cX7_count 69 = .ok (.getfield 27, 3) := by decide +kernel
theorem dX7_count_72 : decode cX7_count 72 = .ok (.getfield 61, 3) := by decide +kernel
theorem dX7_count_75 : decode cX7_count 75 = .ok (.ireturn, 1) := by decide +kernel
theorem dX7_count_76 : decode cX7_count 76 = .ok (.aload_n 0, 1) := by decide +kernel
theorem dX7_count_77 : decode cX7_count 77 = .ok (.getfield 27, 3) := by decide +kernel
theorem dX7_count_80 : decode cX7_count 80 = .ok (.getfield 64, 3) := by decide +kernel
theorem dX7_count_83 : decode cX7_count 83 = .ok (.ireturn, 1) := by decide +kernel
theorem dX7_count_84 : decode cX7_count 84 = .ok (.aload_n 0, 1) := by decide +kernel
theorem dX7_count_85 : decode cX7_count 85 = .ok (.getfield 27, 3) := by decide +kernel
theorem dX7_count_88 : decode cX7_count 88 = .ok (.getfield 67, 3) := by decide +kernel
theorem dX7_count_91 : decode cX7_count 91 = .ok (.ireturn, 1) := by decide +kernel
theorem dX7_count_92 : decode cX7_count 92 = .ok (.aload_n 0, 1) := by decide +kernel
theorem dX7_count_93 : decode cX7_count 93 = .ok (.getfield 27, 3) := by decide +kernel
theorem dX7_count_96 : decode cX7_count 96 = .ok (.getfield 70, 3) := by decide +kernel
theorem dX7_count_99 : decode cX7_count 99 = .ok (.ireturn, 1) := by decide +kernel
theorem dX7_count_100 : decode cX7_count 100 = .ok (.aload_n 0, 1) := by decide +kernel
theorem dX7_count_101 : decode cX7_count 101 = .ok (.getfield 15, 3) := by decide +kernel
theorem dX7_count_104 : decode cX7_count 104 = .ok (.ireturn, 1) := by decide +kernel
theorem dX7_count_105 : decode cX7_count 105 = .ok (.aload_n 0, 1) := by decide +kernel
theorem dX7_count_106 : decode cX7_count 106 = .ok (.getfield 27, 3) := by decide +kernel
theorem dX7_count_109 : decode cX7_count 109 = .ok (.getfield 73, 3) := by decide +kernel
theorem dX7_count_112 : decode cX7_count 112 = .ok (.ireturn, 1) := by decide +kernel
theorem dX7_count_113 : decode cX7_count 113 = .ok (.aload_n 0, 1) := by decide +kernel
theorem dX7_count_114 : decode cX7_count 114 = .ok (.getfield 76, 3) := by decide +kernel
theorem dX7_count_117 : decode cX7_count 117 = .ok (.ireturn, 1) := by decide +kernel
theorem dX7_count_118 : decode cX7_count 118 = .ok (.bipush (-2), 2) := by decide +kernel
theorem dX7_count_120 : decode cX7_count 120 = .ok (.ireturn, 1) := by decide +kernel
theorem dX7_set_0 : decode cX7_set 0 = .ok (.iload_n 1, 1) := by decide +kernel
theorem dX7_set_1 : decode cX7_set 1 = .ok (.ifCond .lt 8, 3) := by decide +kernel
theorem dX7_set_4 : decode cX7_set 4 = .ok (.iload_n 1, 1) := by decide +kernel
theorem dX7_set_5 : decode cX7_set 5 = .ok (.iconst 3, 1) := by decide +kernel
theorem dX7_set_6 : decode cX7_set 6 = .ok (.if_icmp .le 6, 3) := by decide +kernel
theorem dX7_set_9 : decode cX7_set 9 = .ok (.bipush (-5), 2) := by decide +kernel
theorem dX7_set_11 : decode cX7_set 11 = .ok (.ireturn, 1) := by decide +kernel
theorem dX7_set_12 : decode cX7_set 12 = .ok (.iload_n 2, 1) := by decide +kernel
theorem dX7_set_13 : decode cX7_set 13 = .ok (.iload_n 1, 1) := by decide +kernel
theorem dX7_set_14 : decode cX7_set 14 = .ok (.iconst 2, 1) := by decide +kernel
theorem dX7_set_15 : decode cX7_set 15 = .ok (.if_icmp .ne 7, 3) := by decide +kernel
theorem dX7_set_18 : decode cX7_set 18 = .ok (.iconst (-1), 1) := by decide +kernel
theorem dX7_set_19 : decode cX7_set 19 = .ok (.goto 4, 3) := by decide +kernel
theorem dX7_set_22 : decode cX7_set 22 = .ok (.iconst 0, 1) := by decide +kernel
theorem dX7_set_23 : decode cX7_set 23 = .ok (.if_icmp .lt 12, 3) := by decide +kernel
theorem dX7_set_26 : decode cX7_set 26 = .ok (.iload_n 2, 1) := by decide +kernel
theorem dX7_set_27 : decode cX7_set 27 = .ok (.aload_n 0, 1) := by decide +kernel
theorem dX7_set_28 : decode cX7_set 28 = .ok (.iload_n 1, 1) := by decide +kernel
theorem dX7_set_29 : decode cX7_set 29 = .ok (.invokevirtual 79, 3) := by decide +kernel
theorem dX7_set_32 : decode cX7_set 32 = .ok (.if_icmp .le 6, 3) := by decide +kernel
theorem dX7_set_35 : decode cX7_set 35 = .ok (.bipush (-7), 2) := by decide +kernel
theorem dX7_set_37 : decode cX7_set 37 = .ok (.ireturn, 1) := by decide +kernel
theorem dX7_set_38 : decode cX7_set 38 = .ok (.aload_n 0, 1) := by decide +kernel
theorem dX7_set_39 : decode cX7_set 39 = .ok (.iload_n 1, 1) := by decide +kernel
theorem dX7_set_40 : decode cX7_set 40 = .ok (.iconst 2, 1) := by decide +kernel
theorem dX7_set_41 : decode cX7_set 41 = .ok (.iadd, 1) := by decide +kernel
theorem dX7_set_42 : decode cX7_set 42 = .ok (.invokevirtual 83, 3) := by decide +kernel
theorem dX7_set_45 : decode cX7_set 45 = .ok (.istore_n 3, 1) := by decide +kernel
theorem dX7_set_46 : decode cX7_set 46 = .ok (.iload_n 1, 1) := by decide +kernel
theorem dX7_set_47 : decode cX7_set 47 = .ok (.tableswitch 58 0 2 #[25, 36, 47], 25) := by decide +kernel
theorem dX7_set_72 : decode cX7_set 72 = .ok (.aload_n 0, 1) := by decide +kernel
theorem dX7_set_73 : decode cX7_set 73 = .ok (.getfield 27, 3) := by decide +kernel
theorem dX7_set_76 : decode cX7_set 76 = .ok (.iload_n 2, 1) := by decide +kernel
theorem dX7_set_77 : decode cX7_set 77 = .ok (.putfield 61, 3) := by decide +kernel
theorem dX7_set_80 : decode cX7_set 80 = .ok (.goto 33, 3) := by decide +kernel
theorem dX7_set_83 : decode cX7_set 83 = .ok (.aload_n 0, 1) := by decide +kernel
theorem dX7_set_84 : decode cX7_set 84 = .ok (.getfield 27, 3) := by decide +kernel
theorem dX7_set_87 : decode cX7_set 87 = .ok (.iload_n 2, 1) := by decide +kernel
theorem dX7_set_88 : decode cX7_set 88 = .ok (.putfield 64, 3) := by decide +kernel
theorem dX7_set_91 : decode cX7_set 91 = .ok (.goto 22, 3) := by decide +kernel
theorem dX7_set_94 : decode cX7_set 94 = .ok (.aload_n 0, 1) := by decide +kernel
theorem dX7_set_95 : decode cX7_set 95 = .ok (.getfield 27, 3) := by decide +kernel
theorem dX7_set_98 : decode cX7_set 98 = .ok (.iload_n 2, 1) := by decide +kernel
theorem dX7_set_99 : decode cX7_set 99 = .ok (.putfield 67, 3) := by decide +kernel
theorem dX7_set_102 : decode cX7_set 102 = .ok (.goto 11, 3) := by decide +kernel
theorem dX7_set_105 : decode cX7_set 105 = .ok (.aload_n 0, 1) := by decide +kernel
theorem dX7_set_106 : decode cX7_set 106 = .ok (.getfield 27, 3) := by decide +kernel
theorem dX7_set_109 : decode cX7_set 109 = .ok (.iload_n 2, 1) := by decide +kernel
theorem dX7_set_110 : decode cX7_set 110 = .ok (.putfield 70, 3) := by decide +kernel
theorem dX7_set_113 : decode cX7_set 113 = .ok (.iload_n 3, 1) := by decide +kernel
theorem dX7_set_114 : decode cX7_set 114 = .ok (.ireturn, 1) := by decide +kernel
theorem dX7_mostToSet_0 : decode cX7_mostToSet 0 = .ok (.iload_n 1, 1) := by decide +kernel
theorem dX7_mostToSet_1 : decode cX7_mostToSet 1 = .ok (.tableswitch 55 0 2 #[27, 41, 45], 27) := by decide +kernel
theorem dX7_mostToSet_28 : decode cX7_mostToSet 28 = .ok (.iconst 0, 1) := by decide +kernel
theorem dX7_mostToSet_29 : decode cX7_mostToSet 29 = .ok (.aload_n 0, 1) := by decide +kernel
theorem dX7_mostToSet_30 : decode cX7_mostToSet 30 = .ok (.getfield 27, 3) := by decide +kernel
theorem dX7_mostToSet_33 : decode cX7_mostToSet 33 = .ok (.invokevirtual 86, 3) := by decide +kernel
theorem dX7_mostToSet_36 : decode cX7_mostToSet 36 = .ok (.iconst 1, 1) := by decide +kernel
theorem dX7_mostToSet_37 : decode cX7_mostToSet 37 = .ok (.isub, 1) := by decide +kernel
theorem dX7_mostToSet_38 : decode cX7_mostToSet 38 = .ok (.invokestatic 90, 3) := by decide +kernel
theorem dX7_mostToSet_41 : decode cX7_mostToSet 41 = .ok (.ireturn, 1) := by decide +kernel
theorem dX7_mostToSet_42 : decode cX7_mostToSet 42 = .ok (.sipush 999, 3) := by decide +kernel
theorem dX7_mostToSet_45 : decode cX7_mostToSet 45 = .ok (.ireturn, 1) := by decide +kernel
theorem dX7_mostToSet_46 : decode cX7_mostToSet 46 = .ok (.aload_n 0, 1) := by decide +kernel
theorem dX7_mostToSet_47 : decode cX7_mostToSet 47 = .ok (.getfield 27, 3) := by decide +kernel
theorem dX7_mostToSet_50 : decode cX7_mostToSet 50 = .ok (.getfield 55, 3) := by decide +kernel
theorem dX7_mostToSet_53 : decode cX7_mostToSet 53 = .ok (.iconst 1, 1) := by decide +kernel
theorem dX7_mostToSet_54 : decode cX7_mostToSet 54 = .ok (.isub, 1) := by decide +kernel
theorem dX7_mostToSet_55 : decode cX7_mostToSet 55 = .ok (.ireturn, 1) := by decide +kernel
theorem dX7_mostToSet_56 : decode cX7_mostToSet 56 = .ok (.aload_n 0, 1) := by decide +kernel
theorem dX7_mostToSet_57 : decode cX7_mostToSet 57 = .ok (.getfield 27, 3) := by decide +kernel
theorem dX7_mostToSet_60 : decode cX7_mostToSet 60 = .ok (.invokevirtual 96, 3) := by decide +kernel
theorem dX7_mostToSet_63 : decode cX7_mostToSet 63 = .ok (.ireturn, 1) := by decide +kernel
theorem dX7_feed_0 : decode cX7_feed 0 = .ok (.iload_n 1, 1) := by decide +kernel
theorem dX7_feed_1 : decode cX7_feed 1 = .ok (.iconst 1, 1) := by decide +kernel
theorem dX7_feed_2 : decode cX7_feed 2 = .ok (.if_icmp .lt 46, 3) := by decide +kernel
theorem dX7_feed_5 : decode cX7_feed 5 = .ok (.iload_n 1, 1) := by decide +kernel
theorem dX7_feed_6 : decode cX7_feed 6 = .ok (.iconst 5, 1) := by decide +kernel
theorem dX7_feed_7 : decode cX7_feed 7 = .ok (.if_icmp .gt 41, 3) := by decide +kernel
theorem dX7_feed_10 : decode cX7_feed 10 = .ok (.iload_n 2, 1) := by decide +kernel
theorem dX7_feed_11 : decode cX7_feed 11 = .ok (.invokestatic 99, 3) := by decide +kernel
theorem dX7_feed_14 : decode cX7_feed 14 = .ok (.ifCond .eq 34, 3) := by decide +kernel
theorem dX7_feed_17 : decode cX7_feed 17 = .ok (.iload_n 3, 1) := by decide +kernel
theorem dX7_feed_18 : decode cX7_feed 18 = .ok (.invokestatic 99, 3) := by decide +kernel
theorem dX7_feed_21 : decode cX7_feed 21 = .ok (.ifCond .eq 27, 3) := by decide +kernel
theorem dX7_feed_24 : decode cX7_feed 24 = .ok (.iload 4, 2) := by decide +kernel
theorem dX7_feed_26 : decode cX7_feed 26 = .ok (.invokestatic 99, 3) := by decide +kernel
theorem dX7_feed_29 : decode cX7_feed 29 = .ok (.ifCond .eq 19, 3) := by decide +kernel
theorem dX7_feed_32 : decode cX7_feed 32 = .ok (.iload 5, 2) := by decide +kernel
theorem dX7_feed_34 : decode cX7_feed 34 = .ok (.invokestatic 99, 3) := by decide +kernel
theorem dX7_feed_37 : decode cX7_feed 37 = .ok (.ifCond .eq 11, 3) := by decide +kernel
theorem dX7_feed_40 : decode cX7_feed 40 = .ok (.iload 6, 2) := by decide +kernel
theorem dX7_feed_42 : decode cX7_feed 42 = .ok (.invokestatic 99, 3) := by decide +kernel
theorem dX7_feed_45 : decode cX7_feed 45 = .ok (.ifCond .ne 6, 3) := by decide +kernel
theorem dX7_feed_48 : decode cX7_feed 48 = .ok (.bipush (-2), 2) := by decide +kernel
theorem dX7_feed_50 : decode cX7_feed 50 = .ok (.ireturn, 1) := by decide +kernel
theorem dX7_feed_51 : decode cX7_feed 51 = .ok (.aload_n 0, 1) := by decide +kernel
theorem dX7_feed_52 : decode cX7_feed 52 = .ok (.getfield 76, 3) := by decide +kernel
theorem dX7_feed_55 : decode cX7_feed 55 = .ok (.sipush 160, 3) := by decide +kernel
theorem dX7_feed_58 : decode cX7_feed 58 = .ok (.iload_n 1, 1) := by decide +kernel
theorem dX7_feed_59 : decode cX7_feed 59 = .ok (.isub, 1) := by decide +kernel
theorem dX7_feed_60 : decode cX7_feed 60 = .ok (.if_icmp .le 6, 3) := by decide +kernel
theorem dX7_feed_63 : decode cX7_feed 63 = .ok (.bipush (-4), 2) := by decide +kernel
theorem dX7_feed_65 : decode cX7_feed 65 = .ok (.ireturn, 1) := by decide +kernel
theorem dX7_feed_66 : decode cX7_feed 66 = .ok (.aload_n 0, 1) := by decide +kernel
theorem dX7_feed_67 : decode cX7_feed 67 = .ok (.iload_n 2, 1) := by decide +kernel
theorem dX7_feed_68 : decode cX7_feed 68 = .ok (.iload_n 1, 1) := by decide +kernel
theorem dX7_feed_69 : decode cX7_feed 69 = .ok (.ifCond .le 7, 3) := by decide +kernel
theorem dX7_feed_72 : decode cX7_feed 72 = .ok (.iconst 1, 1) := by decide +kernel
theorem dX7_feed_73 : decode cX7_feed 73 = .ok (.goto 4, 3) := by decide +kernel
theorem dX7_feed_76 : decode cX7_feed 76 = .ok (.iconst 0, 1) := by decide +kernel
theorem dX7_feed_77 : decode cX7_feed 77 = .ok (.invokevirtual 103, 3) := by decide +kernel
theorem dX7_feed_80 : decode cX7_feed 80 = .ok (.aload_n 0, 1) := by decide +kernel
theorem dX7_feed_81 : decode cX7_feed 81 = .ok (.iload_n 3, 1) := by decide +kernel
theorem dX7_feed_82 : decode cX7_feed 82 = .ok (.iload_n 1, 1) := by decide +kernel
theorem dX7_feed_83 : decode cX7_feed 83 = .ok (.iconst 1, 1) := by decide +kernel
theorem dX7_feed_84 : decode cX7_feed 84 = .ok (.if_icmp .le 7, 3) := by decide +kernel
theorem dX7_feed_87 : decode cX7_feed 87 = .ok (.iconst 1, 1) := by decide +kernel
theorem dX7_feed_88 : decode cX7_feed 88 = .ok (.goto 4, 3) := by decide +kernel
theorem dX7_feed_91 : decode cX7_feed 91 = .ok (.iconst 0, 1) := by decide +kernel
theorem dX7_feed_92 : decode cX7_feed 92 = .ok (.invokevirtual 103, 3) := by decide +kernel
theorem dX7_feed_95 : decode cX7_feed 95 = .ok (.aload_n 0, 1) := by decide +kernel
theorem dX7_feed_96 : decode cX7_feed 96 = .ok (.iload 4, 2) := by decide +kernel
theorem dX7_feed_98 : decode cX7_feed 98 = .ok (.iload_n 1, 1) := by decide +kernel
theorem dX7_feed_99 : decode cX7_feed 99 = .ok (.iconst 2, 1) := by decide +kernel
theorem dX7_feed_100 : decode cX7_feed 100 = .ok (.if_icmp .le 7, 3) := by decide +kernel
theorem dX7_feed_103 : decode cX7_feed 103 = .ok (.iconst 1, 1) := by decide +kernel
theorem dX7_feed_104 : decode cX7_feed 104 = .ok (.goto 4, 3) := by decide +kernel
theorem dX7_feed_107 : decode cX7_feed 107 = .ok (.iconst 0, 1) := by decide +kernel
theorem dX7_feed_108 : decode cX7_feed 108 = .ok (.invokevirtual 103, 3) := by decide +kernel
theorem dX7_feed_111 : decode cX7_feed 111 = .ok (.aload_n 0, 1) := by decide +kernel
theorem dX7_feed_112 : decode cX7_feed 112 = .ok (.iload 5, 2) := by decide +kernel
theorem dX7_feed_114 : decode cX7_feed 114 = .ok (.iload_n 1, 1) := by decide +kernel
theorem dX7_feed_115 : decode cX7_feed 115 = .ok (.iconst 3, 1) := by decide +kernel
theorem dX7_feed_116 : decode cX7_feed 116 = .ok (.if_icmp .le 7, 3) := by decide +kernel
theorem dX7_feed_119 : decode cX7_feed 119 = .ok (.iconst 1, 1) := by decide +kernel
theorem dX7_feed_120 : decode cX7_feed 120 = .ok (.goto 4, 3) := by decide +kernel
theorem dX7_feed_123 : decode cX7_feed 123 = .ok (.iconst 0, 1) := by decide +kernel
theorem dX7_feed_124 : decode cX7_feed 124 = .ok (.invokevirtual 103, 3) := by decide +kernel
theorem dX7_feed_127 : decode cX7_feed 127 = .ok (.aload_n 0, 1) := by decide +kernel
theorem dX7_feed_128 : decode cX7_feed 128 = .ok (.iload 6, 2) := by decide +kernel
theorem dX7_feed_130 : decode cX7_feed 130 = .ok (.iload_n 1, 1) := by decide +kernel
theorem dX7_feed_131 : decode cX7_feed 131 = .ok (.iconst 4, 1) := by decide +kernel
theorem dX7_feed_132 : decode cX7_feed 132 = .ok (.if_icmp .le 7, 3) := by decide +kernel
theorem dX7_feed_135 : decode cX7_feed 135 = .ok (.iconst 1, 1) := by decide +kernel
theorem dX7_feed_136 : decode cX7_feed 136 = .ok (.goto 4, 3) := by decide +kernel
theorem dX7_feed_139 : decode cX7_feed 139 = .ok (.iconst 0, 1) := by decide +kernel
theorem dX7_feed_140 : decode cX7_feed 140 = .ok (.invokevirtual 103, 3) := by decide +kernel
theorem dX7_feed_143 : decode cX7_feed 143 = .ok (.aload_n 0, 1) := by decide +kernel
theorem dX7_feed_144 : decode cX7_feed 144 = .ok (.getfield 76, 3) := by decide +kernel
theorem dX7_feed_147 : decode cX7_feed 147 = .ok (.ireturn, 1) := by decide +kernel
theorem dX7_isByte_0 : decode cX7_isByte 0 = .ok (.iload_n 0, 1) := by decide +kernel
theorem dX7_isByte_1 : decode cX7_isByte 1 = .ok (.ifCond .lt 14, 3) := by decide +kernel
theorem dX7_isByte_4 : decode cX7_isByte 4 = .ok (.iload_n 0, 1) := by decide +kernel
theorem dX7_isByte_5 : decode cX7_isByte 5 = .ok (.sipush 255, 3) := by decide +kernel
theorem dX7_isByte_8 : decode cX7_isByte 8 = .ok (.if_icmp .gt 7, 3) := by decide +kernel
theorem dX7_isByte_11 : decode cX7_isByte 11 = .ok (.iconst 1, 1) := by decide +kernel
theorem dX7_isByte_12 : decode cX7_isByte 12 = .ok (.goto 4, 3) := by decide +kernel
theorem dX7_isByte_15 : decode cX7_isByte 15 = .ok (.iconst 0, 1) := by decide +kernel
theorem dX7_isByte_16 : decode cX7_isByte 16 = .ok (.ireturn, 1) := by decide +kernel
theorem dX7_appendByte_0 : decode cX7_appendByte 0 = .ok (.iload_n 2, 1) := by decide +kernel
theorem dX7_appendByte_1 : decode cX7_appendByte 1 = .ok (.ifCond .eq 42, 3) := by decide +kernel
theorem dX7_appendByte_4 : decode cX7_appendByte 4 = .ok (.aload_n 0, 1) := by decide +kernel
theorem dX7_appendByte_5 : decode cX7_appendByte 5 = .ok (.getfield 76, 3) := by decide +kernel
theorem dX7_appendByte_8 : decode cX7_appendByte 8 = .ok (.ifCond .lt 35, 3) := by decide +kernel
theorem dX7_appendByte_11 : decode cX7_appendByte 11 = .ok (.aload_n 0, 1) := by decide +kernel
theorem dX7_appendByte_12 : decode cX7_appendByte 12 = .ok (.getfield 76, 3) := by decide +kernel
theorem dX7_appendByte_15 : decode cX7_appendByte 15 = .ok (.aload_n 0, 1) := by decide +kernel
theorem dX7_appendByte_16 : decode cX7_appendByte 16 = .ok (.getfield 51, 3) := by decide +kernel
theorem dX7_appendByte_19 : decode cX7_appendByte 19 = .ok (.arraylength, 1) := by decide +kernel
theorem dX7_appendByte_20 : decode cX7_appendByte 20 = .ok (.if_icmp .ge 23, 3) := by decide +kernel
theorem dX7_appendByte_23 : decode cX7_appendByte 23 = .ok (.aload_n 0, 1) := by decide +kernel
theorem dX7_appendByte_24 : decode cX7_appendByte 24 = .ok (.getfield 51, 3) := by decide +kernel
theorem dX7_appendByte_27 : decode cX7_appendByte 27 = .ok (.aload_n 0, 1) := by decide +kernel
theorem dX7_appendByte_28 : decode cX7_appendByte 28 = .ok (.getfield 76, 3) := by decide +kernel
theorem dX7_appendByte_31 : decode cX7_appendByte 31 = .ok (.iload_n 1, 1) := by decide +kernel
theorem dX7_appendByte_32 : decode cX7_appendByte 32 = .ok (.iastore, 1) := by decide +kernel
theorem dX7_appendByte_33 : decode cX7_appendByte 33 = .ok (.aload_n 0, 1) := by decide +kernel
theorem dX7_appendByte_34 : decode cX7_appendByte 34 = .ok (.dup, 1) := by decide +kernel
theorem dX7_appendByte_35 : decode cX7_appendByte 35 = .ok (.getfield 76, 3) := by decide +kernel
theorem dX7_appendByte_38 : decode cX7_appendByte 38 = .ok (.iconst 1, 1) := by decide +kernel
theorem dX7_appendByte_39 : decode cX7_appendByte 39 = .ok (.iadd, 1) := by decide +kernel
theorem dX7_appendByte_40 : decode cX7_appendByte 40 = .ok (.putfield 76, 3) := by decide +kernel
theorem dX7_appendByte_43 : decode cX7_appendByte 43 = .ok (.return_, 1) := by decide +kernel
theorem dX7_text_0 : decode cX7_text 0 = .ok (.aload_n 0, 1) := by decide +kernel
theorem dX7_text_1 : decode cX7_text 1 = .ok (.getfield 15, 3) := by decide +kernel
theorem dX7_text_4 : decode cX7_text 4 = .ok (.ifCond .lt 12, 3) := by decide +kernel
theorem dX7_text_7 : decode cX7_text 7 = .ok (.aload_n 0, 1) := by decide +kernel
theorem dX7_text_8 : decode cX7_text 8 = .ok (.getfield 15, 3) := by decide +kernel
theorem dX7_text_11 : decode cX7_text 11 = .ok (.bipush 6, 2) := by decide +kernel
theorem dX7_text_13 : decode cX7_text 13 = .ok (.if_icmp .lt 6, 3) := by decide +kernel
theorem dX7_text_16 : decode cX7_text 16 = .ok (.bipush (-4), 2) := by decide +kernel
theorem dX7_text_18 : decode cX7_text 18 = .ok (.ireturn, 1) := by decide +kernel
theorem dX7_text_19 : decode cX7_text 19 = .ok (.aload_n 0, 1) := by decide +kernel
theorem dX7_text_20 : decode cX7_text 20 = .ok (.getfield 40, 3) := by decide +kernel
theorem dX7_text_23 : decode cX7_text 23 = .ok (.aload_n 0, 1) := by decide +kernel
theorem dX7_text_24 : decode cX7_text 24 = .ok (.getfield 51, 3) := by decide +kernel
theorem dX7_text_27 : decode cX7_text 27 = .ok (.aload_n 0, 1) := by decide +kernel
theorem dX7_text_28 : decode cX7_text 28 = .ok (.getfield 76, 3) := by decide +kernel
theorem dX7_text_31 : decode cX7_text 31 = .ok (.invokevirtual 107, 3) := by decide +kernel
theorem dX7_text_34 : decode cX7_text 34 = .ok (.astore_n 1, 1) := by decide +kernel
theorem dX7_text_35 : decode cX7_text 35 = .ok (.aload_n 0, 1) := by decide +kernel
theorem dX7_text_36 : decode cX7_text 36 = .ok (.iconst 0, 1) := by decide +kernel
theorem dX7_text_37 : decode cX7_text 37 = .ok (.putfield 76, 3) := by decide +kernel
theorem dX7_text_40 : decode cX7_text 40 = .ok (.aload_n 1, 1) := by decide +kernel
theorem dX7_text_41 : decode cX7_text 41 = .ok (.ifnonnull 14, 3) := by decide +kernel
theorem dX7_text_44 : decode cX7_text 44 = .ok (.bipush (-100), 2) := by decide +kernel
theorem dX7_text_46 : decode cX7_text 46 = .ok (.aload_n 0, 1) := by decide +kernel
theorem dX7_text_47 : decode cX7_text 47 = .ok (.getfield 40, 3) := by decide +kernel
theorem dX7_text_50 : decode cX7_text 50 = .ok (.invokevirtual 111, 3) := by decide +kernel
theorem dX7_text_53 : decode cX7_text 53 = .ok (.isub, 1) := by decide +kernel
theorem dX7_text_54 : decode cX7_text 54 = .ok (.ireturn, 1) := by decide +kernel
theorem dX7_text_55 : decode cX7_text 55 = .ok (.aload_n 0, 1) := by decide +kernel
theorem dX7_text_56 : decode cX7_text 56 = .ok (.getfield 27, 3) := by decide +kernel
theorem dX7_text_59 : decode cX7_text 59 = .ok (.getfield 114, 3) := by decide +kernel
theorem dX7_text_62 : decode cX7_text 62 = .ok (.aload_n 0, 1) := by decide +kernel
theorem dX7_text_63 : decode cX7_text 63 = .ok (.getfield 15, 3) := by decide +kernel
theorem dX7_text_66 : decode cX7_text 66 = .ok (.aload_n 1, 1) := by decide +kernel
theorem dX7_text_67 : decode cX7_text 67 = .ok (.aastore, 1) := by decide +kernel
theorem dX7_text_68 : decode cX7_text 68 = .ok (.aload_n 0, 1) := by decide +kernel
theorem dX7_text_69 : decode cX7_text 69 = .ok (.dup, 1) := by decide +kernel
theorem dX7_text_70 : decode cX7_text 70 = .ok (.getfield 15, 3) := by decide +kernel
theorem dX7_text_73 : decode cX7_text 73 = .ok (.iconst 1, 1) := by decide +kernel
theorem dX7_text_74 : decode cX7_text 74 = .ok (.iadd, 1) := by decide +kernel
theorem dX7_text_75 : decode cX7_text 75 = .ok (.putfield 15, 3) := by decide +kernel
theorem dX7_text_78 : decode cX7_text 78 = .ok (.aload_n 0, 1) := by decide +kernel
theorem dX7_text_79 : decode cX7_text 79 = .ok (.getfield 15, 3) := by decide +kernel
theorem dX7_text_82 : decode cX7_text 82 = .ok (.iconst 1, 1) := by decide +kernel
theorem dX7_text_83 : decode cX7_text 83 = .ok (.isub, 1) := by decide +kernel
theorem dX7_text_84 : decode cX7_text 84 = .ok (.ireturn, 1) := by decide +kernel
theorem dX7_force_0 : decode cX7_force 0 = .ok (.iload_n 1, 1) := by decide +kernel
theorem dX7_force_1 : decode cX7_force 1 = .ok (.ifCond .lt 11, 3) := by decide +kernel
theorem dX7_force_4 : decode cX7_force 4 = .ok (.iload_n 1, 1) := by decide +kernel
theorem dX7_force_5 : decode cX7_force 5 = .ok (.aload_n 0, 1) := by decide +kernel
theorem dX7_force_6 : decode cX7_force 6 = .ok (.getfield 15, 3) := by decide +kernel
theorem dX7_force_9 : decode cX7_force 9 = .ok (.if_icmp .lt 6, 3) := by decide +kernel
theorem dX7_force_12 : decode cX7_force 12 = .ok (.bipush (-2), 2) := by decide +kernel
theorem dX7_force_14 : decode cX7_force 14 = .ok (.ireturn, 1) := by decide +kernel
theorem dX7_force_15 : decode cX7_force 15 = .ok (.aload_n 0, 1) := by decide +kernel
theorem dX7_force_16 : decode cX7_force 16 = .ok (.getfield 27, 3) := by decide +kernel
theorem dX7_force_19 : decode cX7_force 19 = .ok (.getfield 73, 3) := by decide +kernel
theorem dX7_force_22 : decode cX7_force 22 = .ok (.istore_n 2, 1) := by decide +kernel
theorem dX7_force_23 : decode cX7_force 23 = .ok (.aload_n 0, 1) := by decide +kernel
theorem dX7_force_24 : decode cX7_force 24 = .ok (.getfield 27, 3) := by decide +kernel
theorem dX7_force_27 : decode cX7_force 27 = .ok (.iload_n 1, 1) := by decide +kernel
theorem dX7_force_28 : decode cX7_force 28 = .ok (.putfield 73, 3) := by decide +kernel
theorem dX7_force_31 : decode cX7_force 31 = .ok (.iload_n 2, 1) := by decide +kernel
theorem dX7_force_32 : decode cX7_force 32 = .ok (.ireturn, 1) := by decide +kernel
theorem dX7_asks_0 : decode cX7_asks 0 = .ok (.iload_n 1, 1) := by decide +kernel
theorem dX7_asks_1 : decode cX7_asks 1 = .ok (.ifCond .lt 42, 3) := by decide +kernel
theorem dX7_asks_4 : decode cX7_asks 4 = .ok (.iload_n 1, 1) := by decide +kernel
theorem dX7_asks_5 : decode cX7_asks 5 = .ok (.iconst 2, 1) := by decide +kernel
theorem dX7_asks_6 : decode cX7_asks 6 = .ok (.if_icmp .gt 37, 3) := by decide +kernel
theorem dX7_asks_9 : decode cX7_asks 9 = .ok (.aload_n 0, 1) := by decide +kernel
theorem dX7_asks_10 : decode cX7_asks 10 = .ok (.getfield 27, 3) := by decide +kernel
theorem dX7_asks_13 : decode cX7_asks 13 = .ok (.iload_n 2, 1) := by decide +kernel
theorem dX7_asks_14 : decode cX7_asks 14 = .ok (.invokevirtual 118, 3) := by decide +kernel
theorem dX7_asks_17 : decode cX7_asks 17 = .ok (.ifCond .eq 26, 3) := by decide +kernel
theorem dX7_asks_20 : decode cX7_asks 20 = .ok (.iload_n 3, 1) := by decide +kernel
theorem dX7_asks_21 : decode cX7_asks 21 = .ok (.ifCond .lt 22, 3) := by decide +kernel
theorem dX7_asks_24 : decode cX7_asks 24 = .ok (.iload_n 3, 1) := by decide +kernel
theorem dX7_asks_25 : decode cX7_asks 25 = .ok (.bipush 12, 2) := by decide +kernel
theorem dX7_asks_27 : decode cX7_asks 27 = .ok (.if_icmp .gt 16, 3) := by decide +kernel
theorem dX7_asks_30 : decode cX7_asks 30 = .ok (.iload 4, 2) := by decide +kernel
theorem dX7_asks_32 : decode cX7_asks 32 = .ok (.ifCond .lt 11, 3) := by decide +kernel
theorem dX7_asks_35 : decode cX7_asks 35 = .ok (.iload 4, 2) := by decide +kernel
theorem dX7_asks_37 : decode cX7_asks 37 = .ok (.sipush 999, 3) := by decide +kernel
theorem dX7_asks_40 : decode cX7_asks 40 = .ok (.if_icmp .le 6, 3) := by decide +kernel
theorem dX7_asks_43 : decode cX7_asks 43 = .ok (.bipush (-2), 2) := by decide +kernel
theorem dX7_asks_45 : decode cX7_asks 45 = .ok (.ireturn, 1) := by decide +kernel
theorem dX7_asks_46 : decode cX7_asks 46 = .ok (.aload_n 0, 1) := by decide +kernel
theorem dX7_asks_47 : decode cX7_asks 47 = .ok (.getfield 27, 3) := by decide +kernel
theorem dX7_asks_50 : decode cX7_asks 50 = .ok (.iload_n 1, 1) := by decide +kernel
theorem dX7_asks_51 : decode cX7_asks 51 = .ok (.iload_n 2, 1) := by decide +kernel
theorem dX7_asks_52 : decode cX7_asks 52 = .ok (.iload_n 3, 1) := by decide +kernel
theorem dX7_asks_53 : decode cX7_asks 53 = .ok (.iload 4, 2) := by decide +kernel
theorem dX7_asks_55 : decode cX7_asks 55 = .ok (.invokevirtual 121, 3) := by decide +kernel
theorem dX7_asks_58 : decode cX7_asks 58 = .ok (.ireturn, 1) := by decide +kernel
theorem dX7_word_0 : decode cX7_word 0 = .ok (.iload_n 1, 1) := by decide +kernel
theorem dX7_word_1 : decode cX7_word 1 = .ok (.ifCond .lt 31, 3) := by decide +kernel
theorem dX7_word_4 : decode cX7_word 4 = .ok (.iload_n 1, 1) := by decide +kernel
theorem dX7_word_5 : decode cX7_word 5 = .ok (.bipush 60, 2) := by decide +kernel
theorem dX7_word_7 : decode cX7_word 7 = .ok (.if_icmp .ge 25, 3) := by decide +kernel
theorem dX7_word_10 : decode cX7_word 10 = .ok (.iload_n 2, 1) := by decide +kernel
theorem dX7_word_11 : decode cX7_word 11 = .ok (.iconst 1, 1) := by decide +kernel
theorem dX7_word_12 : decode cX7_word 12 = .ok (.if_icmp .lt 20, 3) := by decide +kernel
theorem dX7_word_15 : decode cX7_word 15 = .ok (.iload_n 2, 1) := by decide +kernel
theorem dX7_word_16 : decode cX7_word 16 = .ok (.bipush 60, 2) := by decide +kernel
theorem dX7_word_18 : decode cX7_word 18 = .ok (.if_icmp .gt 14, 3) := by decide +kernel
theorem dX7_word_21 : decode cX7_word 21 = .ok (.iload_n 3, 1) := by decide +kernel
theorem dX7_word_22 : decode cX7_word 22 = .ok (.iconst (-1), 1) := by decide +kernel
theorem dX7_word_23 : decode cX7_word 23 = .ok (.if_icmp .lt 9, 3) := by decide +kernel
theorem dX7_word_26 : decode cX7_word 26 = .ok (.iload_n 3, 1) := by decide +kernel
theorem dX7_word_27 : decode cX7_word 27 = .ok (.bipush 12, 2) := by decide +kernel
theorem dX7_word_29 : decode cX7_word 29 = .ok (.if_icmp .lt 6, 3) := by decide +kernel
theorem dX7_word_32 : decode cX7_word 32 = .ok (.bipush (-2), 2) := by decide +kernel
theorem dX7_word_34 : decode cX7_word 34 = .ok (.ireturn, 1) := by decide +kernel
theorem dX7_word_35 : decode cX7_word 35 = .ok (.aload_n 0, 1) := by decide +kernel
theorem dX7_word_36 : decode cX7_word 36 = .ok (.getfield 27, 3) := by decide +kernel
theorem dX7_word_39 : decode cX7_word 39 = .ok (.iload_n 1, 1) := by decide +kernel
theorem dX7_word_40 : decode cX7_word 40 = .ok (.iload_n 2, 1) := by decide +kernel
theorem dX7_word_41 : decode cX7_word 41 = .ok (.iload_n 3, 1) := by decide +kernel
theorem dX7_word_42 : decode cX7_word 42 = .ok (.invokevirtual 125, 3) := by decide +kernel
theorem dX7_word_45 : decode cX7_word 45 = .ok (.ifCond .eq 15, 3) := by decide +kernel
theorem dX7_word_48 : decode cX7_word 48 = .ok (.aload_n 0, 1) := by decide +kernel
theorem dX7_word_49 : decode cX7_word 49 = .ok (.getfield 27, 3) := by decide +kernel
theorem dX7_word_52 : decode cX7_word 52 = .ok (.getfield 55, 3) := by decide +kernel
theorem dX7_word_55 : decode cX7_word 55 = .ok (.iconst 1, 1) := by decide +kernel
theorem dX7_word_56 : decode cX7_word 56 = .ok (.isub, 1) := by decide +kernel
theorem dX7_word_57 : decode cX7_word 57 = .ok (.goto 5, 3) := by decide +kernel
theorem dX7_word_60 : decode cX7_word 60 = .ok (.bipush (-4), 2) := by decide +kernel
theorem dX7_word_62 : decode cX7_word 62 = .ok (.ireturn, 1) := by decide +kernel
theorem dX7_told_0 : decode cX7_told 0 = .ok (.aload_n 0, 1) := by decide +kernel
theorem dX7_told_1 : decode cX7_told 1 = .ok (.getfield 27, 3) := by decide +kernel
theorem dX7_told_4 : decode cX7_told 4 = .ok (.iload_n 1, 1) := by decide +kernel
theorem dX7_told_5 : decode cX7_told 5 = .ok (.invokevirtual 118, 3) := by decide +kernel
theorem dX7_told_8 : decode cX7_told 8 = .ok (.ifCond .ne 6, 3) := by decide +kernel
theorem dX7_told_11 : decode cX7_told 11 = .ok (.bipush (-5), 2) := by decide +kernel
theorem dX7_told_13 : decode cX7_told 13 = .ok (.ireturn, 1) := by decide +kernel
theorem dX7_told_14 : decode cX7_told 14 = .ok (.iload_n 2, 1) := by decide +kernel
theorem dX7_told_15 : decode cX7_told 15 = .ok (.tableswitch 135 0 7 #[45, 55, 65, 75, 85, 95, 104, 114], 45) := by decide +kernel
theorem dX7_told_60 : decode cX7_told 60 = .ok (.aload_n 0, 1) := by decide +kernel
theorem dX7_told_61 : decode cX7_told 61 = .ok (.getfield 27, 3) := by decide +kernel
theorem dX7_told_64 : decode cX7_told 64 = .ok (.getfield 129, 3) := by decide +kernel
theorem dX7_told_67 : decode cX7_told 67 = .ok (.iload_n 1, 1) := by decide +kernel
theorem dX7_told_68 : decode cX7_told 68 = .ok (.iaload, 1) := by decide +kernel
theorem dX7_told_69 : decode cX7_told 69 = .ok (.ireturn, 1) := by decide +kernel
theorem dX7_told_70 : decode cX7_told 70 = .ok (.aload_n 0, 1) := by decide +kernel
theorem dX7_told_71 : decode cX7_told 71 = .ok (.getfield 27, 3) := by decide +kernel
theorem dX7_told_74 : decode cX7_told 74 = .ok (.getfield 132, 3) := by decide +kernel
theorem dX7_told_77 : decode cX7_told 77 = .ok (.iload_n 1, 1) := by decide +kernel
theorem dX7_told_78 : decode cX7_told 78 = .ok (.iaload, 1) := by decide +kernel
theorem dX7_told_79 : decode cX7_told 79 = .ok (.ireturn, 1) := by decide +kernel
theorem dX7_told_80 : decode cX7_told 80 = .ok (.aload_n 0, 1) := by decide +kernel
theorem dX7_told_81 : decode cX7_told 81 = .ok (.getfield 27, 3) := by decide +kernel
theorem dX7_told_84 : decode cX7_told 84 = .ok (.getfield 135, 3) := by decide +kernel
theorem dX7_told_87 : decode cX7_told 87 = .ok (.iload_n 1, 1) := by decide +kernel
theorem dX7_told_88 : decode cX7_told 88 = .ok (.iaload, 1) := by decide +kernel
theorem dX7_told_89 : decode cX7_told 89 = .ok (.ireturn, 1) := by decide +kernel
theorem dX7_told_90 : decode cX7_told 90 = .ok (.aload_n 0, 1) := by decide +kernel
theorem dX7_told_91 : decode cX7_told 91 = .ok (.getfield 27, 3) := by decide +kernel
theorem dX7_told_94 : decode cX7_told 94 = .ok (.getfield 138, 3) := by decide +kernel
theorem dX7_told_97 : decode cX7_told 97 = .ok (.iload_n 1, 1) := by decide +kernel
theorem dX7_told_98 : decode cX7_told 98 = .ok (.iaload, 1) := by decide +kernel
theorem dX7_told_99 : decode cX7_told 99 = .ok (.ireturn, 1) := by decide +kernel
theorem dX7_told_100 : decode cX7_told 100 = .ok (.aload_n 0, 1) := by decide +kernel
theorem dX7_told_101 : decode cX7_told 101 = .ok (.getfield 27, 3) := by decide +kernel
theorem dX7_told_104 : decode cX7_told 104 = .ok (.getfield 141, 3) := by decide +kernel
theorem dX7_told_107 : decode cX7_told 107 = .ok (.iload_n 1, 1) := by decide +kernel
theorem dX7_told_108 : decode cX7_told 108 = .ok (.iaload, 1) := by decide +kernel
theorem dX7_told_109 : decode cX7_told 109 = .ok (.ireturn, 1) := by decide +kernel
theorem dX7_told_110 : decode cX7_told 110 = .ok (.aload_n 0, 1) := by decide +kernel
theorem dX7_told_111 : decode cX7_told 111 = .ok (.getfield 27, 3) := by decide +kernel
theorem dX7_told_114 : decode cX7_told 114 = .ok (.iload_n 1, 1) := by decide +kernel
theorem dX7_told_115 : decode cX7_told 115 = .ok (.invokevirtual 144, 3) := by decide +kernel
theorem dX7_told_118 : decode cX7_told 118 = .ok (.ireturn, 1) := by decide +kernel
theorem dX7_told_119 : decode cX7_told 119 = .ok (.aload_n 0, 1) := by decide +kernel
theorem dX7_told_120 : decode cX7_told 120 = .ok (.getfield 27, 3) := by decide +kernel
theorem dX7_told_123 : decode cX7_told 123 = .ok (.getfield 147, 3) := by decide +kernel
theorem dX7_told_126 : decode cX7_told 126 = .ok (.iload_n 1, 1) := by decide +kernel
theorem dX7_told_127 : decode cX7_told 127 = .ok (.iaload, 1) := by decide +kernel
theorem dX7_told_128 : decode cX7_told 128 = .ok (.ireturn, 1) := by decide +kernel
theorem dX7_told_129 : decode cX7_told 129 = .ok (.aload_n 0, 1) := by decide +kernel
theorem dX7_told_130 : decode cX7_told 130 = .ok (.getfield 27, 3) := by decide +kernel
theorem dX7_told_133 : decode cX7_told 133 = .ok (.getfield 129, 3) := by decide +kernel
theorem dX7_told_136 : decode cX7_told 136 = .ok (.iload_n 1, 1) := by decide +kernel
theorem dX7_told_137 : decode cX7_told 137 = .ok (.iaload, 1) := by decide +kernel
theorem dX7_told_138 : decode cX7_told 138 = .ok (.invokestatic 150, 3) := by decide +kernel
theorem dX7_told_141 : decode cX7_told 141 = .ok (.ifCond .eq 7, 3) := by decide +kernel
theorem dX7_told_144 : decode cX7_told 144 = .ok (.iconst 1, 1) := by decide +kernel
theorem dX7_told_145 : decode cX7_told 145 = .ok (.goto 4, 3) := by decide +kernel
theorem dX7_told_148 : decode cX7_told 148 = .ok (.iconst 0, 1) := by decide +kernel
theorem dX7_told_149 : decode cX7_told 149 = .ok (.ireturn, 1) := by decide +kernel
theorem dX7_told_150 : decode cX7_told 150 = .ok (.bipush (-7), 2) := by decide +kernel
theorem dX7_told_152 : decode cX7_told 152 = .ok (.ireturn, 1) := by decide +kernel
theorem dX7_put_0 : decode cX7_put 0 = .ok (.aload_n 0, 1) := by decide +kernel
theorem dX7_put_1 : decode cX7_put 1 = .ok (.getfield 27, 3) := by decide +kernel
theorem dX7_put_4 : decode cX7_put 4 = .ok (.iload_n 1, 1) := by decide +kernel
theorem dX7_put_5 : decode cX7_put 5 = .ok (.invokevirtual 118, 3) := by decide +kernel
theorem dX7_put_8 : decode cX7_put 8 = .ok (.ifCond .ne 6, 3) := by decide +kernel
theorem dX7_put_11 : decode cX7_put 11 = .ok (.bipush (-5), 2) := by decide +kernel
theorem dX7_put_13 : decode cX7_put 13 = .ok (.ireturn, 1) := by decide +kernel
theorem dX7_put_14 : decode cX7_put 14 = .ok (.iload_n 2, 1) := by decide +kernel
theorem dX7_put_15 : decode cX7_put 15 = .ok (.ifCond .ne 45, 3) := by decide +kernel
theorem dX7_put_18 : decode cX7_put 18 = .ok (.iload_n 3, 1) := by decide +kernel
theorem dX7_put_19 : decode cX7_put 19 = .ok (.iconst 1, 1) := by decide +kernel
theorem dX7_put_20 : decode cX7_put 20 = .ok (.if_icmp .lt 40, 3) := by decide +kernel
theorem dX7_put_23 : decode cX7_put 23 = .ok (.iload_n 3, 1) := by decide +kernel
theorem dX7_put_24 : decode cX7_put 24 = .ok (.bipush 60, 2) := by decide +kernel
theorem dX7_put_26 : decode cX7_put 26 = .ok (.if_icmp .gt 34, 3) := by decide +kernel
theorem dX7_put_29 : decode cX7_put 29 = .ok (.aload_n 0, 1) := by decide +kernel
theorem dX7_put_30 : decode cX7_put 30 = .ok (.getfield 27, 3) := by decide +kernel
theorem dX7_put_33 : decode cX7_put 33 = .ok (.getfield 135, 3) := by decide +kernel
theorem dX7_put_36 : decode cX7_put 36 = .ok (.iload_n 1, 1) := by decide +kernel
theorem dX7_put_37 : decode cX7_put 37 = .ok (.iaload, 1) := by decide +kernel
theorem dX7_put_38 : decode cX7_put 38 = .ok (.istore 4, 2) := by decide +kernel
theorem dX7_put_40 : decode cX7_put 40 = .ok (.aload_n 0, 1) := by decide +kernel
theorem dX7_put_41 : decode cX7_put 41 = .ok (.getfield 27, 3) := by decide +kernel
theorem dX7_put_44 : decode cX7_put 44 = .ok (.getfield 135, 3) := by decide +kernel
theorem dX7_put_47 : decode cX7_put 47 = .ok (.iload_n 1, 1) := by decide +kernel
theorem dX7_put_48 : decode cX7_put 48 = .ok (.iload_n 3, 1) := by decide +kernel
theorem dX7_put_49 : decode cX7_put 49 = .ok (.iastore, 1) := by decide +kernel
theorem dX7_put_50 : decode cX7_put 50 = .ok (.aload_n 0, 1) := by decide +kernel
theorem dX7_put_51 : decode cX7_put 51 = .ok (.getfield 27, 3) := by decide +kernel
theorem dX7_put_54 : decode cX7_put 54 = .ok (.invokevirtual 155, 3) := by decide +kernel
theorem dX7_put_57 : decode cX7_put 57 = .ok (.iload 4, 2) := by decide +kernel
theorem dX7_put_59 : decode cX7_put 59 = .ok (.ireturn, 1) := by decide +kernel
theorem dX7_put_60 : decode cX7_put 60 = .ok (.iload_n 2, 1) := by decide +kernel
theorem dX7_put_61 : decode cX7_put 61 = .ok (.iconst 1, 1) := by decide +kernel
theorem dX7_put_62 : decode cX7_put 62 = .ok (.if_icmp .ne 45, 3) := by decide +kernel
theorem dX7_put_65 : decode cX7_put 65 = .ok (.iload_n 3, 1) := by decide +kernel
theorem dX7_put_66 : decode cX7_put 66 = .ok (.iconst (-1), 1) := by decide +kernel
theorem dX7_put_67 : decode cX7_put 67 = .ok (.if_icmp .lt 40, 3) := by decide +kernel
theorem dX7_put_70 : decode cX7_put 70 = .ok (.iload_n 3, 1) := by decide +kernel
theorem dX7_put_71 : decode cX7_put 71 = .ok (.bipush 12, 2) := by decide +kernel
theorem dX7_put_73 : decode cX7_put 73 = .ok (.if_icmp .ge 34, 3) := by decide +kernel
theorem dX7_put_76 : decode cX7_put 76 = .ok (.aload_n 0, 1) := by decide +kernel
theorem dX7_put_77 : decode cX7_put 77 = .ok (.getfield 27, 3) := by decide +kernel
theorem dX7_put_80 : decode cX7_put 80 = .ok (.getfield 138, 3) := by decide +kernel
theorem dX7_put_83 : decode cX7_put 83 = .ok (.iload_n 1, 1) := by decide +kernel
theorem dX7_put_84 : decode cX7_put 84 = .ok (.iaload, 1) := by decide +kernel
theorem dX7_put_85 : decode cX7_put 85 = .ok (.istore 4, 2) := by decide +kernel
theorem dX7_put_87 : decode cX7_put 87 = .ok (.aload_n 0, 1) := by decide +kernel
theorem dX7_put_88 : decode cX7_put 88 = .ok (.getfield 27, 3) := by decide +kernel
theorem dX7_put_91 : decode cX7_put 91 = .ok (.getfield 138, 3) := by decide +kernel
theorem dX7_put_94 : decode cX7_put 94 = .ok (.iload_n 1, 1) := by decide +kernel
theorem dX7_put_95 : decode cX7_put 95 = .ok (.iload_n 3, 1) := by decide +kernel
theorem dX7_put_96 : decode cX7_put 96 = .ok (.iastore, 1) := by decide +kernel
theorem dX7_put_97 : decode cX7_put 97 = .ok (.aload_n 0, 1) := by decide +kernel
theorem dX7_put_98 : decode cX7_put 98 = .ok (.getfield 27, 3) := by decide +kernel
theorem dX7_put_101 : decode cX7_put 101 = .ok (.invokevirtual 155, 3) := by decide +kernel
theorem dX7_put_104 : decode cX7_put 104 = .ok (.iload 4, 2) := by decide +kernel
theorem dX7_put_106 : decode cX7_put 106 = .ok (.ireturn, 1) := by decide +kernel
theorem dX7_put_107 : decode cX7_put 107 = .ok (.bipush (-7), 2) := by decide +kernel
theorem dX7_put_109 : decode cX7_put 109 = .ok (.ireturn, 1) := by decide +kernel
theorem dX7_live_0 : decode cX7_live 0 = .ok (.aload_n 0, 1) := by decide +kernel
theorem dX7_live_1 : decode cX7_live 1 = .ok (.getfield 27, 3) := by decide +kernel
theorem dX7_live_4 : decode cX7_live 4 = .ok (.getfield 64, 3) := by decide +kernel
theorem dX7_live_7 : decode cX7_live 7 = .ok (.sipush 999, 3) := by decide +kernel
theorem dX7_live_10 : decode cX7_live 10 = .ok (.if_icmp .lt 6, 3) := by decide +kernel
theorem dX7_live_13 : decode cX7_live 13 = .ok (.bipush (-4), 2) := by decide +kernel
theorem dX7_live_15 : decode cX7_live 15 = .ok (.ireturn, 1) := by decide +kernel
theorem dX7_live_16 : decode cX7_live 16 = .ok (.aload_n 0, 1) := by decide +kernel
theorem dX7_live_17 : decode cX7_live 17 = .ok (.getfield 27, 3) := by decide +kernel
theorem dX7_live_20 : decode cX7_live 20 = .ok (.invokevirtual 158, 3) := by decide +kernel
theorem dX7_live_23 : decode cX7_live 23 = .ok (.aload_n 0, 1) := by decide +kernel
theorem dX7_live_24 : decode cX7_live 24 = .ok (.getfield 27, 3) := by decide +kernel
theorem dX7_live_27 : decode cX7_live 27 = .ok (.getfield 161, 3) := by decide +kernel
theorem dX7_live_30 : decode cX7_live 30 = .ok (.ireturn, 1) := by decide +kernel
theorem dX7_now_0 : decode cX7_now 0 = .ok (.iload_n 1, 1) := by decide +kernel
theorem dX7_now_1 : decode cX7_now 1 = .ok (.tableswitch 58 0 2 #[27, 42, 50], 27) := by decide +kernel
theorem dX7_now_28 : decode cX7_now 28 = .ok (.aload_n 0, 1) := by decide +kernel
theorem dX7_now_29 : decode cX7_now 29 = .ok (.getfield 27, 3) := by decide +kernel
theorem dX7_now_32 : decode cX7_now 32 = .ok (.aload_n 0, 1) := by decide +kernel
theorem dX7_now_33 : decode cX7_now 33 = .ok (.getfield 27, 3) := by decide +kernel
theorem dX7_now_36 : decode cX7_now 36 = .ok (.invokevirtual 164, 3) := by decide +kernel
theorem dX7_now_39 : decode cX7_now 39 = .ok (.invokevirtual 167, 3) := by decide +kernel
theorem dX7_now_42 : decode cX7_now 42 = .ok (.ireturn, 1) := by decide +kernel
theorem dX7_now_43 : decode cX7_now 43 = .ok (.aload_n 0, 1) := by decide +kernel
theorem dX7_now_44 : decode cX7_now 44 = .ok (.getfield 27, 3) := by decide +kernel
theorem dX7_now_47 : decode cX7_now 47 = .ok (.getfield 161, 3) := by decide +kernel
theorem dX7_now_50 : decode cX7_now 50 = .ok (.ireturn, 1) := by decide +kernel
theorem dX7_now_51 : decode cX7_now 51 = .ok (.aload_n 0, 1) := by decide +kernel
theorem dX7_now_52 : decode cX7_now 52 = .ok (.getfield 27, 3) := by decide +kernel
theorem dX7_now_55 : decode cX7_now 55 = .ok (.invokevirtual 164, 3) := by decide +kernel
theorem dX7_now_58 : decode cX7_now 58 = .ok (.ireturn, 1) := by decide +kernel
theorem dX7_now_59 : decode cX7_now 59 = .ok (.bipush (-2), 2) := by decide +kernel
theorem dX7_now_61 : decode cX7_now 61 = .ok (.ireturn, 1) := by decide +kernel
theorem dX7_deed_0 : decode cX7_deed 0 = .ok (.iload_n 1, 1) := by decide +kernel
theorem dX7_deed_1 : decode cX7_deed 1 = .ok (.iconst 1, 1) := by decide +kernel
theorem dX7_deed_2 : decode cX7_deed 2 = .ok (.if_icmp .lt 14, 3) := by decide +kernel
theorem dX7_deed_5 : decode cX7_deed 5 = .ok (.iload_n 1, 1) := by decide +kernel
theorem dX7_deed_6 : decode cX7_deed 6 = .ok (.aload_n 0, 1) := by decide +kernel
theorem dX7_deed_7 : decode cX7_deed 7 = .ok (.getfield 27, 3) := by decide +kernel
theorem dX7_deed_10 : decode cX7_deed 10 = .ok (.invokevirtual 96, 3) := by decide +kernel
theorem dX7_deed_13 : decode cX7_deed 13 = .ok (.if_icmp .le 6, 3) := by decide +kernel
theorem dX7_deed_16 : decode cX7_deed 16 = .ok (.bipush (-2), 2) := by decide +kernel
theorem dX7_deed_18 : decode cX7_deed 18 = .ok (.ireturn, 1) := by decide +kernel
theorem dX7_deed_19 : decode cX7_deed 19 = .ok (.aload_n 0, 1) := by decide +kernel
theorem dX7_deed_20 : decode cX7_deed 20 = .ok (.getfield 27, 3) := by decide +kernel
theorem dX7_deed_23 : decode cX7_deed 23 = .ok (.iload_n 1, 1) := by decide +kernel
theorem dX7_deed_24 : decode cX7_deed 24 = .ok (.invokevirtual 170, 3) := by decide +kernel
theorem dX7_deed_27 : decode cX7_deed 27 = .ok (.ifCond .eq 15, 3) := by decide +kernel
theorem dX7_deed_30 : decode cX7_deed 30 = .ok (.aload_n 0, 1) := by decide +kernel
theorem dX7_deed_31 : decode cX7_deed 31 = .ok (.getfield 27, 3) := by decide +kernel
theorem dX7_deed_34 : decode cX7_deed 34 = .ok (.getfield 58, 3) := by decide +kernel
theorem dX7_deed_37 : decode cX7_deed 37 = .ok (.iconst 1, 1) := by decide +kernel
theorem dX7_deed_38 : decode cX7_deed 38 = .ok (.isub, 1) := by decide +kernel
theorem dX7_deed_39 : decode cX7_deed 39 = .ok (.goto 5, 3) := by decide +kernel
theorem dX7_deed_42 : decode cX7_deed 42 = .ok (.bipush (-4), 2) := by decide +kernel
theorem dX7_deed_44 : decode cX7_deed 44 = .ok (.ireturn, 1) := by decide +kernel
theorem dX7_needs_0 : decode cX7_needs 0 = .ok (.aload_n 0, 1) := by decide +kernel
theorem dX7_needs_1 : decode cX7_needs 1 = .ok (.getfield 27, 3) := by decide +kernel
theorem dX7_needs_4 : decode cX7_needs 4 = .ok (.iload_n 1, 1) := by decide +kernel
theorem dX7_needs_5 : decode cX7_needs 5 = .ok (.invokevirtual 173, 3) := by decide +kernel
theorem dX7_needs_8 : decode cX7_needs 8 = .ok (.ifCond .eq 15, 3) := by decide +kernel
theorem dX7_needs_11 : decode cX7_needs 11 = .ok (.aload_n 0, 1) := by decide +kernel
theorem dX7_needs_12 : decode cX7_needs 12 = .ok (.getfield 27, 3) := by decide +kernel
theorem dX7_needs_15 : decode cX7_needs 15 = .ok (.getfield 176, 3) := by decide +kernel
theorem dX7_needs_18 : decode cX7_needs 18 = .ok (.iload_n 1, 1) := by decide +kernel
theorem dX7_needs_19 : decode cX7_needs 19 = .ok (.iaload, 1) := by decide +kernel
theorem dX7_needs_20 : decode cX7_needs 20 = .ok (.goto 5, 3) := by decide +kernel
theorem dX7_needs_23 : decode cX7_needs 23 = .ok (.bipush (-5), 2) := by decide +kernel
theorem dX7_needs_25 : decode cX7_needs 25 = .ok (.ireturn, 1) := by decide +kernel
theorem dX7_done_0 : decode cX7_done 0 = .ok (.iload_n 1, 1) := by decide +kernel
theorem dX7_done_1 : decode cX7_done 1 = .ok (.invokestatic 179, 3) := by decide +kernel
theorem dX7_done_4 : decode cX7_done 4 = .ok (.ifCond .ne 6, 3) := by decide +kernel
theorem dX7_done_7 : decode cX7_done 7 = .ok (.bipush (-2), 2) := by decide +kernel
theorem dX7_done_9 : decode cX7_done 9 = .ok (.ireturn, 1) := by decide +kernel
theorem dX7_done_10 : decode cX7_done 10 = .ok (.aload_n 0, 1) := by decide +kernel
theorem dX7_done_11 : decode cX7_done 11 = .ok (.getfield 27, 3) := by decide +kernel
theorem dX7_done_14 : decode cX7_done 14 = .ok (.aload_n 0, 1) := by decide +kernel
theorem dX7_done_15 : decode cX7_done 15 = .ok (.getfield 27, 3) := by decide +kernel
theorem dX7_done_18 : decode cX7_done 18 = .ok (.aload_n 0, 1) := by decide +kernel
theorem dX7_done_19 : decode cX7_done 19 = .ok (.getfield 27, 3) := by decide +kernel
theorem dX7_done_22 : decode cX7_done 22 = .ok (.invokevirtual 164, 3) := by decide +kernel
theorem dX7_done_25 : decode cX7_done 25 = .ok (.invokevirtual 167, 3) := by decide +kernel
theorem dX7_done_28 : decode cX7_done 28 = .ok (.invokevirtual 182, 3) := by decide +kernel
theorem dX7_done_31 : decode cX7_done 31 = .ok (.istore_n 2, 1) := by decide +kernel
theorem dX7_done_32 : decode cX7_done 32 = .ok (.iload_n 1, 1) := by decide +kernel
theorem dX7_done_33 : decode cX7_done 33 = .ok (.ifCond .ne 7, 3) := by decide +kernel
theorem dX7_done_36 : decode cX7_done 36 = .ok (.iload_n 2, 1) := by decide +kernel
theorem dX7_done_37 : decode cX7_done 37 = .ok (.goto 11, 3) := by decide +kernel
theorem dX7_done_40 : decode cX7_done 40 = .ok (.aload_n 0, 1) := by decide +kernel
theorem dX7_done_41 : decode cX7_done 41 = .ok (.getfield 27, 3) := by decide +kernel
theorem dX7_done_44 : decode cX7_done 44 = .ok (.iload_n 2, 1) := by decide +kernel
theorem dX7_done_45 : decode cX7_done 45 = .ok (.invokevirtual 185, 3) := by decide +kernel
theorem dX7_done_48 : decode cX7_done 48 = .ok (.ireturn, 1) := by decide +kernel
theorem dX7_run_0 : decode cX7_run 0 = .ok (.iload_n 1, 1) := by decide +kernel
theorem dX7_run_1 : decode cX7_run 1 = .ok (.invokestatic 188, 3) := by decide +kernel
theorem dX7_run_4 : decode cX7_run 4 = .ok (.ifCond .eq 12, 3) := by decide +kernel
theorem dX7_run_7 : decode cX7_run 7 = .ok (.iload_n 2, 1) := by decide +kernel
theorem dX7_run_8 : decode cX7_run 8 = .ok (.ifCond .lt 8, 3) := by decide +kernel
theorem dX7_run_11 : decode cX7_run 11 = .ok (.iload_n 2, 1) := by decide +kernel
theorem dX7_run_12 : decode cX7_run 12 = .ok (.iconst 4, 1) := by decide +kernel
theorem dX7_run_13 : decode cX7_run 13 = .ok (.if_icmp .le 6, 3) := by decide +kernel
theorem dX7_run_16 : decode cX7_run 16 = .ok (.bipush (-2), 2) := by decide +kernel
theorem dX7_run_18 : decode cX7_run 18 = .ok (.ireturn, 1) := by decide +kernel
theorem dX7_run_19 : decode cX7_run 19 = .ok (.aload_n 0, 1) := by decide +kernel
theorem dX7_run_20 : decode cX7_run 20 = .ok (.iconst 0, 1) := by decide +kernel
theorem dX7_run_21 : decode cX7_run 21 = .ok (.iconst 0, 1) := by decide +kernel
theorem dX7_run_22 : decode cX7_run 22 = .ok (.iconst 0, 1) := by decide +kernel
theorem dX7_run_23 : decode cX7_run 23 = .ok (.invokevirtual 191, 3) := by decide +kernel
theorem dX7_run_26 : decode cX7_run 26 = .ok (.aload_n 0, 1) := by decide +kernel
theorem dX7_run_27 : decode cX7_run 27 = .ok (.iload_n 1, 1) := by decide +kernel
theorem dX7_run_28 : decode cX7_run 28 = .ok (.iload_n 2, 1) := by decide +kernel
theorem dX7_run_29 : decode cX7_run 29 = .ok (.iconst 0, 1) := by decide +kernel
theorem dX7_run_30 : decode cX7_run 30 = .ok (.iconst 0, 1) := by decide +kernel
theorem dX7_run_31 : decode cX7_run 31 = .ok (.invokevirtual 195, 3) := by decide +kernel
theorem dX7_run_34 : decode cX7_run 34 = .ok (.ireturn, 1) := by decide +kernel
theorem dX7_when_0 : decode cX7_when 0 = .ok (.iload_n 1, 1) := by decide +kernel
theorem dX7_when_1 : decode cX7_when 1 = .ok (.ifCond .ne 14, 3) := by decide +kernel
theorem dX7_when_4 : decode cX7_when 4 = .ok (.aload_n 0, 1) := by decide +kernel
theorem dX7_when_5 : decode cX7_when 5 = .ok (.getfield 27, 3) := by decide +kernel
theorem dX7_when_8 : decode cX7_when 8 = .ok (.iload_n 2, 1) := by decide +kernel
theorem dX7_when_9 : decode cX7_when 9 = .ok (.invokevirtual 118, 3) := by decide +kernel
theorem dX7_when_12 : decode cX7_when 12 = .ok (.goto 24, 3) := by decide +kernel
theorem dX7_when_15 : decode cX7_when 15 = .ok (.iload_n 1, 1) := by decide +kernel
theorem dX7_when_16 : decode cX7_when 16 = .ok (.iconst 1, 1) := by decide +kernel
theorem dX7_when_17 : decode cX7_when 17 = .ok (.if_icmp .ne 18, 3) := by decide +kernel
theorem dX7_when_20 : decode cX7_when 20 = .ok (.aload_n 0, 1) := by decide +kernel
theorem dX7_when_21 : decode cX7_when 21 = .ok (.getfield 27, 3) := by decide +kernel
theorem dX7_when_24 : decode cX7_when 24 = .ok (.iload_n 2, 1) := by decide +kernel
theorem dX7_when_25 : decode cX7_when 25 = .ok (.invokevirtual 173, 3) := by decide +kernel
theorem dX7_when_28 : decode cX7_when 28 = .ok (.ifCond .eq 7, 3) := by decide +kernel
theorem dX7_when_31 : decode cX7_when 31 = .ok (.iconst 1, 1) := by decide +kernel
theorem dX7_when_32 : decode cX7_when 32 = .ok (.goto 4, 3) := by decide +kernel
theorem dX7_when_35 : decode cX7_when 35 = .ok (.iconst 0, 1) := by decide +kernel
theorem dX7_when_36 : decode cX7_when 36 = .ok (.istore 4, 2) := by decide +kernel
theorem dX7_when_38 : decode cX7_when 38 = .ok (.iload 4, 2) := by decide +kernel
theorem dX7_when_40 : decode cX7_when 40 = .ok (.ifCond .ne 6, 3) := by decide +kernel
theorem dX7_when_43 : decode cX7_when 43 = .ok (.bipush (-5), 2) := by decide +kernel
theorem dX7_when_45 : decode cX7_when 45 = .ok (.ireturn, 1) := by decide +kernel
theorem dX7_when_46 : decode cX7_when 46 = .ok (.iload_n 3, 1) := by decide +kernel
theorem dX7_when_47 : decode cX7_when 47 = .ok (.invokestatic 188, 3) := by decide +kernel
theorem dX7_when_50 : decode cX7_when 50 = .ok (.ifCond .ne 6, 3) := by decide +kernel
theorem dX7_when_53 : decode cX7_when 53 = .ok (.bipush (-7), 2) := by decide +kernel
theorem dX7_when_55 : decode cX7_when 55 = .ok (.ireturn, 1) := by decide +kernel
theorem dX7_when_56 : decode cX7_when 56 = .ok (.aload_n 0, 1) := by decide +kernel
theorem dX7_when_57 : decode cX7_when 57 = .ok (.iconst 0, 1) := by decide +kernel
theorem dX7_when_58 : decode cX7_when 58 = .ok (.iconst 0, 1) := by decide +kernel
theorem dX7_when_59 : decode cX7_when 59 = .ok (.iconst 0, 1) := by decide +kernel
theorem dX7_when_60 : decode cX7_when 60 = .ok (.invokevirtual 191, 3) := by decide +kernel
theorem dX7_when_63 : decode cX7_when 63 = .ok (.iconst 0, 1) := by decide +kernel
theorem dX7_when_64 : decode cX7_when 64 = .ok (.istore 5, 2) := by decide +kernel
theorem dX7_when_66 : decode cX7_when 66 = .ok (.iload 5, 2) := by decide +kernel
theorem dX7_when_68 : decode cX7_when 68 = .ok (.iload_n 3, 1) := by decide +kernel
theorem dX7_when_69 : decode cX7_when 69 = .ok (.if_icmp .ge 65, 3) := by decide +kernel
theorem dX7_when_72 : decode cX7_when 72 = .ok (.aload_n 0, 1) := by decide +kernel
theorem dX7_when_73 : decode cX7_when 73 = .ok (.getfield 34, 3) := by decide +kernel
theorem dX7_when_76 : decode cX7_when 76 = .ok (.invokevirtual 158, 3) := by decide +kernel
theorem dX7_when_79 : decode cX7_when 79 = .ok (.aload_n 0, 1) := by decide +kernel
theorem dX7_when_80 : decode cX7_when 80 = .ok (.getfield 34, 3) := by decide +kernel
theorem dX7_when_83 : decode cX7_when 83 = .ok (.aload_n 0, 1) := by decide +kernel
theorem dX7_when_84 : decode cX7_when 84 = .ok (.getfield 34, 3) := by decide +kernel
theorem dX7_when_87 : decode cX7_when 87 = .ok (.invokevirtual 164, 3) := by decide +kernel
theorem dX7_when_90 : decode cX7_when 90 = .ok (.invokevirtual 167, 3) := by decide +kernel
theorem dX7_when_93 : decode cX7_when 93 = .ok (.istore 6, 2) := by decide +kernel
theorem dX7_when_95 : decode cX7_when 95 = .ok (.iload_n 1, 1) := by decide +kernel
theorem dX7_when_96 : decode cX7_when 96 = .ok (.ifCond .ne 8, 3) := by decide +kernel
theorem dX7_when_99 : decode cX7_when 99 = .ok (.iload 6, 2) := by decide +kernel
theorem dX7_when_101 : decode cX7_when 101 = .ok (.goto 12, 3) := by decide +kernel
theorem dX7_when_104 : decode cX7_when 104 = .ok (.aload_n 0, 1) := by decide +kernel
theorem dX7_when_105 : decode cX7_when 105 = .ok (.getfield 34, 3) := by decide +kernel
theorem dX7_when_108 : decode cX7_when 108 = .ok (.iload 6, 2) := by decide +kernel
theorem dX7_when_110 : decode cX7_when 110 = .ok (.invokevirtual 182, 3) := by decide +kernel
theorem dX7_when_113 : decode cX7_when 113 = .ok (.istore 7, 2) := by decide +kernel
theorem dX7_when_115 : decode cX7_when 115 = .ok (.iload 7, 2) := by decide +kernel
theorem dX7_when_117 : decode cX7_when 117 = .ok (.iload_n 2, 1) := by decide +kernel
theorem dX7_when_118 : decode cX7_when 118 = .ok (.ishr, 1) := by decide +kernel
theorem dX7_when_119 : decode cX7_when 119 = .ok (.iconst 1, 1) := by decide +kernel
theorem dX7_when_120 : decode cX7_when 120 = .ok (.iand, 1) := by decide +kernel
theorem dX7_when_121 : decode cX7_when 121 = .ok (.iconst 1, 1) := by decide +kernel
theorem dX7_when_122 : decode cX7_when 122 = .ok (.if_icmp .ne 6, 3) := by decide +kernel
theorem dX7_when_125 : decode cX7_when 125 = .ok (.iload 5, 2) := by decide +kernel
theorem dX7_when_127 : decode cX7_when 127 = .ok (.ireturn, 1) := by decide +kernel
theorem dX7_when_128 : decode cX7_when 128 = .ok (.iinc 5 1, 3) := by decide +kernel
theorem dX7_when_131 : decode cX7_when 131 = .ok (.goto (-65), 3) := by decide +kernel
theorem dX7_when_134 : decode cX7_when 134 = .ok (.iconst (-1), 1) := by decide +kernel
theorem dX7_when_135 : decode cX7_when 135 = .ok (.ireturn, 1) := by decide +kernel
theorem dX7_begin_0 : decode cX7_begin 0 = .ok (.iload_n 1, 1) := by decide +kernel
theorem dX7_begin_1 : decode cX7_begin 1 = .ok (.invokestatic 188, 3) := by decide +kernel
theorem dX7_begin_4 : decode cX7_begin 4 = .ok (.ifCond .eq 10, 3) := by decide +kernel
theorem dX7_begin_7 : decode cX7_begin 7 = .ok (.iload_n 2, 1) := by decide +kernel
theorem dX7_begin_8 : decode cX7_begin 8 = .ok (.invokestatic 179, 3) := by decide +kernel
theorem dX7_begin_11 : decode cX7_begin 11 = .ok (.ifCond .ne 6, 3) := by decide +kernel
theorem dX7_begin_14 : decode cX7_begin 14 = .ok (.bipush (-2), 2) := by decide +kernel
theorem dX7_begin_16 : decode cX7_begin 16 = .ok (.ireturn, 1) := by decide +kernel
theorem dX7_begin_17 : decode cX7_begin 17 = .ok (.aload_n 0, 1) := by decide +kernel
theorem dX7_begin_18 : decode cX7_begin 18 = .ok (.iconst 1, 1) := by decide +kernel
theorem dX7_begin_19 : decode cX7_begin 19 = .ok (.iconst 0, 1) := by decide +kernel
theorem dX7_begin_20 : decode cX7_begin 20 = .ok (.iconst 0, 1) := by decide +kernel
theorem dX7_begin_21 : decode cX7_begin 21 = .ok (.iload_n 1, 1) := by decide +kernel
theorem dX7_begin_22 : decode cX7_begin 22 = .ok (.iconst 1, 1) := by decide +kernel
theorem dX7_begin_23 : decode cX7_begin 23 = .ok (.iconst (-1), 1) := by decide +kernel
theorem dX7_begin_24 : decode cX7_begin 24 = .ok (.invokevirtual 198, 3) := by decide +kernel
theorem dX7_begin_27 : decode cX7_begin 27 = .ok (.istore_n 3, 1) := by decide +kernel
theorem dX7_begin_28 : decode cX7_begin 28 = .ok (.iload_n 2, 1) := by decide +kernel
theorem dX7_begin_29 : decode cX7_begin 29 = .ok (.ifCond .ne 5, 3) := by decide +kernel
theorem dX7_begin_32 : decode cX7_begin 32 = .ok (.iload_n 3, 1) := by decide +kernel
theorem dX7_begin_33 : decode cX7_begin 33 = .ok (.ireturn, 1) := by decide +kernel
theorem dX7_begin_34 : decode cX7_begin 34 = .ok (.iload_n 3, 1) := by decide +kernel
theorem dX7_begin_35 : decode cX7_begin 35 = .ok (.ifCond .ge 7, 3) := by decide +kernel
theorem dX7_begin_38 : decode cX7_begin 38 = .ok (.iconst 0, 1) := by decide +kernel
theorem dX7_begin_39 : decode cX7_begin 39 = .ok (.goto 11, 3) := by decide +kernel
theorem dX7_begin_42 : decode cX7_begin 42 = .ok (.aload_n 0, 1) := by decide +kernel
theorem dX7_begin_43 : decode cX7_begin 43 = .ok (.iconst 1, 1) := by decide +kernel
theorem dX7_begin_44 : decode cX7_begin 44 = .ok (.iconst 0, 1) := by decide +kernel
theorem dX7_begin_45 : decode cX7_begin 45 = .ok (.iload_n 3, 1) := by decide +kernel
theorem dX7_begin_46 : decode cX7_begin 46 = .ok (.iload_n 1, 1) := by decide +kernel
theorem dX7_begin_47 : decode cX7_begin 47 = .ok (.invokevirtual 202, 3) := by decide +kernel
theorem dX7_begin_50 : decode cX7_begin 50 = .ok (.ireturn, 1) := by decide +kernel
theorem dX7_lobby_0 : decode cX7_lobby 0 = .ok (.iload_n 1, 1) := by decide +kernel
theorem dX7_lobby_1 : decode cX7_lobby 1 = .ok (.invokestatic 188, 3) := by decide +kernel
theorem dX7_lobby_4 : decode cX7_lobby 4 = .ok (.ifCond .eq 10, 3) := by decide +kernel
theorem dX7_lobby_7 : decode cX7_lobby 7 = .ok (.iload_n 2, 1) := by decide +kernel
theorem dX7_lobby_8 : decode cX7_lobby 8 = .ok (.invokestatic 179, 3) := by decide +kernel
theorem dX7_lobby_11 : decode cX7_lobby 11 = .ok (.ifCond .ne 6, 3) := by decide +kernel
theorem dX7_lobby_14 : decode cX7_lobby 14 = .ok (.bipush (-2), 2) := by decide +kernel
theorem dX7_lobby_16 : decode cX7_lobby 16 = .ok (.ireturn, 1) := by decide +kernel
theorem dX7_lobby_17 : decode cX7_lobby 17 = .ok (.aload_n 0, 1) := by decide +kernel
theorem dX7_lobby_18 : decode cX7_lobby 18 = .ok (.iconst 0, 1) := by decide +kernel
theorem dX7_lobby_19 : decode cX7_lobby 19 = .ok (.iconst 0, 1) := by decide +kernel
theorem dX7_lobby_20 : decode cX7_lobby 20 = .ok (.iconst 0, 1) := by decide +kernel
theorem dX7_lobby_21 : decode cX7_lobby 21 = .ok (.iload_n 1, 1) := by decide +kernel
theorem dX7_lobby_22 : decode cX7_lobby 22 = .ok (.invokevirtual 202, 3) := by decide +kernel
theorem dX7_lobby_25 : decode cX7_lobby 25 = .ok (.istore_n 3, 1) := by decide +kernel
theorem dX7_lobby_26 : decode cX7_lobby 26 = .ok (.aload_n 0, 1) := by decide +kernel
theorem dX7_lobby_27 : decode cX7_lobby 27 = .ok (.iconst 2, 1) := by decide +kernel
theorem dX7_lobby_28 : decode cX7_lobby 28 = .ok (.iconst 0, 1) := by decide +kernel
theorem dX7_lobby_29 : decode cX7_lobby 29 = .ok (.iconst 0, 1) := by decide +kernel
theorem dX7_lobby_30 : decode cX7_lobby 30 = .ok (.iload_n 1, 1) := by decide +kernel
theorem dX7_lobby_31 : decode cX7_lobby 31 = .ok (.iconst 1, 1) := by decide +kernel
theorem dX7_lobby_32 : decode cX7_lobby 32 = .ok (.iload_n 3, 1) := by decide +kernel
theorem dX7_lobby_33 : decode cX7_lobby 33 = .ok (.invokevirtual 198, 3) := by decide +kernel
theorem dX7_lobby_36 : decode cX7_lobby 36 = .ok (.istore 4, 2) := by decide +kernel
theorem dX7_lobby_38 : decode cX7_lobby 38 = .ok (.iload_n 2, 1) := by decide +kernel
theorem dX7_lobby_39 : decode cX7_lobby 39 = .ok (.ifCond .ne 6, 3) := by decide +kernel
theorem dX7_lobby_42 : decode cX7_lobby 42 = .ok (.iload 4, 2) := by decide +kernel
theorem dX7_lobby_44 : decode cX7_lobby 44 = .ok (.ireturn, 1) := by decide +kernel
theorem dX7_lobby_45 : decode cX7_lobby 45 = .ok (.iload 4, 2) := by decide +kernel
theorem dX7_lobby_47 : decode cX7_lobby 47 = .ok (.ifCond .ge 7, 3) := by decide +kernel
theorem dX7_lobby_50 : decode cX7_lobby 50 = .ok (.iload_n 3, 1) := by decide +kernel
theorem dX7_lobby_51 : decode cX7_lobby 51 = .ok (.goto 12, 3) := by decide +kernel
theorem dX7_lobby_54 : decode cX7_lobby 54 = .ok (.aload_n 0, 1) := by decide +kernel
theorem dX7_lobby_55 : decode cX7_lobby 55 = .ok (.iconst 2, 1) := by decide +kernel
theorem dX7_lobby_56 : decode cX7_lobby 56 = .ok (.iconst 0, 1) := by decide +kernel
theorem dX7_lobby_57 : decode cX7_lobby 57 = .ok (.iload 4, 2) := by decide +kernel
theorem dX7_lobby_59 : decode cX7_lobby 59 = .ok (.iload_n 1, 1) := by decide +kernel
theorem dX7_lobby_60 : decode cX7_lobby 60 = .ok (.invokevirtual 202, 3) := by decide +kernel
theorem dX7_lobby_63 : decode cX7_lobby 63 = .ok (.ireturn, 1) := by decide +kernel
theorem dX7_soup_0 : decode cX7_soup 0 = .ok (.iload_n 1, 1) := by decide +kernel
theorem dX7_soup_1 : decode cX7_soup 1 = .ok (.invokestatic 188, 3) := by decide +kernel
theorem dX7_soup_4 : decode cX7_soup 4 = .ok (.ifCond .eq 10, 3) := by decide +kernel
theorem dX7_soup_7 : decode cX7_soup 7 = .ok (.iload_n 2, 1) := by decide +kernel
theorem dX7_soup_8 : decode cX7_soup 8 = .ok (.invokestatic 179, 3) := by decide +kernel
theorem dX7_soup_11 : decode cX7_soup 11 = .ok (.ifCond .ne 6, 3) := by decide +kernel
theorem dX7_soup_14 : decode cX7_soup 14 = .ok (.bipush (-2), 2) := by decide +kernel
theorem dX7_soup_16 : decode cX7_soup 16 = .ok (.ireturn, 1) := by decide +kernel
theorem dX7_soup_17 : decode cX7_soup 17 = .ok (.aload_n 0, 1) := by decide +kernel
theorem dX7_soup_18 : decode cX7_soup 18 = .ok (.iconst 0, 1) := by decide +kernel
theorem dX7_soup_19 : decode cX7_soup 19 = .ok (.iconst 0, 1) := by decide +kernel
theorem dX7_soup_20 : decode cX7_soup 20 = .ok (.iconst 0, 1) := by decide +kernel
theorem dX7_soup_21 : decode cX7_soup 21 = .ok (.iload_n 1, 1) := by decide +kernel
theorem dX7_soup_22 : decode cX7_soup 22 = .ok (.invokevirtual 202, 3) := by decide +kernel
theorem dX7_soup_25 : decode cX7_soup 25 = .ok (.istore_n 3, 1) := by decide +kernel
theorem dX7_soup_26 : decode cX7_soup 26 = .ok (.aload_n 0, 1) := by decide +kernel
theorem dX7_soup_27 : decode cX7_soup 27 = .ok (.iconst 3, 1) := by decide +kernel
theorem dX7_soup_28 : decode cX7_soup 28 = .ok (.iconst 0, 1) := by decide +kernel
theorem dX7_soup_29 : decode cX7_soup 29 = .ok (.iconst 0, 1) := by decide +kernel
theorem dX7_soup_30 : decode cX7_soup 30 = .ok (.iload_n 1, 1) := by decide +kernel
theorem dX7_soup_31 : decode cX7_soup 31 = .ok (.iconst (-1), 1) := by decide +kernel
theorem dX7_soup_32 : decode cX7_soup 32 = .ok (.iload_n 3, 1) := by decide +kernel
theorem dX7_soup_33 : decode cX7_soup 33 = .ok (.invokevirtual 198, 3) := by decide +kernel
theorem dX7_soup_36 : decode cX7_soup 36 = .ok (.istore 4, 2) := by decide +kernel
theorem dX7_soup_38 : decode cX7_soup 38 = .ok (.iload_n 2, 1) := by decide +kernel
theorem dX7_soup_39 : decode cX7_soup 39 = .ok (.ifCond .ne 6, 3) := by decide +kernel
theorem dX7_soup_42 : decode cX7_soup 42 = .ok (.iload 4, 2) := by decide +kernel
theorem dX7_soup_44 : decode cX7_soup 44 = .ok (.ireturn, 1) := by decide +kernel
theorem dX7_soup_45 : decode cX7_soup 45 = .ok (.iload 4, 2) := by decide +kernel
theorem dX7_soup_47 : decode cX7_soup 47 = .ok (.ifCond .ge 7, 3) := by decide +kernel
theorem dX7_soup_50 : decode cX7_soup 50 = .ok (.iload_n 3, 1) := by decide +kernel
theorem dX7_soup_51 : decode cX7_soup 51 = .ok (.goto 12, 3) := by decide +kernel
theorem dX7_soup_54 : decode cX7_soup 54 = .ok (.aload_n 0, 1) := by decide +kernel
theorem dX7_soup_55 : decode cX7_soup 55 = .ok (.iconst 3, 1) := by decide +kernel
theorem dX7_soup_56 : decode cX7_soup 56 = .ok (.iconst 0, 1) := by decide +kernel
theorem dX7_soup_57 : decode cX7_soup 57 = .ok (.iload 4, 2) := by decide +kernel
theorem dX7_soup_59 : decode cX7_soup 59 = .ok (.iload_n 1, 1) := by decide +kernel
theorem dX7_soup_60 : decode cX7_soup 60 = .ok (.invokevirtual 202, 3) := by decide +kernel
theorem dX7_soup_63 : decode cX7_soup 63 = .ok (.ireturn, 1) := by decide +kernel
theorem dX7_road_0 : decode cX7_road 0 = .ok (.aload_n 0, 1) := by decide +kernel
theorem dX7_road_1 : decode cX7_road 1 = .ok (.getfield 27, 3) := by decide +kernel
theorem dX7_road_4 : decode cX7_road 4 = .ok (.iload_n 1, 1) := by decide +kernel
theorem dX7_road_5 : decode cX7_road 5 = .ok (.invokevirtual 118, 3) := by decide +kernel
theorem dX7_road_8 : decode cX7_road 8 = .ok (.ifCond .ne 6, 3) := by decide +kernel
theorem dX7_road_11 : decode cX7_road 11 = .ok (.bipush (-5), 2) := by decide +kernel
theorem dX7_road_13 : decode cX7_road 13 = .ok (.ireturn, 1) := by decide +kernel
theorem dX7_road_14 : decode cX7_road 14 = .ok (.iload_n 2, 1) := by decide +kernel
theorem dX7_road_15 : decode cX7_road 15 = .ok (.invokestatic 188, 3) := by decide +kernel
theorem dX7_road_18 : decode cX7_road 18 = .ok (.ifCond .eq 10, 3) := by decide +kernel
theorem dX7_road_21 : decode cX7_road 21 = .ok (.iload_n 3, 1) := by decide +kernel
theorem dX7_road_22 : decode cX7_road 22 = .ok (.invokestatic 179, 3) := by decide +kernel
theorem dX7_road_25 : decode cX7_road 25 = .ok (.ifCond .ne 6, 3) := by decide +kernel
theorem dX7_road_28 : decode cX7_road 28 = .ok (.bipush (-7), 2) := by decide +kernel
theorem dX7_road_30 : decode cX7_road 30 = .ok (.ireturn, 1) := by decide +kernel
theorem dX7_road_31 : decode cX7_road 31 = .ok (.aload_n 0, 1) := by decide +kernel
theorem dX7_road_32 : decode cX7_road 32 = .ok (.iconst 0, 1) := by decide +kernel
theorem dX7_road_33 : decode cX7_road 33 = .ok (.iconst 0, 1) := by decide +kernel
theorem dX7_road_34 : decode cX7_road 34 = .ok (.iconst 0, 1) := by decide +kernel
theorem dX7_road_35 : decode cX7_road 35 = .ok (.iload_n 2, 1) := by decide +kernel
theorem dX7_road_36 : decode cX7_road 36 = .ok (.invokevirtual 202, 3) := by decide +kernel
theorem dX7_road_39 : decode cX7_road 39 = .ok (.istore 4, 2) := by decide +kernel
theorem dX7_road_41 : decode cX7_road 41 = .ok (.aload_n 0, 1) := by decide +kernel
theorem dX7_road_42 : decode cX7_road 42 = .ok (.iconst 5, 1) := by decide +kernel
theorem dX7_road_43 : decode cX7_road 43 = .ok (.iload_n 1, 1) := by decide +kernel
theorem dX7_road_44 : decode cX7_road 44 = .ok (.iconst (-1), 1) := by decide +kernel
theorem dX7_road_45 : decode cX7_road 45 = .ok (.iload_n 2, 1) := by decide +kernel
theorem dX7_road_46 : decode cX7_road 46 = .ok (.iconst 1, 1) := by decide +kernel
theorem dX7_road_47 : decode cX7_road 47 = .ok (.iload 4, 2) := by decide +kernel
theorem dX7_road_49 : decode cX7_road 49 = .ok (.invokevirtual 198, 3) := by decide +kernel
theorem dX7_road_52 : decode cX7_road 52 = .ok (.istore 5, 2) := by decide +kernel
theorem dX7_road_54 : decode cX7_road 54 = .ok (.iload_n 3, 1) := by decide +kernel
theorem dX7_road_55 : decode cX7_road 55 = .ok (.iconst 1, 1) := by decide +kernel
theorem dX7_road_56 : decode cX7_road 56 = .ok (.if_icmp .ne 24, 3) := by decide +kernel
theorem dX7_road_59 : decode cX7_road 59 = .ok (.iload 5, 2) := by decide +kernel
theorem dX7_road_61 : decode cX7_road 61 = .ok (.iconst (-1), 1) := by decide +kernel
theorem dX7_road_62 : decode cX7_road 62 = .ok (.if_icmp .ge 8, 3) := by decide +kernel
theorem dX7_road_65 : decode cX7_road 65 = .ok (.iload 4, 2) := by decide +kernel
theorem dX7_road_67 : decode cX7_road 67 = .ok (.goto 12, 3) := by decide +kernel
theorem dX7_road_70 : decode cX7_road 70 = .ok (.aload_n 0, 1) := by decide +kernel
theorem dX7_road_71 : decode cX7_road 71 = .ok (.iconst 5, 1) := by decide +kernel
theorem dX7_road_72 : decode cX7_road 72 = .ok (.iload_n 1, 1) := by decide +kernel
theorem dX7_road_73 : decode cX7_road 73 = .ok (.iload 5, 2) := by decide +kernel
theorem dX7_road_75 : decode cX7_road 75 = .ok (.iload_n 2, 1) := by decide +kernel
theorem dX7_road_76 : decode cX7_road 76 = .ok (.invokevirtual 202, 3) := by decide +kernel
theorem dX7_road_79 : decode cX7_road 79 = .ok (.ireturn, 1) := by decide +kernel
theorem dX7_road_80 : decode cX7_road 80 = .ok (.iload 5, 2) := by decide +kernel
theorem dX7_road_82 : decode cX7_road 82 = .ok (.iconst (-1), 1) := by decide +kernel
theorem dX7_road_83 : decode cX7_road 83 = .ok (.if_icmp .ge 5, 3) := by decide +kernel
theorem dX7_road_86 : decode cX7_road 86 = .ok (.iconst (-1), 1) := by decide +kernel
theorem dX7_road_87 : decode cX7_road 87 = .ok (.ireturn, 1) := by decide +kernel
theorem dX7_road_88 : decode cX7_road 88 = .ok (.iload 5, 2) := by decide +kernel
theorem dX7_road_90 : decode cX7_road 90 = .ok (.ifCond .ge 8, 3) := by decide +kernel
theorem dX7_road_93 : decode cX7_road 93 = .ok (.bipush (-2), 2) := by decide +kernel
theorem dX7_road_95 : decode cX7_road 95 = .ok (.goto 5, 3) := by decide +kernel
theorem dX7_road_98 : decode cX7_road 98 = .ok (.iload 5, 2) := by decide +kernel
theorem dX7_road_100 : decode cX7_road 100 = .ok (.ireturn, 1) := by decide +kernel
theorem dX7_best_0 : decode cX7_best 0 = .ok (.iload_n 3, 1) := by decide +kernel
theorem dX7_best_1 : decode cX7_best 1 = .ok (.iconst 1, 1) := by decide +kernel
theorem dX7_best_2 : decode cX7_best 2 = .ok (.isub, 1) := by decide +kernel
theorem dX7_best_3 : decode cX7_best 3 = .ok (.istore 7, 2) := by decide +kernel
theorem dX7_best_5 : decode cX7_best 5 = .ok (.iload 5, 2) := by decide +kernel
theorem dX7_best_7 : decode cX7_best 7 = .ok (.iload 6, 2) := by decide +kernel
theorem dX7_best_9 : decode cX7_best 9 = .ok (.imul, 1) := by decide +kernel
theorem dX7_best_10 : decode cX7_best 10 = .ok (.istore 8, 2) := by decide +kernel
theorem dX7_best_12 : decode cX7_best 12 = .ok (.iload_n 3, 1) := by decide +kernel
theorem dX7_best_13 : decode cX7_best 13 = .ok (.istore 9, 2) := by decide +kernel
theorem dX7_best_15 : decode cX7_best 15 = .ok (.iload 9, 2) := by decide +kernel
theorem dX7_best_17 : decode cX7_best 17 = .ok (.aload_n 0, 1) := by decide +kernel
theorem dX7_best_18 : decode cX7_best 18 = .ok (.getfield 27, 3) := by decide +kernel
theorem dX7_best_21 : decode cX7_best 21 = .ok (.getfield 55, 3) := by decide +kernel
theorem dX7_best_24 : decode cX7_best 24 = .ok (.if_icmp .ge 46, 3) := by decide +kernel
theorem dX7_best_27 : decode cX7_best 27 = .ok (.aload_n 0, 1) := by decide +kernel
theorem dX7_best_28 : decode cX7_best 28 = .ok (.iload_n 1, 1) := by decide +kernel
theorem dX7_best_29 : decode cX7_best 29 = .ok (.iload_n 2, 1) := by decide +kernel
theorem dX7_best_30 : decode cX7_best 30 = .ok (.iload 9, 2) := by decide +kernel
theorem dX7_best_32 : decode cX7_best 32 = .ok (.invokevirtual 191, 3) := by decide +kernel
theorem dX7_best_35 : decode cX7_best 35 = .ok (.iload 5, 2) := by decide +kernel
theorem dX7_best_37 : decode cX7_best 37 = .ok (.aload_n 0, 1) := by decide +kernel
theorem dX7_best_38 : decode cX7_best 38 = .ok (.iload 4, 2) := by decide +kernel
theorem dX7_best_40 : decode cX7_best 40 = .ok (.iconst 0, 1) := by decide +kernel
theorem dX7_best_41 : decode cX7_best 41 = .ok (.iconst 0, 1) := by decide +kernel
theorem dX7_best_42 : decode cX7_best 42 = .ok (.iconst 0, 1) := by decide +kernel
theorem dX7_best_43 : decode cX7_best 43 = .ok (.invokevirtual 195, 3) := by decide +kernel
theorem dX7_best_46 : decode cX7_best 46 = .ok (.imul, 1) := by decide +kernel
theorem dX7_best_47 : decode cX7_best 47 = .ok (.istore 10, 2) := by decide +kernel
theorem dX7_best_49 : decode cX7_best 49 = .ok (.iload 10, 2) := by decide +kernel
theorem dX7_best_51 : decode cX7_best 51 = .ok (.iload 8, 2) := by decide +kernel
theorem dX7_best_53 : decode cX7_best 53 = .ok (.if_icmp .le 11, 3) := by decide +kernel
theorem dX7_best_56 : decode cX7_best 56 = .ok (.iload 10, 2) := by decide +kernel
theorem dX7_best_58 : decode cX7_best 58 = .ok (.istore 8, 2) := by decide +kernel
theorem dX7_best_60 : decode cX7_best 60 = .ok (.iload 9, 2) := by decide +kernel
theorem dX7_best_62 : decode cX7_best 62 = .ok (.istore 7, 2) := by decide +kernel
theorem dX7_best_64 : decode cX7_best 64 = .ok (.iinc 9 1, 3) := by decide +kernel
theorem dX7_best_67 : decode cX7_best 67 = .ok (.goto (-52), 3) := by decide +kernel
theorem dX7_best_70 : decode cX7_best 70 = .ok (.iload 7, 2) := by decide +kernel
theorem dX7_best_72 : decode cX7_best 72 = .ok (.ireturn, 1) := by decide +kernel
theorem dX7_worthIf_0 : decode cX7_worthIf 0 = .ok (.aload_n 0, 1) := by decide +kernel
theorem dX7_worthIf_1 : decode cX7_worthIf 1 = .ok (.iload_n 1, 1) := by decide +kernel
theorem dX7_worthIf_2 : decode cX7_worthIf 2 = .ok (.iload_n 2, 1) := by decide +kernel
theorem dX7_worthIf_3 : decode cX7_worthIf 3 = .ok (.iload_n 3, 1) := by decide +kernel
theorem dX7_worthIf_4 : decode cX7_worthIf 4 = .ok (.invokevirtual 191, 3) := by decide +kernel
theorem dX7_worthIf_7 : decode cX7_worthIf 7 = .ok (.aload_n 0, 1) := by decide +kernel
theorem dX7_worthIf_8 : decode cX7_worthIf 8 = .ok (.iload 4, 2) := by decide +kernel
theorem dX7_worthIf_10 : decode cX7_worthIf 10 = .ok (.iconst 0, 1) := by decide +kernel
theorem dX7_worthIf_11 : decode cX7_worthIf 11 = .ok (.iconst 0, 1) := by decide +kernel
theorem dX7_worthIf_12 : decode cX7_worthIf 12 = .ok (.iconst 0, 1) := by decide +kernel
theorem dX7_worthIf_13 : decode cX7_worthIf 13 = .ok (.invokevirtual 195, 3) := by decide +kernel
theorem dX7_worthIf_16 : decode cX7_worthIf 16 = .ok (.ireturn, 1) := by decide +kernel
theorem dX7_chain_0 : decode cX7_chain 0 = .ok (.aload_n 0, 1) := by decide +kernel
theorem dX7_chain_1 : decode cX7_chain 1 = .ok (.getfield 27, 3) := by decide +kernel
theorem dX7_chain_4 : decode cX7_chain 4 = .ok (.iload_n 1, 1) := by decide +kernel
theorem dX7_chain_5 : decode cX7_chain 5 = .ok (.invokevirtual 118, 3) := by decide +kernel
theorem dX7_chain_8 : decode cX7_chain 8 = .ok (.ifCond .eq 15, 3) := by decide +kernel
theorem dX7_chain_11 : decode cX7_chain 11 = .ok (.aload_n 0, 1) := by decide +kernel
theorem dX7_chain_12 : decode cX7_chain 12 = .ok (.getfield 27, 3) := by decide +kernel
theorem dX7_chain_15 : decode cX7_chain 15 = .ok (.getfield 205, 3) := by decide +kernel
theorem dX7_chain_18 : decode cX7_chain 18 = .ok (.iload_n 1, 1) := by decide +kernel
theorem dX7_chain_19 : decode cX7_chain 19 = .ok (.iaload, 1) := by decide +kernel
theorem dX7_chain_20 : decode cX7_chain 20 = .ok (.goto 5, 3) := by decide +kernel
theorem dX7_chain_23 : decode cX7_chain 23 = .ok (.bipush (-5), 2) := by decide +kernel
theorem dX7_chain_25 : decode cX7_chain 25 = .ok (.ireturn, 1) := by decide +kernel
theorem dX7_rings_0 : decode cX7_rings 0 = .ok (.iconst 0, 1) := by decide +kernel
theorem dX7_rings_1 : decode cX7_rings 1 = .ok (.istore_n 1, 1) := by decide +kernel
theorem dX7_rings_2 : decode cX7_rings 2 = .ok (.iconst 0, 1) := by decide +kernel
theorem dX7_rings_3 : decode cX7_rings 3 = .ok (.istore_n 2, 1) := by decide +kernel
theorem dX7_rings_4 : decode cX7_rings 4 = .ok (.iload_n 2, 1) := by decide +kernel
theorem dX7_rings_5 : decode cX7_rings 5 = .ok (.aload_n 0, 1) := by decide +kernel
theorem dX7_rings_6 : decode cX7_rings 6 = .ok (.getfield 27, 3) := by decide +kernel
theorem dX7_rings_9 : decode cX7_rings 9 = .ok (.getfield 55, 3) := by decide +kernel
theorem dX7_rings_12 : decode cX7_rings 12 = .ok (.if_icmp .ge 26, 3) := by decide +kernel
theorem dX7_rings_15 : decode cX7_rings 15 = .ok (.aload_n 0, 1) := by decide +kernel
theorem dX7_rings_16 : decode cX7_rings 16 = .ok (.getfield 27, 3) := by decide +kernel
theorem dX7_rings_19 : decode cX7_rings 19 = .ok (.iload_n 2, 1) := by decide +kernel
theorem dX7_rings_20 : decode cX7_rings 20 = .ok (.invokevirtual 208, 3) := by decide +kernel
theorem dX7_rings_23 : decode cX7_rings 23 = .ok (.ifCond .eq 9, 3) := by decide +kernel
theorem dX7_rings_26 : decode cX7_rings 26 = .ok (.iload_n 1, 1) := by decide +kernel
theorem dX7_rings_27 : decode cX7_rings 27 = .ok (.iconst 1, 1) := by decide +kernel
theorem dX7_rings_28 : decode cX7_rings 28 = .ok (.iload_n 2, 1) := by decide +kernel
theorem dX7_rings_29 : decode cX7_rings 29 = .ok (.ishl, 1) := by decide +kernel
theorem dX7_rings_30 : decode cX7_rings 30 = .ok (.ior, 1) := by decide +kernel
theorem dX7_rings_31 : decode cX7_rings 31 = .ok (.istore_n 1, 1) := by decide +kernel
theorem dX7_rings_32 : decode cX7_rings 32 = .ok (.iinc 2 1, 3) := by decide +kernel
theorem dX7_rings_35 : decode cX7_rings 35 = .ok (.goto (-31), 3) := by decide +kernel
theorem dX7_rings_38 : decode cX7_rings 38 = .ok (.iload_n 1, 1) := by decide +kernel
theorem dX7_rings_39 : decode cX7_rings 39 = .ok (.ireturn, 1) := by decide +kernel
theorem dX7_longest_0 : decode cX7_longest 0 = .ok (.iload_n 1, 1) := by decide +kernel
theorem dX7_longest_1 : decode cX7_longest 1 = .ok (.invokestatic 179, 3) := by decide +kernel
theorem dX7_longest_4 : decode cX7_longest 4 = .ok (.ifCond .ne 6, 3) := by decide +kernel
theorem dX7_longest_7 : decode cX7_longest 7 = .ok (.bipush (-2), 2) := by decide +kernel
theorem dX7_longest_9 : decode cX7_longest 9 = .ok (.ireturn, 1) := by decide +kernel
theorem dX7_longest_10 : decode cX7_longest 10 = .ok (.iconst (-1), 1) := by decide +kernel
theorem dX7_longest_11 : decode cX7_longest 11 = .ok (.istore_n 2, 1) := by decide +kernel
theorem dX7_longest_12 : decode cX7_longest 12 = .ok (.iconst (-1), 1) := by decide +kernel
theorem dX7_longest_13 : decode cX7_longest 13 = .ok (.istore_n 3, 1) := by decide +kernel
theorem dX7_longest_14 : decode cX7_longest 14 = .ok (.iconst 0, 1) := by decide +kernel
theorem dX7_longest_15 : decode cX7_longest 15 = .ok (.istore 4, 2) := by decide +kernel
theorem dX7_longest_17 : decode cX7_longest 17 = .ok (.iload 4, 2) := by decide +kernel
theorem dX7_longest_19 : decode cX7_longest 19 = .ok (.aload_n 0, 1) := by decide +kernel
theorem dX7_longest_20 : decode cX7_longest 20 = .ok (.getfield 27, 3) := by decide +kernel
theorem dX7_longest_23 : decode cX7_longest 23 = .ok (.getfield 55, 3) := by decide +kernel
theorem dX7_longest_26 : decode cX7_longest 26 = .ok (.if_icmp .ge 36, 3) := by decide +kernel
theorem dX7_longest_29 : decode cX7_longest 29 = .ok (.aload_n 0, 1) := by decide +kernel
theorem dX7_longest_30 : decode cX7_longest 30 = .ok (.getfield 27, 3) := by decide +kernel
theorem dX7_longest_33 : decode cX7_longest 33 = .ok (.getfield 205, 3) := by decide +kernel
theorem dX7_longest_36 : decode cX7_longest 36 = .ok (.iload 4, 2) := by decide +kernel
theorem dX7_longest_38 : decode cX7_longest 38 = .ok (.iaload, 1) := by decide +kernel
theorem dX7_longest_39 : decode cX7_longest 39 = .ok (.invokestatic 211, 3) := by decide +kernel
theorem dX7_longest_42 : decode cX7_longest 42 = .ok (.istore 5, 2) := by decide +kernel
theorem dX7_longest_44 : decode cX7_longest 44 = .ok (.iload 5, 2) := by decide +kernel
theorem dX7_longest_46 : decode cX7_longest 46 = .ok (.iload_n 3, 1) := by decide +kernel
theorem dX7_longest_47 : decode cX7_longest 47 = .ok (.if_icmp .le 9, 3) := by decide +kernel
theorem dX7_longest_50 : decode cX7_longest 50 = .ok (.iload 5, 2) := by decide +kernel
theorem dX7_longest_52 : decode cX7_longest 52 = .ok (.istore_n 3, 1) := by decide +kernel
theorem dX7_longest_53 : decode cX7_longest 53 = .ok (.iload 4, 2) := by decide +kernel
theorem dX7_longest_55 : decode cX7_longest 55 = .ok (.istore_n 2, 1) := by decide +kernel
theorem dX7_longest_56 : decode cX7_longest 56 = .ok (.iinc 4 1, 3) := by decide +kernel
theorem dX7_longest_59 : decode cX7_longest 59 = .ok (.goto (-42), 3) := by decide +kernel
theorem dX7_longest_62 : decode cX7_longest 62 = .ok (.iload_n 1, 1) := by decide +kernel
theorem dX7_longest_63 : decode cX7_longest 63 = .ok (.ifCond .ne 7, 3) := by decide +kernel
theorem dX7_longest_66 : decode cX7_longest 66 = .ok (.iload_n 2, 1) := by decide +kernel
theorem dX7_longest_67 : decode cX7_longest 67 = .ok (.goto 4, 3) := by decide +kernel
theorem dX7_longest_70 : decode cX7_longest 70 = .ok (.iload_n 3, 1) := by decide +kernel
theorem dX7_longest_71 : decode cX7_longest 71 = .ok (.ireturn, 1) := by decide +kernel
theorem dX7_judge_0 : decode cX7_judge 0 = .ok (.aload_n 0, 1) := by decide +kernel
theorem dX7_judge_1 : decode cX7_judge 1 = .ok (.iload_n 1, 1) := by decide +kernel
theorem dX7_judge_2 : decode cX7_judge 2 = .ok (.invokevirtual 216, 3) := by decide +kernel
theorem dX7_judge_5 : decode cX7_judge 5 = .ok (.istore_n 2, 1) := by decide +kernel
theorem dX7_judge_6 : decode cX7_judge 6 = .ok (.iload_n 2, 1) := by decide +kernel
theorem dX7_judge_7 : decode cX7_judge 7 = .ok (.ifCond .eq 5, 3) := by decide +kernel
theorem dX7_judge_10 : decode cX7_judge 10 = .ok (.iload_n 2, 1) := by decide +kernel
theorem dX7_judge_11 : decode cX7_judge 11 = .ok (.ireturn, 1) := by decide +kernel
theorem dX7_judge_12 : decode cX7_judge 12 = .ok (.aload_n 0, 1) := by decide +kernel
theorem dX7_judge_13 : decode cX7_judge 13 = .ok (.iconst 0, 1) := by decide +kernel
theorem dX7_judge_14 : decode cX7_judge 14 = .ok (.iconst 0, 1) := by decide +kernel
theorem dX7_judge_15 : decode cX7_judge 15 = .ok (.iconst 0, 1) := by decide +kernel
theorem dX7_judge_16 : decode cX7_judge 16 = .ok (.invokevirtual 191, 3) := by decide +kernel
theorem dX7_judge_19 : decode cX7_judge 19 = .ok (.aload_n 0, 1) := by decide +kernel
theorem dX7_judge_20 : decode cX7_judge 20 = .ok (.aload_n 0, 1) := by decide +kernel
theorem dX7_judge_21 : decode cX7_judge 21 = .ok (.getfield 46, 3) := by decide +kernel
theorem dX7_judge_24 : decode cX7_judge 24 = .ok (.iload_n 1, 1) := by decide +kernel
theorem dX7_judge_25 : decode cX7_judge 25 = .ok (.aaload, 1) := by decide +kernel
theorem dX7_judge_26 : decode cX7_judge 26 = .ok (.invokevirtual 219, 3) := by decide +kernel
theorem dX7_judge_29 : decode cX7_judge 29 = .ok (.ireturn, 1) := by decide +kernel
theorem dX7_begins_0 : decode cX7_begins 0 = .ok (.aload_n 0, 1) := by decide +kernel
theorem dX7_begins_1 : decode cX7_begins 1 = .ok (.iload_n 1, 1) := by decide +kernel
theorem dX7_begins_2 : decode cX7_begins 2 = .ok (.invokevirtual 216, 3) := by decide +kernel
theorem dX7_begins_5 : decode cX7_begins 5 = .ok (.istore_n 2, 1) := by decide +kernel
theorem dX7_begins_6 : decode cX7_begins 6 = .ok (.iload_n 2, 1) := by decide +kernel
theorem dX7_begins_7 : decode cX7_begins 7 = .ok (.ifCond .eq 7, 3) := by decide +kernel
theorem dX7_begins_10 : decode cX7_begins 10 = .ok (.iload_n 2, 1) := by decide +kernel
theorem dX7_begins_11 : decode cX7_begins 11 = .ok (.goto 23, 3) := by decide +kernel
theorem dX7_begins_14 : decode cX7_begins 14 = .ok (.aload_n 0, 1) := by decide +kernel
theorem dX7_begins_15 : decode cX7_begins 15 = .ok (.aload_n 0, 1) := by decide +kernel
theorem dX7_begins_16 : decode cX7_begins 16 = .ok (.getfield 46, 3) := by decide +kernel
theorem dX7_begins_19 : decode cX7_begins 19 = .ok (.iload_n 1, 1) := by decide +kernel
theorem dX7_begins_20 : decode cX7_begins 20 = .ok (.aaload, 1) := by decide +kernel
theorem dX7_begins_21 : decode cX7_begins 21 = .ok (.iconst 1, 1) := by decide +kernel
theorem dX7_begins_22 : decode cX7_begins 22 = .ok (.iconst 0, 1) := by decide +kernel
theorem dX7_begins_23 : decode cX7_begins 23 = .ok (.iconst 0, 1) := by decide +kernel
theorem dX7_begins_24 : decode cX7_begins 24 = .ok (.aload_n 0, 1) := by decide +kernel
theorem dX7_begins_25 : decode cX7_begins 25 = .ok (.getfield 27, 3) := by decide +kernel
theorem dX7_begins_28 : decode cX7_begins 28 = .ok (.getfield 55, 3) := by decide +kernel
theorem dX7_begins_31 : decode cX7_begins 31 = .ok (.invokevirtual 223, 3) := by decide +kernel
theorem dX7_begins_34 : decode cX7_begins 34 = .ok (.ireturn, 1) := by decide +kernel
theorem dX7_kinds_0 : decode cX7_kinds 0 = .ok (.aload_n 0, 1) := by decide +kernel
theorem dX7_kinds_1 : decode cX7_kinds 1 = .ok (.iload_n 1, 1) := by decide +kernel
theorem dX7_kinds_2 : decode cX7_kinds 2 = .ok (.invokevirtual 216, 3) := by decide +kernel
theorem dX7_kinds_5 : decode cX7_kinds 5 = .ok (.istore 4, 2) := by decide +kernel
theorem dX7_kinds_7 : decode cX7_kinds 7 = .ok (.iload 4, 2) := by decide +kernel
theorem dX7_kinds_9 : decode cX7_kinds 9 = .ok (.ifCond .eq 6, 3) := by decide +kernel
theorem dX7_kinds_12 : decode cX7_kinds 12 = .ok (.iload 4, 2) := by decide +kernel
theorem dX7_kinds_14 : decode cX7_kinds 14 = .ok (.ireturn, 1) := by decide +kernel
theorem dX7_kinds_15 : decode cX7_kinds 15 = .ok (.aload_n 0, 1) := by decide +kernel
theorem dX7_kinds_16 : decode cX7_kinds 16 = .ok (.getfield 27, 3) := by decide +kernel
theorem dX7_kinds_19 : decode cX7_kinds 19 = .ok (.iload_n 2, 1) := by decide +kernel
theorem dX7_kinds_20 : decode cX7_kinds 20 = .ok (.invokevirtual 118, 3) := by decide +kernel
theorem dX7_kinds_23 : decode cX7_kinds 23 = .ok (.ifCond .ne 6, 3) := by decide +kernel
theorem dX7_kinds_26 : decode cX7_kinds 26 = .ok (.bipush (-5), 2) := by decide +kernel
theorem dX7_kinds_28 : decode cX7_kinds 28 = .ok (.ireturn, 1) := by decide +kernel
theorem dX7_kinds_29 : decode cX7_kinds 29 = .ok (.iload_n 3, 1) := by decide +kernel
theorem dX7_kinds_30 : decode cX7_kinds 30 = .ok (.tableswitch 81 0 2 #[26, 43, 60], 26) := by decide +kernel
theorem dX7_kinds_56 : decode cX7_kinds 56 = .ok (.aload_n 0, 1) := by decide +kernel
theorem dX7_kinds_57 : decode cX7_kinds 57 = .ok (.aload_n 0, 1) := by decide +kernel
theorem dX7_kinds_58 : decode cX7_kinds 58 = .ok (.getfield 46, 3) := by decide +kernel
theorem dX7_kinds_61 : decode cX7_kinds 61 = .ok (.iload_n 1, 1) := by decide +kernel
theorem dX7_kinds_62 : decode cX7_kinds 62 = .ok (.aaload, 1) := by decide +kernel
theorem dX7_kinds_63 : decode cX7_kinds 63 = .ok (.bipush 6, 2) := by decide +kernel
theorem dX7_kinds_65 : decode cX7_kinds 65 = .ok (.iload_n 2, 1) := by decide +kernel
theorem dX7_kinds_66 : decode cX7_kinds 66 = .ok (.iconst 0, 1) := by decide +kernel
theorem dX7_kinds_67 : decode cX7_kinds 67 = .ok (.bipush 6, 2) := by decide +kernel
theorem dX7_kinds_69 : decode cX7_kinds 69 = .ok (.invokevirtual 223, 3) := by decide +kernel
theorem dX7_kinds_72 : decode cX7_kinds 72 = .ok (.ireturn, 1) := by decide +kernel
theorem dX7_kinds_73 : decode cX7_kinds 73 = .ok (.aload_n 0, 1) := by decide +kernel
theorem dX7_kinds_74 : decode cX7_kinds 74 = .ok (.aload_n 0, 1) := by decide +kernel
theorem dX7_kinds_75 : decode cX7_kinds 75 = .ok (.getfield 46, 3) := by decide +kernel
theorem dX7_kinds_78 : decode cX7_kinds 78 = .ok (.iload_n 1, 1) := by decide +kernel
theorem dX7_kinds_79 : decode cX7_kinds 79 = .ok (.aaload, 1) := by decide +kernel
theorem dX7_kinds_80 : decode cX7_kinds 80 = .ok (.bipush 7, 2) := by decide +kernel
theorem dX7_kinds_82 : decode cX7_kinds 82 = .ok (.iload_n 2, 1) := by decide +kernel
theorem dX7_kinds_83 : decode cX7_kinds 83 = .ok (.iconst 0, 1) := by decide +kernel
theorem dX7_kinds_84 : decode cX7_kinds 84 = .ok (.bipush 10, 2) := by decide +kernel
theorem dX7_kinds_86 : decode cX7_kinds 86 = .ok (.invokevirtual 223, 3) := by decide +kernel
theorem dX7_kinds_89 : decode cX7_kinds 89 = .ok (.ireturn, 1) := by decide +kernel
theorem dX7_kinds_90 : decode cX7_kinds 90 = .ok (.aload_n 0, 1) := by decide +kernel
theorem dX7_kinds_91 : decode cX7_kinds 91 = .ok (.aload_n 0, 1) := by decide +kernel
theorem dX7_kinds_92 : decode cX7_kinds 92 = .ok (.getfield 46, 3) := by decide +kernel
theorem dX7_kinds_95 : decode cX7_kinds 95 = .ok (.iload_n 1, 1) := by decide +kernel
theorem dX7_kinds_96 : decode cX7_kinds 96 = .ok (.aaload, 1) := by decide +kernel
theorem dX7_kinds_97 : decode cX7_kinds 97 = .ok (.iconst 5, 1) := by decide +kernel
theorem dX7_kinds_98 : decode cX7_kinds 98 = .ok (.iload_n 2, 1) := by decide +kernel
theorem dX7_kinds_99 : decode cX7_kinds 99 = .ok (.iconst (-1), 1) := by decide +kernel
theorem dX7_kinds_100 : decode cX7_kinds 100 = .ok (.aload_n 0, 1) := by decide +kernel
theorem dX7_kinds_101 : decode cX7_kinds 101 = .ok (.getfield 27, 3) := by decide +kernel
theorem dX7_kinds_104 : decode cX7_kinds 104 = .ok (.getfield 55, 3) := by decide +kernel
theorem dX7_kinds_107 : decode cX7_kinds 107 = .ok (.invokevirtual 223, 3) := by decide +kernel
theorem dX7_kinds_110 : decode cX7_kinds 110 = .ok (.ireturn, 1) := by decide +kernel
theorem dX7_kinds_111 : decode cX7_kinds 111 = .ok (.bipush (-7), 2) := by decide +kernel
theorem dX7_kinds_113 : decode cX7_kinds 113 = .ok (.ireturn, 1) := by decide +kernel
theorem dX7_skipped_0 : decode cX7_skipped 0 = .ok (.aload_n 0, 1) := by decide +kernel
theorem dX7_skipped_1 : decode cX7_skipped 1 = .ok (.iload_n 1, 1) := by decide +kernel
theorem dX7_skipped_2 : decode cX7_skipped 2 = .ok (.invokevirtual 216, 3) := by decide +kernel
theorem dX7_skipped_5 : decode cX7_skipped 5 = .ok (.istore_n 2, 1) := by decide +kernel
theorem dX7_skipped_6 : decode cX7_skipped 6 = .ok (.iload_n 2, 1) := by decide +kernel
theorem dX7_skipped_7 : decode cX7_skipped 7 = .ok (.ifCond .eq 5, 3) := by decide +kernel
theorem dX7_skipped_10 : decode cX7_skipped 10 = .ok (.iload_n 2, 1) := by decide +kernel
theorem dX7_skipped_11 : decode cX7_skipped 11 = .ok (.ireturn, 1) := by decide +kernel
theorem dX7_skipped_12 : decode cX7_skipped 12 = .ok (.aload_n 0, 1) := by decide +kernel
theorem dX7_skipped_13 : decode cX7_skipped 13 = .ok (.aload_n 0, 1) := by decide +kernel
theorem dX7_skipped_14 : decode cX7_skipped 14 = .ok (.getfield 46, 3) := by decide +kernel
theorem dX7_skipped_17 : decode cX7_skipped 17 = .ok (.iload_n 1, 1) := by decide +kernel
theorem dX7_skipped_18 : decode cX7_skipped 18 = .ok (.aaload, 1) := by decide +kernel
theorem dX7_skipped_19 : decode cX7_skipped 19 = .ok (.iconst 4, 1) := by decide +kernel
theorem dX7_skipped_20 : decode cX7_skipped 20 = .ok (.iconst 0, 1) := by decide +kernel
theorem dX7_skipped_21 : decode cX7_skipped 21 = .ok (.iconst (-1), 1) := by decide +kernel
theorem dX7_skipped_22 : decode cX7_skipped 22 = .ok (.iconst 0, 1) := by decide +kernel
theorem dX7_skipped_23 : decode cX7_skipped 23 = .ok (.invokevirtual 223, 3) := by decide +kernel
theorem dX7_skipped_26 : decode cX7_skipped 26 = .ok (.istore_n 3, 1) := by decide +kernel
theorem dX7_skipped_27 : decode cX7_skipped 27 = .ok (.iload_n 3, 1) := by decide +kernel
theorem dX7_skipped_28 : decode cX7_skipped 28 = .ok (.bipush 12, 2) := by decide +kernel
theorem dX7_skipped_30 : decode cX7_skipped 30 = .ok (.ishl, 1) := by decide +kernel
theorem dX7_skipped_31 : decode cX7_skipped 31 = .ok (.aload_n 0, 1) := by decide +kernel
theorem dX7_skipped_32 : decode cX7_skipped 32 = .ok (.aload_n 0, 1) := by decide +kernel
theorem dX7_skipped_33 : decode cX7_skipped 33 = .ok (.getfield 46, 3) := by decide +kernel
theorem dX7_skipped_36 : decode cX7_skipped 36 = .ok (.iload_n 1, 1) := by decide +kernel
theorem dX7_skipped_37 : decode cX7_skipped 37 = .ok (.aaload, 1) := by decide +kernel
theorem dX7_skipped_38 : decode cX7_skipped 38 = .ok (.iconst 4, 1) := by decide +kernel
theorem dX7_skipped_39 : decode cX7_skipped 39 = .ok (.iconst 0, 1) := by decide +kernel
theorem dX7_skipped_40 : decode cX7_skipped 40 = .ok (.iconst 0, 1) := by decide +kernel
theorem dX7_skipped_41 : decode cX7_skipped 41 = .ok (.aload_n 0, 1) := by decide +kernel
theorem dX7_skipped_42 : decode cX7_skipped 42 = .ok (.getfield 27, 3) := by decide +kernel
theorem dX7_skipped_45 : decode cX7_skipped 45 = .ok (.getfield 55, 3) := by decide +kernel
theorem dX7_skipped_48 : decode cX7_skipped 48 = .ok (.invokevirtual 223, 3) := by decide +kernel
theorem dX7_skipped_51 : decode cX7_skipped 51 = .ok (.ior, 1) := by decide +kernel
theorem dX7_skipped_52 : decode cX7_skipped 52 = .ok (.ireturn, 1) := by decide +kernel
theorem dX7_laws_0 : decode cX7_laws 0 = .ok (.aload_n 0, 1) := by decide +kernel
theorem dX7_laws_1 : decode cX7_laws 1 = .ok (.iload_n 1, 1) := by decide +kernel
theorem dX7_laws_2 : decode cX7_laws 2 = .ok (.invokevirtual 216, 3) := by decide +kernel
theorem dX7_laws_5 : decode cX7_laws 5 = .ok (.istore_n 2, 1) := by decide +kernel
theorem dX7_laws_6 : decode cX7_laws 6 = .ok (.iload_n 2, 1) := by decide +kernel
theorem dX7_laws_7 : decode cX7_laws 7 = .ok (.ifCond .eq 7, 3) := by decide +kernel
theorem dX7_laws_10 : decode cX7_laws 10 = .ok (.iload_n 2, 1) := by decide +kernel
theorem dX7_laws_11 : decode cX7_laws 11 = .ok (.goto 21, 3) := by decide +kernel
theorem dX7_laws_14 : decode cX7_laws 14 = .ok (.aload_n 0, 1) := by decide +kernel
theorem dX7_laws_15 : decode cX7_laws 15 = .ok (.aload_n 0, 1) := by decide +kernel
theorem dX7_laws_16 : decode cX7_laws 16 = .ok (.getfield 46, 3) := by decide +kernel
theorem dX7_laws_19 : decode cX7_laws 19 = .ok (.iload_n 1, 1) := by decide +kernel
theorem dX7_laws_20 : decode cX7_laws 20 = .ok (.aaload, 1) := by decide +kernel
theorem dX7_laws_21 : decode cX7_laws 21 = .ok (.bipush 8, 2) := by decide +kernel
theorem dX7_laws_23 : decode cX7_laws 23 = .ok (.iconst 0, 1) := by decide +kernel
theorem dX7_laws_24 : decode cX7_laws 24 = .ok (.iconst 0, 1) := by decide +kernel
theorem dX7_laws_25 : decode cX7_laws 25 = .ok (.aload_n 0, 1) := by decide +kernel
theorem dX7_laws_26 : decode cX7_laws 26 = .ok (.getfield 15, 3) := by decide +kernel
theorem dX7_laws_29 : decode cX7_laws 29 = .ok (.invokevirtual 223, 3) := by decide +kernel
theorem dX7_laws_32 : decode cX7_laws 32 = .ok (.ireturn, 1) := by decide +kernel
theorem dX7_film_0 : decode cX7_film 0 = .ok (.iload_n 1, 1) := by decide +kernel
theorem dX7_film_1 : decode cX7_film 1 = .ok (.invokestatic 227, 3) := by decide +kernel
theorem dX7_film_4 : decode cX7_film 4 = .ok (.ifCond .eq 13, 3) := by decide +kernel
theorem dX7_film_7 : decode cX7_film 7 = .ok (.iload_n 2, 1) := by decide +kernel
theorem dX7_film_8 : decode cX7_film 8 = .ok (.ifCond .lt 9, 3) := by decide +kernel
theorem dX7_film_11 : decode cX7_film 11 = .ok (.iload_n 2, 1) := by decide +kernel
theorem dX7_film_12 : decode cX7_film 12 = .ok (.bipush 40, 2) := by decide +kernel
theorem dX7_film_14 : decode cX7_film 14 = .ok (.if_icmp .le 6, 3) := by decide +kernel
theorem dX7_film_17 : decode cX7_film 17 = .ok (.bipush (-2), 2) := by decide +kernel
theorem dX7_film_19 : decode cX7_film 19 = .ok (.ireturn, 1) := by decide +kernel
theorem dX7_film_20 : decode cX7_film 20 = .ok (.aload_n 0, 1) := by decide +kernel
theorem dX7_film_21 : decode cX7_film 21 = .ok (.getfield 46, 3) := by decide +kernel
theorem dX7_film_24 : decode cX7_film 24 = .ok (.iload_n 1, 1) := by decide +kernel
theorem dX7_film_25 : decode cX7_film 25 = .ok (.aaload, 1) := by decide +kernel
theorem dX7_film_26 : decode cX7_film 26 = .ok (.iconst 1, 1) := by decide +kernel
theorem dX7_film_27 : decode cX7_film 27 = .ok (.iload_n 2, 1) := by decide +kernel
theorem dX7_film_28 : decode cX7_film 28 = .ok (.invokevirtual 230, 3) := by decide +kernel
theorem dX7_film_31 : decode cX7_film 31 = .ok (.aload_n 0, 1) := by decide +kernel
theorem dX7_film_32 : decode cX7_film 32 = .ok (.iconst 0, 1) := by decide +kernel
theorem dX7_film_33 : decode cX7_film 33 = .ok (.iconst 0, 1) := by decide +kernel
theorem dX7_film_34 : decode cX7_film 34 = .ok (.iconst 0, 1) := by decide +kernel
theorem dX7_film_35 : decode cX7_film 35 = .ok (.invokevirtual 191, 3) := by decide +kernel
theorem dX7_film_38 : decode cX7_film 38 = .ok (.iconst 0, 1) := by decide +kernel
theorem dX7_film_39 : decode cX7_film 39 = .ok (.istore_n 3, 1) := by decide +kernel
theorem dX7_film_40 : decode cX7_film 40 = .ok (.iload_n 3, 1) := by decide +kernel
theorem dX7_film_41 : decode cX7_film 41 = .ok (.iload_n 2, 1) := by decide +kernel
theorem dX7_film_42 : decode cX7_film 42 = .ok (.if_icmp .ge 40, 3) := by decide +kernel
theorem dX7_film_45 : decode cX7_film 45 = .ok (.aload_n 0, 1) := by decide +kernel
theorem dX7_film_46 : decode cX7_film 46 = .ok (.getfield 34, 3) := by decide +kernel
theorem dX7_film_49 : decode cX7_film 49 = .ok (.invokevirtual 158, 3) := by decide +kernel
theorem dX7_film_52 : decode cX7_film 52 = .ok (.aload_n 0, 1) := by decide +kernel
theorem dX7_film_53 : decode cX7_film 53 = .ok (.getfield 46, 3) := by decide +kernel
theorem dX7_film_56 : decode cX7_film 56 = .ok (.iload_n 1, 1) := by decide +kernel
theorem dX7_film_57 : decode cX7_film 57 = .ok (.aaload, 1) := by decide +kernel
theorem dX7_film_58 : decode cX7_film 58 = .ok (.iload_n 3, 1) := by decide +kernel
theorem dX7_film_59 : decode cX7_film 59 = .ok (.aload_n 0, 1) := by decide +kernel
theorem dX7_film_60 : decode cX7_film 60 = .ok (.getfield 34, 3) := by decide +kernel
theorem dX7_film_63 : decode cX7_film 63 = .ok (.aload_n 0, 1) := by decide +kernel
theorem dX7_film_64 : decode cX7_film 64 = .ok (.getfield 34, 3) := by decide +kernel
theorem dX7_film_67 : decode cX7_film 67 = .ok (.invokevirtual 164, 3) := by decide +kernel
theorem dX7_film_70 : decode cX7_film 70 = .ok (.invokevirtual 167, 3) := by decide +kernel
theorem dX7_film_73 : decode cX7_film 73 = .ok (.invokevirtual 234, 3) := by decide +kernel
theorem dX7_film_76 : decode cX7_film 76 = .ok (.iinc 3 1, 3) := by decide +kernel
theorem dX7_film_79 : decode cX7_film 79 = .ok (.goto (-39), 3) := by decide +kernel
theorem dX7_film_82 : decode cX7_film 82 = .ok (.iload_n 2, 1) := by decide +kernel
theorem dX7_film_83 : decode cX7_film 83 = .ok (.ireturn, 1) := by decide +kernel
theorem dX7_refusalOf_0 : decode cX7_refusalOf 0 = .ok (.iload_n 1, 1) := by decide +kernel
theorem dX7_refusalOf_1 : decode cX7_refusalOf 1 = .ok (.invokestatic 227, 3) := by decide +kernel
theorem dX7_refusalOf_4 : decode cX7_refusalOf 4 = .ok (.ifCond .ne 6, 3) := by decide +kernel
theorem dX7_refusalOf_7 : decode cX7_refusalOf 7 = .ok (.bipush (-2), 2) := by decide +kernel
theorem dX7_refusalOf_9 : decode cX7_refusalOf 9 = .ok (.ireturn, 1) := by decide +kernel
theorem dX7_refusalOf_10 : decode cX7_refusalOf 10 = .ok (.aload_n 0, 1) := by decide +kernel
theorem dX7_refusalOf_11 : decode cX7_refusalOf 11 = .ok (.getfield 46, 3) := by decide +kernel
theorem dX7_refusalOf_14 : decode cX7_refusalOf 14 = .ok (.iload_n 1, 1) := by decide +kernel
theorem dX7_refusalOf_15 : decode cX7_refusalOf 15 = .ok (.aaload, 1) := by decide +kernel
theorem dX7_refusalOf_16 : decode cX7_refusalOf 16 = .ok (.invokevirtual 237, 3) := by decide +kernel
theorem dX7_refusalOf_19 : decode cX7_refusalOf 19 = .ok (.ifCond .eq 8, 3) := by decide +kernel
theorem dX7_refusalOf_22 : decode cX7_refusalOf 22 = .ok (.bipush (-11), 2) := by decide +kernel
theorem dX7_refusalOf_24 : decode cX7_refusalOf 24 = .ok (.goto 4, 3) := by decide +kernel
theorem dX7_refusalOf_27 : decode cX7_refusalOf 27 = .ok (.iconst 0, 1) := by decide +kernel
theorem dX7_refusalOf_28 : decode cX7_refusalOf 28 = .ok (.ireturn, 1) := by decide +kernel
theorem dX7_firstOtherwise_0 : decode cX7_firstOtherwise 0 = .ok (.iconst 0, 1) := by decide +kernel
theorem dX7_firstOtherwise_1 : decode cX7_firstOtherwise 1 = .ok (.istore_n 2, 1) := by decide +kernel
theorem dX7_firstOtherwise_2 : decode cX7_firstOtherwise 2 = .ok (.iload_n 2, 1) := by decide +kernel
theorem dX7_firstOtherwise_3 : decode cX7_firstOtherwise 3 = .ok (.aload_n 1, 1) := by decide +kernel
theorem dX7_firstOtherwise_4 : decode cX7_firstOtherwise 4 = .ok (.getfield 241, 3) := by decide +kernel
theorem dX7_firstOtherwise_7 : decode cX7_firstOtherwise 7 = .ok (.if_icmp .ge 41, 3) := by decide +kernel
theorem dX7_firstOtherwise_10 : decode cX7_firstOtherwise 10 = .ok (.aload_n 0, 1) := by decide +kernel
theorem dX7_firstOtherwise_11 : decode cX7_firstOtherwise 11 = .ok (.getfield 34, 3) := by decide +kernel
theorem dX7_firstOtherwise_14 : decode cX7_firstOtherwise 14 = .ok (.invokevirtual 158, 3) := by decide +kernel
theorem dX7_firstOtherwise_17 : decode cX7_firstOtherwise 17 = .ok (.aload_n 0, 1) := by decide +kernel
theorem dX7_firstOtherwise_18 : decode cX7_firstOtherwise 18 = .ok (.getfield 34, 3) := by decide +kernel
theorem dX7_firstOtherwise_21 : decode cX7_firstOtherwise 21 = .ok (.aload_n 0, 1) := by decide +kernel
theorem dX7_firstOtherwise_22 : decode cX7_firstOtherwise 22 = .ok (.getfield 34, 3) := by decide +kernel
theorem dX7_firstOtherwise_25 : decode cX7_firstOtherwise 25 = .ok (.invokevirtual 164, 3) := by decide +kernel
theorem dX7_firstOtherwise_28 : decode cX7_firstOtherwise 28 = .ok (.invokevirtual 167, 3) := by decide +kernel
theorem dX7_firstOtherwise_31 : decode cX7_firstOtherwise 31 = .ok (.aload_n 1, 1) := by decide +kernel
theorem dX7_firstOtherwise_32 : decode cX7_firstOtherwise 32 = .ok (.getfield 243, 3) := by decide +kernel
theorem dX7_firstOtherwise_35 : decode cX7_firstOtherwise 35 = .ok (.iload_n 2, 1) := by decide +kernel
theorem dX7_firstOtherwise_36 : decode cX7_firstOtherwise 36 = .ok (.iaload, 1) := by decide +kernel
theorem dX7_firstOtherwise_37 : decode cX7_firstOtherwise 37 = .ok (.if_icmp .eq 5, 3) := by decide +kernel
theorem dX7_firstOtherwise_40 : decode cX7_firstOtherwise 40 = .ok (.iload_n 2, 1) := by decide +kernel
theorem dX7_firstOtherwise_41 : decode cX7_firstOtherwise 41 = .ok (.ireturn, 1) := by decide +kernel
theorem dX7_firstOtherwise_42 : decode cX7_firstOtherwise 42 = .ok (.iinc 2 1, 3) := by decide +kernel
theorem dX7_firstOtherwise_45 : decode cX7_firstOtherwise 45 = .ok (.goto (-43), 3) := by decide +kernel
theorem dX7_firstOtherwise_48 : decode cX7_firstOtherwise 48 = .ok (.iconst (-1), 1) := by decide +kernel
theorem dX7_firstOtherwise_49 : decode cX7_firstOtherwise 49 = .ok (.ireturn, 1) := by decide +kernel
theorem dX7_fitting_0 : decode cX7_fitting 0 = .ok (.iconst 0, 1) := by decide +kernel
theorem dX7_fitting_1 : decode cX7_fitting 1 = .ok (.istore 6, 2) := by decide +kernel
theorem dX7_fitting_3 : decode cX7_fitting 3 = .ok (.iload 4, 2) := by decide +kernel
theorem dX7_fitting_5 : decode cX7_fitting 5 = .ok (.istore 7, 2) := by decide +kernel
theorem dX7_fitting_7 : decode cX7_fitting 7 = .ok (.iload 7, 2) := by decide +kernel
theorem dX7_fitting_9 : decode cX7_fitting 9 = .ok (.iload 5, 2) := by decide +kernel
theorem dX7_fitting_11 : decode cX7_fitting 11 = .ok (.if_icmp .ge 38, 3) := by decide +kernel
theorem dX7_fitting_14 : decode cX7_fitting 14 = .ok (.aload_n 0, 1) := by decide +kernel
theorem dX7_fitting_15 : decode cX7_fitting 15 = .ok (.iload_n 2, 1) := by decide +kernel
theorem dX7_fitting_16 : decode cX7_fitting 16 = .ok (.iload_n 3, 1) := by decide +kernel
theorem dX7_fitting_17 : decode cX7_fitting 17 = .ok (.iload 7, 2) := by decide +kernel
theorem dX7_fitting_19 : decode cX7_fitting 19 = .ok (.invokevirtual 191, 3) := by decide +kernel
theorem dX7_fitting_22 : decode cX7_fitting 22 = .ok (.aload_n 0, 1) := by decide +kernel
theorem dX7_fitting_23 : decode cX7_fitting 23 = .ok (.aload_n 1, 1) := by decide +kernel
theorem dX7_fitting_24 : decode cX7_fitting 24 = .ok (.invokevirtual 219, 3) := by decide +kernel
theorem dX7_fitting_27 : decode cX7_fitting 27 = .ok (.iconst (-1), 1) := by decide +kernel
theorem dX7_fitting_28 : decode cX7_fitting 28 = .ok (.if_icmp .ne 15, 3) := by decide +kernel
theorem dX7_fitting_31 : decode cX7_fitting 31 = .ok (.iload 6, 2) := by decide +kernel
theorem dX7_fitting_33 : decode cX7_fitting 33 = .ok (.iconst 1, 1) := by decide +kernel
theorem dX7_fitting_34 : decode cX7_fitting 34 = .ok (.iload 7, 2) := by decide +kernel
theorem dX7_fitting_36 : decode cX7_fitting 36 = .ok (.iload 4, 2) := by decide +kernel
theorem dX7_fitting_38 : decode cX7_fitting 38 = .ok (.isub, 1) := by decide +kernel
theorem dX7_fitting_39 : decode cX7_fitting 39 = .ok (.ishl, 1) := by decide +kernel
theorem dX7_fitting_40 : decode cX7_fitting 40 = .ok (.ior, 1) := by decide +kernel
theorem dX7_fitting_41 : decode cX7_fitting 41 = .ok (.istore 6, 2) := by decide +kernel
theorem dX7_fitting_43 : decode cX7_fitting 43 = .ok (.iinc 7 1, 3) := by decide +kernel
theorem dX7_fitting_46 : decode cX7_fitting 46 = .ok (.goto (-39), 3) := by decide +kernel
theorem dX7_fitting_49 : decode cX7_fitting 49 = .ok (.iload 6, 2) := by decide +kernel
theorem dX7_fitting_51 : decode cX7_fitting 51 = .ok (.ireturn, 1) := by decide +kernel
theorem dX7_drawn_0 : decode cX7_drawn 0 = .ok (.iload_n 1, 1) := by decide +kernel
theorem dX7_drawn_1 : decode cX7_drawn 1 = .ok (.invokestatic 246, 3) := by decide +kernel
theorem dX7_drawn_4 : decode cX7_drawn 4 = .ok (.ifCond .eq 31, 3) := by decide +kernel
theorem dX7_drawn_7 : decode cX7_drawn 7 = .ok (.iload_n 2, 1) := by decide +kernel
theorem dX7_drawn_8 : decode cX7_drawn 8 = .ok (.invokestatic 188, 3) := by decide +kernel
theorem dX7_drawn_11 : decode cX7_drawn 11 = .ok (.ifCond .eq 24, 3) := by decide +kernel
theorem dX7_drawn_14 : decode cX7_drawn 14 = .ok (.iload_n 3, 1) := by decide +kernel
theorem dX7_drawn_15 : decode cX7_drawn 15 = .ok (.ifCond .lt 20, 3) := by decide +kernel
theorem dX7_drawn_18 : decode cX7_drawn 18 = .ok (.iload_n 3, 1) := by decide +kernel
theorem dX7_drawn_19 : decode cX7_drawn 19 = .ok (.bipush 10, 2) := by decide +kernel
theorem dX7_drawn_21 : decode cX7_drawn 21 = .ok (.idiv, 1) := by decide +kernel
theorem dX7_drawn_22 : decode cX7_drawn 22 = .ok (.bipush 100, 2) := by decide +kernel
theorem dX7_drawn_24 : decode cX7_drawn 24 = .ok (.if_icmp .gt 11, 3) := by decide +kernel
theorem dX7_drawn_27 : decode cX7_drawn 27 = .ok (.iload_n 3, 1) := by decide +kernel
theorem dX7_drawn_28 : decode cX7_drawn 28 = .ok (.bipush 10, 2) := by decide +kernel
theorem dX7_drawn_30 : decode cX7_drawn 30 = .ok (.irem, 1) := by decide +kernel
theorem dX7_drawn_31 : decode cX7_drawn 31 = .ok (.iconst 4, 1) := by decide +kernel
theorem dX7_drawn_32 : decode cX7_drawn 32 = .ok (.if_icmp .le 6, 3) := by decide +kernel
theorem dX7_drawn_35 : decode cX7_drawn 35 = .ok (.bipush (-2), 2) := by decide +kernel
theorem dX7_drawn_37 : decode cX7_drawn 37 = .ok (.ireturn, 1) := by decide +kernel
theorem dX7_drawn_38 : decode cX7_drawn 38 = .ok (.aload_n 0, 1) := by decide +kernel
theorem dX7_drawn_39 : decode cX7_drawn 39 = .ok (.iconst 0, 1) := by decide +kernel
theorem dX7_drawn_40 : decode cX7_drawn 40 = .ok (.iconst 0, 1) := by decide +kernel
theorem dX7_drawn_41 : decode cX7_drawn 41 = .ok (.iconst 0, 1) := by decide +kernel
theorem dX7_drawn_42 : decode cX7_drawn 42 = .ok (.invokevirtual 191, 3) := by decide +kernel
theorem dX7_drawn_45 : decode cX7_drawn 45 = .ok (.aload_n 0, 1) := by decide +kernel
theorem dX7_drawn_46 : decode cX7_drawn 46 = .ok (.iload_n 2, 1) := by decide +kernel
theorem dX7_drawn_47 : decode cX7_drawn 47 = .ok (.iload_n 3, 1) := by decide +kernel
theorem dX7_drawn_48 : decode cX7_drawn 48 = .ok (.bipush 10, 2) := by decide +kernel
theorem dX7_drawn_50 : decode cX7_drawn 50 = .ok (.irem, 1) := by decide +kernel
theorem dX7_drawn_51 : decode cX7_drawn 51 = .ok (.iload_n 1, 1) := by decide +kernel
theorem dX7_drawn_52 : decode cX7_drawn 52 = .ok (.iload_n 3, 1) := by decide +kernel
theorem dX7_drawn_53 : decode cX7_drawn 53 = .ok (.bipush 10, 2) := by decide +kernel
theorem dX7_drawn_55 : decode cX7_drawn 55 = .ok (.idiv, 1) := by decide +kernel
theorem dX7_drawn_56 : decode cX7_drawn 56 = .ok (.invokevirtual 195, 3) := by decide +kernel
theorem dX7_drawn_59 : decode cX7_drawn 59 = .ok (.ireturn, 1) := by decide +kernel
theorem dX7_odds_0 : decode cX7_odds 0 = .ok (.iload_n 2, 1) := by decide +kernel
theorem dX7_odds_1 : decode cX7_odds 1 = .ok (.bipush 100, 2) := by decide +kernel
theorem dX7_odds_3 : decode cX7_odds 3 = .ok (.irem, 1) := by decide +kernel
theorem dX7_odds_4 : decode cX7_odds 4 = .ok (.istore 6, 2) := by decide +kernel
theorem dX7_odds_6 : decode cX7_odds 6 = .ok (.iload_n 1, 1) := by decide +kernel
theorem dX7_odds_7 : decode cX7_odds 7 = .ok (.invokestatic 246, 3) := by decide +kernel
theorem dX7_odds_10 : decode cX7_odds 10 = .ok (.ifCond .eq 61, 3) := by decide +kernel
theorem dX7_odds_13 : decode cX7_odds 13 = .ok (.iload_n 2, 1) := by decide +kernel
theorem dX7_odds_14 : decode cX7_odds 14 = .ok (.ifCond .lt 57, 3) := by decide +kernel
theorem dX7_odds_17 : decode cX7_odds 17 = .ok (.iload_n 2, 1) := by decide +kernel
theorem dX7_odds_18 : decode cX7_odds 18 = .ok (.bipush 100, 2) := by decide +kernel
theorem dX7_odds_20 : decode cX7_odds 20 = .ok (.idiv, 1) := by decide +kernel
theorem dX7_odds_21 : decode cX7_odds 21 = .ok (.invokestatic 188, 3) := by decide +kernel
theorem dX7_odds_24 : decode cX7_odds 24 = .ok (.ifCond .eq 47, 3) := by decide +kernel
theorem dX7_odds_27 : decode cX7_odds 27 = .ok (.iload 6, 2) := by decide +kernel
theorem dX7_odds_29 : decode cX7_odds 29 = .ok (.iconst 1, 1) := by decide +kernel
theorem dX7_odds_30 : decode cX7_odds 30 = .ok (.if_icmp .lt 41, 3) := by decide +kernel
theorem dX7_odds_33 : decode cX7_odds 33 = .ok (.iload 6, 2) := by decide +kernel
theorem dX7_odds_35 : decode cX7_odds 35 = .ok (.bipush 30, 2) := by decide +kernel
theorem dX7_odds_37 : decode cX7_odds 37 = .ok (.if_icmp .gt 34, 3) := by decide +kernel
theorem dX7_odds_40 : decode cX7_odds 40 = .ok (.aload_n 0, 1) := by decide +kernel
theorem dX7_odds_41 : decode cX7_odds 41 = .ok (.getfield 27, 3) := by decide +kernel
theorem dX7_odds_44 : decode cX7_odds 44 = .ok (.iload_n 3, 1) := by decide +kernel
theorem dX7_odds_45 : decode cX7_odds 45 = .ok (.invokevirtual 118, 3) := by decide +kernel
theorem dX7_odds_48 : decode cX7_odds 48 = .ok (.ifCond .eq 23, 3) := by decide +kernel
theorem dX7_odds_51 : decode cX7_odds 51 = .ok (.iload 4, 2) := by decide +kernel
theorem dX7_odds_53 : decode cX7_odds 53 = .ok (.ifCond .lt 18, 3) := by decide +kernel
theorem dX7_odds_56 : decode cX7_odds 56 = .ok (.iload 4, 2) := by decide +kernel
theorem dX7_odds_58 : decode cX7_odds 58 = .ok (.bipush 100, 2) := by decide +kernel
theorem dX7_odds_60 : decode cX7_odds 60 = .ok (.if_icmp .gt 11, 3) := by decide +kernel
theorem dX7_odds_63 : decode cX7_odds 63 = .ok (.iload 5, 2) := by decide +kernel
theorem dX7_odds_65 : decode cX7_odds 65 = .ok (.invokestatic 179, 3) := by decide +kernel
theorem dX7_odds_68 : decode cX7_odds 68 = .ok (.ifCond .ne 7, 3) := by decide +kernel
theorem dX7_odds_71 : decode cX7_odds 71 = .ok (.ldc2_w 249, 3) := by decide +kernel
theorem dX7_odds_74 : decode cX7_odds 74 = .ok (.lreturn, 1) := by decide +kernel
theorem dX7_odds_75 : decode cX7_odds 75 = .ok (.iconst 0, 1) := by decide +kernel
theorem dX7_odds_76 : decode cX7_odds 76 = .ok (.istore 7, 2) := by decide +kernel
theorem dX7_odds_78 : decode cX7_odds 78 = .ok (.iconst 0, 1) := by decide +kernel
theorem dX7_odds_79 : decode cX7_odds 79 = .ok (.istore 8, 2) := by decide +kernel
theorem dX7_odds_81 : decode cX7_odds 81 = .ok (.iload 8, 2) := by decide +kernel
theorem dX7_odds_83 : decode cX7_odds 83 = .ok (.iload 6, 2) := by decide +kernel
theorem dX7_odds_85 : decode cX7_odds 85 = .ok (.if_icmp .ge 40, 3) := by decide +kernel
theorem dX7_odds_88 : decode cX7_odds 88 = .ok (.aload_n 0, 1) := by decide +kernel
theorem dX7_odds_89 : decode cX7_odds 89 = .ok (.iconst 0, 1) := by decide +kernel
theorem dX7_odds_90 : decode cX7_odds 90 = .ok (.iconst 0, 1) := by decide +kernel
theorem dX7_odds_91 : decode cX7_odds 91 = .ok (.iconst 0, 1) := by decide +kernel
theorem dX7_odds_92 : decode cX7_odds 92 = .ok (.invokevirtual 191, 3) := by decide +kernel
theorem dX7_odds_95 : decode cX7_odds 95 = .ok (.iload 7, 2) := by decide +kernel
theorem dX7_odds_97 : decode cX7_odds 97 = .ok (.aload_n 0, 1) := by decide +kernel
theorem dX7_odds_98 : decode cX7_odds 98 = .ok (.iload_n 2, 1) := by decide +kernel
theorem dX7_odds_99 : decode cX7_odds 99 = .ok (.bipush 100, 2) := by decide +kernel
theorem dX7_odds_101 : decode cX7_odds 101 = .ok (.idiv, 1) := by decide +kernel
theorem dX7_odds_102 : decode cX7_odds 102 = .ok (.iconst 2, 1) := by decide +kernel
theorem dX7_odds_103 : decode cX7_odds 103 = .ok (.iload_n 1, 1) := by decide +kernel
theorem dX7_odds_104 : decode cX7_odds 104 = .ok (.iload 8, 2) := by decide +kernel
theorem dX7_odds_106 : decode cX7_odds 106 = .ok (.iadd, 1) := by decide +kernel
theorem dX7_odds_107 : decode cX7_odds 107 = .ok (.iload 4, 2) := by decide +kernel
theorem dX7_odds_109 : decode cX7_odds 109 = .ok (.invokevirtual 195, 3) := by decide +kernel
theorem dX7_odds_112 : decode cX7_odds 112 = .ok (.iload_n 3, 1) := by decide +kernel
theorem dX7_odds_113 : decode cX7_odds 113 = .ok (.ishr, 1) := by decide +kernel
theorem dX7_odds_114 : decode cX7_odds 114 = .ok (.iconst 1, 1) := by decide +kernel
theorem dX7_odds_115 : decode cX7_odds 115 = .ok (.iand, 1) := by decide +kernel
theorem dX7_odds_116 : decode cX7_odds 116 = .ok (.iadd, 1) := by decide +kernel
theorem dX7_odds_117 : decode cX7_odds 117 = .ok (.istore 7, 2) := by decide +kernel
theorem dX7_odds_119 : decode cX7_odds 119 = .ok (.iinc 8 1, 3) := by decide +kernel
theorem dX7_odds_122 : decode cX7_odds 122 = .ok (.goto (-41), 3) := by decide +kernel
theorem dX7_odds_125 : decode cX7_odds 125 = .ok (.iload 5, 2) := by decide +kernel
theorem dX7_odds_127 : decode cX7_odds 127 = .ok (.ifCond .ne 8, 3) := by decide +kernel
theorem dX7_odds_130 : decode cX7_odds 130 = .ok (.iload 7, 2) := by decide +kernel
theorem dX7_odds_132 : decode cX7_odds 132 = .ok (.goto 5, 3) := by decide +kernel
theorem dX7_odds_135 : decode cX7_odds 135 = .ok (.iload 6, 2) := by decide +kernel
theorem dX7_odds_137 : decode cX7_odds 137 = .ok (.iload 7, 2) := by decide +kernel
theorem dX7_odds_139 : decode cX7_odds 139 = .ok (.iload 6, 2) := by decide +kernel
theorem dX7_odds_141 : decode cX7_odds 141 = .ok (.invokestatic 251, 3) := by decide +kernel
theorem dX7_odds_144 : decode cX7_odds 144 = .ok (.i2l, 1) := by decide +kernel
theorem dX7_odds_145 : decode cX7_odds 145 = .ok (.lreturn, 1) := by decide +kernel
theorem dX7_inLowestTerms_0 : decode cX7_inLowestTerms 0 = .ok (.iload_n 2, 1) := by decide +kernel
theorem dX7_inLowestTerms_1 : decode cX7_inLowestTerms 1 = .ok (.istore_n 3, 1) := by decide +kernel
theorem dX7_inLowestTerms_2 : decode cX7_inLowestTerms 2 = .ok (.iload_n 3, 1) := by decide +kernel
theorem dX7_inLowestTerms_3 : decode cX7_inLowestTerms 3 = .ok (.iconst 1, 1) := by decide +kernel
theorem dX7_inLowestTerms_4 : decode cX7_inLowestTerms 4 = .ok (.if_icmp .le 25, 3) := by decide +kernel
theorem dX7_inLowestTerms_7 : decode cX7_inLowestTerms 7 = .ok (.iload_n 1, 1) := by decide +kernel
theorem dX7_inLowestTerms_8 : decode cX7_inLowestTerms 8 = .ok (.iload_n 3, 1) := by decide +kernel
theorem dX7_inLowestTerms_9 : decode cX7_inLowestTerms 9 = .ok (.irem, 1) := by decide +kernel
theorem dX7_inLowestTerms_10 : decode cX7_inLowestTerms 10 = .ok (.ifCond .ne 13, 3) := by decide +kernel
theorem dX7_inLowestTerms_13 : decode cX7_inLowestTerms 13 = .ok (.iload_n 2, 1) := by decide +kernel
theorem dX7_inLowestTerms_14 : decode cX7_inLowestTerms 14 = .ok (.iload_n 3, 1) := by decide +kernel
theorem dX7_inLowestTerms_15 : decode cX7_inLowestTerms 15 = .ok (.irem, 1) := by decide +kernel
theorem dX7_inLowestTerms_16 : decode cX7_inLowestTerms 16 = .ok (.ifCond .ne 7, 3) := by decide +kernel
theorem dX7_inLowestTerms_19 : decode cX7_inLowestTerms 19 = .ok (.iload_n 0, 1) := by decide +kernel
theorem dX7_inLowestTerms_20 : decode cX7_inLowestTerms 20 = .ok (.iload_n 3, 1) := by decide +kernel
theorem dX7_inLowestTerms_21 : decode cX7_inLowestTerms 21 = .ok (.idiv, 1) := by decide +kernel
theorem dX7_inLowestTerms_22 : decode cX7_inLowestTerms 22 = .ok (.ireturn, 1) := by decide +kernel
theorem dX7_inLowestTerms_23 : decode cX7_inLowestTerms 23 = .ok (.iinc 3 (-1), 3) := by decide +kernel
theorem dX7_inLowestTerms_26 : decode cX7_inLowestTerms 26 = .ok (.goto (-24), 3) := by decide +kernel
theorem dX7_inLowestTerms_29 : decode cX7_inLowestTerms 29 = .ok (.iload_n 0, 1) := by decide +kernel
theorem dX7_inLowestTerms_30 : decode cX7_inLowestTerms 30 = .ok (.ireturn, 1) := by decide +kernel
theorem dX7_image_0 : decode cX7_image 0 = .ok (.aload_n 0, 1) := by decide +kernel
theorem dX7_image_1 : decode cX7_image 1 = .ok (.getfield 31, 3) := by decide +kernel
theorem dX7_image_4 : decode cX7_image 4 = .ok (.aload_n 0, 1) := by decide +kernel
theorem dX7_image_5 : decode cX7_image 5 = .ok (.getfield 27, 3) := by decide +kernel
theorem dX7_image_8 : decode cX7_image 8 = .ok (.invokevirtual 255, 3) := by decide +kernel
theorem dX7_image_11 : decode cX7_image 11 = .ok (.aload_n 0, 1) := by decide +kernel
theorem dX7_image_12 : decode cX7_image 12 = .ok (.iconst 1, 1) := by decide +kernel
theorem dX7_image_13 : decode cX7_image 13 = .ok (.putfield 259, 3) := by decide +kernel
theorem dX7_image_16 : decode cX7_image 16 = .ok (.aload_n 0, 1) := by decide +kernel
theorem dX7_image_17 : decode cX7_image 17 = .ok (.getfield 27, 3) := by decide +kernel
theorem dX7_image_20 : decode cX7_image 20 = .ok (.getfield 55, 3) := by decide +kernel
theorem dX7_image_23 : decode cX7_image 23 = .ok (.ireturn, 1) := by decide +kernel
theorem dX7_back_0 : decode cX7_back 0 = .ok (.aload_n 0, 1) := by decide +kernel
theorem dX7_back_1 : decode cX7_back 1 = .ok (.getfield 259, 3) := by decide +kernel
theorem dX7_back_4 : decode cX7_back 4 = .ok (.ifCond .ne 6, 3) := by decide +kernel
theorem dX7_back_7 : decode cX7_back 7 = .ok (.bipush (-3), 2) := by decide +kernel
theorem dX7_back_9 : decode cX7_back 9 = .ok (.ireturn, 1) := by decide +kernel
theorem dX7_back_10 : decode cX7_back 10 = .ok (.aload_n 0, 1) := by decide +kernel
theorem dX7_back_11 : decode cX7_back 11 = .ok (.getfield 27, 3) := by decide +kernel
theorem dX7_back_14 : decode cX7_back 14 = .ok (.aload_n 0, 1) := by decide +kernel
theorem dX7_back_15 : decode cX7_back 15 = .ok (.getfield 31, 3) := by decide +kernel
theorem dX7_back_18 : decode cX7_back 18 = .ok (.invokevirtual 255, 3) := by decide +kernel
theorem dX7_back_21 : decode cX7_back 21 = .ok (.aload_n 0, 1) := by decide +kernel
theorem dX7_back_22 : decode cX7_back 22 = .ok (.getfield 27, 3) := by decide +kernel
theorem dX7_back_25 : decode cX7_back 25 = .ok (.getfield 55, 3) := by decide +kernel
theorem dX7_back_28 : decode cX7_back 28 = .ok (.ireturn, 1) := by decide +kernel
theorem dX7_sheet_0 : decode cX7_sheet 0 = .ok (.iload_n 1, 1) := by decide +kernel
theorem dX7_sheet_1 : decode cX7_sheet 1 = .ok (.invokestatic 227, 3) := by decide +kernel
theorem dX7_sheet_4 : decode cX7_sheet 4 = .ok (.ifCond .eq 13, 3) := by decide +kernel
theorem dX7_sheet_7 : decode cX7_sheet 7 = .ok (.iload_n 2, 1) := by decide +kernel
theorem dX7_sheet_8 : decode cX7_sheet 8 = .ok (.iconst (-1), 1) := by decide +kernel
theorem dX7_sheet_9 : decode cX7_sheet 9 = .ok (.if_icmp .lt 8, 3) := by decide +kernel
theorem dX7_sheet_12 : decode cX7_sheet 12 = .ok (.iload_n 2, 1) := by decide +kernel
theorem dX7_sheet_13 : decode cX7_sheet 13 = .ok (.iconst 2, 1) := by decide +kernel
theorem dX7_sheet_14 : decode cX7_sheet 14 = .ok (.if_icmp .le 6, 3) := by decide +kernel
theorem dX7_sheet_17 : decode cX7_sheet 17 = .ok (.bipush (-2), 2) := by decide +kernel
theorem dX7_sheet_19 : decode cX7_sheet 19 = .ok (.ireturn, 1) := by decide +kernel
theorem dX7_sheet_20 : decode cX7_sheet 20 = .ok (.iload_n 2, 1) := by decide +kernel
theorem dX7_sheet_21 : decode cX7_sheet 21 = .ok (.iconst (-1), 1) := by decide +kernel
theorem dX7_sheet_22 : decode cX7_sheet 22 = .ok (.if_icmp .ne 16, 3) := by decide +kernel
theorem dX7_sheet_25 : decode cX7_sheet 25 = .ok (.aload_n 0, 1) := by decide +kernel
theorem dX7_sheet_26 : decode cX7_sheet 26 = .ok (.getfield 46, 3) := by decide +kernel
theorem dX7_sheet_29 : decode cX7_sheet 29 = .ok (.iload_n 1, 1) := by decide +kernel
theorem dX7_sheet_30 : decode cX7_sheet 30 = .ok (.aaload, 1) := by decide +kernel
theorem dX7_sheet_31 : decode cX7_sheet 31 = .ok (.iconst (-1), 1) := by decide +kernel
theorem dX7_sheet_32 : decode cX7_sheet 32 = .ok (.iconst 0, 1) := by decide +kernel
theorem dX7_sheet_33 : decode cX7_sheet 33 = .ok (.invokevirtual 230, 3) := by decide +kernel
theorem dX7_sheet_36 : decode cX7_sheet 36 = .ok (.iconst 1, 1) := by decide +kernel
theorem dX7_sheet_37 : decode cX7_sheet 37 = .ok (.ireturn, 1) := by decide +kernel
theorem dX7_sheet_38 : decode cX7_sheet 38 = .ok (.iload_n 3, 1) := by decide +kernel
theorem dX7_sheet_39 : decode cX7_sheet 39 = .ok (.bipush 40, 2) := by decide +kernel
theorem dX7_sheet_41 : decode cX7_sheet 41 = .ok (.if_icmp .le 6, 3) := by decide +kernel
theorem dX7_sheet_44 : decode cX7_sheet 44 = .ok (.bipush (-2), 2) := by decide +kernel
theorem dX7_sheet_46 : decode cX7_sheet 46 = .ok (.ireturn, 1) := by decide +kernel
theorem dX7_sheet_47 : decode cX7_sheet 47 = .ok (.iload_n 3, 1) := by decide +kernel
theorem dX7_sheet_48 : decode cX7_sheet 48 = .ok (.ifCond .ge 6, 3) := by decide +kernel
theorem dX7_sheet_51 : decode cX7_sheet 51 = .ok (.bipush (-14), 2) := by decide +kernel
theorem dX7_sheet_53 : decode cX7_sheet 53 = .ok (.ireturn, 1) := by decide +kernel
theorem dX7_sheet_54 : decode cX7_sheet 54 = .ok (.aload_n 0, 1) := by decide +kernel
theorem dX7_sheet_55 : decode cX7_sheet 55 = .ok (.getfield 46, 3) := by decide +kernel
theorem dX7_sheet_58 : decode cX7_sheet 58 = .ok (.iload_n 1, 1) := by decide +kernel
theorem dX7_sheet_59 : decode cX7_sheet 59 = .ok (.aaload, 1) := by decide +kernel
theorem dX7_sheet_60 : decode cX7_sheet 60 = .ok (.iload_n 2, 1) := by decide +kernel
theorem dX7_sheet_61 : decode cX7_sheet 61 = .ok (.iload_n 3, 1) := by decide +kernel
theorem dX7_sheet_62 : decode cX7_sheet 62 = .ok (.invokevirtual 230, 3) := by decide +kernel
theorem dX7_sheet_65 : decode cX7_sheet 65 = .ok (.iconst 1, 1) := by decide +kernel
theorem dX7_sheet_66 : decode cX7_sheet 66 = .ok (.ireturn, 1) := by decide +kernel
theorem dX7_cell_0 : decode cX7_cell 0 = .ok (.aload_n 0, 1) := by decide +kernel
theorem dX7_cell_1 : decode cX7_cell 1 = .ok (.iload_n 1, 1) := by decide +kernel
theorem dX7_cell_2 : decode cX7_cell 2 = .ok (.invokevirtual 216, 3) := by decide +kernel
theorem dX7_cell_5 : decode cX7_cell 5 = .ok (.istore 4, 2) := by decide +kernel
theorem dX7_cell_7 : decode cX7_cell 7 = .ok (.iload 4, 2) := by decide +kernel
theorem dX7_cell_9 : decode cX7_cell 9 = .ok (.ifCond .eq 6, 3) := by decide +kernel
theorem dX7_cell_12 : decode cX7_cell 12 = .ok (.iload 4, 2) := by decide +kernel
theorem dX7_cell_14 : decode cX7_cell 14 = .ok (.ireturn, 1) := by decide +kernel
theorem dX7_cell_15 : decode cX7_cell 15 = .ok (.iload_n 2, 1) := by decide +kernel
theorem dX7_cell_16 : decode cX7_cell 16 = .ok (.ifCond .lt 16, 3) := by decide +kernel
theorem dX7_cell_19 : decode cX7_cell 19 = .ok (.iload_n 2, 1) := by decide +kernel
theorem dX7_cell_20 : decode cX7_cell 20 = .ok (.aload_n 0, 1) := by decide +kernel
theorem dX7_cell_21 : decode cX7_cell 21 = .ok (.getfield 46, 3) := by decide +kernel
theorem dX7_cell_24 : decode cX7_cell 24 = .ok (.iload_n 1, 1) := by decide +kernel
theorem dX7_cell_25 : decode cX7_cell 25 = .ok (.aaload, 1) := by decide +kernel
theorem dX7_cell_26 : decode cX7_cell 26 = .ok (.getfield 241, 3) := by decide +kernel
theorem dX7_cell_29 : decode cX7_cell 29 = .ok (.if_icmp .lt 6, 3) := by decide +kernel
theorem dX7_cell_32 : decode cX7_cell 32 = .ok (.bipush (-12), 2) := by decide +kernel
theorem dX7_cell_34 : decode cX7_cell 34 = .ok (.ireturn, 1) := by decide +kernel
theorem dX7_cell_35 : decode cX7_cell 35 = .ok (.aload_n 0, 1) := by decide +kernel
theorem dX7_cell_36 : decode cX7_cell 36 = .ok (.getfield 46, 3) := by decide +kernel
theorem dX7_cell_39 : decode cX7_cell 39 = .ok (.iload_n 1, 1) := by decide +kernel
theorem dX7_cell_40 : decode cX7_cell 40 = .ok (.aaload, 1) := by decide +kernel
theorem dX7_cell_41 : decode cX7_cell 41 = .ok (.iload_n 2, 1) := by decide +kernel
theorem dX7_cell_42 : decode cX7_cell 42 = .ok (.iload_n 3, 1) := by decide +kernel
theorem dX7_cell_43 : decode cX7_cell 43 = .ok (.invokevirtual 234, 3) := by decide +kernel
theorem dX7_cell_46 : decode cX7_cell 46 = .ok (.iconst 1, 1) := by decide +kernel
theorem dX7_cell_47 : decode cX7_cell 47 = .ok (.ireturn, 1) := by decide +kernel
theorem dX7_copy_0 : decode cX7_copy 0 = .ok (.iload_n 1, 1) := by decide +kernel
theorem dX7_copy_1 : decode cX7_copy 1 = .ok (.invokestatic 227, 3) := by decide +kernel
theorem dX7_copy_4 : decode cX7_copy 4 = .ok (.ifCond .eq 10, 3) := by decide +kernel
theorem dX7_copy_7 : decode cX7_copy 7 = .ok (.iload_n 3, 1) := by decide +kernel
theorem dX7_copy_8 : decode cX7_copy 8 = .ok (.invokestatic 227, 3) := by decide +kernel
theorem dX7_copy_11 : decode cX7_copy 11 = .ok (.ifCond .ne 6, 3) := by decide +kernel
theorem dX7_copy_14 : decode cX7_copy 14 = .ok (.bipush (-2), 2) := by decide +kernel
theorem dX7_copy_16 : decode cX7_copy 16 = .ok (.ireturn, 1) := by decide +kernel
theorem dX7_copy_17 : decode cX7_copy 17 = .ok (.aload_n 0, 1) := by decide +kernel
theorem dX7_copy_18 : decode cX7_copy 18 = .ok (.getfield 46, 3) := by decide +kernel
theorem dX7_copy_21 : decode cX7_copy 21 = .ok (.iload_n 1, 1) := by decide +kernel
theorem dX7_copy_22 : decode cX7_copy 22 = .ok (.aaload, 1) := by decide +kernel
theorem dX7_copy_23 : decode cX7_copy 23 = .ok (.invokevirtual 237, 3) := by decide +kernel
theorem dX7_copy_26 : decode cX7_copy 26 = .ok (.ifCond .ne 15, 3) := by decide +kernel
theorem dX7_copy_29 : decode cX7_copy 29 = .ok (.aload_n 0, 1) := by decide +kernel
theorem dX7_copy_30 : decode cX7_copy 30 = .ok (.getfield 46, 3) := by decide +kernel
theorem dX7_copy_33 : decode cX7_copy 33 = .ok (.iload_n 3, 1) := by decide +kernel
theorem dX7_copy_34 : decode cX7_copy 34 = .ok (.aaload, 1) := by decide +kernel
theorem dX7_copy_35 : decode cX7_copy 35 = .ok (.invokevirtual 237, 3) := by decide +kernel
theorem dX7_copy_38 : decode cX7_copy 38 = .ok (.ifCond .eq 6, 3) := by decide +kernel
theorem dX7_copy_41 : decode cX7_copy 41 = .ok (.bipush (-11), 2) := by decide +kernel
theorem dX7_copy_43 : decode cX7_copy 43 = .ok (.ireturn, 1) := by decide +kernel
theorem dX7_copy_44 : decode cX7_copy 44 = .ok (.aload_n 0, 1) := by decide +kernel
theorem dX7_copy_45 : decode cX7_copy 45 = .ok (.getfield 46, 3) := by decide +kernel
theorem dX7_copy_48 : decode cX7_copy 48 = .ok (.iload_n 1, 1) := by decide +kernel
theorem dX7_copy_49 : decode cX7_copy 49 = .ok (.aaload, 1) := by decide +kernel
theorem dX7_copy_50 : decode cX7_copy 50 = .ok (.getfield 263, 3) := by decide +kernel
theorem dX7_copy_53 : decode cX7_copy 53 = .ok (.aload_n 0, 1) := by decide +kernel
theorem dX7_copy_54 : decode cX7_copy 54 = .ok (.getfield 46, 3) := by decide +kernel
theorem dX7_copy_57 : decode cX7_copy 57 = .ok (.iload_n 3, 1) := by decide +kernel
theorem dX7_copy_58 : decode cX7_copy 58 = .ok (.aaload, 1) := by decide +kernel
theorem dX7_copy_59 : decode cX7_copy 59 = .ok (.getfield 263, 3) := by decide +kernel
theorem dX7_copy_62 : decode cX7_copy 62 = .ok (.if_icmp .eq 6, 3) := by decide +kernel
theorem dX7_copy_65 : decode cX7_copy 65 = .ok (.bipush (-13), 2) := by decide +kernel
theorem dX7_copy_67 : decode cX7_copy 67 = .ok (.ireturn, 1) := by decide +kernel
theorem dX7_copy_68 : decode cX7_copy 68 = .ok (.aload_n 0, 1) := by decide +kernel
theorem dX7_copy_69 : decode cX7_copy 69 = .ok (.getfield 46, 3) := by decide +kernel
theorem dX7_copy_72 : decode cX7_copy 72 = .ok (.iload_n 1, 1) := by decide +kernel
theorem dX7_copy_73 : decode cX7_copy 73 = .ok (.aaload, 1) := by decide +kernel
theorem dX7_copy_74 : decode cX7_copy 74 = .ok (.iload_n 2, 1) := by decide +kernel
theorem dX7_copy_75 : decode cX7_copy 75 = .ok (.iload 5, 2) := by decide +kernel
theorem dX7_copy_77 : decode cX7_copy 77 = .ok (.invokevirtual 266, 3) := by decide +kernel
theorem dX7_copy_80 : decode cX7_copy 80 = .ok (.ifCond .eq 19, 3) := by decide +kernel
theorem dX7_copy_83 : decode cX7_copy 83 = .ok (.aload_n 0, 1) := by decide +kernel
theorem dX7_copy_84 : decode cX7_copy 84 = .ok (.getfield 46, 3) := by decide +kernel
theorem dX7_copy_87 : decode cX7_copy 87 = .ok (.iload_n 3, 1) := by decide +kernel
theorem dX7_copy_88 : decode cX7_copy 88 = .ok (.aaload, 1) := by decide +kernel
theorem dX7_copy_89 : decode cX7_copy 89 = .ok (.iload 4, 2) := by decide +kernel
theorem dX7_copy_91 : decode cX7_copy 91 = .ok (.iload 5, 2) := by decide +kernel
theorem dX7_copy_93 : decode cX7_copy 93 = .ok (.invokevirtual 266, 3) := by decide +kernel
theorem dX7_copy_96 : decode cX7_copy 96 = .ok (.ifCond .ne 6, 3) := by decide +kernel
theorem dX7_copy_99 : decode cX7_copy 99 = .ok (.bipush (-12), 2) := by decide +kernel
theorem dX7_copy_101 : decode cX7_copy 101 = .ok (.ireturn, 1) := by decide +kernel
theorem dX7_copy_102 : decode cX7_copy 102 = .ok (.aload_n 0, 1) := by decide +kernel
theorem dX7_copy_103 : decode cX7_copy 103 = .ok (.getfield 46, 3) := by decide +kernel
theorem dX7_copy_106 : decode cX7_copy 106 = .ok (.iload_n 1, 1) := by decide +kernel
theorem dX7_copy_107 : decode cX7_copy 107 = .ok (.aaload, 1) := by decide +kernel
theorem dX7_copy_108 : decode cX7_copy 108 = .ok (.getfield 243, 3) := by decide +kernel
theorem dX7_copy_111 : decode cX7_copy 111 = .ok (.iload_n 2, 1) := by decide +kernel
theorem dX7_copy_112 : decode cX7_copy 112 = .ok (.aload_n 0, 1) := by decide +kernel
theorem dX7_copy_113 : decode cX7_copy 113 = .ok (.getfield 46, 3) := by decide +kernel
theorem dX7_copy_116 : decode cX7_copy 116 = .ok (.iload_n 3, 1) := by decide +kernel
theorem dX7_copy_117 : decode cX7_copy 117 = .ok (.aaload, 1) := by decide +kernel
theorem dX7_copy_118 : decode cX7_copy 118 = .ok (.getfield 243, 3) := by decide +kernel
theorem dX7_copy_121 : decode cX7_copy 121 = .ok (.iload 4, 2) := by decide +kernel
theorem dX7_copy_123 : decode cX7_copy 123 = .ok (.iload 5, 2) := by decide +kernel
theorem dX7_copy_125 : decode cX7_copy 125 = .ok (.invokestatic 270, 3) := by decide +kernel
theorem dX7_copy_128 : decode cX7_copy 128 = .ok (.iload 5, 2) := by decide +kernel
theorem dX7_copy_130 : decode cX7_copy 130 = .ok (.ireturn, 1) := by decide +kernel
theorem dX7_wordsBy_0 : decode cX7_wordsBy 0 = .ok (.iload_n 1, 1) := by decide +kernel
theorem dX7_wordsBy_1 : decode cX7_wordsBy 1 = .ok (.invokestatic 227, 3) := by decide +kernel
theorem dX7_wordsBy_4 : decode cX7_wordsBy 4 = .ok (.ifCond .eq 24, 3) := by decide +kernel
theorem dX7_wordsBy_7 : decode cX7_wordsBy 7 = .ok (.iload_n 2, 1) := by decide +kernel
theorem dX7_wordsBy_8 : decode cX7_wordsBy 8 = .ok (.ifCond .lt 20, 3) := by decide +kernel
theorem dX7_wordsBy_11 : decode cX7_wordsBy 11 = .ok (.iload_n 2, 1) := by decide +kernel
theorem dX7_wordsBy_12 : decode cX7_wordsBy 12 = .ok (.iconst 2, 1) := by decide +kernel
theorem dX7_wordsBy_13 : decode cX7_wordsBy 13 = .ok (.if_icmp .gt 15, 3) := by decide +kernel
theorem dX7_wordsBy_16 : decode cX7_wordsBy 16 = .ok (.iload 4, 2) := by decide +kernel
theorem dX7_wordsBy_18 : decode cX7_wordsBy 18 = .ok (.ifCond .lt 10, 3) := by decide +kernel
theorem dX7_wordsBy_21 : decode cX7_wordsBy 21 = .ok (.iload 4, 2) := by decide +kernel
theorem dX7_wordsBy_23 : decode cX7_wordsBy 23 = .ok (.bipush 12, 2) := by decide +kernel
theorem dX7_wordsBy_25 : decode cX7_wordsBy 25 = .ok (.if_icmp .le 6, 3) := by decide +kernel
theorem dX7_wordsBy_28 : decode cX7_wordsBy 28 = .ok (.bipush (-2), 2) := by decide +kernel
theorem dX7_wordsBy_30 : decode cX7_wordsBy 30 = .ok (.ireturn, 1) := by decide +kernel
theorem dX7_wordsBy_31 : decode cX7_wordsBy 31 = .ok (.aload_n 0, 1) := by decide +kernel
theorem dX7_wordsBy_32 : decode cX7_wordsBy 32 = .ok (.getfield 46, 3) := by decide +kernel
theorem dX7_wordsBy_35 : decode cX7_wordsBy 35 = .ok (.iload_n 1, 1) := by decide +kernel
theorem dX7_wordsBy_36 : decode cX7_wordsBy 36 = .ok (.aaload, 1) := by decide +kernel
theorem dX7_wordsBy_37 : decode cX7_wordsBy 37 = .ok (.astore 5, 2) := by decide +kernel
theorem dX7_wordsBy_39 : decode cX7_wordsBy 39 = .ok (.aload 5, 2) := by decide +kernel
theorem dX7_wordsBy_41 : decode cX7_wordsBy 41 = .ok (.invokevirtual 237, 3) := by decide +kernel
theorem dX7_wordsBy_44 : decode cX7_wordsBy 44 = .ok (.ifCond .eq 6, 3) := by decide +kernel
theorem dX7_wordsBy_47 : decode cX7_wordsBy 47 = .ok (.bipush (-11), 2) := by decide +kernel
theorem dX7_wordsBy_49 : decode cX7_wordsBy 49 = .ok (.ireturn, 1) := by decide +kernel
theorem dX7_wordsBy_50 : decode cX7_wordsBy 50 = .ok (.aload 5, 2) := by decide +kernel
theorem dX7_wordsBy_52 : decode cX7_wordsBy 52 = .ok (.getfield 263, 3) := by decide +kernel
theorem dX7_wordsBy_55 : decode cX7_wordsBy 55 = .ok (.iload_n 2, 1) := by decide +kernel
theorem dX7_wordsBy_56 : decode cX7_wordsBy 56 = .ok (.if_icmp .eq 6, 3) := by decide +kernel
theorem dX7_wordsBy_59 : decode cX7_wordsBy 59 = .ok (.bipush (-13), 2) := by decide +kernel
theorem dX7_wordsBy_61 : decode cX7_wordsBy 61 = .ok (.ireturn, 1) := by decide +kernel
theorem dX7_wordsBy_62 : decode cX7_wordsBy 62 = .ok (.iconst 0, 1) := by decide +kernel
theorem dX7_wordsBy_63 : decode cX7_wordsBy 63 = .ok (.istore 6, 2) := by decide +kernel
theorem dX7_wordsBy_65 : decode cX7_wordsBy 65 = .ok (.iconst 0, 1) := by decide +kernel
theorem dX7_wordsBy_66 : decode cX7_wordsBy 66 = .ok (.istore 7, 2) := by decide +kernel
theorem dX7_wordsBy_68 : decode cX7_wordsBy 68 = .ok (.iload 7, 2) := by decide +kernel
theorem dX7_wordsBy_70 : decode cX7_wordsBy 70 = .ok (.iload 4, 2) := by decide +kernel
theorem dX7_wordsBy_72 : decode cX7_wordsBy 72 = .ok (.if_icmp .ge 83, 3) := by decide +kernel
theorem dX7_wordsBy_75 : decode cX7_wordsBy 75 = .ok (.iload_n 3, 1) := by decide +kernel
theorem dX7_wordsBy_76 : decode cX7_wordsBy 76 = .ok (.ifCond .lt 24, 3) := by decide +kernel
theorem dX7_wordsBy_79 : decode cX7_wordsBy 79 = .ok (.iload_n 3, 1) := by decide +kernel
theorem dX7_wordsBy_80 : decode cX7_wordsBy 80 = .ok (.bipush 40, 2) := by decide +kernel
theorem dX7_wordsBy_82 : decode cX7_wordsBy 82 = .ok (.if_icmp .gt 18, 3) := by decide +kernel
theorem dX7_wordsBy_85 : decode cX7_wordsBy 85 = .ok (.aload 5, 2) := by decide +kernel
theorem dX7_wordsBy_87 : decode cX7_wordsBy 87 = .ok (.iload_n 3, 1) := by decide +kernel
theorem dX7_wordsBy_88 : decode cX7_wordsBy 88 = .ok (.iconst 3, 1) := by decide +kernel
theorem dX7_wordsBy_89 : decode cX7_wordsBy 89 = .ok (.iload 7, 2) := by decide +kernel
theorem dX7_wordsBy_91 : decode cX7_wordsBy 91 = .ok (.imul, 1) := by decide +kernel
theorem dX7_wordsBy_92 : decode cX7_wordsBy 92 = .ok (.iadd, 1) := by decide +kernel
theorem dX7_wordsBy_93 : decode cX7_wordsBy 93 = .ok (.iconst 3, 1) := by decide +kernel
theorem dX7_wordsBy_94 : decode cX7_wordsBy 94 = .ok (.invokevirtual 266, 3) := by decide +kernel
theorem dX7_wordsBy_97 : decode cX7_wordsBy 97 = .ok (.ifCond .ne 6, 3) := by decide +kernel
theorem dX7_wordsBy_100 : decode cX7_wordsBy 100 = .ok (.bipush (-12), 2) := by decide +kernel
theorem dX7_wordsBy_102 : decode cX7_wordsBy 102 = .ok (.ireturn, 1) := by decide +kernel
theorem dX7_wordsBy_103 : decode cX7_wordsBy 103 = .ok (.iload_n 3, 1) := by decide +kernel
theorem dX7_wordsBy_104 : decode cX7_wordsBy 104 = .ok (.iconst 3, 1) := by decide +kernel
theorem dX7_wordsBy_105 : decode cX7_wordsBy 105 = .ok (.iload 7, 2) := by decide +kernel
theorem dX7_wordsBy_107 : decode cX7_wordsBy 107 = .ok (.imul, 1) := by decide +kernel
theorem dX7_wordsBy_108 : decode cX7_wordsBy 108 = .ok (.iadd, 1) := by decide +kernel
theorem dX7_wordsBy_109 : decode cX7_wordsBy 109 = .ok (.istore 8, 2) := by decide +kernel
theorem dX7_wordsBy_111 : decode cX7_wordsBy 111 = .ok (.aload_n 0, 1) := by decide +kernel
theorem dX7_wordsBy_112 : decode cX7_wordsBy 112 = .ok (.aload 5, 2) := by decide +kernel
theorem dX7_wordsBy_114 : decode cX7_wordsBy 114 = .ok (.getfield 243, 3) := by decide +kernel
theorem dX7_wordsBy_117 : decode cX7_wordsBy 117 = .ok (.iload 8, 2) := by decide +kernel
theorem dX7_wordsBy_119 : decode cX7_wordsBy 119 = .ok (.iaload, 1) := by decide +kernel
theorem dX7_wordsBy_120 : decode cX7_wordsBy 120 = .ok (.aload 5, 2) := by decide +kernel
theorem dX7_wordsBy_122 : decode cX7_wordsBy 122 = .ok (.getfield 243, 3) := by decide +kernel
theorem dX7_wordsBy_125 : decode cX7_wordsBy 125 = .ok (.iload 8, 2) := by decide +kernel
theorem dX7_wordsBy_127 : decode cX7_wordsBy 127 = .ok (.iconst 1, 1) := by decide +kernel
theorem dX7_wordsBy_128 : decode cX7_wordsBy 128 = .ok (.iadd, 1) := by decide +kernel
theorem dX7_wordsBy_129 : decode cX7_wordsBy 129 = .ok (.iaload, 1) := by decide +kernel
theorem dX7_wordsBy_130 : decode cX7_wordsBy 130 = .ok (.aload 5, 2) := by decide +kernel
theorem dX7_wordsBy_132 : decode cX7_wordsBy 132 = .ok (.getfield 243, 3) := by decide +kernel
theorem dX7_wordsBy_135 : decode cX7_wordsBy 135 = .ok (.iload 8, 2) := by decide +kernel
theorem dX7_wordsBy_137 : decode cX7_wordsBy 137 = .ok (.iconst 2, 1) := by decide +kernel
theorem dX7_wordsBy_138 : decode cX7_wordsBy 138 = .ok (.iadd, 1) := by decide +kernel
theorem dX7_wordsBy_139 : decode cX7_wordsBy 139 = .ok (.iaload, 1) := by decide +kernel
theorem dX7_wordsBy_140 : decode cX7_wordsBy 140 = .ok (.invokevirtual 276, 3) := by decide +kernel
theorem dX7_wordsBy_143 : decode cX7_wordsBy 143 = .ok (.ifCond .lt 6, 3) := by decide +kernel
theorem dX7_wordsBy_146 : decode cX7_wordsBy 146 = .ok (.iinc 6 1, 3) := by decide +kernel
theorem dX7_wordsBy_149 : decode cX7_wordsBy 149 = .ok (.iinc 7 1, 3) := by decide +kernel
theorem dX7_wordsBy_152 : decode cX7_wordsBy 152 = .ok (.goto (-84), 3) := by decide +kernel
theorem dX7_wordsBy_155 : decode cX7_wordsBy 155 = .ok (.iload 6, 2) := by decide +kernel
theorem dX7_wordsBy_157 : decode cX7_wordsBy 157 = .ok (.ireturn, 1) := by decide +kernel
theorem dX7_taken_0 : decode cX7_taken 0 = .ok (.iload_n 2, 1) := by decide +kernel
theorem dX7_taken_1 : decode cX7_taken 1 = .ok (.ifCond .lt 9, 3) := by decide +kernel
theorem dX7_taken_4 : decode cX7_taken 4 = .ok (.iload_n 2, 1) := by decide +kernel
theorem dX7_taken_5 : decode cX7_taken 5 = .ok (.bipush 6, 2) := by decide +kernel
theorem dX7_taken_7 : decode cX7_taken 7 = .ok (.if_icmp .le 7, 3) := by decide +kernel
theorem dX7_taken_10 : decode cX7_taken 10 = .ok (.ldc2_w 279, 3) := by decide +kernel
theorem dX7_taken_13 : decode cX7_taken 13 = .ok (.lreturn, 1) := by decide +kernel
theorem dX7_taken_14 : decode cX7_taken 14 = .ok (.iload_n 1, 1) := by decide +kernel
theorem dX7_taken_15 : decode cX7_taken 15 = .ok (.ifCond .lt 9, 3) := by decide +kernel
theorem dX7_taken_18 : decode cX7_taken 18 = .ok (.iload_n 1, 1) := by decide +kernel
theorem dX7_taken_19 : decode cX7_taken 19 = .ok (.bipush 18, 2) := by decide +kernel
theorem dX7_taken_21 : decode cX7_taken 21 = .ok (.if_icmp .lt 7, 3) := by decide +kernel
theorem dX7_taken_24 : decode cX7_taken 24 = .ok (.ldc2_w 281, 3) := by decide +kernel
theorem dX7_taken_27 : decode cX7_taken 27 = .ok (.lreturn, 1) := by decide +kernel
theorem dX7_taken_28 : decode cX7_taken 28 = .ok (.iload_n 1, 1) := by decide +kernel
theorem dX7_taken_29 : decode cX7_taken 29 = .ok (.bipush 12, 2) := by decide +kernel
theorem dX7_taken_31 : decode cX7_taken 31 = .ok (.if_icmp .lt 7, 3) := by decide +kernel
theorem dX7_taken_34 : decode cX7_taken 34 = .ok (.iconst 1, 1) := by decide +kernel
theorem dX7_taken_35 : decode cX7_taken 35 = .ok (.goto 4, 3) := by decide +kernel
theorem dX7_taken_38 : decode cX7_taken 38 = .ok (.iconst 0, 1) := by decide +kernel
theorem dX7_taken_39 : decode cX7_taken 39 = .ok (.istore_n 3, 1) := by decide +kernel
theorem dX7_taken_40 : decode cX7_taken 40 = .ok (.iload_n 3, 1) := by decide +kernel
theorem dX7_taken_41 : decode cX7_taken 41 = .ok (.ifCond .eq 20, 3) := by decide +kernel
theorem dX7_taken_44 : decode cX7_taken 44 = .ok (.aload_n 0, 1) := by decide +kernel
theorem dX7_taken_45 : decode cX7_taken 45 = .ok (.getfield 27, 3) := by decide +kernel
theorem dX7_taken_48 : decode cX7_taken 48 = .ok (.iload_n 1, 1) := by decide +kernel
theorem dX7_taken_49 : decode cX7_taken 49 = .ok (.bipush 12, 2) := by decide +kernel
theorem dX7_taken_51 : decode cX7_taken 51 = .ok (.isub, 1) := by decide +kernel
theorem dX7_taken_52 : decode cX7_taken 52 = .ok (.invokevirtual 173, 3) := by decide +kernel
theorem dX7_taken_55 : decode cX7_taken 55 = .ok (.ifCond .ne 21, 3) := by decide +kernel
theorem dX7_taken_58 : decode cX7_taken 58 = .ok (.goto 14, 3) := by decide +kernel
theorem dX7_taken_61 : decode cX7_taken 61 = .ok (.aload_n 0, 1) := by decide +kernel
theorem dX7_taken_62 : decode cX7_taken 62 = .ok (.getfield 27, 3) := by decide +kernel
theorem dX7_taken_65 : decode cX7_taken 65 = .ok (.iload_n 1, 1) := by decide +kernel
theorem dX7_taken_66 : decode cX7_taken 66 = .ok (.invokevirtual 118, 3) := by decide +kernel
theorem dX7_taken_69 : decode cX7_taken 69 = .ok (.ifCond .ne 7, 3) := by decide +kernel
theorem dX7_taken_72 : decode cX7_taken 72 = .ok (.ldc2_w 283, 3) := by decide +kernel
theorem dX7_taken_75 : decode cX7_taken 75 = .ok (.lreturn, 1) := by decide +kernel
theorem dX7_taken_76 : decode cX7_taken 76 = .ok (.iload_n 3, 1) := by decide +kernel
theorem dX7_taken_77 : decode cX7_taken 77 = .ok (.ifCond .eq 29, 3) := by decide +kernel
theorem dX7_taken_80 : decode cX7_taken 80 = .ok (.iload_n 2, 1) := by decide +kernel
theorem dX7_taken_81 : decode cX7_taken 81 = .ok (.bipush 6, 2) := by decide +kernel
theorem dX7_taken_83 : decode cX7_taken 83 = .ok (.if_icmp .ne 19, 3) := by decide +kernel
theorem dX7_taken_86 : decode cX7_taken 86 = .ok (.aload_n 0, 1) := by decide +kernel
theorem dX7_taken_87 : decode cX7_taken 87 = .ok (.getfield 27, 3) := by decide +kernel
theorem dX7_taken_90 : decode cX7_taken 90 = .ok (.getfield 176, 3) := by decide +kernel
theorem dX7_taken_93 : decode cX7_taken 93 = .ok (.iload_n 1, 1) := by decide +kernel
theorem dX7_taken_94 : decode cX7_taken 94 = .ok (.bipush 12, 2) := by decide +kernel
theorem dX7_taken_96 : decode cX7_taken 96 = .ok (.isub, 1) := by decide +kernel
theorem dX7_taken_97 : decode cX7_taken 97 = .ok (.iaload, 1) := by decide +kernel
theorem dX7_taken_98 : decode cX7_taken 98 = .ok (.i2l, 1) := by decide +kernel
theorem dX7_taken_99 : decode cX7_taken 99 = .ok (.goto 6, 3) := by decide +kernel
theorem dX7_taken_102 : decode cX7_taken 102 = .ok (.ldc2_w 285, 3) := by decide +kernel
theorem dX7_taken_105 : decode cX7_taken 105 = .ok (.lreturn, 1) := by decide +kernel
theorem dX7_taken_106 : decode cX7_taken 106 = .ok (.aload_n 0, 1) := by decide +kernel
theorem dX7_taken_107 : decode cX7_taken 107 = .ok (.getfield 27, 3) := by decide +kernel
theorem dX7_taken_110 : decode cX7_taken 110 = .ok (.getfield 129, 3) := by decide +kernel
theorem dX7_taken_113 : decode cX7_taken 113 = .ok (.iload_n 1, 1) := by decide +kernel
theorem dX7_taken_114 : decode cX7_taken 114 = .ok (.iaload, 1) := by decide +kernel
theorem dX7_taken_115 : decode cX7_taken 115 = .ok (.iload_n 2, 1) := by decide +kernel
theorem dX7_taken_116 : decode cX7_taken 116 = .ok (.invokestatic 287, 3) := by decide +kernel
theorem dX7_taken_119 : decode cX7_taken 119 = .ok (.ifCond .eq 8, 3) := by decide +kernel
theorem dX7_taken_122 : decode cX7_taken 122 = .ok (.iload_n 1, 1) := by decide +kernel
theorem dX7_taken_123 : decode cX7_taken 123 = .ok (.i2l, 1) := by decide +kernel
theorem dX7_taken_124 : decode cX7_taken 124 = .ok (.goto 6, 3) := by decide +kernel
theorem dX7_taken_127 : decode cX7_taken 127 = .ok (.ldc2_w 285, 3) := by decide +kernel
theorem dX7_taken_130 : decode cX7_taken 130 = .ok (.lreturn, 1) := by decide +kernel
theorem dX7_isZeroOrOne_0 : decode cX7_isZeroOrOne 0 = .ok (.iload_n 0, 1) := by decide +kernel
theorem dX7_isZeroOrOne_1 : decode cX7_isZeroOrOne 1 = .ok (.ifCond .eq 8, 3) := by decide +kernel
theorem dX7_isZeroOrOne_4 : decode cX7_isZeroOrOne 4 = .ok (.iload_n 0, 1) := by decide +kernel
theorem dX7_isZeroOrOne_5 : decode cX7_isZeroOrOne 5 = .ok (.iconst 1, 1) := by decide +kernel
theorem dX7_isZeroOrOne_6 : decode cX7_isZeroOrOne 6 = .ok (.if_icmp .ne 7, 3) := by decide +kernel
theorem dX7_isZeroOrOne_9 : decode cX7_isZeroOrOne 9 = .ok (.iconst 1, 1) := by decide +kernel
theorem dX7_isZeroOrOne_10 : decode cX7_isZeroOrOne 10 = .ok (.goto 4, 3) := by decide +kernel
theorem dX7_isZeroOrOne_13 : decode cX7_isZeroOrOne 13 = .ok (.iconst 0, 1) := by decide +kernel
theorem dX7_isZeroOrOne_14 : decode cX7_isZeroOrOne 14 = .ok (.ireturn, 1) := by decide +kernel
theorem dX7_isDays_0 : decode cX7_isDays 0 = .ok (.iload_n 0, 1) := by decide +kernel
theorem dX7_isDays_1 : decode cX7_isDays 1 = .ok (.ifCond .lt 13, 3) := by decide +kernel
theorem dX7_isDays_4 : decode cX7_isDays 4 = .ok (.iload_n 0, 1) := by decide +kernel
theorem dX7_isDays_5 : decode cX7_isDays 5 = .ok (.bipush 60, 2) := by decide +kernel
theorem dX7_isDays_7 : decode cX7_isDays 7 = .ok (.if_icmp .gt 7, 3) := by decide +kernel
theorem dX7_isDays_10 : decode cX7_isDays 10 = .ok (.iconst 1, 1) := by decide +kernel
theorem dX7_isDays_11 : decode cX7_isDays 11 = .ok (.goto 4, 3) := by decide +kernel
theorem dX7_isDays_14 : decode cX7_isDays 14 = .ok (.iconst 0, 1) := by decide +kernel
theorem dX7_isDays_15 : decode cX7_isDays 15 = .ok (.ireturn, 1) := by decide +kernel
theorem dX7_isSeed_0 : decode cX7_isSeed 0 = .ok (.iload_n 0, 1) := by decide +kernel
theorem dX7_isSeed_1 : decode cX7_isSeed 1 = .ok (.ifCond .lt 14, 3) := by decide +kernel
theorem dX7_isSeed_4 : decode cX7_isSeed 4 = .ok (.iload_n 0, 1) := by decide +kernel
theorem dX7_isSeed_5 : decode cX7_isSeed 5 = .ok (.ldc_w 290, 3) := by decide +kernel
theorem dX7_isSeed_8 : decode cX7_isSeed 8 = .ok (.if_icmp .gt 7, 3) := by decide +kernel
theorem dX7_isSeed_11 : decode cX7_isSeed 11 = .ok (.iconst 1, 1) := by decide +kernel
theorem dX7_isSeed_12 : decode cX7_isSeed 12 = .ok (.goto 4, 3) := by decide +kernel
theorem dX7_isSeed_15 : decode cX7_isSeed 15 = .ok (.iconst 0, 1) := by decide +kernel
theorem dX7_isSeed_16 : decode cX7_isSeed 16 = .ok (.ireturn, 1) := by decide +kernel
theorem dX7_isSheet_0 : decode cX7_isSheet 0 = .ok (.iload_n 0, 1) := by decide +kernel
theorem dX7_isSheet_1 : decode cX7_isSheet 1 = .ok (.ifCond .lt 12, 3) := by decide +kernel
theorem dX7_isSheet_4 : decode cX7_isSheet 4 = .ok (.iload_n 0, 1) := by decide +kernel
theorem dX7_isSheet_5 : decode cX7_isSheet 5 = .ok (.iconst 4, 1) := by decide +kernel
theorem dX7_isSheet_6 : decode cX7_isSheet 6 = .ok (.if_icmp .ge 7, 3) := by decide +kernel
theorem dX7_isSheet_9 : decode cX7_isSheet 9 = .ok (.iconst 1, 1) := by decide +kernel
theorem dX7_isSheet_10 : decode cX7_isSheet 10 = .ok (.goto 4, 3) := by decide +kernel
theorem dX7_isSheet_13 : decode cX7_isSheet 13 = .ok (.iconst 0, 1) := by decide +kernel
theorem dX7_isSheet_14 : decode cX7_isSheet 14 = .ok (.ireturn, 1) := by decide +kernel
theorem dX7_firstText_0 : decode cX7_firstText 0 = .ok (.iconst 5, 1) := by decide +kernel
theorem dX7_firstText_1 : decode cX7_firstText 1 = .ok (.newarray .int, 2) := by decide +kernel
theorem dX7_firstText_3 : decode cX7_firstText 3 = .ok (.dup, 1) := by decide +kernel
theorem dX7_firstText_4 : decode cX7_firstText 4 = .ok (.iconst 0, 1) := by decide +kernel
theorem dX7_firstText_5 : decode cX7_firstText 5 = .ok (.bipush 10, 2) := by decide +kernel
theorem dX7_firstText_7 : decode cX7_firstText 7 = .ok (.iastore, 1) := by decide +kernel
theorem dX7_firstText_8 : decode cX7_firstText 8 = .ok (.dup, 1) := by decide +kernel
theorem dX7_firstText_9 : decode cX7_firstText 9 = .ok (.iconst 1, 1) := by decide +kernel
theorem dX7_firstText_10 : decode cX7_firstText 10 = .ok (.iconst 1, 1) := by decide +kernel
theorem dX7_firstText_11 : decode cX7_firstText 11 = .ok (.iastore, 1) := by decide +kernel
theorem dX7_firstText_12 : decode cX7_firstText 12 = .ok (.dup, 1) := by decide +kernel
theorem dX7_firstText_13 : decode cX7_firstText 13 = .ok (.iconst 2, 1) := by decide +kernel
theorem dX7_firstText_14 : decode cX7_firstText 14 = .ok (.iconst 5, 1) := by decide +kernel
theorem dX7_firstText_15 : decode cX7_firstText 15 = .ok (.iastore, 1) := by decide +kernel
theorem dX7_firstText_16 : decode cX7_firstText 16 = .ok (.dup, 1) := by decide +kernel
theorem dX7_firstText_17 : decode cX7_firstText 17 = .ok (.iconst 3, 1) := by decide +kernel
theorem dX7_firstText_18 : decode cX7_firstText 18 = .ok (.sipush (-266), 3) := by decide +kernel
theorem dX7_firstText_21 : decode cX7_firstText 21 = .ok (.iastore, 1) := by decide +kernel
theorem dX7_firstText_22 : decode cX7_firstText 22 = .ok (.dup, 1) := by decide +kernel
theorem dX7_firstText_23 : decode cX7_firstText 23 = .ok (.iconst 4, 1) := by decide +kernel
theorem dX7_firstText_24 : decode cX7_firstText 24 = .ok (.bipush (-43), 2) := by decide +kernel
theorem dX7_firstText_26 : decode cX7_firstText 26 = .ok (.iastore, 1) := by decide +kernel
theorem dX7_firstText_27 : decode cX7_firstText 27 = .ok (.astore_n 0, 1) := by decide +kernel
theorem dX7_firstText_28 : decode cX7_firstText 28 = .ok (.new 9, 3) := by decide +kernel
theorem dX7_firstText_31 : decode cX7_firstText 31 = .ok (.dup, 1) := by decide +kernel
theorem dX7_firstText_32 : decode cX7_firstText 32 = .ok (.aload_n 0, 1) := by decide +kernel
theorem dX7_firstText_33 : decode cX7_firstText 33 = .ok (.iconst 1, 1) := by decide +kernel
theorem dX7_firstText_34 : decode cX7_firstText 34 = .ok (.iconst 2, 1) := by decide +kernel
theorem dX7_firstText_35 : decode cX7_firstText 35 = .ok (.invokespecial 291, 3) := by decide +kernel
theorem dX7_firstText_38 : decode cX7_firstText 38 = .ok (.areturn, 1) := by decide +kernel
theorem dX7_think_0 : decode cX7_think 0 = .ok (.aload_n 0, 1) := by decide +kernel
theorem dX7_think_1 : decode cX7_think 1 = .ok (.getfield 34, 3) := by decide +kernel
theorem dX7_think_4 : decode cX7_think 4 = .ok (.aload_n 0, 1) := by decide +kernel
theorem dX7_think_5 : decode cX7_think 5 = .ok (.getfield 27, 3) := by decide +kernel
theorem dX7_think_8 : decode cX7_think 8 = .ok (.invokevirtual 255, 3) := by decide +kernel
theorem dX7_think_11 : decode cX7_think 11 = .ok (.iload_n 2, 1) := by decide +kernel
theorem dX7_think_12 : decode cX7_think 12 = .ok (.ifCond .lt 9, 3) := by decide +kernel
theorem dX7_think_15 : decode cX7_think 15 = .ok (.iload_n 2, 1) := by decide +kernel
theorem dX7_think_16 : decode cX7_think 16 = .ok (.bipush 12, 2) := by decide +kernel
theorem dX7_think_18 : decode cX7_think 18 = .ok (.if_icmp .lt 4, 3) := by decide +kernel
theorem dX7_think_21 : decode cX7_think 21 = .ok (.return_, 1) := by decide +kernel
theorem dX7_think_22 : decode cX7_think 22 = .ok (.iload_n 1, 1) := by decide +kernel
theorem dX7_think_23 : decode cX7_think 23 = .ok (.tableswitch 192 1 8 #[45, 71, 82, 100, 132, 152, 172, 121], 45) := by decide +kernel
theorem dX7_think_68 : decode cX7_think 68 = .ok (.aload_n 0, 1) := by decide +kernel
theorem dX7_think_69 : decode cX7_think 69 = .ok (.getfield 34, 3) := by decide +kernel
theorem dX7_think_72 : decode cX7_think 72 = .ok (.aload_n 0, 1) := by decide +kernel
theorem dX7_think_73 : decode cX7_think 73 = .ok (.getfield 34, 3) := by decide +kernel
theorem dX7_think_76 : decode cX7_think 76 = .ok (.iload_n 3, 1) := by decide +kernel
theorem dX7_think_77 : decode cX7_think 77 = .ok (.invokevirtual 294, 3) := by decide +kernel
theorem dX7_think_80 : decode cX7_think 80 = .ok (.putfield 61, 3) := by decide +kernel
theorem dX7_think_83 : decode cX7_think 83 = .ok (.aload_n 0, 1) := by decide +kernel
theorem dX7_think_84 : decode cX7_think 84 = .ok (.getfield 34, 3) := by decide +kernel
theorem dX7_think_87 : decode cX7_think 87 = .ok (.iconst (-1), 1) := by decide +kernel
theorem dX7_think_88 : decode cX7_think 88 = .ok (.putfield 67, 3) := by decide +kernel
theorem dX7_think_91 : decode cX7_think 91 = .ok (.goto 124, 3) := by decide +kernel
theorem dX7_think_94 : decode cX7_think 94 = .ok (.aload_n 0, 1) := by decide +kernel
theorem dX7_think_95 : decode cX7_think 95 = .ok (.getfield 34, 3) := by decide +kernel
theorem dX7_think_98 : decode cX7_think 98 = .ok (.iload_n 3, 1) := by decide +kernel
theorem dX7_think_99 : decode cX7_think 99 = .ok (.putfield 67, 3) := by decide +kernel
theorem dX7_think_102 : decode cX7_think 102 = .ok (.goto 113, 3) := by decide +kernel
theorem dX7_think_105 : decode cX7_think 105 = .ok (.aload_n 0, 1) := by decide +kernel
theorem dX7_think_106 : decode cX7_think 106 = .ok (.getfield 34, 3) := by decide +kernel
theorem dX7_think_109 : decode cX7_think 109 = .ok (.dup, 1) := by decide +kernel
theorem dX7_think_110 : decode cX7_think 110 = .ok (.getfield 70, 3) := by decide +kernel
theorem dX7_think_113 : decode cX7_think 113 = .ok (.iconst 1, 1) := by decide +kernel
theorem dX7_think_114 : decode cX7_think 114 = .ok (.iload_n 3, 1) := by decide +kernel
theorem dX7_think_115 : decode cX7_think 115 = .ok (.ishl, 1) := by decide +kernel
theorem dX7_think_116 : decode cX7_think 116 = .ok (.ior, 1) := by decide +kernel
theorem dX7_think_117 : decode cX7_think 117 = .ok (.putfield 70, 3) := by decide +kernel
theorem dX7_think_120 : decode cX7_think 120 = .ok (.goto 95, 3) := by decide +kernel
theorem dX7_think_123 : decode cX7_think 123 = .ok (.aload_n 0, 1) := by decide +kernel
theorem dX7_think_124 : decode cX7_think 124 = .ok (.getfield 34, 3) := by decide +kernel
theorem dX7_think_127 : decode cX7_think 127 = .ok (.iload_n 3, 1) := by decide +kernel
theorem dX7_think_128 : decode cX7_think 128 = .ok (.ifCond .ge 7, 3) := by decide +kernel
theorem dX7_think_131 : decode cX7_think 131 = .ok (.iconst 0, 1) := by decide +kernel
theorem dX7_think_132 : decode cX7_think 132 = .ok (.goto 6, 3) := by decide +kernel
theorem dX7_think_135 : decode cX7_think 135 = .ok (.iconst 1, 1) := by decide +kernel
theorem dX7_think_136 : decode cX7_think 136 = .ok (.iload_n 3, 1) := by decide +kernel
theorem dX7_think_137 : decode cX7_think 137 = .ok (.ishl, 1) := by decide +kernel
theorem dX7_think_138 : decode cX7_think 138 = .ok (.putfield 70, 3) := by decide +kernel
theorem dX7_think_141 : decode cX7_think 141 = .ok (.goto 74, 3) := by decide +kernel
theorem dX7_think_144 : decode cX7_think 144 = .ok (.aload_n 0, 1) := by decide +kernel
theorem dX7_think_145 : decode cX7_think 145 = .ok (.getfield 34, 3) := by decide +kernel
theorem dX7_think_148 : decode cX7_think 148 = .ok (.iload_n 3, 1) := by decide +kernel
theorem dX7_think_149 : decode cX7_think 149 = .ok (.putfield 73, 3) := by decide +kernel
theorem dX7_think_152 : decode cX7_think 152 = .ok (.goto 63, 3) := by decide +kernel
theorem dX7_think_155 : decode cX7_think 155 = .ok (.aload_n 0, 1) := by decide +kernel
theorem dX7_think_156 : decode cX7_think 156 = .ok (.getfield 34, 3) := by decide +kernel
theorem dX7_think_159 : decode cX7_think 159 = .ok (.getfield 138, 3) := by decide +kernel
theorem dX7_think_162 : decode cX7_think 162 = .ok (.iload_n 2, 1) := by decide +kernel
theorem dX7_think_163 : decode cX7_think 163 = .ok (.iload_n 3, 1) := by decide +kernel
theorem dX7_think_164 : decode cX7_think 164 = .ok (.iastore, 1) := by decide +kernel
theorem dX7_think_165 : decode cX7_think 165 = .ok (.aload_n 0, 1) := by decide +kernel
theorem dX7_think_166 : decode cX7_think 166 = .ok (.getfield 34, 3) := by decide +kernel
theorem dX7_think_169 : decode cX7_think 169 = .ok (.invokevirtual 155, 3) := by decide +kernel
theorem dX7_think_172 : decode cX7_think 172 = .ok (.goto 43, 3) := by decide +kernel
theorem dX7_think_175 : decode cX7_think 175 = .ok (.aload_n 0, 1) := by decide +kernel
theorem dX7_think_176 : decode cX7_think 176 = .ok (.getfield 34, 3) := by decide +kernel
theorem dX7_think_179 : decode cX7_think 179 = .ok (.getfield 129, 3) := by decide +kernel
theorem dX7_think_182 : decode cX7_think 182 = .ok (.iload_n 2, 1) := by decide +kernel
theorem dX7_think_183 : decode cX7_think 183 = .ok (.iload_n 3, 1) := by decide +kernel
theorem dX7_think_184 : decode cX7_think 184 = .ok (.iastore, 1) := by decide +kernel
theorem dX7_think_185 : decode cX7_think 185 = .ok (.aload_n 0, 1) := by decide +kernel
theorem dX7_think_186 : decode cX7_think 186 = .ok (.getfield 34, 3) := by decide +kernel
theorem dX7_think_189 : decode cX7_think 189 = .ok (.invokevirtual 155, 3) := by decide +kernel
theorem dX7_think_192 : decode cX7_think 192 = .ok (.goto 23, 3) := by decide +kernel
theorem dX7_think_195 : decode cX7_think 195 = .ok (.aload_n 0, 1) := by decide +kernel
theorem dX7_think_196 : decode cX7_think 196 = .ok (.getfield 34, 3) := by decide +kernel
theorem dX7_think_199 : decode cX7_think 199 = .ok (.getfield 132, 3) := by decide +kernel
theorem dX7_think_202 : decode cX7_think 202 = .ok (.iload_n 2, 1) := by decide +kernel
theorem dX7_think_203 : decode cX7_think 203 = .ok (.iload_n 3, 1) := by decide +kernel
theorem dX7_think_204 : decode cX7_think 204 = .ok (.iastore, 1) := by decide +kernel
theorem dX7_think_205 : decode cX7_think 205 = .ok (.aload_n 0, 1) := by decide +kernel
theorem dX7_think_206 : decode cX7_think 206 = .ok (.getfield 34, 3) := by decide +kernel
theorem dX7_think_209 : decode cX7_think 209 = .ok (.invokevirtual 155, 3) := by decide +kernel
theorem dX7_think_212 : decode cX7_think 212 = .ok (.goto 3, 3) := by decide +kernel
theorem dX7_think_215 : decode cX7_think 215 = .ok (.return_, 1) := by decide +kernel
theorem dX7_passDays_0 : decode cX7_passDays 0 = .ok (.iload_n 3, 1) := by decide +kernel
theorem dX7_passDays_1 : decode cX7_passDays 1 = .ok (.i2l, 1) := by decide +kernel
theorem dX7_passDays_2 : decode cX7_passDays 2 = .ok (.lconst 1, 1) := by decide +kernel
theorem dX7_passDays_3 : decode cX7_passDays 3 = .ok (.ladd, 1) := by decide +kernel
theorem dX7_passDays_4 : decode cX7_passDays 4 = .ok (.lstore 5, 2) := by decide +kernel
theorem dX7_passDays_6 : decode cX7_passDays 6 = .ok (.iconst 0, 1) := by decide +kernel
theorem dX7_passDays_7 : decode cX7_passDays 7 = .ok (.istore 7, 2) := by decide +kernel
theorem dX7_passDays_9 : decode cX7_passDays 9 = .ok (.iconst 0, 1) := by decide +kernel
theorem dX7_passDays_10 : decode cX7_passDays 10 = .ok (.istore 8, 2) := by decide +kernel
theorem dX7_passDays_12 : decode cX7_passDays 12 = .ok (.iconst 0, 1) := by decide +kernel
theorem dX7_passDays_13 : decode cX7_passDays 13 = .ok (.istore 9, 2) := by decide +kernel
theorem dX7_passDays_15 : decode cX7_passDays 15 = .ok (.iconst 0, 1) := by decide +kernel
theorem dX7_passDays_16 : decode cX7_passDays 16 = .ok (.istore 10, 2) := by decide +kernel
theorem dX7_passDays_18 : decode cX7_passDays 18 = .ok (.iconst 0, 1) := by decide +kernel
theorem dX7_passDays_19 : decode cX7_passDays 19 = .ok (.istore 11, 2) := by decide +kernel
theorem dX7_passDays_21 : decode cX7_passDays 21 = .ok (.iload 11, 2) := by decide +kernel
theorem dX7_passDays_23 : decode cX7_passDays 23 = .ok (.iload_n 1, 1) := by decide +kernel
theorem dX7_passDays_24 : decode cX7_passDays 24 = .ok (.if_icmp .ge 135, 3) := by decide +kernel
theorem dX7_passDays_27 : decode cX7_passDays 27 = .ok (.lload 5, 2) := by decide +kernel
theorem dX7_passDays_29 : decode cX7_passDays 29 = .ok (.ldc2_w 297, 3) := by decide +kernel
theorem dX7_passDays_32 : decode cX7_passDays 32 = .ok (.lmul, 1) := by decide +kernel
theorem dX7_passDays_33 : decode cX7_passDays 33 = .ok (.ldc2_w 299, 3) := by decide +kernel
theorem dX7_passDays_36 : decode cX7_passDays 36 = .ok (.lrem, 1) := by decide +kernel
theorem dX7_passDays_37 : decode cX7_passDays 37 = .ok (.lstore 5, 2) := by decide +kernel
theorem dX7_passDays_39 : decode cX7_passDays 39 = .ok (.iload 11, 2) := by decide +kernel
theorem dX7_passDays_41 : decode cX7_passDays 41 = .ok (.ifCond .le 30, 3) := by decide +kernel
theorem dX7_passDays_44 : decode cX7_passDays 44 = .ok (.lload 5, 2) := by decide +kernel
theorem dX7_passDays_46 : decode cX7_passDays 46 = .ok (.ldc2_w 301, 3) := by decide +kernel
theorem dX7_passDays_49 : decode cX7_passDays 49 = .ok (.lrem, 1) := by decide +kernel
theorem dX7_passDays_50 : decode cX7_passDays 50 = .ok (.iload 4, 2) := by decide +kernel
theorem dX7_passDays_52 : decode cX7_passDays 52 = .ok (.i2l, 1) := by decide +kernel
theorem dX7_passDays_53 : decode cX7_passDays 53 = .ok (.lcmp, 1) := by decide +kernel
theorem dX7_passDays_54 : decode cX7_passDays 54 = .ok (.ifCond .ge 17, 3) := by decide +kernel
theorem dX7_passDays_57 : decode cX7_passDays 57 = .ok (.aload_n 0, 1) := by decide +kernel
theorem dX7_passDays_58 : decode cX7_passDays 58 = .ok (.getfield 34, 3) := by decide +kernel
theorem dX7_passDays_61 : decode cX7_passDays 61 = .ok (.aload_n 0, 1) := by decide +kernel
theorem dX7_passDays_62 : decode cX7_passDays 62 = .ok (.getfield 34, 3) := by decide +kernel
theorem dX7_passDays_65 : decode cX7_passDays 65 = .ok (.getfield 303, 3) := by decide +kernel
theorem dX7_passDays_68 : decode cX7_passDays 68 = .ok (.putfield 61, 3) := by decide +kernel
theorem dX7_passDays_71 : decode cX7_passDays 71 = .ok (.aload_n 0, 1) := by decide +kernel
theorem dX7_passDays_72 : decode cX7_passDays 72 = .ok (.getfield 34, 3) := by decide +kernel
theorem dX7_passDays_75 : decode cX7_passDays 75 = .ok (.invokevirtual 158, 3) := by decide +kernel
theorem dX7_passDays_78 : decode cX7_passDays 78 = .ok (.aload_n 0, 1) := by decide +kernel
theorem dX7_passDays_79 : decode cX7_passDays 79 = .ok (.getfield 34, 3) := by decide +kernel
theorem dX7_passDays_82 : decode cX7_passDays 82 = .ok (.aload_n 0, 1) := by decide +kernel
theorem dX7_passDays_83 : decode cX7_passDays 83 = .ok (.getfield 34, 3) := by decide +kernel
theorem dX7_passDays_86 : decode cX7_passDays 86 = .ok (.invokevirtual 164, 3) := by decide +kernel
theorem dX7_passDays_89 : decode cX7_passDays 89 = .ok (.invokevirtual 167, 3) := by decide +kernel
theorem dX7_passDays_92 : decode cX7_passDays 92 = .ok (.istore 12, 2) := by decide +kernel
theorem dX7_passDays_94 : decode cX7_passDays 94 = .ok (.aload_n 0, 1) := by decide +kernel
theorem dX7_passDays_95 : decode cX7_passDays 95 = .ok (.getfield 34, 3) := by decide +kernel
theorem dX7_passDays_98 : decode cX7_passDays 98 = .ok (.iload 12, 2) := by decide +kernel
theorem dX7_passDays_100 : decode cX7_passDays 100 = .ok (.invokevirtual 182, 3) := by decide +kernel
theorem dX7_passDays_103 : decode cX7_passDays 103 = .ok (.istore 13, 2) := by decide +kernel
theorem dX7_passDays_105 : decode cX7_passDays 105 = .ok (.iload 7, 2) := by decide +kernel
theorem dX7_passDays_107 : decode cX7_passDays 107 = .ok (.iload_n 2, 1) := by decide +kernel
theorem dX7_passDays_108 : decode cX7_passDays 108 = .ok (.ifCond .ne 15, 3) := by decide +kernel
theorem dX7_passDays_111 : decode cX7_passDays 111 = .ok (.aload_n 0, 1) := by decide +kernel
theorem dX7_passDays_112 : decode cX7_passDays 112 = .ok (.getfield 34, 3) := by decide +kernel
theorem dX7_passDays_115 : decode cX7_passDays 115 = .ok (.iload 13, 2) := by decide +kernel
theorem dX7_passDays_117 : decode cX7_passDays 117 = .ok (.invokevirtual 185, 3) := by decide +kernel
theorem dX7_passDays_120 : decode cX7_passDays 120 = .ok (.goto 4, 3) := by decide +kernel
theorem dX7_passDays_123 : decode cX7_passDays 123 = .ok (.iconst 0, 1) := by decide +kernel
theorem dX7_passDays_124 : decode cX7_passDays 124 = .ok (.iadd, 1) := by decide +kernel
theorem dX7_passDays_125 : decode cX7_passDays 125 = .ok (.istore 7, 2) := by decide +kernel
theorem dX7_passDays_127 : decode cX7_passDays 127 = .ok (.iload 8, 2) := by decide +kernel
theorem dX7_passDays_129 : decode cX7_passDays 129 = .ok (.iload 13, 2) := by decide +kernel
theorem dX7_passDays_131 : decode cX7_passDays 131 = .ok (.ior, 1) := by decide +kernel
theorem dX7_passDays_132 : decode cX7_passDays 132 = .ok (.istore 8, 2) := by decide +kernel
theorem dX7_passDays_134 : decode cX7_passDays 134 = .ok (.iload 9, 2) := by decide +kernel
theorem dX7_passDays_136 : decode cX7_passDays 136 = .ok (.iload 12, 2) := by decide +kernel
theorem dX7_passDays_138 : decode cX7_passDays 138 = .ok (.ior, 1) := by decide +kernel
theorem dX7_passDays_139 : decode cX7_passDays 139 = .ok (.istore 9, 2) := by decide +kernel
theorem dX7_passDays_141 : decode cX7_passDays 141 = .ok (.iload 10, 2) := by decide +kernel
theorem dX7_passDays_143 : decode cX7_passDays 143 = .ok (.aload_n 0, 1) := by decide +kernel
theorem dX7_passDays_144 : decode cX7_passDays 144 = .ok (.getfield 34, 3) := by decide +kernel
theorem dX7_passDays_147 : decode cX7_passDays 147 = .ok (.getfield 161, 3) := by decide +kernel
theorem dX7_passDays_150 : decode cX7_passDays 150 = .ok (.ior, 1) := by decide +kernel
theorem dX7_passDays_151 : decode cX7_passDays 151 = .ok (.istore 10, 2) := by decide +kernel
theorem dX7_passDays_153 : decode cX7_passDays 153 = .ok (.iinc 11 1, 3) := by decide +kernel
theorem dX7_passDays_156 : decode cX7_passDays 156 = .ok (.goto (-135), 3) := by decide +kernel
theorem dX7_passDays_159 : decode cX7_passDays 159 = .ok (.iload_n 2, 1) := by decide +kernel
theorem dX7_passDays_160 : decode cX7_passDays 160 = .ok (.tableswitch 44 0 3 #[32, 35, 38, 41], 32) := by decide +kernel
theorem dX7_passDays_192 : decode cX7_passDays 192 = .ok (.iload 7, 2) := by decide +kernel
theorem dX7_passDays_194 : decode cX7_passDays 194 = .ok (.ireturn, 1) := by decide +kernel
theorem dX7_passDays_195 : decode cX7_passDays 195 = .ok (.iload 8, 2) := by decide +kernel
theorem dX7_passDays_197 : decode cX7_passDays 197 = .ok (.ireturn, 1) := by decide +kernel
theorem dX7_passDays_198 : decode cX7_passDays 198 = .ok (.iload 9, 2) := by decide +kernel
theorem dX7_passDays_200 : decode cX7_passDays 200 = .ok (.ireturn, 1) := by decide +kernel
theorem dX7_passDays_201 : decode cX7_passDays 201 = .ok (.iload 10, 2) := by decide +kernel
theorem dX7_passDays_203 : decode cX7_passDays 203 = .ok (.ireturn, 1) := by decide +kernel
theorem dX7_passDays_204 : decode cX7_passDays 204 = .ok (.aload_n 0, 1) := by decide +kernel
theorem dX7_passDays_205 : decode cX7_passDays 205 = .ok (.getfield 34, 3) := by decide +kernel
theorem dX7_passDays_208 : decode cX7_passDays 208 = .ok (.getfield 61, 3) := by decide +kernel
theorem dX7_passDays_211 : decode cX7_passDays 211 = .ok (.ireturn, 1) := by decide +kernel
theorem dX8_init_0 : decode cX8_init 0 = .ok (.aload_n 0, 1) := by decide +kernel
theorem dX8_init_1 : decode cX8_init 1 = .ok (.invokespecial 1, 3) := by decide +kernel
theorem dX8_init_4 : decode cX8_init 4 = .ok (.aload_n 0, 1) := by decide +kernel
theorem dX8_init_5 : decode cX8_init 5 = .ok (.bipush 12, 2) := by decide +kernel
theorem dX8_init_7 : decode cX8_init 7 = .ok (.newarray .int, 2) := by decide +kernel
theorem dX8_init_9 : decode cX8_init 9 = .ok (.putfield 7, 3) := by decide +kernel
theorem dX8_init_12 : decode cX8_init 12 = .ok (.aload_n 0, 1) := by decide +kernel
theorem dX8_init_13 : decode cX8_init 13 = .ok (.bipush 12, 2) := by decide +kernel
theorem dX8_init_15 : decode cX8_init 15 = .ok (.newarray .int, 2) := by decide +kernel
theorem dX8_init_17 : decode cX8_init 17 = .ok (.putfield 13, 3) := by decide +kernel
theorem dX8_init_20 : decode cX8_init 20 = .ok (.aload_n 0, 1) := by decide +kernel
theorem dX8_init_21 : decode cX8_init 21 = .ok (.bipush 36, 2) := by decide +kernel
theorem dX8_init_23 : decode cX8_init 23 = .ok (.newarray .int, 2) := by decide +kernel
theorem dX8_init_25 : decode cX8_init 25 = .ok (.putfield 16, 3) := by decide +kernel
theorem dX8_init_28 : decode cX8_init 28 = .ok (.aload_n 0, 1) := by decide +kernel
theorem dX8_init_29 : decode cX8_init 29 = .ok (.bipush 6, 2) := by decide +kernel
theorem dX8_init_31 : decode cX8_init 31 = .ok (.newarray .int, 2) := by decide +kernel
theorem dX8_init_33 : decode cX8_init 33 = .ok (.putfield 19, 3) := by decide +kernel
theorem dX8_init_36 : decode cX8_init 36 = .ok (.aload_n 0, 1) := by decide +kernel
theorem dX8_init_37 : decode cX8_init 37 = .ok (.iconst (-1), 1) := by decide +kernel
theorem dX8_init_38 : decode cX8_init 38 = .ok (.putfield 22, 3) := by decide +kernel
theorem dX8_init_41 : decode cX8_init 41 = .ok (.aload_n 0, 1) := by decide +kernel
theorem dX8_init_42 : decode cX8_init 42 = .ok (.sipush 160, 3) := by decide +kernel
theorem dX8_init_45 : decode cX8_init 45 = .ok (.newarray .int, 2) := by decide +kernel
theorem dX8_init_47 : decode cX8_init 47 = .ok (.putfield 26, 3) := by decide +kernel
theorem dX8_init_50 : decode cX8_init 50 = .ok (.aload_n 0, 1) := by decide +kernel
theorem dX8_init_51 : decode cX8_init 51 = .ok (.sipush 1200, 3) := by decide +kernel
theorem dX8_init_54 : decode cX8_init 54 = .ok (.newarray .int, 2) := by decide +kernel
theorem dX8_init_56 : decode cX8_init 56 = .ok (.putfield 29, 3) := by decide +kernel
theorem dX8_init_59 : decode cX8_init 59 = .ok (.aload_n 0, 1) := by decide +kernel
theorem dX8_init_60 : decode cX8_init 60 = .ok (.bipush 24, 2) := by decide +kernel
theorem dX8_init_62 : decode cX8_init 62 = .ok (.newarray .int, 2) := by decide +kernel
theorem dX8_init_64 : decode cX8_init 64 = .ok (.putfield 32, 3) := by decide +kernel
theorem dX8_init_67 : decode cX8_init 67 = .ok (.aload_n 0, 1) := by decide +kernel
theorem dX8_init_68 : decode cX8_init 68 = .ok (.bipush 36, 2) := by decide +kernel
theorem dX8_init_70 : decode cX8_init 70 = .ok (.newarray .int, 2) := by decide +kernel
theorem dX8_init_72 : decode cX8_init 72 = .ok (.putfield 35, 3) := by decide +kernel
theorem dX8_init_75 : decode cX8_init 75 = .ok (.aload_n 0, 1) := by decide +kernel
theorem dX8_init_76 : decode cX8_init 76 = .ok (.bipush 6, 2) := by decide +kernel
theorem dX8_init_78 : decode cX8_init 78 = .ok (.newarray .int, 2) := by decide +kernel
theorem dX8_init_80 : decode cX8_init 80 = .ok (.putfield 38, 3) := by decide +kernel
theorem dX8_init_83 : decode cX8_init 83 = .ok (.aload_n 0, 1) := by decide +kernel
theorem dX8_init_84 : decode cX8_init 84 = .ok (.iconst 5, 1) := by decide +kernel
theorem dX8_init_85 : decode cX8_init 85 = .ok (.newarray .int, 2) := by decide +kernel
theorem dX8_init_87 : decode cX8_init 87 = .ok (.putfield 41, 3) := by decide +kernel
theorem dX8_init_90 : decode cX8_init 90 = .ok (.aload_n 0, 1) := by decide +kernel
theorem dX8_init_91 : decode cX8_init 91 = .ok (.iconst 4, 1) := by decide +kernel
theorem dX8_init_92 : decode cX8_init 92 = .ok (.newarray .int, 2) := by decide +kernel
theorem dX8_init_94 : decode cX8_init 94 = .ok (.dup, 1) := by decide +kernel
theorem dX8_init_95 : decode cX8_init 95 = .ok (.iconst 0, 1) := by decide +kernel
theorem dX8_init_96 : decode cX8_init 96 = .ok (.iconst (-1), 1) := by decide +kernel
theorem dX8_init_97 : decode cX8_init 97 = .ok (.iastore, 1) := by decide +kernel
theorem dX8_init_98 : decode cX8_init 98 = .ok (.dup, 1) := by decide +kernel
theorem dX8_init_99 : decode cX8_init 99 = .ok (.iconst 1, 1) := by decide +kernel
theorem dX8_init_100 : decode cX8_init 100 = .ok (.iconst (-1), 1) := by decide +kernel
theorem dX8_init_101 : decode cX8_init 101 = .ok (.iastore, 1) := by decide +kernel
theorem dX8_init_102 : decode cX8_init 102 = .ok (.dup, 1) := by decide +kernel
theorem dX8_init_103 : decode cX8_init 103 = .ok (.iconst 2, 1) := by decide +kernel
theorem dX8_init_104 : decode cX8_init 104 = .ok (.iconst (-1), 1) := by decide +kernel
theorem dX8_init_105 : decode cX8_init 105 = .ok (.iastore, 1) := by decide +kernel
theorem dX8_init_106 : decode cX8_init 106 = .ok (.dup, 1) := by decide +kernel
theorem dX8_init_107 : decode cX8_init 107 = .ok (.iconst 3, 1) := by decide +kernel
theorem dX8_init_108 : decode cX8_init 108 = .ok (.iconst (-1), 1) := by decide +kernel
theorem dX8_init_109 : decode cX8_init 109 = .ok (.iastore, 1) := by decide +kernel
theorem dX8_init_110 : decode cX8_init 110 = .ok (.putfield 44, 3) := by decide +kernel
theorem dX8_init_113 : decode cX8_init 113 = .ok (.aload_n 0, 1) := by decide +kernel
theorem dX8_init_114 : decode cX8_init 114 = .ok (.iconst 4, 1) := by decide +kernel
theorem dX8_init_115 : decode cX8_init 115 = .ok (.newarray .int, 2) := by decide +kernel
theorem dX8_init_117 : decode cX8_init 117 = .ok (.putfield 47, 3) := by decide +kernel
theorem dX8_init_120 : decode cX8_init 120 = .ok (.aload_n 0, 1) := by decide +kernel
theorem dX8_init_121 : decode cX8_init 121 = .ok (.sipush 160, 3) := by decide +kernel
theorem dX8_init_124 : decode cX8_init 124 = .ok (.newarray .int, 2) := by decide +kernel
theorem dX8_init_126 : decode cX8_init 126 = .ok (.putfield 50, 3) := by decide +kernel
theorem dX8_init_129 : decode cX8_init 129 = .ok (.aload_n 0, 1) := by decide +kernel
theorem dX8_init_130 : decode cX8_init 130 = .ok (.bipush 38, 2) := by decide +kernel
theorem dX8_init_132 : decode cX8_init 132 = .ok (.newarray .int, 2) := by decide +kernel
theorem dX8_init_134 : decode cX8_init 134 = .ok (.dup, 1) := by decide +kernel
theorem dX8_init_135 : decode cX8_init 135 = .ok (.iconst 0, 1) := by decide +kernel
theorem dX8_init_136 : decode cX8_init 136 = .ok (.bipush 114, 2) := by decide +kernel
theorem dX8_init_138 : decode cX8_init 138 = .ok (.iastore, 1) := by decide +kernel
theorem dX8_init_139 : decode cX8_init 139 = .ok (.dup, 1) := by decide +kernel
theorem dX8_init_140 : decode cX8_init 140 = .ok (.iconst 1, 1) := by decide +kernel
theorem dX8_init_141 : decode cX8_init 141 = .ok (.bipush 101, 2) := by decide +kernel
theorem dX8_init_143 : decode cX8_init 143 = .ok (.iastore, 1) := by decide +kernel
theorem dX8_init_144 : decode cX8_init 144 = .ok (.dup, 1) := by decide +kernel
theorem dX8_init_145 : decode cX8_init 145 = .ok (.iconst 2, 1) := by decide +kernel
theorem dX8_init_146 : decode cX8_init 146 = .ok (.bipush 97, 2) := by decide +kernel
theorem dX8_init_148 : decode cX8_init 148 = .ok (.iastore, 1) := by decide +kernel
theorem dX8_init_149 : decode cX8_init 149 = .ok (.dup, 1) := by decide +kernel
theorem dX8_init_150 : decode cX8_init 150 = .ok (.iconst 3, 1) := by decide +kernel
theorem dX8_init_151 : decode cX8_init 151 = .ok (.bipush 100, 2) := by decide +kernel
theorem dX8_init_153 : decode cX8_init 153 = .ok (.iastore, 1) := by decide +kernel
theorem dX8_init_154 : decode cX8_init 154 = .ok (.dup, 1) := by decide +kernel
theorem dX8_init_155 : decode cX8_init 155 = .ok (.iconst 4, 1) := by decide +kernel
theorem dX8_init_156 : decode cX8_init 156 = .ok (.bipush 115, 2) := by decide +kernel
theorem dX8_init_158 : decode cX8_init 158 = .ok (.iastore, 1) := by decide +kernel
theorem dX8_init_159 : decode cX8_init 159 = .ok (.dup, 1) := by decide +kernel
theorem dX8_init_160 : decode cX8_init 160 = .ok (.iconst 5, 1) := by decide +kernel
theorem dX8_init_161 : decode cX8_init 161 = .ok (.bipush 32, 2) := by decide +kernel
theorem dX8_init_163 : decode cX8_init 163 = .ok (.iastore, 1) := by decide +kernel
theorem dX8_init_164 : decode cX8_init 164 = .ok (.dup, 1) := by decide +kernel
theorem dX8_init_165 : decode cX8_init 165 = .ok (.bipush 6, 2) := by decide +kernel
theorem dX8_init_167 : decode cX8_init 167 = .ok (.bipush 49, 2) := by decide +kernel
theorem dX8_init_169 : decode cX8_init 169 = .ok (.iastore, 1) := by decide +kernel
theorem dX8_init_170 : decode cX8_init 170 = .ok (.dup, 1) := by decide +kernel
theorem dX8_init_171 : decode cX8_init 171 = .ok (.bipush 7, 2) := by decide +kernel
theorem dX8_init_173 : decode cX8_init 173 = .ok (.bipush 48, 2) := by decide +kernel
theorem dX8_init_175 : decode cX8_init 175 = .ok (.iastore, 1) := by decide +kernel
theorem dX8_init_176 : decode cX8_init 176 = .ok (.dup, 1) := by decide +kernel
theorem dX8_init_177 : decode cX8_init 177 = .ok (.bipush 8, 2) := by decide +kernel
theorem dX8_init_179 : decode cX8_init 179 = .ok (.bipush 32, 2) := by decide +kernel
theorem dX8_init_181 : decode cX8_init 181 = .ok (.iastore, 1) := by decide +kernel
theorem dX8_init_182 : decode cX8_init 182 = .ok (.dup, 1) := by decide +kernel
theorem dX8_init_183 : decode cX8_init 183 = .ok (.bipush 9, 2) := by decide +kernel
theorem dX8_init_185 : decode cX8_init 185 = .ok (.bipush 59, 2) := by decide +kernel
theorem dX8_init_187 : decode cX8_init 187 = .ok (.iastore, 1) := by decide +kernel
theorem dX8_init_188 : decode cX8_init 188 = .ok (.dup, 1) := by decide +kernel
theorem dX8_init_189 : decode cX8_init 189 = .ok (.bipush 10, 2) := by decide +kernel
theorem dX8_init_191 : decode cX8_init 191 = .ok (.bipush 32, 2) := by decide +kernel
theorem dX8_init_193 : decode cX8_init 193 = .ok (.iastore, 1) := by decide +kernel
theorem dX8_init_194 : decode cX8_init 194 = .ok (.dup, 1) := by decide +kernel
theorem dX8_init_195 : decode cX8_init 195 = .ok (.bipush 11, 2) := by decide +kernel
theorem dX8_init_197 : decode cX8_init 197 = .ok (.bipush 104, 2) := by decide +kernel
theorem dX8_init_199 : decode cX8_init 199 = .ok (.iastore, 1) := by decide +kernel
theorem dX8_init_200 : decode cX8_init 200 = .ok (.dup, 1) := by decide +kernel
theorem dX8_init_201 : decode cX8_init 201 = .ok (.bipush 12, 2) := by decide +kernel
theorem dX8_init_203 : decode cX8_init 203 = .ok (.bipush 111, 2) := by decide +kernel
theorem dX8_init_205 : decode cX8_init 205 = .ok (.iastore, 1) := by decide +kernel
theorem dX8_init_206 : decode cX8_init 206 = .ok (.dup, 1) := by decide +kernel
theorem dX8_init_207 : decode cX8_init 207 = .ok (.bipush 13, 2) := by decide +kernel
theorem dX8_init_209 : decode cX8_init 209 = .ok (.bipush 108, 2) := by decide +kernel
theorem dX8_init_211 : decode cX8_init 211 = .ok (.iastore, 1) := by decide +kernel
theorem dX8_init_212 : decode cX8_init 212 = .ok (.dup, 1) := by decide +kernel
theorem dX8_init_213 : decode cX8_init 213 = .ok (.bipush 14, 2) := by decide +kernel
theorem dX8_init_215 : decode cX8_init 215 = .ok (.bipush 100, 2) := by decide +kernel
theorem dX8_init_217 : decode cX8_init 217 = .ok (.iastore, 1) := by decide +kernel
theorem dX8_init_218 : decode cX8_init 218 = .ok (.dup, 1) := by decide +kernel
theorem dX8_init_219 : decode cX8_init 219 = .ok (.bipush 15, 2) := by decide +kernel
theorem dX8_init_221 : decode cX8_init 221 = .ok (.bipush 115, 2) := by decide +kernel
theorem dX8_init_223 : decode cX8_init 223 = .ok (.iastore, 1) := by decide +kernel
theorem dX8_init_224 : decode cX8_init 224 = .ok (.dup, 1) := by decide +kernel
theorem dX8_init_225 : decode cX8_init 225 = .ok (.bipush 16, 2) := by decide +kernel
theorem dX8_init_227 : decode cX8_init 227 = .ok (.bipush 32, 2) := by decide +kernel
theorem dX8_init_229 : decode cX8_init 229 = .ok (.iastore, 1) := by decide +kernel
theorem dX8_init_230 : decode cX8_init 230 = .ok (.dup, 1) := by decide +kernel
theorem dX8_init_231 : decode cX8_init 231 = .ok (.bipush 17, 2) := by decide +kernel
theorem dX8_init_233 : decode cX8_init 233 = .ok (.bipush 49, 2) := by decide +kernel
theorem dX8_init_235 : decode cX8_init 235 = .ok (.iastore, 1) := by decide +kernel
theorem dX8_init_236 : decode cX8_init 236 = .ok (.dup, 1) := by decide +kernel
theorem dX8_init_237 : decode cX8_init 237 = .ok (.bipush 18, 2) := by decide +kernel
theorem dX8_init_239 : decode cX8_init 239 = .ok (.bipush 32, 2) := by decide +kernel
theorem dX8_init_241 : decode cX8_init 241 = .ok (.iastore, 1) := by decide +kernel
theorem dX8_init_242 : decode cX8_init 242 = .ok (.dup, 1) := by decide +kernel
theorem dX8_init_243 : decode cX8_init 243 = .ok (.bipush 19, 2) := by decide +kernel
theorem dX8_init_245 : decode cX8_init 245 = .ok (.bipush 59, 2) := by decide +kernel
theorem dX8_init_247 : decode cX8_init 247 = .ok (.iastore, 1) := by decide +kernel
theorem dX8_init_248 : decode cX8_init 248 = .ok (.dup, 1) := by decide +kernel
theorem dX8_init_249 : decode cX8_init 249 = .ok (.bipush 20, 2) := by decide +kernel
theorem dX8_init_251 : decode cX8_init 251 = .ok (.bipush 32, 2) := by decide +kernel
theorem dX8_init_253 : decode cX8_init 253 = .ok (.iastore, 1) := by decide +kernel
theorem dX8_init_254 : decode cX8_init 254 = .ok (.dup, 1) := by decide +kernel
theorem dX8_init_255 : decode cX8_init 255 = .ok (.bipush 21, 2) := by decide +kernel
theorem dX8_init_257 : decode cX8_init 257 = .ok (.bipush 119, 2) := by decide +kernel
theorem dX8_init_259 : decode cX8_init 259 = .ok (.iastore, 1) := by decide +kernel
theorem dX8_init_260 : decode cX8_init 260 = .ok (.dup, 1) := by decide +kernel
theorem dX8_init_261 : decode cX8_init 261 = .ok (.bipush 22, 2) := by decide +kernel
theorem dX8_init_263 : decode cX8_init 263 = .ok (.bipush 111, 2) := by decide +kernel
theorem dX8_init_265 : decode cX8_init 265 = .ok (.iastore, 1) := by decide +kernel
theorem dX8_init_266 : decode cX8_init 266 = .ok (.dup, 1) := by decide +kernel
theorem dX8_init_267 : decode cX8_init 267 = .ok (.bipush 23, 2) := by decide +kernel
theorem dX8_init_269 : decode cX8_init 269 = .ok (.bipush 114, 2) := by decide +kernel
theorem dX8_init_271 : decode cX8_init 271 = .ok (.iastore, 1) := by decide +kernel
theorem dX8_init_272 : decode cX8_init 272 = .ok (.dup, 1) := by decide +kernel
theorem dX8_init_273 : decode cX8_init 273 = .ok (.bipush 24, 2) := by decide +kernel
theorem dX8_init_275 : decode cX8_init 275 = .ok (.bipush 116, 2) := by decide +kernel
theorem dX8_init_277 : decode cX8_init 277 = .ok (.iastore, 1) := by decide +kernel
theorem dX8_init_278 : decode cX8_init 278 = .ok (.dup, 1) := by decide +kernel
theorem dX8_init_279 : decode cX8_init 279 = .ok (.bipush 25, 2) := by decide +kernel
theorem dX8_init_281 : decode cX8_init 281 = .ok (.bipush 104, 2) := by decide +kernel
theorem dX8_init_283 : decode cX8_init 283 = .ok (.iastore, 1) := by decide +kernel
theorem dX8_init_284 : decode cX8_init 284 = .ok (.dup, 1) := by decide +kernel
theorem dX8_init_285 : decode cX8_init 285 = .ok (.bipush 26, 2) := by decide +kernel
theorem dX8_init_287 : decode cX8_init 287 = .ok (.bipush 32, 2) := by decide +kernel
theorem dX8_init_289 : decode cX8_init 289 = .ok (.iastore, 1) := by decide +kernel
theorem dX8_init_290 : decode cX8_init 290 = .ok (.dup, 1) := by decide +kernel
theorem dX8_init_291 : decode cX8_init 291 = .ok (.bipush 27, 2) := by decide +kernel
theorem dX8_init_293 : decode cX8_init 293 = .ok (.bipush 53, 2) := by decide +kernel
theorem dX8_init_295 : decode cX8_init 295 = .ok (.iastore, 1) := by decide +kernel
theorem dX8_init_296 : decode cX8_init 296 = .ok (.dup, 1) := by decide +kernel
theorem dX8_init_297 : decode cX8_init 297 = .ok (.bipush 28, 2) := by decide +kernel
theorem dX8_init_299 : decode cX8_init 299 = .ok (.bipush 32, 2) := by decide +kernel
theorem dX8_init_301 : decode cX8_init 301 = .ok (.iastore, 1) := by decide +kernel
theorem dX8_init_302 : decode cX8_init 302 = .ok (.dup, 1) := by decide +kernel
theorem dX8_init_303 : decode cX8_init 303 = .ok (.bipush 29, 2) := by decide +kernel
theorem dX8_init_305 : decode cX8_init 305 = .ok (.bipush 43, 2) := by decide +kernel
theorem dX8_init_307 : decode cX8_init 307 = .ok (.iastore, 1) := by decide +kernel
theorem dX8_init_308 : decode cX8_init 308 = .ok (.dup, 1) := by decide +kernel
theorem dX8_init_309 : decode cX8_init 309 = .ok (.bipush 30, 2) := by decide +kernel
theorem dX8_init_311 : decode cX8_init 311 = .ok (.bipush 32, 2) := by decide +kernel
theorem dX8_init_313 : decode cX8_init 313 = .ok (.iastore, 1) := by decide +kernel
theorem dX8_init_314 : decode cX8_init 314 = .ok (.dup, 1) := by decide +kernel
theorem dX8_init_315 : decode cX8_init 315 = .ok (.bipush 31, 2) := by decide +kernel
theorem dX8_init_317 : decode cX8_init 317 = .ok (.bipush 119, 2) := by decide +kernel
theorem dX8_init_319 : decode cX8_init 319 = .ok (.iastore, 1) := by decide +kernel
theorem dX8_init_320 : decode cX8_init 320 = .ok (.dup, 1) := by decide +kernel
theorem dX8_init_321 : decode cX8_init 321 = .ok (.bipush 32, 2) := by decide +kernel
theorem dX8_init_323 : decode cX8_init 323 = .ok (.bipush 111, 2) := by decide +kernel
theorem dX8_init_325 : decode cX8_init 325 = .ok (.iastore, 1) := by decide +kernel
theorem dX8_init_326 : decode cX8_init 326 = .ok (.dup, 1) := by decide +kernel
theorem dX8_init_327 : decode cX8_init 327 = .ok (.bipush 33, 2) := by decide +kernel
theorem dX8_init_329 : decode cX8_init 329 = .ok (.bipush 114, 2) := by decide +kernel
theorem dX8_init_331 : decode cX8_init 331 = .ok (.iastore, 1) := by decide +kernel
theorem dX8_init_332 : decode cX8_init 332 = .ok (.dup, 1) := by decide +kernel
theorem dX8_init_333 : decode cX8_init 333 = .ok (.bipush 34, 2) := by decide +kernel
theorem dX8_init_335 : decode cX8_init 335 = .ok (.bipush 100, 2) := by decide +kernel
theorem dX8_init_337 : decode cX8_init 337 = .ok (.iastore, 1) := by decide +kernel
theorem dX8_init_338 : decode cX8_init 338 = .ok (.dup, 1) := by decide +kernel
theorem dX8_init_339 : decode cX8_init 339 = .ok (.bipush 35, 2) := by decide +kernel
theorem dX8_init_341 : decode cX8_init 341 = .ok (.bipush 115, 2) := by decide +kernel
theorem dX8_init_343 : decode cX8_init 343 = .ok (.iastore, 1) := by decide +kernel
theorem dX8_init_344 : decode cX8_init 344 = .ok (.dup, 1) := by decide +kernel
theorem dX8_init_345 : decode cX8_init 345 = .ok (.bipush 36, 2) := by decide +kernel
theorem dX8_init_347 : decode cX8_init 347 = .ok (.bipush 32, 2) := by decide +kernel
theorem dX8_init_349 : decode cX8_init 349 = .ok (.iastore, 1) := by decide +kernel
theorem dX8_init_350 : decode cX8_init 350 = .ok (.dup, 1) := by decide +kernel
theorem dX8_init_351 : decode cX8_init 351 = .ok (.bipush 37, 2) := by decide +kernel
theorem dX8_init_353 : decode cX8_init 353 = .ok (.bipush 59, 2) := by decide +kernel
theorem dX8_init_355 : decode cX8_init 355 = .ok (.iastore, 1) := by decide +kernel
theorem dX8_init_356 : decode cX8_init 356 = .ok (.putfield 53, 3) := by decide +kernel
theorem dX8_init_359 : decode cX8_init 359 = .ok (.aload_n 0, 1) := by decide +kernel
theorem dX8_init_360 : decode cX8_init 360 = .ok (.bipush 96, 2) := by decide +kernel
theorem dX8_init_362 : decode cX8_init 362 = .ok (.newarray .int, 2) := by decide +kernel
theorem dX8_init_364 : decode cX8_init 364 = .ok (.dup, 1) := by decide +kernel
theorem dX8_init_365 : decode cX8_init 365 = .ok (.iconst 0, 1) := by decide +kernel
theorem dX8_init_366 : decode cX8_init 366 = .ok (.bipush 114, 2) := by decide +kernel
theorem dX8_init_368 : decode cX8_init 368 = .ok (.iastore, 1) := by decide +kernel
theorem dX8_init_369 : decode cX8_init 369 = .ok (.dup, 1) := by decide +kernel
theorem dX8_init_370 : decode cX8_init 370 = .ok (.iconst 1, 1) := by decide +kernel
theorem dX8_init_371 : decode cX8_init 371 = .ok (.bipush 101, 2) := by decide +kernel
theorem dX8_init_373 : decode cX8_init 373 = .ok (.iastore, 1) := by decide +kernel
theorem dX8_init_374 : decode cX8_init 374 = .ok (.dup, 1) := by decide +kernel
theorem dX8_init_375 : decode cX8_init 375 = .ok (.iconst 2, 1) := by decide +kernel
theorem dX8_init_376 : decode cX8_init 376 = .ok (.bipush 97, 2) := by decide +kernel
theorem dX8_init_378 : decode cX8_init 378 = .ok (.iastore, 1) := by decide +kernel
theorem dX8_init_379 : decode cX8_init 379 = .ok (.dup, 1) := by decide +kernel
theorem dX8_init_380 : decode cX8_init 380 = .ok (.iconst 3, 1) := by decide +kernel
theorem dX8_init_381 : decode cX8_init 381 = .ok (.bipush 100, 2) := by decide +kernel
theorem dX8_init_383 : decode cX8_init 383 = .ok (.iastore, 1) := by decide +kernel
theorem dX8_init_384 : decode cX8_init 384 = .ok (.dup, 1) := by decide +kernel
theorem dX8_init_385 : decode cX8_init 385 = .ok (.iconst 4, 1) := by decide +kernel
theorem dX8_init_386 : decode cX8_init 386 = .ok (.bipush 115, 2) := by decide +kernel
theorem dX8_init_388 : decode cX8_init 388 = .ok (.iastore, 1) := by decide +kernel
theorem dX8_init_389 : decode cX8_init 389 = .ok (.dup, 1) := by decide +kernel
theorem dX8_init_390 : decode cX8_init 390 = .ok (.iconst 5, 1) := by decide +kernel
theorem dX8_init_391 : decode cX8_init 391 = .ok (.bipush 32, 2) := by decide +kernel
theorem dX8_init_393 : decode cX8_init 393 = .ok (.iastore, 1) := by decide +kernel
theorem dX8_init_394 : decode cX8_init 394 = .ok (.dup, 1) := by decide +kernel
theorem dX8_init_395 : decode cX8_init 395 = .ok (.bipush 6, 2) := by decide +kernel
theorem dX8_init_397 : decode cX8_init 397 = .ok (.bipush 32, 2) := by decide +kernel
theorem dX8_init_399 : decode cX8_init 399 = .ok (.iastore, 1) := by decide +kernel
theorem dX8_init_400 : decode cX8_init 400 = .ok (.dup, 1) := by decide +kernel
theorem dX8_init_401 : decode cX8_init 401 = .ok (.bipush 7, 2) := by decide +kernel
theorem dX8_init_403 : decode cX8_init 403 = .ok (.bipush 32, 2) := by decide +kernel
theorem dX8_init_405 : decode cX8_init 405 = .ok (.iastore, 1) := by decide +kernel
theorem dX8_init_406 : decode cX8_init 406 = .ok (.dup, 1) := by decide +kernel
theorem dX8_init_407 : decode cX8_init 407 = .ok (.bipush 8, 2) := by decide +kernel
theorem dX8_init_409 : decode cX8_init 409 = .ok (.bipush 104, 2) := by decide +kernel
theorem dX8_init_411 : decode cX8_init 411 = .ok (.iastore, 1) := by decide +kernel
theorem dX8_init_412 : decode cX8_init 412 = .ok (.dup, 1) := by decide +kernel
theorem dX8_init_413 : decode cX8_init 413 = .ok (.bipush 9, 2) := by decide +kernel
theorem dX8_init_415 : decode cX8_init 415 = .ok (.bipush 111, 2) := by decide +kernel
theorem dX8_init_417 : decode cX8_init 417 = .ok (.iastore, 1) := by decide +kernel
theorem dX8_init_418 : decode cX8_init 418 = .ok (.dup, 1) := by decide +kernel
theorem dX8_init_419 : decode cX8_init 419 = .ok (.bipush 10, 2) := by decide +kernel
theorem dX8_init_421 : decode cX8_init 421 = .ok (.bipush 108, 2) := by decide +kernel
theorem dX8_init_423 : decode cX8_init 423 = .ok (.iastore, 1) := by decide +kernel
theorem dX8_init_424 : decode cX8_init 424 = .ok (.dup, 1) := by decide +kernel
theorem dX8_init_425 : decode cX8_init 425 = .ok (.bipush 11, 2) := by decide +kernel
theorem dX8_init_427 : decode cX8_init 427 = .ok (.bipush 100, 2) := by decide +kernel
theorem dX8_init_429 : decode cX8_init 429 = .ok (.iastore, 1) := by decide +kernel
theorem dX8_init_430 : decode cX8_init 430 = .ok (.dup, 1) := by decide +kernel
theorem dX8_init_431 : decode cX8_init 431 = .ok (.bipush 12, 2) := by decide +kernel
theorem dX8_init_433 : decode cX8_init 433 = .ok (.bipush 115, 2) := by decide +kernel
theorem dX8_init_435 : decode cX8_init 435 = .ok (.iastore, 1) := by decide +kernel
theorem dX8_init_436 : decode cX8_init 436 = .ok (.dup, 1) := by decide +kernel
theorem dX8_init_437 : decode cX8_init 437 = .ok (.bipush 13, 2) := by decide +kernel
theorem dX8_init_439 : decode cX8_init 439 = .ok (.bipush 32, 2) := by decide +kernel
theorem dX8_init_441 : decode cX8_init 441 = .ok (.iastore, 1) := by decide +kernel
theorem dX8_init_442 : decode cX8_init 442 = .ok (.dup, 1) := by decide +kernel
theorem dX8_init_443 : decode cX8_init 443 = .ok (.bipush 14, 2) := by decide +kernel
theorem dX8_init_445 : decode cX8_init 445 = .ok (.bipush 32, 2) := by decide +kernel
theorem dX8_init_447 : decode cX8_init 447 = .ok (.iastore, 1) := by decide +kernel
theorem dX8_init_448 : decode cX8_init 448 = .ok (.dup, 1) := by decide +kernel
theorem dX8_init_449 : decode cX8_init 449 = .ok (.bipush 15, 2) := by decide +kernel
theorem dX8_init_451 : decode cX8_init 451 = .ok (.bipush 32, 2) := by decide +kernel
theorem dX8_init_453 : decode cX8_init 453 = .ok (.iastore, 1) := by decide +kernel
theorem dX8_init_454 : decode cX8_init 454 = .ok (.dup, 1) := by decide +kernel
theorem dX8_init_455 : decode cX8_init 455 = .ok (.bipush 16, 2) := by decide +kernel
theorem dX8_init_457 : decode cX8_init 457 = .ok (.bipush 119, 2) := by decide +kernel
theorem dX8_init_459 : decode cX8_init 459 = .ok (.iastore, 1) := by decide +kernel
theorem dX8_init_460 : decode cX8_init 460 = .ok (.dup, 1) := by decide +kernel
theorem dX8_init_461 : decode cX8_init 461 = .ok (.bipush 17, 2) := by decide +kernel
theorem dX8_init_463 : decode cX8_init 463 = .ok (.bipush 111, 2) := by decide +kernel
theorem dX8_init_465 : decode cX8_init 465 = .ok (.iastore, 1) := by decide +kernel
theorem dX8_init_466 : decode cX8_init 466 = .ok (.dup, 1) := by decide +kernel
theorem dX8_init_467 : decode cX8_init 467 = .ok (.bipush 18, 2) := by decide +kernel
theorem dX8_init_469 : decode cX8_init 469 = .ok (.bipush 114, 2) := by decide +kernel
theorem dX8_init_471 : decode cX8_init 471 = .ok (.iastore, 1) := by decide +kernel
theorem dX8_init_472 : decode cX8_init 472 = .ok (.dup, 1) := by decide +kernel
theorem dX8_init_473 : decode cX8_init 473 = .ok (.bipush 19, 2) := by decide +kernel
theorem dX8_init_475 : decode cX8_init 475 = .ok (.bipush 116, 2) := by decide +kernel
theorem dX8_init_477 : decode cX8_init 477 = .ok (.iastore, 1) := by decide +kernel
theorem dX8_init_478 : decode cX8_init 478 = .ok (.dup, 1) := by decide +kernel
theorem dX8_init_479 : decode cX8_init 479 = .ok (.bipush 20, 2) := by decide +kernel
theorem dX8_init_481 : decode cX8_init 481 = .ok (.bipush 104, 2) := by decide +kernel
theorem dX8_init_483 : decode cX8_init 483 = .ok (.iastore, 1) := by decide +kernel
theorem dX8_init_484 : decode cX8_init 484 = .ok (.dup, 1) := by decide +kernel
theorem dX8_init_485 : decode cX8_init 485 = .ok (.bipush 21, 2) := by decide +kernel
theorem dX8_init_487 : decode cX8_init 487 = .ok (.bipush 32, 2) := by decide +kernel
theorem dX8_init_489 : decode cX8_init 489 = .ok (.iastore, 1) := by decide +kernel
theorem dX8_init_490 : decode cX8_init 490 = .ok (.dup, 1) := by decide +kernel
theorem dX8_init_491 : decode cX8_init 491 = .ok (.bipush 22, 2) := by decide +kernel
theorem dX8_init_493 : decode cX8_init 493 = .ok (.bipush 32, 2) := by decide +kernel
theorem dX8_init_495 : decode cX8_init 495 = .ok (.iastore, 1) := by decide +kernel
theorem dX8_init_496 : decode cX8_init 496 = .ok (.dup, 1) := by decide +kernel
theorem dX8_init_497 : decode cX8_init 497 = .ok (.bipush 23, 2) := by decide +kernel
theorem dX8_init_499 : decode cX8_init 499 = .ok (.bipush 32, 2) := by decide +kernel
theorem dX8_init_501 : decode cX8_init 501 = .ok (.iastore, 1) := by decide +kernel
theorem dX8_init_502 : decode cX8_init 502 = .ok (.dup, 1) := by decide +kernel
theorem dX8_init_503 : decode cX8_init 503 = .ok (.bipush 24, 2) := by decide +kernel
theorem dX8_init_505 : decode cX8_init 505 = .ok (.bipush 100, 2) := by decide +kernel
theorem dX8_init_507 : decode cX8_init 507 = .ok (.iastore, 1) := by decide +kernel
theorem dX8_init_508 : decode cX8_init 508 = .ok (.dup, 1) := by decide +kernel
theorem dX8_init_509 : decode cX8_init 509 = .ok (.bipush 25, 2) := by decide +kernel
theorem dX8_init_511 : decode cX8_init 511 = .ok (.bipush 97, 2) := by decide +kernel
theorem dX8_init_513 : decode cX8_init 513 = .ok (.iastore, 1) := by decide +kernel
theorem dX8_init_514 : decode cX8_init 514 = .ok (.dup, 1) := by decide +kernel
theorem dX8_init_515 : decode cX8_init 515 = .ok (.bipush 26, 2) := by decide +kernel
theorem dX8_init_517 : decode cX8_init 517 = .ok (.bipush 121, 2) := by decide +kernel
theorem dX8_init_519 : decode cX8_init 519 = .ok (.iastore, 1) := by decide +kernel
theorem dX8_init_520 : decode cX8_init 520 = .ok (.dup, 1) := by decide +kernel
theorem dX8_init_521 : decode cX8_init 521 = .ok (.bipush 27, 2) := by decide +kernel
theorem dX8_init_523 : decode cX8_init 523 = .ok (.bipush 32, 2) := by decide +kernel
theorem dX8_init_525 : decode cX8_init 525 = .ok (.iastore, 1) := by decide +kernel
theorem dX8_init_526 : decode cX8_init 526 = .ok (.dup, 1) := by decide +kernel
theorem dX8_init_527 : decode cX8_init 527 = .ok (.bipush 28, 2) := by decide +kernel
theorem dX8_init_529 : decode cX8_init 529 = .ok (.bipush 32, 2) := by decide +kernel
theorem dX8_init_531 : decode cX8_init 531 = .ok (.iastore, 1) := by decide +kernel
theorem dX8_init_532 : decode cX8_init 532 = .ok (.dup, 1) := by decide +kernel
theorem dX8_init_533 : decode cX8_init 533 = .ok (.bipush 29, 2) := by decide +kernel
theorem dX8_init_535 : decode cX8_init 535 = .ok (.bipush 32, 2) := by decide +kernel
theorem dX8_init_537 : decode cX8_init 537 = .ok (.iastore, 1) := by decide +kernel
theorem dX8_init_538 : decode cX8_init 538 = .ok (.dup, 1) := by decide +kernel
theorem dX8_init_539 : decode cX8_init 539 = .ok (.bipush 30, 2) := by decide +kernel
theorem dX8_init_541 : decode cX8_init 541 = .ok (.bipush 32, 2) := by decide +kernel
theorem dX8_init_543 : decode cX8_init 543 = .ok (.iastore, 1) := by decide +kernel
theorem dX8_init_544 : decode cX8_init 544 = .ok (.dup, 1) := by decide +kernel
theorem dX8_init_545 : decode cX8_init 545 = .ok (.bipush 31, 2) := by decide +kernel
theorem dX8_init_547 : decode cX8_init 547 = .ok (.bipush 32, 2) := by decide +kernel
theorem dX8_init_549 : decode cX8_init 549 = .ok (.iastore, 1) := by decide +kernel
theorem dX8_init_550 : decode cX8_init 550 = .ok (.dup, 1) := by decide +kernel
theorem dX8_init_551 : decode cX8_init 551 = .ok (.bipush 32, 2) := by decide +kernel
theorem dX8_init_553 : decode cX8_init 553 = .ok (.bipush 109, 2) := by decide +kernel
theorem dX8_init_555 : decode cX8_init 555 = .ok (.iastore, 1) := by decide +kernel
theorem dX8_init_556 : decode cX8_init 556 = .ok (.dup, 1) := by decide +kernel
theorem dX8_init_557 : decode cX8_init 557 = .ok (.bipush 33, 2) := by decide +kernel
theorem dX8_init_559 : decode cX8_init 559 = .ok (.bipush 111, 2) := by decide +kernel
theorem dX8_init_561 : decode cX8_init 561 = .ok (.iastore, 1) := by decide +kernel
theorem dX8_init_562 : decode cX8_init 562 = .ok (.dup, 1) := by decide +kernel
theorem dX8_init_563 : decode cX8_init 563 = .ok (.bipush 34, 2) := by decide +kernel
theorem dX8_init_565 : decode cX8_init 565 = .ok (.bipush 114, 2) := by decide +kernel
theorem dX8_init_567 : decode cX8_init 567 = .ok (.iastore, 1) := by decide +kernel
theorem dX8_init_568 : decode cX8_init 568 = .ok (.dup, 1) := by decide +kernel
theorem dX8_init_569 : decode cX8_init 569 = .ok (.bipush 35, 2) := by decide +kernel
theorem dX8_init_571 : decode cX8_init 571 = .ok (.bipush 101, 2) := by decide +kernel
theorem dX8_init_573 : decode cX8_init 573 = .ok (.iastore, 1) := by decide +kernel
theorem dX8_init_574 : decode cX8_init 574 = .ok (.dup, 1) := by decide +kernel
theorem dX8_init_575 : decode cX8_init 575 = .ok (.bipush 36, 2) := by decide +kernel
theorem dX8_init_577 : decode cX8_init 577 = .ok (.bipush 32, 2) := by decide +kernel
theorem dX8_init_579 : decode cX8_init 579 = .ok (.iastore, 1) := by decide +kernel
theorem dX8_init_580 : decode cX8_init 580 = .ok (.dup, 1) := by decide +kernel
theorem dX8_init_581 : decode cX8_init 581 = .ok (.bipush 37, 2) := by decide +kernel
theorem dX8_init_583 : decode cX8_init 583 = .ok (.bipush 32, 2) := by decide +kernel
theorem dX8_init_585 : decode cX8_init 585 = .ok (.iastore, 1) := by decide +kernel
theorem dX8_init_586 : decode cX8_init 586 = .ok (.dup, 1) := by decide +kernel
theorem dX8_init_587 : decode cX8_init 587 = .ok (.bipush 38, 2) := by decide +kernel
theorem dX8_init_589 : decode cX8_init 589 = .ok (.bipush 32, 2) := by decide +kernel
theorem dX8_init_591 : decode cX8_init 591 = .ok (.iastore, 1) := by decide +kernel
theorem dX8_init_592 : decode cX8_init 592 = .ok (.dup, 1) := by decide +kernel
theorem dX8_init_593 : decode cX8_init 593 = .ok (.bipush 39, 2) := by decide +kernel
theorem dX8_init_595 : decode cX8_init 595 = .ok (.bipush 32, 2) := by decide +kernel
theorem dX8_init_597 : decode cX8_init 597 = .ok (.iastore, 1) := by decide +kernel
theorem dX8_init_598 : decode cX8_init 598 = .ok (.dup, 1) := by decide +kernel
theorem dX8_init_599 : decode cX8_init 599 = .ok (.bipush 40, 2) := by decide +kernel
theorem dX8_init_601 : decode cX8_init 601 = .ok (.bipush 112, 2) := by decide +kernel
theorem dX8_init_603 : decode cX8_init 603 = .ok (.iastore, 1) := by decide +kernel
theorem dX8_init_604 : decode cX8_init 604 = .ok (.dup, 1) := by decide +kernel
theorem dX8_init_605 : decode cX8_init 605 = .ok (.bipush 41, 2) := by decide +kernel
theorem dX8_init_607 : decode cX8_init 607 = .ok (.bipush 97, 2) := by decide +kernel
theorem dX8_init_609 : decode cX8_init 609 = .ok (.iastore, 1) := by decide +kernel
theorem dX8_init_610 : decode cX8_init 610 = .ok (.dup, 1) := by decide +kernel
theorem dX8_init_611 : decode cX8_init 611 = .ok (.bipush 42, 2) := by decide +kernel
theorem dX8_init_613 : decode cX8_init 613 = .ok (.bipush 103, 2) := by decide +kernel
theorem dX8_init_615 : decode cX8_init 615 = .ok (.iastore, 1) := by decide +kernel
theorem dX8_init_616 : decode cX8_init 616 = .ok (.dup, 1) := by decide +kernel
theorem dX8_init_617 : decode cX8_init 617 = .ok (.bipush 43, 2) := by decide +kernel
theorem dX8_init_619 : decode cX8_init 619 = .ok (.bipush 101, 2) := by decide +kernel
theorem dX8_init_621 : decode cX8_init 621 = .ok (.iastore, 1) := by decide +kernel
theorem dX8_init_622 : decode cX8_init 622 = .ok (.dup, 1) := by decide +kernel
theorem dX8_init_623 : decode cX8_init 623 = .ok (.bipush 44, 2) := by decide +kernel
theorem dX8_init_625 : decode cX8_init 625 = .ok (.bipush 115, 2) := by decide +kernel
theorem dX8_init_627 : decode cX8_init 627 = .ok (.iastore, 1) := by decide +kernel
theorem dX8_init_628 : decode cX8_init 628 = .ok (.dup, 1) := by decide +kernel
theorem dX8_init_629 : decode cX8_init 629 = .ok (.bipush 45, 2) := by decide +kernel
theorem dX8_init_631 : decode cX8_init 631 = .ok (.bipush 32, 2) := by decide +kernel
theorem dX8_init_633 : decode cX8_init 633 = .ok (.iastore, 1) := by decide +kernel
theorem dX8_init_634 : decode cX8_init 634 = .ok (.dup, 1) := by decide +kernel
theorem dX8_init_635 : decode cX8_init 635 = .ok (.bipush 46, 2) := by decide +kernel
theorem dX8_init_637 : decode cX8_init 637 = .ok (.bipush 32, 2) := by decide +kernel
theorem dX8_init_639 : decode cX8_init 639 = .ok (.iastore, 1) := by decide +kernel
theorem dX8_init_640 : decode cX8_init 640 = .ok (.dup, 1) := by decide +kernel
theorem dX8_init_641 : decode cX8_init 641 = .ok (.bipush 47, 2) := by decide +kernel
theorem dX8_init_643 : decode cX8_init 643 = .ok (.bipush 32, 2) := by decide +kernel
theorem dX8_init_645 : decode cX8_init 645 = .ok (.iastore, 1) := by decide +kernel
theorem dX8_init_646 : decode cX8_init 646 = .ok (.dup, 1) := by decide +kernel
theorem dX8_init_647 : decode cX8_init 647 = .ok (.bipush 48, 2) := by decide +kernel
theorem dX8_init_649 : decode cX8_init 649 = .ok (.bipush 101, 2) := by decide +kernel
theorem dX8_init_651 : decode cX8_init 651 = .ok (.iastore, 1) := by decide +kernel
theorem dX8_init_652 : decode cX8_init 652 = .ok (.dup, 1) := by decide +kernel
theorem dX8_init_653 : decode cX8_init 653 = .ok (.bipush 49, 2) := by decide +kernel
theorem dX8_init_655 : decode cX8_init 655 = .ok (.bipush 110, 2) := by decide +kernel
theorem dX8_init_657 : decode cX8_init 657 = .ok (.iastore, 1) := by decide +kernel
theorem dX8_init_658 : decode cX8_init 658 = .ok (.dup, 1) := by decide +kernel
theorem dX8_init_659 : decode cX8_init 659 = .ok (.bipush 50, 2) := by decide +kernel
theorem dX8_init_661 : decode cX8_init 661 = .ok (.bipush 116, 2) := by decide +kernel
theorem dX8_init_663 : decode cX8_init 663 = .ok (.iastore, 1) := by decide +kernel
theorem dX8_init_664 : decode cX8_init 664 = .ok (.dup, 1) := by decide +kernel
theorem dX8_init_665 : decode cX8_init 665 = .ok (.bipush 51, 2) := by decide +kernel
theorem dX8_init_667 : decode cX8_init 667 = .ok (.bipush 114, 2) := by decide +kernel
theorem dX8_init_669 : decode cX8_init 669 = .ok (.iastore, 1) := by decide +kernel
theorem dX8_init_670 : decode cX8_init 670 = .ok (.dup, 1) := by decide +kernel
theorem dX8_init_671 : decode cX8_init 671 = .ok (.bipush 52, 2) := by decide +kernel
theorem dX8_init_673 : decode cX8_init 673 = .ok (.bipush 121, 2) := by decide +kernel
theorem dX8_init_675 : decode cX8_init 675 = .ok (.iastore, 1) := by decide +kernel
theorem dX8_init_676 : decode cX8_init 676 = .ok (.dup, 1) := by decide +kernel
theorem dX8_init_677 : decode cX8_init 677 = .ok (.bipush 53, 2) := by decide +kernel
theorem dX8_init_679 : decode cX8_init 679 = .ok (.bipush 32, 2) := by decide +kernel
theorem dX8_init_681 : decode cX8_init 681 = .ok (.iastore, 1) := by decide +kernel
theorem dX8_init_682 : decode cX8_init 682 = .ok (.dup, 1) := by decide +kernel
theorem dX8_init_683 : decode cX8_init 683 = .ok (.bipush 54, 2) := by decide +kernel
theorem dX8_init_685 : decode cX8_init 685 = .ok (.bipush 32, 2) := by decide +kernel
theorem dX8_init_687 : decode cX8_init 687 = .ok (.iastore, 1) := by decide +kernel
theorem dX8_init_688 : decode cX8_init 688 = .ok (.dup, 1) := by decide +kernel
theorem dX8_init_689 : decode cX8_init 689 = .ok (.bipush 55, 2) := by decide +kernel
theorem dX8_init_691 : decode cX8_init 691 = .ok (.bipush 32, 2) := by decide +kernel
theorem dX8_init_693 : decode cX8_init 693 = .ok (.iastore, 1) := by decide +kernel
theorem dX8_init_694 : decode cX8_init 694 = .ok (.dup, 1) := by decide +kernel
theorem dX8_init_695 : decode cX8_init 695 = .ok (.bipush 56, 2) := by decide +kernel
theorem dX8_init_697 : decode cX8_init 697 = .ok (.bipush 119, 2) := by decide +kernel
theorem dX8_init_699 : decode cX8_init 699 = .ok (.iastore, 1) := by decide +kernel
theorem dX8_init_700 : decode cX8_init 700 = .ok (.dup, 1) := by decide +kernel
theorem dX8_init_701 : decode cX8_init 701 = .ok (.bipush 57, 2) := by decide +kernel
theorem dX8_init_703 : decode cX8_init 703 = .ok (.bipush 111, 2) := by decide +kernel
theorem dX8_init_705 : decode cX8_init 705 = .ok (.iastore, 1) := by decide +kernel
theorem dX8_init_706 : decode cX8_init 706 = .ok (.dup, 1) := by decide +kernel
theorem dX8_init_707 : decode cX8_init 707 = .ok (.bipush 58, 2) := by decide +kernel
theorem dX8_init_709 : decode cX8_init 709 = .ok (.bipush 114, 2) := by decide +kernel
theorem dX8_init_711 : decode cX8_init 711 = .ok (.iastore, 1) := by decide +kernel
theorem dX8_init_712 : decode cX8_init 712 = .ok (.dup, 1) := by decide +kernel
theorem dX8_init_713 : decode cX8_init 713 = .ok (.bipush 59, 2) := by decide +kernel
theorem dX8_init_715 : decode cX8_init 715 = .ok (.bipush 100, 2) := by decide +kernel
theorem dX8_init_717 : decode cX8_init 717 = .ok (.iastore, 1) := by decide +kernel
theorem dX8_init_718 : decode cX8_init 718 = .ok (.dup, 1) := by decide +kernel
theorem dX8_init_719 : decode cX8_init 719 = .ok (.bipush 60, 2) := by decide +kernel
theorem dX8_init_721 : decode cX8_init 721 = .ok (.bipush 115, 2) := by decide +kernel
theorem dX8_init_723 : decode cX8_init 723 = .ok (.iastore, 1) := by decide +kernel
theorem dX8_init_724 : decode cX8_init 724 = .ok (.dup, 1) := by decide +kernel
theorem dX8_init_725 : decode cX8_init 725 = .ok (.bipush 61, 2) := by decide +kernel
theorem dX8_init_727 : decode cX8_init 727 = .ok (.bipush 32, 2) := by decide +kernel
theorem dX8_init_729 : decode cX8_init 729 = .ok (.iastore, 1) := by decide +kernel
theorem dX8_init_730 : decode cX8_init 730 = .ok (.dup, 1) := by decide +kernel
theorem dX8_init_731 : decode cX8_init 731 = .ok (.bipush 62, 2) := by decide +kernel
theorem dX8_init_733 : decode cX8_init 733 = .ok (.bipush 32, 2) := by decide +kernel
theorem dX8_init_735 : decode cX8_init 735 = .ok (.iastore, 1) := by decide +kernel
theorem dX8_init_736 : decode cX8_init 736 = .ok (.dup, 1) := by decide +kernel
theorem dX8_init_737 : decode cX8_init 737 = .ok (.bipush 63, 2) := by decide +kernel
theorem dX8_init_739 : decode cX8_init 739 = .ok (.bipush 32, 2) := by decide +kernel
theorem dX8_init_741 : decode cX8_init 741 = .ok (.iastore, 1) := by decide +kernel
theorem dX8_init_742 : decode cX8_init 742 = .ok (.dup, 1) := by decide +kernel
theorem dX8_init_743 : decode cX8_init 743 = .ok (.bipush 64, 2) := by decide +kernel
theorem dX8_init_745 : decode cX8_init 745 = .ok (.bipush 98, 2) := by decide +kernel
theorem dX8_init_747 : decode cX8_init 747 = .ok (.iastore, 1) := by decide +kernel
theorem dX8_init_748 : decode cX8_init 748 = .ok (.dup, 1) := by decide +kernel
theorem dX8_init_749 : decode cX8_init 749 = .ok (.bipush 65, 2) := by decide +kernel
theorem dX8_init_751 : decode cX8_init 751 = .ok (.bipush 101, 2) := by decide +kernel
theorem dX8_init_753 : decode cX8_init 753 = .ok (.iastore, 1) := by decide +kernel
theorem dX8_init_754 : decode cX8_init 754 = .ok (.dup, 1) := by decide +kernel
theorem dX8_init_755 : decode cX8_init 755 = .ok (.bipush 66, 2) := by decide +kernel
theorem dX8_init_757 : decode cX8_init 757 = .ok (.bipush 104, 2) := by decide +kernel
theorem dX8_init_759 : decode cX8_init 759 = .ok (.iastore, 1) := by decide +kernel
theorem dX8_init_760 : decode cX8_init 760 = .ok (.dup, 1) := by decide +kernel
theorem dX8_init_761 : decode cX8_init 761 = .ok (.bipush 67, 2) := by decide +kernel
theorem dX8_init_763 : decode cX8_init 763 = .ok (.bipush 105, 2) := by decide +kernel
theorem dX8_init_765 : decode cX8_init 765 = .ok (.iastore, 1) := by decide +kernel
theorem dX8_init_766 : decode cX8_init 766 = .ok (.dup, 1) := by decide +kernel
theorem dX8_init_767 : decode cX8_init 767 = .ok (.bipush 68, 2) := by decide +kernel
theorem dX8_init_769 : decode cX8_init 769 = .ok (.bipush 110, 2) := by decide +kernel
theorem dX8_init_771 : decode cX8_init 771 = .ok (.iastore, 1) := by decide +kernel
theorem dX8_init_772 : decode cX8_init 772 = .ok (.dup, 1) := by decide +kernel
theorem dX8_init_773 : decode cX8_init 773 = .ok (.bipush 69, 2) := by decide +kernel
theorem dX8_init_775 : decode cX8_init 775 = .ok (.bipush 100, 2) := by decide +kernel
theorem dX8_init_777 : decode cX8_init 777 = .ok (.iastore, 1) := by decide +kernel
theorem dX8_init_778 : decode cX8_init 778 = .ok (.dup, 1) := by decide +kernel
theorem dX8_init_779 : decode cX8_init 779 = .ok (.bipush 70, 2) := by decide +kernel
theorem dX8_init_781 : decode cX8_init 781 = .ok (.bipush 32, 2) := by decide +kernel
theorem dX8_init_783 : decode cX8_init 783 = .ok (.iastore, 1) := by decide +kernel
theorem dX8_init_784 : decode cX8_init 784 = .ok (.dup, 1) := by decide +kernel
theorem dX8_init_785 : decode cX8_init 785 = .ok (.bipush 71, 2) := by decide +kernel
theorem dX8_init_787 : decode cX8_init 787 = .ok (.bipush 32, 2) := by decide +kernel
theorem dX8_init_789 : decode cX8_init 789 = .ok (.iastore, 1) := by decide +kernel
theorem dX8_init_790 : decode cX8_init 790 = .ok (.dup, 1) := by decide +kernel
theorem dX8_init_791 : decode cX8_init 791 = .ok (.bipush 72, 2) := by decide +kernel
theorem dX8_init_793 : decode cX8_init 793 = .ok (.bipush 111, 2) := by decide +kernel
theorem dX8_init_795 : decode cX8_init 795 = .ok (.iastore, 1) := by decide +kernel
theorem dX8_init_796 : decode cX8_init 796 = .ok (.dup, 1) := by decide +kernel
theorem dX8_init_797 : decode cX8_init 797 = .ok (.bipush 73, 2) := by decide +kernel
theorem dX8_init_799 : decode cX8_init 799 = .ok (.bipush 114, 2) := by decide +kernel
theorem dX8_init_801 : decode cX8_init 801 = .ok (.iastore, 1) := by decide +kernel
theorem dX8_init_802 : decode cX8_init 802 = .ok (.dup, 1) := by decide +kernel
theorem dX8_init_803 : decode cX8_init 803 = .ok (.bipush 74, 2) := by decide +kernel
theorem dX8_init_805 : decode cX8_init 805 = .ok (.bipush 32, 2) := by decide +kernel
theorem dX8_init_807 : decode cX8_init 807 = .ok (.iastore, 1) := by decide +kernel
theorem dX8_init_808 : decode cX8_init 808 = .ok (.dup, 1) := by decide +kernel
theorem dX8_init_809 : decode cX8_init 809 = .ok (.bipush 75, 2) := by decide +kernel
theorem dX8_init_811 : decode cX8_init 811 = .ok (.bipush 32, 2) := by decide +kernel
theorem dX8_init_813 : decode cX8_init 813 = .ok (.iastore, 1) := by decide +kernel
theorem dX8_init_814 : decode cX8_init 814 = .ok (.dup, 1) := by decide +kernel
theorem dX8_init_815 : decode cX8_init 815 = .ok (.bipush 76, 2) := by decide +kernel
theorem dX8_init_817 : decode cX8_init 817 = .ok (.bipush 32, 2) := by decide +kernel
theorem dX8_init_819 : decode cX8_init 819 = .ok (.iastore, 1) := by decide +kernel
theorem dX8_init_820 : decode cX8_init 820 = .ok (.dup, 1) := by decide +kernel
theorem dX8_init_821 : decode cX8_init 821 = .ok (.bipush 77, 2) := by decide +kernel
theorem dX8_init_823 : decode cX8_init 823 = .ok (.bipush 32, 2) := by decide +kernel
theorem dX8_init_825 : decode cX8_init 825 = .ok (.iastore, 1) := by decide +kernel
theorem dX8_init_826 : decode cX8_init 826 = .ok (.dup, 1) := by decide +kernel
theorem dX8_init_827 : decode cX8_init 827 = .ok (.bipush 78, 2) := by decide +kernel
theorem dX8_init_829 : decode cX8_init 829 = .ok (.bipush 32, 2) := by decide +kernel
theorem dX8_init_831 : decode cX8_init 831 = .ok (.iastore, 1) := by decide +kernel
theorem dX8_init_832 : decode cX8_init 832 = .ok (.dup, 1) := by decide +kernel
theorem dX8_init_833 : decode cX8_init 833 = .ok (.bipush 79, 2) := by decide +kernel
theorem dX8_init_835 : decode cX8_init 835 = .ok (.bipush 32, 2) := by decide +kernel
theorem dX8_init_837 : decode cX8_init 837 = .ok (.iastore, 1) := by decide +kernel
theorem dX8_init_838 : decode cX8_init 838 = .ok (.dup, 1) := by decide +kernel
theorem dX8_init_839 : decode cX8_init 839 = .ok (.bipush 80, 2) := by decide +kernel
theorem dX8_init_841 : decode cX8_init 841 = .ok (.bipush 97, 2) := by decide +kernel
theorem dX8_init_843 : decode cX8_init 843 = .ok (.iastore, 1) := by decide +kernel
theorem dX8_init_844 : decode cX8_init 844 = .ok (.dup, 1) := by decide +kernel
theorem dX8_init_845 : decode cX8_init 845 = .ok (.bipush 81, 2) := by decide +kernel
theorem dX8_init_847 : decode cX8_init 847 = .ok (.bipush 110, 2) := by decide +kernel
theorem dX8_init_849 : decode cX8_init 849 = .ok (.iastore, 1) := by decide +kernel
theorem dX8_init_850 : decode cX8_init 850 = .ok (.dup, 1) := by decide +kernel
theorem dX8_init_851 : decode cX8_init 851 = .ok (.bipush 82, 2) := by decide +kernel
theorem dX8_init_853 : decode cX8_init 853 = .ok (.bipush 100, 2) := by decide +kernel
theorem dX8_init_855 : decode cX8_init 855 = .ok (.iastore, 1) := by decide +kernel
theorem dX8_init_856 : decode cX8_init 856 = .ok (.dup, 1) := by decide +kernel
theorem dX8_init_857 : decode cX8_init 857 = .ok (.bipush 83, 2) := by decide +kernel
theorem dX8_init_859 : decode cX8_init 859 = .ok (.bipush 32, 2) := by decide +kernel
theorem dX8_init_861 : decode cX8_init 861 = .ok (.iastore, 1) := by decide +kernel
theorem dX8_init_862 : decode cX8_init 862 = .ok (.dup, 1) := by decide +kernel
theorem dX8_init_863 : decode cX8_init 863 = .ok (.bipush 84, 2) := by decide +kernel
theorem dX8_init_865 : decode cX8_init 865 = .ok (.bipush 32, 2) := by decide +kernel
theorem dX8_init_867 : decode cX8_init 867 = .ok (.iastore, 1) := by decide +kernel
theorem dX8_init_868 : decode cX8_init 868 = .ok (.dup, 1) := by decide +kernel
theorem dX8_init_869 : decode cX8_init 869 = .ok (.bipush 85, 2) := by decide +kernel
theorem dX8_init_871 : decode cX8_init 871 = .ok (.bipush 32, 2) := by decide +kernel
theorem dX8_init_873 : decode cX8_init 873 = .ok (.iastore, 1) := by decide +kernel
theorem dX8_init_874 : decode cX8_init 874 = .ok (.dup, 1) := by decide +kernel
theorem dX8_init_875 : decode cX8_init 875 = .ok (.bipush 86, 2) := by decide +kernel
theorem dX8_init_877 : decode cX8_init 877 = .ok (.bipush 32, 2) := by decide +kernel
theorem dX8_init_879 : decode cX8_init 879 = .ok (.iastore, 1) := by decide +kernel
theorem dX8_init_880 : decode cX8_init 880 = .ok (.dup, 1) := by decide +kernel
theorem dX8_init_881 : decode cX8_init 881 = .ok (.bipush 87, 2) := by decide +kernel
theorem dX8_init_883 : decode cX8_init 883 = .ok (.bipush 32, 2) := by decide +kernel
theorem dX8_init_885 : decode cX8_init 885 = .ok (.iastore, 1) := by decide +kernel
theorem dX8_init_886 : decode cX8_init 886 = .ok (.dup, 1) := by decide +kernel
theorem dX8_init_887 : decode cX8_init 887 = .ok (.bipush 88, 2) := by decide +kernel
theorem dX8_init_889 : decode cX8_init 889 = .ok (.bipush 110, 2) := by decide +kernel
theorem dX8_init_891 : decode cX8_init 891 = .ok (.iastore, 1) := by decide +kernel
theorem dX8_init_892 : decode cX8_init 892 = .ok (.dup, 1) := by decide +kernel
theorem dX8_init_893 : decode cX8_init 893 = .ok (.bipush 89, 2) := by decide +kernel
theorem dX8_init_895 : decode cX8_init 895 = .ok (.bipush 111, 2) := by decide +kernel
theorem dX8_init_897 : decode cX8_init 897 = .ok (.iastore, 1) := by decide +kernel
theorem dX8_init_898 : decode cX8_init 898 = .ok (.dup, 1) := by decide +kernel
theorem dX8_init_899 : decode cX8_init 899 = .ok (.bipush 90, 2) := by decide +kernel
theorem dX8_init_901 : decode cX8_init 901 = .ok (.bipush 116, 2) := by decide +kernel
theorem dX8_init_903 : decode cX8_init 903 = .ok (.iastore, 1) := by decide +kernel
theorem dX8_init_904 : decode cX8_init 904 = .ok (.dup, 1) := by decide +kernel
theorem dX8_init_905 : decode cX8_init 905 = .ok (.bipush 91, 2) := by decide +kernel
theorem dX8_init_907 : decode cX8_init 907 = .ok (.bipush 32, 2) := by decide +kernel
theorem dX8_init_909 : decode cX8_init 909 = .ok (.iastore, 1) := by decide +kernel
theorem dX8_init_910 : decode cX8_init 910 = .ok (.dup, 1) := by decide +kernel
theorem dX8_init_911 : decode cX8_init 911 = .ok (.bipush 92, 2) := by decide +kernel
theorem dX8_init_913 : decode cX8_init 913 = .ok (.bipush 32, 2) := by decide +kernel
theorem dX8_init_915 : decode cX8_init 915 = .ok (.iastore, 1) := by decide +kernel
theorem dX8_init_916 : decode cX8_init 916 = .ok (.dup, 1) := by decide +kernel
theorem dX8_init_917 : decode cX8_init 917 = .ok (.bipush 93, 2) := by decide +kernel
theorem dX8_init_919 : decode cX8_init 919 = .ok (.bipush 32, 2) := by decide +kernel
theorem dX8_init_921 : decode cX8_init 921 = .ok (.iastore, 1) := by decide +kernel
theorem dX8_init_922 : decode cX8_init 922 = .ok (.dup, 1) := by decide +kernel
theorem dX8_init_923 : decode cX8_init 923 = .ok (.bipush 94, 2) := by decide +kernel
theorem dX8_init_925 : decode cX8_init 925 = .ok (.bipush 32, 2) := by decide +kernel
theorem dX8_init_927 : decode cX8_init 927 = .ok (.iastore, 1) := by decide +kernel
theorem dX8_init_928 : decode cX8_init 928 = .ok (.dup, 1) := by decide +kernel
theorem dX8_init_929 : decode cX8_init 929 = .ok (.bipush 95, 2) := by decide +kernel
theorem dX8_init_931 : decode cX8_init 931 = .ok (.bipush 32, 2) := by decide +kernel
theorem dX8_init_933 : decode cX8_init 933 = .ok (.iastore, 1) := by decide +kernel
theorem dX8_init_934 : decode cX8_init 934 = .ok (.putfield 56, 3) := by decide +kernel
theorem dX8_init_937 : decode cX8_init 937 = .ok (.aload_n 0, 1) := by decide +kernel
theorem dX8_init_938 : decode cX8_init 938 = .ok (.sipush 200, 3) := by decide +kernel
theorem dX8_init_941 : decode cX8_init 941 = .ok (.newarray .int, 2) := by decide +kernel
theorem dX8_init_943 : decode cX8_init 943 = .ok (.putfield 59, 3) := by decide +kernel
theorem dX8_init_946 : decode cX8_init 946 = .ok (.aload_n 0, 1) := by decide +kernel
theorem dX8_init_947 : decode cX8_init 947 = .ok (.sipush 200, 3) := by decide +kernel
theorem dX8_init_950 : decode cX8_init 950 = .ok (.newarray .int, 2) := by decide +kernel
theorem dX8_init_952 : decode cX8_init 952 = .ok (.putfield 62, 3) := by decide +kernel
theorem dX8_init_955 : decode cX8_init 955 = .ok (.aload_n 0, 1) := by decide +kernel
theorem dX8_init_956 : decode cX8_init 956 = .ok (.bipush 6, 2) := by decide +kernel
theorem dX8_init_958 : decode cX8_init 958 = .ok (.newarray .int, 2) := by decide +kernel
theorem dX8_init_960 : decode cX8_init 960 = .ok (.putfield 65, 3) := by decide +kernel
theorem dX8_init_963 : decode cX8_init 963 = .ok (.aload_n 0, 1) := by decide +kernel
theorem dX8_init_964 : decode cX8_init 964 = .ok (.bipush 12, 2) := by decide +kernel
theorem dX8_init_966 : decode cX8_init 966 = .ok (.newarray .int, 2) := by decide +kernel
theorem dX8_init_968 : decode cX8_init 968 = .ok (.putfield 68, 3) := by decide +kernel
theorem dX8_init_971 : decode cX8_init 971 = .ok (.aload_n 0, 1) := by decide +kernel
theorem dX8_init_972 : decode cX8_init 972 = .ok (.iconst 4, 1) := by decide +kernel
theorem dX8_init_973 : decode cX8_init 973 = .ok (.newarray .int, 2) := by decide +kernel
theorem dX8_init_975 : decode cX8_init 975 = .ok (.putfield 71, 3) := by decide +kernel
theorem dX8_init_978 : decode cX8_init 978 = .ok (.aload_n 0, 1) := by decide +kernel
theorem dX8_init_979 : decode cX8_init 979 = .ok (.iconst (-1), 1) := by decide +kernel
theorem dX8_init_980 : decode cX8_init 980 = .ok (.putfield 74, 3) := by decide +kernel
theorem dX8_init_983 : decode cX8_init 983 = .ok (.aload_n 0, 1) := by decide +kernel
theorem dX8_init_984 : decode cX8_init 984 = .ok (.iconst (-1), 1) := by decide +kernel
theorem dX8_init_985 : decode cX8_init 985 = .ok (.putfield 77, 3) := by decide +kernel
theorem dX8_init_988 : decode cX8_init 988 = .ok (.iconst 0, 1) := by decide +kernel
theorem dX8_init_989 : decode cX8_init 989 = .ok (.istore_n 1, 1) := by decide +kernel
theorem dX8_init_990 : decode cX8_init 990 = .ok (.iload_n 1, 1) := by decide +kernel
theorem dX8_init_991 : decode cX8_init 991 = .ok (.bipush 38, 2) := by decide +kernel
theorem dX8_init_993 : decode cX8_init 993 = .ok (.if_icmp .ge 21, 3) := by decide +kernel
theorem dX8_init_996 : decode cX8_init 996 = .ok (.aload_n 0, 1) := by decide +kernel
theorem dX8_init_997 : decode cX8_init 997 = .ok (.getfield 26, 3) := by decide +kernel
theorem dX8_init_1000 : decode cX8_init 1000 = .ok (.iload_n 1, 1) := by decide +kernel
theorem dX8_init_1001 : decode cX8_init 1001 = .ok (.aload_n 0, 1) := by decide +kernel
theorem dX8_init_1002 : decode cX8_init 1002 = .ok (.getfield 53, 3) := by decide +kernel
theorem dX8_init_1005 : decode cX8_init 1005 = .ok (.iload_n 1, 1) := by decide +kernel
theorem dX8_init_1006 : decode cX8_init 1006 = .ok (.iaload, 1) := by decide +kernel
theorem dX8_init_1007 : decode cX8_init 1007 = .ok (.iastore, 1) := by decide +kernel
theorem dX8_init_1008 : decode cX8_init 1008 = .ok (.iinc 1 1, 3) := by decide +kernel
theorem dX8_init_1011 : decode cX8_init 1011 = .ok (.goto (-21), 3) := by decide +kernel
theorem dX8_init_1014 : decode cX8_init 1014 = .ok (.aload_n 0, 1) := by decide +kernel
theorem dX8_init_1015 : decode cX8_init 1015 = .ok (.bipush 38, 2) := by decide +kernel
theorem dX8_init_1017 : decode cX8_init 1017 = .ok (.putfield 80, 3) := by decide +kernel
theorem dX8_init_1020 : decode cX8_init 1020 = .ok (.aload_n 0, 1) := by decide +kernel
theorem dX8_init_1021 : decode cX8_init 1021 = .ok (.invokevirtual 83, 3) := by decide +kernel
theorem dX8_init_1024 : decode cX8_init 1024 = .ok (.pop, 1) := by decide +kernel
theorem dX8_init_1025 : decode cX8_init 1025 = .ok (.return_, 1) := by decide +kernel
theorem dX8_in_0 : decode cX8_in 0 = .ok (.iload_n 0, 1) := by decide +kernel
theorem dX8_in_1 : decode cX8_in 1 = .ok (.iload_n 1, 1) := by decide +kernel
theorem dX8_in_2 : decode cX8_in 2 = .ok (.if_icmp .lt 12, 3) := by decide +kernel
theorem dX8_in_5 : decode cX8_in 5 = .ok (.iload_n 0, 1) := by decide +kernel
theorem dX8_in_6 : decode cX8_in 6 = .ok (.iload_n 2, 1) := by decide +kernel
theorem dX8_in_7 : decode cX8_in 7 = .ok (.if_icmp .gt 7, 3) := by decide +kernel
theorem dX8_in_10 : decode cX8_in 10 = .ok (.iconst 1, 1) := by decide +kernel
theorem dX8_in_11 : decode cX8_in 11 = .ok (.goto 4, 3) := by decide +kernel
theorem dX8_in_14 : decode cX8_in 14 = .ok (.iconst 0, 1) := by decide +kernel
theorem dX8_in_15 : decode cX8_in 15 = .ok (.ireturn, 1) := by decide +kernel
theorem dX8_within_0 : decode cX8_within 0 = .ok (.iload_n 0, 1) := by decide +kernel
theorem dX8_within_1 : decode cX8_within 1 = .ok (.iload_n 1, 1) := by decide +kernel
theorem dX8_within_2 : decode cX8_within 2 = .ok (.if_icmp .ge 7, 3) := by decide +kernel
theorem dX8_within_5 : decode cX8_within 5 = .ok (.iload_n 1, 1) := by decide +kernel
theorem dX8_within_6 : decode cX8_within 6 = .ok (.goto 13, 3) := by decide +kernel
theorem dX8_within_9 : decode cX8_within 9 = .ok (.iload_n 0, 1) := by decide +kernel
theorem dX8_within_10 : decode cX8_within 10 = .ok (.iload_n 2, 1) := by decide +kernel
theorem dX8_within_11 : decode cX8_within 11 = .ok (.if_icmp .le 7, 3) := by decide +kernel
theorem dX8_within_14 : decode cX8_within 14 = .ok (.iload_n 2, 1) := by decide +kernel
theorem dX8_within_15 : decode cX8_within 15 = .ok (.goto 4, 3) := by decide +kernel
theorem dX8_within_18 : decode cX8_within 18 = .ok (.iload_n 0, 1) := by decide +kernel
theorem dX8_within_19 : decode cX8_within 19 = .ok (.ireturn, 1) := by decide +kernel
theorem dX8_ones_0 : decode cX8_ones 0 = .ok (.iconst 0, 1) := by decide +kernel
theorem dX8_ones_1 : decode cX8_ones 1 = .ok (.istore_n 1, 1) := by decide +kernel
theorem dX8_ones_2 : decode cX8_ones 2 = .ok (.iconst 0, 1) := by decide +kernel
theorem dX8_ones_3 : decode cX8_ones 3 = .ok (.istore_n 2, 1) := by decide +kernel
theorem dX8_ones_4 : decode cX8_ones 4 = .ok (.iload_n 2, 1) := by decide +kernel
theorem dX8_ones_5 : decode cX8_ones 5 = .ok (.bipush 12, 2) := by decide +kernel
theorem dX8_ones_7 : decode cX8_ones 7 = .ok (.if_icmp .ge 17, 3) := by decide +kernel
theorem dX8_ones_10 : decode cX8_ones 10 = .ok (.iload_n 1, 1) := by decide +kernel
theorem dX8_ones_11 : decode cX8_ones 11 = .ok (.iload_n 0, 1) := by decide +kernel
theorem dX8_ones_12 : decode cX8_ones 12 = .ok (.iload_n 2, 1) := by decide +kernel
theorem dX8_ones_13 : decode cX8_ones 13 = .ok (.ishr, 1) := by decide +kernel
theorem dX8_ones_14 : decode cX8_ones 14 = .ok (.iconst 1, 1) := by decide +kernel
theorem dX8_ones_15 : decode cX8_ones 15 = .ok (.iand, 1) := by decide +kernel
theorem dX8_ones_16 : decode cX8_ones 16 = .ok (.iadd, 1) := by decide +kernel
theorem dX8_ones_17 : decode cX8_ones 17 = .ok (.istore_n 1, 1) := by decide +kernel
theorem dX8_ones_18 : decode cX8_ones 18 = .ok (.iinc 2 1, 3) := by decide +kernel
theorem dX8_ones_21 : decode cX8_ones 21 = .ok (.goto (-17), 3) := by decide +kernel
theorem dX8_ones_24 : decode cX8_ones 24 = .ok (.iload_n 1, 1) := by decide +kernel
theorem dX8_ones_25 : decode cX8_ones 25 = .ok (.ireturn, 1) := by decide +kernel
theorem dX8_isEntry_0 : decode cX8_isEntry 0 = .ok (.iload_n 1, 1) := by decide +kernel
theorem dX8_isEntry_1 : decode cX8_isEntry 1 = .ok (.iconst 0, 1) := by decide +kernel
theorem dX8_isEntry_2 : decode cX8_isEntry 2 = .ok (.aload_n 0, 1) := by decide +kernel
theorem dX8_isEntry_3 : decode cX8_isEntry 3 = .ok (.getfield 87, 3) := by decide +kernel
theorem dX8_isEntry_6 : decode cX8_isEntry 6 = .ok (.iconst 1, 1) := by decide +kernel
theorem dX8_isEntry_7 : decode cX8_isEntry 7 = .ok (.isub, 1) := by decide +kernel
theorem dX8_isEntry_8 : decode cX8_isEntry 8 = .ok (.invokestatic 90, 3) := by decide +kernel
theorem dX8_isEntry_11 : decode cX8_isEntry 11 = .ok (.ireturn, 1) := by decide +kernel
theorem dX8_isDeed_0 : decode cX8_isDeed 0 = .ok (.iload_n 1, 1) := by decide +kernel
theorem dX8_isDeed_1 : decode cX8_isDeed 1 = .ok (.iconst 0, 1) := by decide +kernel
theorem dX8_isDeed_2 : decode cX8_isDeed 2 = .ok (.aload_n 0, 1) := by decide +kernel
theorem dX8_isDeed_3 : decode cX8_isDeed 3 = .ok (.getfield 94, 3) := by decide +kernel
theorem dX8_isDeed_6 : decode cX8_isDeed 6 = .ok (.iconst 1, 1) := by decide +kernel
theorem dX8_isDeed_7 : decode cX8_isDeed 7 = .ok (.isub, 1) := by decide +kernel
theorem dX8_isDeed_8 : decode cX8_isDeed 8 = .ok (.invokestatic 90, 3) := by decide +kernel
theorem dX8_isDeed_11 : decode cX8_isDeed 11 = .ok (.ireturn, 1) := by decide +kernel
theorem dX8_all_0 : decode cX8_all 0 = .ok (.iconst 1, 1) := by decide +kernel
theorem dX8_all_1 : decode cX8_all 1 = .ok (.aload_n 0, 1) := by decide +kernel
theorem dX8_all_2 : decode cX8_all 2 = .ok (.getfield 87, 3) := by decide +kernel
theorem dX8_all_5 : decode cX8_all 5 = .ok (.ishl, 1) := by decide +kernel
theorem dX8_all_6 : decode cX8_all 6 = .ok (.iconst 1, 1) := by decide +kernel
theorem dX8_all_7 : decode cX8_all 7 = .ok (.isub, 1) := by decide +kernel
theorem dX8_all_8 : decode cX8_all 8 = .ok (.ireturn, 1) := by decide +kernel
theorem dX8_takesOf_0 : decode cX8_takesOf 0 = .ok (.aload_n 0, 1) := by decide +kernel
theorem dX8_takesOf_1 : decode cX8_takesOf 1 = .ok (.getfield 16, 3) := by decide +kernel
theorem dX8_takesOf_4 : decode cX8_takesOf 4 = .ok (.iconst 3, 1) := by decide +kernel
theorem dX8_takesOf_5 : decode cX8_takesOf 5 = .ok (.iload_n 1, 1) := by decide +kernel
theorem dX8_takesOf_6 : decode cX8_takesOf 6 = .ok (.imul, 1) := by decide +kernel
theorem dX8_takesOf_7 : decode cX8_takesOf 7 = .ok (.iaload, 1) := by decide +kernel
theorem dX8_takesOf_8 : decode cX8_takesOf 8 = .ok (.istore_n 2, 1) := by decide +kernel
theorem dX8_takesOf_9 : decode cX8_takesOf 9 = .ok (.aload_n 0, 1) := by decide +kernel
theorem dX8_takesOf_10 : decode cX8_takesOf 10 = .ok (.getfield 7, 3) := by decide +kernel
theorem dX8_takesOf_13 : decode cX8_takesOf 13 = .ok (.iload_n 1, 1) := by decide +kernel
theorem dX8_takesOf_14 : decode cX8_takesOf 14 = .ok (.iaload, 1) := by decide +kernel
theorem dX8_takesOf_15 : decode cX8_takesOf 15 = .ok (.iconst 2, 1) := by decide +kernel
theorem dX8_takesOf_16 : decode cX8_takesOf 16 = .ok (.if_icmp .eq 13, 3) := by decide +kernel
theorem dX8_takesOf_19 : decode cX8_takesOf 19 = .ok (.aload_n 0, 1) := by decide +kernel
theorem dX8_takesOf_20 : decode cX8_takesOf 20 = .ok (.getfield 7, 3) := by decide +kernel
theorem dX8_takesOf_23 : decode cX8_takesOf 23 = .ok (.iload_n 1, 1) := by decide +kernel
theorem dX8_takesOf_24 : decode cX8_takesOf 24 = .ok (.iaload, 1) := by decide +kernel
theorem dX8_takesOf_25 : decode cX8_takesOf 25 = .ok (.iconst 4, 1) := by decide +kernel
theorem dX8_takesOf_26 : decode cX8_takesOf 26 = .ok (.if_icmp .ne 16, 3) := by decide +kernel
theorem dX8_takesOf_29 : decode cX8_takesOf 29 = .ok (.iload_n 2, 1) := by decide +kernel
theorem dX8_takesOf_30 : decode cX8_takesOf 30 = .ok (.aload_n 0, 1) := by decide +kernel
theorem dX8_takesOf_31 : decode cX8_takesOf 31 = .ok (.getfield 13, 3) := by decide +kernel
theorem dX8_takesOf_34 : decode cX8_takesOf 34 = .ok (.iload_n 1, 1) := by decide +kernel
theorem dX8_takesOf_35 : decode cX8_takesOf 35 = .ok (.iaload, 1) := by decide +kernel
theorem dX8_takesOf_36 : decode cX8_takesOf 36 = .ok (.iconst 3, 1) := by decide +kernel
theorem dX8_takesOf_37 : decode cX8_takesOf 37 = .ok (.idiv, 1) := by decide +kernel
theorem dX8_takesOf_38 : decode cX8_takesOf 38 = .ok (.iadd, 1) := by decide +kernel
theorem dX8_takesOf_39 : decode cX8_takesOf 39 = .ok (.goto 20, 3) := by decide +kernel
theorem dX8_takesOf_42 : decode cX8_takesOf 42 = .ok (.aload_n 0, 1) := by decide +kernel
theorem dX8_takesOf_43 : decode cX8_takesOf 43 = .ok (.getfield 7, 3) := by decide +kernel
theorem dX8_takesOf_46 : decode cX8_takesOf 46 = .ok (.iload_n 1, 1) := by decide +kernel
theorem dX8_takesOf_47 : decode cX8_takesOf 47 = .ok (.iaload, 1) := by decide +kernel
theorem dX8_takesOf_48 : decode cX8_takesOf 48 = .ok (.iconst 5, 1) := by decide +kernel
theorem dX8_takesOf_49 : decode cX8_takesOf 49 = .ok (.if_icmp .ne 9, 3) := by decide +kernel
theorem dX8_takesOf_52 : decode cX8_takesOf 52 = .ok (.iload_n 2, 1) := by decide +kernel
theorem dX8_takesOf_53 : decode cX8_takesOf 53 = .ok (.iconst 2, 1) := by decide +kernel
theorem dX8_takesOf_54 : decode cX8_takesOf 54 = .ok (.idiv, 1) := by decide +kernel
theorem dX8_takesOf_55 : decode cX8_takesOf 55 = .ok (.goto 4, 3) := by decide +kernel
theorem dX8_takesOf_58 : decode cX8_takesOf 58 = .ok (.iload_n 2, 1) := by decide +kernel
theorem dX8_takesOf_59 : decode cX8_takesOf 59 = .ok (.istore_n 3, 1) := by decide +kernel
theorem dX8_takesOf_60 : decode cX8_takesOf 60 = .ok (.iload_n 3, 1) := by decide +kernel
theorem dX8_takesOf_61 : decode cX8_takesOf 61 = .ok (.iconst 1, 1) := by decide +kernel
theorem dX8_takesOf_62 : decode cX8_takesOf 62 = .ok (.if_icmp .ge 7, 3) := by decide +kernel
theorem dX8_takesOf_65 : decode cX8_takesOf 65 = .ok (.iconst 1, 1) := by decide +kernel
theorem dX8_takesOf_66 : decode cX8_takesOf 66 = .ok (.goto 4, 3) := by decide +kernel
theorem dX8_takesOf_69 : decode cX8_takesOf 69 = .ok (.iload_n 3, 1) := by decide +kernel
theorem dX8_takesOf_70 : decode cX8_takesOf 70 = .ok (.ireturn, 1) := by decide +kernel
theorem dX8_firstPage_0 : decode cX8_firstPage 0 = .ok (.iconst 0, 1) := by decide +kernel
theorem dX8_firstPage_1 : decode cX8_firstPage 1 = .ok (.istore_n 2, 1) := by decide +kernel
theorem dX8_firstPage_2 : decode cX8_firstPage 2 = .ok (.iconst 0, 1) := by decide +kernel
theorem dX8_firstPage_3 : decode cX8_firstPage 3 = .ok (.istore_n 3, 1) := by decide +kernel
theorem dX8_firstPage_4 : decode cX8_firstPage 4 = .ok (.iload_n 3, 1) := by decide +kernel
theorem dX8_firstPage_5 : decode cX8_firstPage 5 = .ok (.iload_n 1, 1) := by decide +kernel
theorem dX8_firstPage_6 : decode cX8_firstPage 6 = .ok (.if_icmp .ge 17, 3) := by decide +kernel
theorem dX8_firstPage_9 : decode cX8_firstPage 9 = .ok (.iload_n 2, 1) := by decide +kernel
theorem dX8_firstPage_10 : decode cX8_firstPage 10 = .ok (.aload_n 0, 1) := by decide +kernel
theorem dX8_firstPage_11 : decode cX8_firstPage 11 = .ok (.iload_n 3, 1) := by decide +kernel
theorem dX8_firstPage_12 : decode cX8_firstPage 12 = .ok (.invokevirtual 97, 3) := by decide +kernel
theorem dX8_firstPage_15 : decode cX8_firstPage 15 = .ok (.iadd, 1) := by decide +kernel
theorem dX8_firstPage_16 : decode cX8_firstPage 16 = .ok (.istore_n 2, 1) := by decide +kernel
theorem dX8_firstPage_17 : decode cX8_firstPage 17 = .ok (.iinc 3 1, 3) := by decide +kernel
theorem dX8_firstPage_20 : decode cX8_firstPage 20 = .ok (.goto (-16), 3) := by decide +kernel
theorem dX8_firstPage_23 : decode cX8_firstPage 23 = .ok (.iload_n 2, 1) := by decide +kernel
theorem dX8_firstPage_24 : decode cX8_firstPage 24 = .ok (.ireturn, 1) := by decide +kernel
theorem dX8_pagesAll_0 : decode cX8_pagesAll 0 = .ok (.aload_n 0, 1) := by decide +kernel
theorem dX8_pagesAll_1 : decode cX8_pagesAll 1 = .ok (.aload_n 0, 1) := by decide +kernel
theorem dX8_pagesAll_2 : decode cX8_pagesAll 2 = .ok (.getfield 87, 3) := by decide +kernel
theorem dX8_pagesAll_5 : decode cX8_pagesAll 5 = .ok (.invokevirtual 101, 3) := by decide +kernel
theorem dX8_pagesAll_8 : decode cX8_pagesAll 8 = .ok (.ireturn, 1) := by decide +kernel
theorem dX8_entryOn_0 : decode cX8_entryOn 0 = .ok (.iload_n 1, 1) := by decide +kernel
theorem dX8_entryOn_1 : decode cX8_entryOn 1 = .ok (.istore_n 2, 1) := by decide +kernel
theorem dX8_entryOn_2 : decode cX8_entryOn 2 = .ok (.iconst 0, 1) := by decide +kernel
theorem dX8_entryOn_3 : decode cX8_entryOn 3 = .ok (.istore_n 3, 1) := by decide +kernel
theorem dX8_entryOn_4 : decode cX8_entryOn 4 = .ok (.iload_n 3, 1) := by decide +kernel
theorem dX8_entryOn_5 : decode cX8_entryOn 5 = .ok (.iconst 1, 1) := by decide +kernel
theorem dX8_entryOn_6 : decode cX8_entryOn 6 = .ok (.iadd, 1) := by decide +kernel
theorem dX8_entryOn_7 : decode cX8_entryOn 7 = .ok (.aload_n 0, 1) := by decide +kernel
theorem dX8_entryOn_8 : decode cX8_entryOn 8 = .ok (.getfield 87, 3) := by decide +kernel
theorem dX8_entryOn_11 : decode cX8_entryOn 11 = .ok (.if_icmp .ge 26, 3) := by decide +kernel
theorem dX8_entryOn_14 : decode cX8_entryOn 14 = .ok (.iload_n 2, 1) := by decide +kernel
theorem dX8_entryOn_15 : decode cX8_entryOn 15 = .ok (.aload_n 0, 1) := by decide +kernel
theorem dX8_entryOn_16 : decode cX8_entryOn 16 = .ok (.iload_n 3, 1) := by decide +kernel
theorem dX8_entryOn_17 : decode cX8_entryOn 17 = .ok (.invokevirtual 97, 3) := by decide +kernel
theorem dX8_entryOn_20 : decode cX8_entryOn 20 = .ok (.if_icmp .lt 17, 3) := by decide +kernel
theorem dX8_entryOn_23 : decode cX8_entryOn 23 = .ok (.iload_n 2, 1) := by decide +kernel
theorem dX8_entryOn_24 : decode cX8_entryOn 24 = .ok (.aload_n 0, 1) := by decide +kernel
theorem dX8_entryOn_25 : decode cX8_entryOn 25 = .ok (.iload_n 3, 1) := by decide +kernel
theorem dX8_entryOn_26 : decode cX8_entryOn 26 = .ok (.invokevirtual 97, 3) := by decide +kernel
theorem dX8_entryOn_29 : decode cX8_entryOn 29 = .ok (.isub, 1) := by decide +kernel
theorem dX8_entryOn_30 : decode cX8_entryOn 30 = .ok (.istore_n 2, 1) := by decide +kernel
theorem dX8_entryOn_31 : decode cX8_entryOn 31 = .ok (.iinc 3 1, 3) := by decide +kernel
theorem dX8_entryOn_34 : decode cX8_entryOn 34 = .ok (.goto (-30), 3) := by decide +kernel
theorem dX8_entryOn_37 : decode cX8_entryOn 37 = .ok (.iload_n 3, 1) := by decide +kernel
theorem dX8_entryOn_38 : decode cX8_entryOn 38 = .ok (.ireturn, 1) := by decide +kernel
theorem dX8_count_0 : decode cX8_count 0 = .ok (.iload_n 1, 1) := by decide +kernel
theorem dX8_count_1 : decode cX8_count 1 = .ok (.tableswitch 96 0 8 #[51, 56, 61, 66, 71, 76, 81, 86, 91], 51) := by decide +kernel
theorem dX8_count_52 : decode cX8_count 52 = .ok (.aload_n 0, 1) := by decide +kernel
theorem dX8_count_53 : decode cX8_count 53 = .ok (.getfield 87, 3) := by decide +kernel
theorem dX8_count_56 : decode cX8_count 56 = .ok (.ireturn, 1) := by decide +kernel
theorem dX8_count_57 : decode cX8_count 57 = .ok (.aload_n 0, 1) := by decide +kernel
theorem dX8_count_58 : decode cX8_count 58 = .ok (.getfield 94, 3) := by decide +kernel
theorem dX8_count_61 : decode cX8_count 61 = .ok (.ireturn, 1) := by decide +kernel
theorem dX8_count_62 : decode cX8_count 62 = .ok (.aload_n 0, 1) := by decide +kernel
theorem dX8_count_63 : decode cX8_count 63 = .ok (.getfield 104, 3) := by decide +kernel
theorem dX8_count_66 : decode cX8_count 66 = .ok (.ireturn, 1) := by decide +kernel
theorem dX8_count_67 : decode cX8_count 67 = .ok (.aload_n 0, 1) := by decide +kernel
theorem dX8_count_68 : decode cX8_count 68 = .ok (.getfield 107, 3) := by decide +kernel
theorem dX8_count_71 : decode cX8_count 71 = .ok (.ireturn, 1) := by decide +kernel
theorem dX8_count_72 : decode cX8_count 72 = .ok (.aload_n 0, 1) := by decide +kernel
theorem dX8_count_73 : decode cX8_count 73 = .ok (.getfield 22, 3) := by decide +kernel
theorem dX8_count_76 : decode cX8_count 76 = .ok (.ireturn, 1) := by decide +kernel
theorem dX8_count_77 : decode cX8_count 77 = .ok (.aload_n 0, 1) := by decide +kernel
theorem dX8_count_78 : decode cX8_count 78 = .ok (.getfield 110, 3) := by decide +kernel
theorem dX8_count_81 : decode cX8_count 81 = .ok (.ireturn, 1) := by decide +kernel
theorem dX8_count_82 : decode cX8_count 82 = .ok (.aload_n 0, 1) := by decide +kernel
theorem dX8_count_83 : decode cX8_count 83 = .ok (.getfield 113, 3) := by decide +kernel
theorem dX8_count_86 : decode cX8_count 86 = .ok (.ireturn, 1) := by decide +kernel
theorem dX8_count_87 : decode cX8_count 87 = .ok (.aload_n 0, 1) := by decide +kernel
theorem dX8_count_88 : decode cX8_count 88 = .ok (.getfield 116, 3) := by decide +kernel
theorem dX8_count_91 : decode cX8_count 91 = .ok (.ireturn, 1) := by decide +kernel
theorem dX8_count_92 : decode cX8_count 92 = .ok (.aload_n 0, 1) := by decide +kernel
theorem dX8_count_93 : decode cX8_count 93 = .ok (.getfield 80, 3) := by decide +kernel
theorem dX8_count_96 : decode cX8_count 96 = .ok (.ireturn, 1) := by decide +kernel
theorem dX8_count_97 : decode cX8_count 97 = .ok (.bipush (-2), 2) := by decide +kernel
theorem dX8_count_99 : decode cX8_count 99 = .ok (.ireturn, 1) := by decide +kernel
theorem dX8_isSo_0 : decode cX8_isSo 0 = .ok (.iload_n 1, 1) := by decide +kernel
theorem dX8_isSo_1 : decode cX8_isSo 1 = .ok (.tableswitch 67 0 2 #[27, 46, 55], 27) := by decide +kernel
theorem dX8_isSo_28 : decode cX8_isSo 28 = .ok (.iload_n 2, 1) := by decide +kernel
theorem dX8_isSo_29 : decode cX8_isSo 29 = .ok (.iconst 0, 1) := by decide +kernel
theorem dX8_isSo_30 : decode cX8_isSo 30 = .ok (.aload_n 0, 1) := by decide +kernel
theorem dX8_isSo_31 : decode cX8_isSo 31 = .ok (.invokevirtual 119, 3) := by decide +kernel
theorem dX8_isSo_34 : decode cX8_isSo 34 = .ok (.iconst 1, 1) := by decide +kernel
theorem dX8_isSo_35 : decode cX8_isSo 35 = .ok (.isub, 1) := by decide +kernel
theorem dX8_isSo_36 : decode cX8_isSo 36 = .ok (.iconst 0, 1) := by decide +kernel
theorem dX8_isSo_37 : decode cX8_isSo 37 = .ok (.sipush 9999, 3) := by decide +kernel
theorem dX8_isSo_40 : decode cX8_isSo 40 = .ok (.invokestatic 122, 3) := by decide +kernel
theorem dX8_isSo_43 : decode cX8_isSo 43 = .ok (.invokestatic 90, 3) := by decide +kernel
theorem dX8_isSo_46 : decode cX8_isSo 46 = .ok (.ireturn, 1) := by decide +kernel
theorem dX8_isSo_47 : decode cX8_isSo 47 = .ok (.iload_n 2, 1) := by decide +kernel
theorem dX8_isSo_48 : decode cX8_isSo 48 = .ok (.iconst 0, 1) := by decide +kernel
theorem dX8_isSo_49 : decode cX8_isSo 49 = .ok (.sipush 999, 3) := by decide +kernel
theorem dX8_isSo_52 : decode cX8_isSo 52 = .ok (.invokestatic 90, 3) := by decide +kernel
theorem dX8_isSo_55 : decode cX8_isSo 55 = .ok (.ireturn, 1) := by decide +kernel
theorem dX8_isSo_56 : decode cX8_isSo 56 = .ok (.iload_n 2, 1) := by decide +kernel
theorem dX8_isSo_57 : decode cX8_isSo 57 = .ok (.iconst (-1), 1) := by decide +kernel
theorem dX8_isSo_58 : decode cX8_isSo 58 = .ok (.aload_n 0, 1) := by decide +kernel
theorem dX8_isSo_59 : decode cX8_isSo 59 = .ok (.getfield 87, 3) := by decide +kernel
theorem dX8_isSo_62 : decode cX8_isSo 62 = .ok (.iconst 1, 1) := by decide +kernel
theorem dX8_isSo_63 : decode cX8_isSo 63 = .ok (.isub, 1) := by decide +kernel
theorem dX8_isSo_64 : decode cX8_isSo 64 = .ok (.invokestatic 90, 3) := by decide +kernel
theorem dX8_isSo_67 : decode cX8_isSo 67 = .ok (.ireturn, 1) := by decide +kernel
theorem dX8_isSo_68 : decode cX8_isSo 68 = .ok (.iload_n 2, 1) := by decide +kernel
theorem dX8_isSo_69 : decode cX8_isSo 69 = .ok (.iconst 0, 1) := by decide +kernel
theorem dX8_isSo_70 : decode cX8_isSo 70 = .ok (.aload_n 0, 1) := by decide +kernel
theorem dX8_isSo_71 : decode cX8_isSo 71 = .ok (.invokevirtual 126, 3) := by decide +kernel
theorem dX8_isSo_74 : decode cX8_isSo 74 = .ok (.invokestatic 90, 3) := by decide +kernel
theorem dX8_isSo_77 : decode cX8_isSo 77 = .ok (.ireturn, 1) := by decide +kernel
theorem dX8_set_0 : decode cX8_set 0 = .ok (.iload_n 1, 1) := by decide +kernel
theorem dX8_set_1 : decode cX8_set 1 = .ok (.iconst 0, 1) := by decide +kernel
theorem dX8_set_2 : decode cX8_set 2 = .ok (.iconst 3, 1) := by decide +kernel
theorem dX8_set_3 : decode cX8_set 3 = .ok (.invokestatic 90, 3) := by decide +kernel
theorem dX8_set_6 : decode cX8_set 6 = .ok (.ifCond .ne 6, 3) := by decide +kernel
theorem dX8_set_9 : decode cX8_set 9 = .ok (.bipush (-5), 2) := by decide +kernel
theorem dX8_set_11 : decode cX8_set 11 = .ok (.ireturn, 1) := by decide +kernel
theorem dX8_set_12 : decode cX8_set 12 = .ok (.aload_n 0, 1) := by decide +kernel
theorem dX8_set_13 : decode cX8_set 13 = .ok (.iload_n 1, 1) := by decide +kernel
theorem dX8_set_14 : decode cX8_set 14 = .ok (.iload_n 2, 1) := by decide +kernel
theorem dX8_set_15 : decode cX8_set 15 = .ok (.invokevirtual 129, 3) := by decide +kernel
theorem dX8_set_18 : decode cX8_set 18 = .ok (.ifCond .ne 6, 3) := by decide +kernel
theorem dX8_set_21 : decode cX8_set 21 = .ok (.bipush (-7), 2) := by decide +kernel
theorem dX8_set_23 : decode cX8_set 23 = .ok (.ireturn, 1) := by decide +kernel
theorem dX8_set_24 : decode cX8_set 24 = .ok (.aload_n 0, 1) := by decide +kernel
theorem dX8_set_25 : decode cX8_set 25 = .ok (.iload_n 1, 1) := by decide +kernel
theorem dX8_set_26 : decode cX8_set 26 = .ok (.iconst 2, 1) := by decide +kernel
theorem dX8_set_27 : decode cX8_set 27 = .ok (.iadd, 1) := by decide +kernel
theorem dX8_set_28 : decode cX8_set 28 = .ok (.invokevirtual 133, 3) := by decide +kernel
theorem dX8_set_31 : decode cX8_set 31 = .ok (.istore_n 3, 1) := by decide +kernel
theorem dX8_set_32 : decode cX8_set 32 = .ok (.aload_n 0, 1) := by decide +kernel
theorem dX8_set_33 : decode cX8_set 33 = .ok (.iload_n 1, 1) := by decide +kernel
theorem dX8_set_34 : decode cX8_set 34 = .ok (.ifCond .ne 7, 3) := by decide +kernel
theorem dX8_set_37 : decode cX8_set 37 = .ok (.iload_n 2, 1) := by decide +kernel
theorem dX8_set_38 : decode cX8_set 38 = .ok (.goto 7, 3) := by decide +kernel
theorem dX8_set_41 : decode cX8_set 41 = .ok (.aload_n 0, 1) := by decide +kernel
theorem dX8_set_42 : decode cX8_set 42 = .ok (.getfield 104, 3) := by decide +kernel
theorem dX8_set_45 : decode cX8_set 45 = .ok (.putfield 104, 3) := by decide +kernel
theorem dX8_set_48 : decode cX8_set 48 = .ok (.aload_n 0, 1) := by decide +kernel
theorem dX8_set_49 : decode cX8_set 49 = .ok (.iload_n 1, 1) := by decide +kernel
theorem dX8_set_50 : decode cX8_set 50 = .ok (.iconst 1, 1) := by decide +kernel
theorem dX8_set_51 : decode cX8_set 51 = .ok (.if_icmp .ne 7, 3) := by decide +kernel
theorem dX8_set_54 : decode cX8_set 54 = .ok (.iload_n 2, 1) := by decide +kernel
theorem dX8_set_55 : decode cX8_set 55 = .ok (.goto 7, 3) := by decide +kernel
theorem dX8_set_58 : decode cX8_set 58 = .ok (.aload_n 0, 1) := by decide +kernel
theorem dX8_set_59 : decode cX8_set 59 = .ok (.getfield 107, 3) := by decide +kernel
theorem dX8_set_62 : decode cX8_set 62 = .ok (.putfield 107, 3) := by decide +kernel
theorem dX8_set_65 : decode cX8_set 65 = .ok (.aload_n 0, 1) := by decide +kernel
theorem dX8_set_66 : decode cX8_set 66 = .ok (.iload_n 1, 1) := by decide +kernel
theorem dX8_set_67 : decode cX8_set 67 = .ok (.iconst 2, 1) := by decide +kernel
theorem dX8_set_68 : decode cX8_set 68 = .ok (.if_icmp .ne 7, 3) := by decide +kernel
theorem dX8_set_71 : decode cX8_set 71 = .ok (.iload_n 2, 1) := by decide +kernel
theorem dX8_set_72 : decode cX8_set 72 = .ok (.goto 7, 3) := by decide +kernel
theorem dX8_set_75 : decode cX8_set 75 = .ok (.aload_n 0, 1) := by decide +kernel
theorem dX8_set_76 : decode cX8_set 76 = .ok (.getfield 22, 3) := by decide +kernel
theorem dX8_set_79 : decode cX8_set 79 = .ok (.putfield 22, 3) := by decide +kernel
theorem dX8_set_82 : decode cX8_set 82 = .ok (.aload_n 0, 1) := by decide +kernel
theorem dX8_set_83 : decode cX8_set 83 = .ok (.iload_n 1, 1) := by decide +kernel
theorem dX8_set_84 : decode cX8_set 84 = .ok (.iconst 3, 1) := by decide +kernel
theorem dX8_set_85 : decode cX8_set 85 = .ok (.if_icmp .ne 7, 3) := by decide +kernel
theorem dX8_set_88 : decode cX8_set 88 = .ok (.iload_n 2, 1) := by decide +kernel
theorem dX8_set_89 : decode cX8_set 89 = .ok (.goto 7, 3) := by decide +kernel
theorem dX8_set_92 : decode cX8_set 92 = .ok (.aload_n 0, 1) := by decide +kernel
theorem dX8_set_93 : decode cX8_set 93 = .ok (.getfield 110, 3) := by decide +kernel
theorem dX8_set_96 : decode cX8_set 96 = .ok (.putfield 110, 3) := by decide +kernel
theorem dX8_set_99 : decode cX8_set 99 = .ok (.iload_n 3, 1) := by decide +kernel
theorem dX8_set_100 : decode cX8_set 100 = .ok (.ireturn, 1) := by decide +kernel
theorem dX8_isByte_0 : decode cX8_isByte 0 = .ok (.iload_n 0, 1) := by decide +kernel
theorem dX8_isByte_1 : decode cX8_isByte 1 = .ok (.iconst 0, 1) := by decide +kernel
theorem dX8_isByte_2 : decode cX8_isByte 2 = .ok (.sipush 255, 3) := by decide +kernel
theorem dX8_isByte_5 : decode cX8_isByte 5 = .ok (.invokestatic 90, 3) := by decide +kernel
theorem dX8_isByte_8 : decode cX8_isByte 8 = .ok (.ireturn, 1) := by decide +kernel
theorem dX8_feed_0 : decode cX8_feed 0 = .ok (.iload_n 1, 1) := by decide +kernel
theorem dX8_feed_1 : decode cX8_feed 1 = .ok (.iconst 1, 1) := by decide +kernel
theorem dX8_feed_2 : decode cX8_feed 2 = .ok (.iconst 5, 1) := by decide +kernel
theorem dX8_feed_3 : decode cX8_feed 3 = .ok (.invokestatic 90, 3) := by decide +kernel
theorem dX8_feed_6 : decode cX8_feed 6 = .ok (.ifCond .eq 41, 3) := by decide +kernel
theorem dX8_feed_9 : decode cX8_feed 9 = .ok (.iload_n 2, 1) := by decide +kernel
theorem dX8_feed_10 : decode cX8_feed 10 = .ok (.invokestatic 136, 3) := by decide +kernel
theorem dX8_feed_13 : decode cX8_feed 13 = .ok (.ifCond .eq 34, 3) := by decide +kernel
theorem dX8_feed_16 : decode cX8_feed 16 = .ok (.iload_n 3, 1) := by decide +kernel
theorem dX8_feed_17 : decode cX8_feed 17 = .ok (.invokestatic 136, 3) := by decide +kernel
theorem dX8_feed_20 : decode cX8_feed 20 = .ok (.ifCond .eq 27, 3) := by decide +kernel
theorem dX8_feed_23 : decode cX8_feed 23 = .ok (.iload 4, 2) := by decide +kernel
theorem dX8_feed_25 : decode cX8_feed 25 = .ok (.invokestatic 136, 3) := by decide +kernel
theorem dX8_feed_28 : decode cX8_feed 28 = .ok (.ifCond .eq 19, 3) := by decide +kernel
theorem dX8_feed_31 : decode cX8_feed 31 = .ok (.iload 5, 2) := by decide +kernel
theorem dX8_feed_33 : decode cX8_feed 33 = .ok (.invokestatic 136, 3) := by decide +kernel
theorem dX8_feed_36 : decode cX8_feed 36 = .ok (.ifCond .eq 11, 3) := by decide +kernel
theorem dX8_feed_39 : decode cX8_feed 39 = .ok (.iload 6, 2) := by decide +kernel
theorem dX8_feed_41 : decode cX8_feed 41 = .ok (.invokestatic 136, 3) := by decide +kernel
theorem dX8_feed_44 : decode cX8_feed 44 = .ok (.ifCond .ne 6, 3) := by decide +kernel
theorem dX8_feed_47 : decode cX8_feed 47 = .ok (.bipush (-2), 2) := by decide +kernel
theorem dX8_feed_49 : decode cX8_feed 49 = .ok (.ireturn, 1) := by decide +kernel
theorem dX8_feed_50 : decode cX8_feed 50 = .ok (.aload_n 0, 1) := by decide +kernel
theorem dX8_feed_51 : decode cX8_feed 51 = .ok (.getfield 80, 3) := by decide +kernel
theorem dX8_feed_54 : decode cX8_feed 54 = .ok (.iload_n 1, 1) := by decide +kernel
theorem dX8_feed_55 : decode cX8_feed 55 = .ok (.iadd, 1) := by decide +kernel
theorem dX8_feed_56 : decode cX8_feed 56 = .ok (.sipush 160, 3) := by decide +kernel
theorem dX8_feed_59 : decode cX8_feed 59 = .ok (.if_icmp .le 6, 3) := by decide +kernel
theorem dX8_feed_62 : decode cX8_feed 62 = .ok (.bipush (-4), 2) := by decide +kernel
theorem dX8_feed_64 : decode cX8_feed 64 = .ok (.ireturn, 1) := by decide +kernel
theorem dX8_feed_65 : decode cX8_feed 65 = .ok (.iconst 0, 1) := by decide +kernel
theorem dX8_feed_66 : decode cX8_feed 66 = .ok (.istore 7, 2) := by decide +kernel
theorem dX8_feed_68 : decode cX8_feed 68 = .ok (.iload 7, 2) := by decide +kernel
theorem dX8_feed_70 : decode cX8_feed 70 = .ok (.iload_n 1, 1) := by decide +kernel
theorem dX8_feed_71 : decode cX8_feed 71 = .ok (.if_icmp .ge 71, 3) := by decide +kernel
theorem dX8_feed_74 : decode cX8_feed 74 = .ok (.aload_n 0, 1) := by decide +kernel
theorem dX8_feed_75 : decode cX8_feed 75 = .ok (.getfield 26, 3) := by decide +kernel
theorem dX8_feed_78 : decode cX8_feed 78 = .ok (.aload_n 0, 1) := by decide +kernel
theorem dX8_feed_79 : decode cX8_feed 79 = .ok (.getfield 80, 3) := by decide +kernel
theorem dX8_feed_82 : decode cX8_feed 82 = .ok (.iload 7, 2) := by decide +kernel
theorem dX8_feed_84 : decode cX8_feed 84 = .ok (.ifCond .ne 7, 3) := by decide +kernel
theorem dX8_feed_87 : decode cX8_feed 87 = .ok (.iload_n 2, 1) := by decide +kernel
theorem dX8_feed_88 : decode cX8_feed 88 = .ok (.goto 37, 3) := by decide +kernel
theorem dX8_feed_91 : decode cX8_feed 91 = .ok (.iload 7, 2) := by decide +kernel
theorem dX8_feed_93 : decode cX8_feed 93 = .ok (.iconst 1, 1) := by decide +kernel
theorem dX8_feed_94 : decode cX8_feed 94 = .ok (.if_icmp .ne 7, 3) := by decide +kernel
theorem dX8_feed_97 : decode cX8_feed 97 = .ok (.iload_n 3, 1) := by decide +kernel
theorem dX8_feed_98 : decode cX8_feed 98 = .ok (.goto 27, 3) := by decide +kernel
theorem dX8_feed_101 : decode cX8_feed 101 = .ok (.iload 7, 2) := by decide +kernel
theorem dX8_feed_103 : decode cX8_feed 103 = .ok (.iconst 2, 1) := by decide +kernel
theorem dX8_feed_104 : decode cX8_feed 104 = .ok (.if_icmp .ne 8, 3) := by decide +kernel
theorem dX8_feed_107 : decode cX8_feed 107 = .ok (.iload 4, 2) := by decide +kernel
theorem dX8_feed_109 : decode cX8_feed 109 = .ok (.goto 16, 3) := by decide +kernel
theorem dX8_feed_112 : decode cX8_feed 112 = .ok (.iload 7, 2) := by decide +kernel
theorem dX8_feed_114 : decode cX8_feed 114 = .ok (.iconst 3, 1) := by decide +kernel
theorem dX8_feed_115 : decode cX8_feed 115 = .ok (.if_icmp .ne 8, 3) := by decide +kernel
theorem dX8_feed_118 : decode cX8_feed 118 = .ok (.iload 5, 2) := by decide +kernel
theorem dX8_feed_120 : decode cX8_feed 120 = .ok (.goto 5, 3) := by decide +kernel
theorem dX8_feed_123 : decode cX8_feed 123 = .ok (.iload 6, 2) := by decide +kernel
theorem dX8_feed_125 : decode cX8_feed 125 = .ok (.iastore, 1) := by decide +kernel
theorem dX8_feed_126 : decode cX8_feed 126 = .ok (.aload_n 0, 1) := by decide +kernel
theorem dX8_feed_127 : decode cX8_feed 127 = .ok (.dup, 1) := by decide +kernel
theorem dX8_feed_128 : decode cX8_feed 128 = .ok (.getfield 80, 3) := by decide +kernel
theorem dX8_feed_131 : decode cX8_feed 131 = .ok (.iconst 1, 1) := by decide +kernel
theorem dX8_feed_132 : decode cX8_feed 132 = .ok (.iadd, 1) := by decide +kernel
theorem dX8_feed_133 : decode cX8_feed 133 = .ok (.putfield 80, 3) := by decide +kernel
theorem dX8_feed_136 : decode cX8_feed 136 = .ok (.iinc 7 1, 3) := by decide +kernel
theorem dX8_feed_139 : decode cX8_feed 139 = .ok (.goto (-71), 3) := by decide +kernel
theorem dX8_feed_142 : decode cX8_feed 142 = .ok (.aload_n 0, 1) := by decide +kernel
theorem dX8_feed_143 : decode cX8_feed 143 = .ok (.getfield 80, 3) := by decide +kernel
theorem dX8_feed_146 : decode cX8_feed 146 = .ok (.ireturn, 1) := by decide +kernel
theorem dX8_wordFrom_0 : decode cX8_wordFrom 0 = .ok (.iconst 0, 1) := by decide +kernel
theorem dX8_wordFrom_1 : decode cX8_wordFrom 1 = .ok (.istore_n 3, 1) := by decide +kernel
theorem dX8_wordFrom_2 : decode cX8_wordFrom 2 = .ok (.iload_n 3, 1) := by decide +kernel
theorem dX8_wordFrom_3 : decode cX8_wordFrom 3 = .ok (.bipush 12, 2) := by decide +kernel
theorem dX8_wordFrom_5 : decode cX8_wordFrom 5 = .ok (.if_icmp .ge 96, 3) := by decide +kernel
theorem dX8_wordFrom_8 : decode cX8_wordFrom 8 = .ok (.iload_n 2, 1) := by decide +kernel
theorem dX8_wordFrom_9 : decode cX8_wordFrom 9 = .ok (.iload_n 1, 1) := by decide +kernel
theorem dX8_wordFrom_10 : decode cX8_wordFrom 10 = .ok (.isub, 1) := by decide +kernel
theorem dX8_wordFrom_11 : decode cX8_wordFrom 11 = .ok (.bipush 8, 2) := by decide +kernel
theorem dX8_wordFrom_13 : decode cX8_wordFrom 13 = .ok (.if_icmp .gt 7, 3) := by decide +kernel
theorem dX8_wordFrom_16 : decode cX8_wordFrom 16 = .ok (.iconst 1, 1) := by decide +kernel
theorem dX8_wordFrom_17 : decode cX8_wordFrom 17 = .ok (.goto 4, 3) := by decide +kernel
theorem dX8_wordFrom_20 : decode cX8_wordFrom 20 = .ok (.iconst 0, 1) := by decide +kernel
