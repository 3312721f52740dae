theorem dX11_init_0 : decode cX11_init 0 = .ok (.aload_n 0, 1) := by decide +kernel
theorem dX11_init_1 : decode cX11_init 1 = .ok (.invokespecial 3, 3) := by decide +kernel
theorem dX11_init_4 : decode cX11_init 4 = .ok (.aload_n 0, 1) := by decide +kernel
theorem dX11_init_5 : decode cX11_init 5 = .ok (.bipush 6, 2) := by decide +kernel
theorem dX11_init_7 : decode cX11_init 7 = .ok (.anewarray 9, 3) := by decide +kernel
theorem dX11_init_10 : decode cX11_init 10 = .ok (.dup, 1) := by decide +kernel
theorem dX11_init_11 : decode cX11_init 11 = .ok (.iconst 0, 1) := by decide +kernel
theorem dX11_init_12 : decode cX11_init 12 = .ok (.new 9, 3) := by decide +kernel
theorem dX11_init_15 : decode cX11_init 15 = .ok (.dup, 1) := by decide +kernel
theorem dX11_init_16 : decode cX11_init 16 = .ok (.invokespecial 11, 3) := by decide +kernel
theorem dX11_init_19 : decode cX11_init 19 = .ok (.aastore, 1) := by decide +kernel
theorem dX11_init_20 : decode cX11_init 20 = .ok (.dup, 1) := by decide +kernel
theorem dX11_init_21 : decode cX11_init 21 = .ok (.iconst 1, 1) := by decide +kernel
theorem dX11_init_22 : decode cX11_init 22 = .ok (.new 12, 3) := by decide +kernel
theorem dX11_init_25 : decode cX11_init 25 = .ok (.dup, 1) := by decide +kernel
theorem dX11_init_26 : decode cX11_init 26 = .ok (.invokespecial 14, 3) := by decide +kernel
theorem dX11_init_29 : decode cX11_init 29 = .ok (.aastore, 1) := by decide +kernel
theorem dX11_init_30 : decode cX11_init 30 = .ok (.dup, 1) := by decide +kernel
theorem dX11_init_31 : decode cX11_init 31 = .ok (.iconst 2, 1) := by decide +kernel
theorem dX11_init_32 : decode cX11_init 32 = .ok (.new 15, 3) := by decide +kernel
theorem dX11_init_35 : decode cX11_init 35 = .ok (.dup, 1) := by decide +kernel
theorem dX11_init_36 : decode cX11_init 36 = .ok (.invokespecial 17, 3) := by decide +kernel
theorem dX11_init_39 : decode cX11_init 39 = .ok (.aastore, 1) := by decide +kernel
theorem dX11_init_40 : decode cX11_init 40 = .ok (.dup, 1) := by decide +kernel
theorem dX11_init_41 : decode cX11_init 41 = .ok (.iconst 3, 1) := by decide +kernel
theorem dX11_init_42 : decode cX11_init 42 = .ok (.new 18, 3) := by decide +kernel
theorem dX11_init_45 : decode cX11_init 45 = .ok (.dup, 1) := by decide +kernel
theorem dX11_init_46 : decode cX11_init 46 = .ok (.invokespecial 20, 3) := by decide +kernel
theorem dX11_init_49 : decode cX11_init 49 = .ok (.aastore, 1) := by decide +kernel
theorem dX11_init_50 : decode cX11_init 50 = .ok (.dup, 1) := by decide +kernel
theorem dX11_init_51 : decode cX11_init 51 = .ok (.iconst 4, 1) := by decide +kernel
theorem dX11_init_52 : decode cX11_init 52 = .ok (.new 21, 3) := by decide +kernel
theorem dX11_init_55 : decode cX11_init 55 = .ok (.dup, 1) := by decide +kernel
theorem dX11_init_56 : decode cX11_init 56 = .ok (.invokespecial 23, 3) := by decide +kernel
theorem dX11_init_59 : decode cX11_init 59 = .ok (.aastore, 1) := by decide +kernel
theorem dX11_init_60 : decode cX11_init 60 = .ok (.dup, 1) := by decide +kernel
theorem dX11_init_61 : decode cX11_init 61 = .ok (.iconst 5, 1) := by decide +kernel
theorem dX11_init_62 : decode cX11_init 62 = .ok (.new 24, 3) := by decide +kernel
theorem dX11_init_65 : decode cX11_init 65 = .ok (.dup, 1) := by decide +kernel
theorem dX11_init_66 : decode cX11_init 66 = .ok (.invokespecial 26, 3) := by decide +kernel
theorem dX11_init_69 : decode cX11_init 69 = .ok (.aastore, 1) := by decide +kernel
theorem dX11_init_70 : decode cX11_init 70 = .ok (.putfield 27, 3) := by decide +kernel
theorem dX11_init_73 : decode cX11_init 73 = .ok (.aload_n 0, 1) := by decide +kernel
theorem dX11_init_74 : decode cX11_init 74 = .ok (.new 31, 3) := by decide +kernel
theorem dX11_init_77 : decode cX11_init 77 = .ok (.dup, 1) := by decide +kernel
theorem dX11_init_78 : decode cX11_init 78 = .ok (.aload_n 0, 1) := by decide +kernel
theorem dX11_init_79 : decode cX11_init 79 = .ok (.getfield 27, 3) := by decide +kernel
theorem dX11_init_82 : decode cX11_init 82 = .ok (.iconst 0, 1) := by decide +kernel
theorem dX11_init_83 : decode cX11_init 83 = .ok (.aaload, 1) := by decide +kernel
theorem dX11_init_84 : decode cX11_init 84 = .ok (.invokespecial 33, 3) := by decide +kernel
theorem dX11_init_87 : decode cX11_init 87 = .ok (.putfield 36, 3) := by decide +kernel
theorem dX11_init_90 : decode cX11_init 90 = .ok (.aload_n 0, 1) := by decide +kernel
theorem dX11_init_91 : decode cX11_init 91 = .ok (.new 31, 3) := by decide +kernel
theorem dX11_init_94 : decode cX11_init 94 = .ok (.dup, 1) := by decide +kernel
theorem dX11_init_95 : decode cX11_init 95 = .ok (.aload_n 0, 1) := by decide +kernel
theorem dX11_init_96 : decode cX11_init 96 = .ok (.getfield 27, 3) := by decide +kernel
theorem dX11_init_99 : decode cX11_init 99 = .ok (.iconst 0, 1) := by decide +kernel
theorem dX11_init_100 : decode cX11_init 100 = .ok (.aaload, 1) := by decide +kernel
theorem dX11_init_101 : decode cX11_init 101 = .ok (.invokespecial 33, 3) := by decide +kernel
theorem dX11_init_104 : decode cX11_init 104 = .ok (.putfield 40, 3) := by decide +kernel
theorem dX11_init_107 : decode cX11_init 107 = .ok (.aload_n 0, 1) := by decide +kernel
theorem dX11_init_108 : decode cX11_init 108 = .ok (.new 31, 3) := by decide +kernel
theorem dX11_init_111 : decode cX11_init 111 = .ok (.dup, 1) := by decide +kernel
theorem dX11_init_112 : decode cX11_init 112 = .ok (.aload_n 0, 1) := by decide +kernel
theorem dX11_init_113 : decode cX11_init 113 = .ok (.getfield 27, 3) := by decide +kernel
theorem dX11_init_116 : decode cX11_init 116 = .ok (.iconst 0, 1) := by decide +kernel
theorem dX11_init_117 : decode cX11_init 117 = .ok (.aaload, 1) := by decide +kernel
theorem dX11_init_118 : decode cX11_init 118 = .ok (.invokespecial 33, 3) := by decide +kernel
theorem dX11_init_121 : decode cX11_init 121 = .ok (.putfield 43, 3) := by decide +kernel
theorem dX11_init_124 : decode cX11_init 124 = .ok (.aload_n 0, 1) := by decide +kernel
theorem dX11_init_125 : decode cX11_init 125 = .ok (.iconst 0, 1) := by decide +kernel
theorem dX11_init_126 : decode cX11_init 126 = .ok (.putfield 46, 3) := by decide +kernel
theorem dX11_init_129 : decode cX11_init 129 = .ok (.aload_n 0, 1) := by decide +kernel
theorem dX11_init_130 : decode cX11_init 130 = .ok (.new 50, 3) := by decide +kernel
theorem dX11_init_133 : decode cX11_init 133 = .ok (.dup, 1) := by decide +kernel
theorem dX11_init_134 : decode cX11_init 134 = .ok (.invokespecial 52, 3) := by decide +kernel
theorem dX11_init_137 : decode cX11_init 137 = .ok (.putfield 53, 3) := by decide +kernel
theorem dX11_init_140 : decode cX11_init 140 = .ok (.aload_n 0, 1) := by decide +kernel
theorem dX11_init_141 : decode cX11_init 141 = .ok (.new 57, 3) := by decide +kernel
theorem dX11_init_144 : decode cX11_init 144 = .ok (.dup, 1) := by decide +kernel
theorem dX11_init_145 : decode cX11_init 145 = .ok (.aload_n 0, 1) := by decide +kernel
theorem dX11_init_146 : decode cX11_init 146 = .ok (.getfield 53, 3) := by decide +kernel
theorem dX11_init_149 : decode cX11_init 149 = .ok (.aload_n 0, 1) := by decide +kernel
theorem dX11_init_150 : decode cX11_init 150 = .ok (.getfield 27, 3) := by decide +kernel
theorem dX11_init_153 : decode cX11_init 153 = .ok (.invokespecial 59, 3) := by decide +kernel
theorem dX11_init_156 : decode cX11_init 156 = .ok (.putfield 62, 3) := by decide +kernel
theorem dX11_init_159 : decode cX11_init 159 = .ok (.aload_n 0, 1) := by decide +kernel
theorem dX11_init_160 : decode cX11_init 160 = .ok (.iconst 4, 1) := by decide +kernel
theorem dX11_init_161 : decode cX11_init 161 = .ok (.anewarray 66, 3) := by decide +kernel
theorem dX11_init_164 : decode cX11_init 164 = .ok (.dup, 1) := by decide +kernel
theorem dX11_init_165 : decode cX11_init 165 = .ok (.iconst 0, 1) := by decide +kernel
theorem dX11_init_166 : decode cX11_init 166 = .ok (.new 66, 3) := by decide +kernel
theorem dX11_init_169 : decode cX11_init 169 = .ok (.dup, 1) := by decide +kernel
theorem dX11_init_170 : decode cX11_init 170 = .ok (.invokespecial 68, 3) := by decide +kernel
theorem dX11_init_173 : decode cX11_init 173 = .ok (.aastore, 1) := by decide +kernel
theorem dX11_init_174 : decode cX11_init 174 = .ok (.dup, 1) := by decide +kernel
theorem dX11_init_175 : decode cX11_init 175 = .ok (.iconst 1, 1) := by decide +kernel
theorem dX11_init_176 : decode cX11_init 176 = .ok (.new 66, 3) := by decide +kernel
theorem dX11_init_179 : decode cX11_init 179 = .ok (.dup, 1) := by decide +kernel
theorem dX11_init_180 : decode cX11_init 180 = .ok (.invokespecial 68, 3) := by decide +kernel
theorem dX11_init_183 : decode cX11_init 183 = .ok (.aastore, 1) := by decide +kernel
theorem dX11_init_184 : decode cX11_init 184 = .ok (.dup, 1) := by decide +kernel
theorem dX11_init_185 : decode cX11_init 185 = .ok (.iconst 2, 1) := by decide +kernel
theorem dX11_init_186 : decode cX11_init 186 = .ok (.new 66, 3) := by decide +kernel
theorem dX11_init_189 : decode cX11_init 189 = .ok (.dup, 1) := by decide +kernel
theorem dX11_init_190 : decode cX11_init 190 = .ok (.invokespecial 68, 3) := by decide +kernel
theorem dX11_init_193 : decode cX11_init 193 = .ok (.aastore, 1) := by decide +kernel
theorem dX11_init_194 : decode cX11_init 194 = .ok (.dup, 1) := by decide +kernel
theorem dX11_init_195 : decode cX11_init 195 = .ok (.iconst 3, 1) := by decide +kernel
theorem dX11_init_196 : decode cX11_init 196 = .ok (.new 66, 3) := by decide +kernel
theorem dX11_init_199 : decode cX11_init 199 = .ok (.dup, 1) := by decide +kernel
theorem dX11_init_200 : decode cX11_init 200 = .ok (.invokespecial 68, 3) := by decide +kernel
theorem dX11_init_203 : decode cX11_init 203 = .ok (.aastore, 1) := by decide +kernel
theorem dX11_init_204 : decode cX11_init 204 = .ok (.putfield 69, 3) := by decide +kernel
theorem dX11_init_207 : decode cX11_init 207 = .ok (.aload_n 0, 1) := by decide +kernel
theorem dX11_init_208 : decode cX11_init 208 = .ok (.bipush 7, 2) := by decide +kernel
theorem dX11_init_210 : decode cX11_init 210 = .ok (.newarray .int, 2) := by decide +kernel
theorem dX11_init_212 : decode cX11_init 212 = .ok (.putfield 73, 3) := by decide +kernel
theorem dX11_init_215 : decode cX11_init 215 = .ok (.return_, 1) := by decide +kernel
theorem dX11_tower_0 : decode cX11_tower 0 = .ok (.iload_n 1, 1) := by decide +kernel
theorem dX11_tower_1 : decode cX11_tower 1 = .ok (.iconst 0, 1) := by decide +kernel
theorem dX11_tower_2 : decode cX11_tower 2 = .ok (.bipush 19, 2) := by decide +kernel
theorem dX11_tower_4 : decode cX11_tower 4 = .ok (.invokestatic 77, 3) := by decide +kernel
theorem dX11_tower_7 : decode cX11_tower 7 = .ok (.ifCond .eq 13, 3) := by decide +kernel
theorem dX11_tower_10 : decode cX11_tower 10 = .ok (.iload_n 2, 1) := by decide +kernel
theorem dX11_tower_11 : decode cX11_tower 11 = .ok (.iconst 0, 1) := by decide +kernel
theorem dX11_tower_12 : decode cX11_tower 12 = .ok (.bipush 9, 2) := by decide +kernel
theorem dX11_tower_14 : decode cX11_tower 14 = .ok (.invokestatic 77, 3) := by decide +kernel
theorem dX11_tower_17 : decode cX11_tower 17 = .ok (.ifCond .ne 10, 3) := by decide +kernel
theorem dX11_tower_20 : decode cX11_tower 20 = .ok (.aload_n 0, 1) := by decide +kernel
theorem dX11_tower_21 : decode cX11_tower 21 = .ok (.ldc 81, 2) := by decide +kernel
theorem dX11_tower_23 : decode cX11_tower 23 = .ok (.invokevirtual 82, 3) := by decide +kernel
theorem dX11_tower_26 : decode cX11_tower 26 = .ok (.ireturn, 1) := by decide +kernel
theorem dX11_tower_27 : decode cX11_tower 27 = .ok (.aload_n 0, 1) := by decide +kernel
theorem dX11_tower_28 : decode cX11_tower 28 = .ok (.getfield 36, 3) := by decide +kernel
theorem dX11_tower_31 : decode cX11_tower 31 = .ok (.invokevirtual 86, 3) := by decide +kernel
theorem dX11_tower_34 : decode cX11_tower 34 = .ok (.istore_n 3, 1) := by decide +kernel
theorem dX11_tower_35 : decode cX11_tower 35 = .ok (.aload_n 0, 1) := by decide +kernel
theorem dX11_tower_36 : decode cX11_tower 36 = .ok (.getfield 36, 3) := by decide +kernel
theorem dX11_tower_39 : decode cX11_tower 39 = .ok (.iload_n 1, 1) := by decide +kernel
theorem dX11_tower_40 : decode cX11_tower 40 = .ok (.putfield 90, 3) := by decide +kernel
theorem dX11_tower_43 : decode cX11_tower 43 = .ok (.aload_n 0, 1) := by decide +kernel
theorem dX11_tower_44 : decode cX11_tower 44 = .ok (.getfield 36, 3) := by decide +kernel
theorem dX11_tower_47 : decode cX11_tower 47 = .ok (.iload_n 2, 1) := by decide +kernel
theorem dX11_tower_48 : decode cX11_tower 48 = .ok (.putfield 94, 3) := by decide +kernel
theorem dX11_tower_51 : decode cX11_tower 51 = .ok (.iload_n 3, 1) := by decide +kernel
theorem dX11_tower_52 : decode cX11_tower 52 = .ok (.ireturn, 1) := by decide +kernel
theorem dX11_lamp_0 : decode cX11_lamp 0 = .ok (.iload_n 1, 1) := by decide +kernel
theorem dX11_lamp_1 : decode cX11_lamp 1 = .ok (.iconst 0, 1) := by decide +kernel
theorem dX11_lamp_2 : decode cX11_lamp 2 = .ok (.sipush 4095, 3) := by decide +kernel
theorem dX11_lamp_5 : decode cX11_lamp 5 = .ok (.invokestatic 77, 3) := by decide +kernel
theorem dX11_lamp_8 : decode cX11_lamp 8 = .ok (.ifCond .ne 10, 3) := by decide +kernel
theorem dX11_lamp_11 : decode cX11_lamp 11 = .ok (.aload_n 0, 1) := by decide +kernel
theorem dX11_lamp_12 : decode cX11_lamp 12 = .ok (.ldc 81, 2) := by decide +kernel
theorem dX11_lamp_14 : decode cX11_lamp 14 = .ok (.invokevirtual 82, 3) := by decide +kernel
theorem dX11_lamp_17 : decode cX11_lamp 17 = .ok (.ireturn, 1) := by decide +kernel
theorem dX11_lamp_18 : decode cX11_lamp 18 = .ok (.aload_n 0, 1) := by decide +kernel
theorem dX11_lamp_19 : decode cX11_lamp 19 = .ok (.getfield 36, 3) := by decide +kernel
theorem dX11_lamp_22 : decode cX11_lamp 22 = .ok (.getfield 97, 3) := by decide +kernel
theorem dX11_lamp_25 : decode cX11_lamp 25 = .ok (.istore_n 2, 1) := by decide +kernel
theorem dX11_lamp_26 : decode cX11_lamp 26 = .ok (.aload_n 0, 1) := by decide +kernel
theorem dX11_lamp_27 : decode cX11_lamp 27 = .ok (.getfield 36, 3) := by decide +kernel
theorem dX11_lamp_30 : decode cX11_lamp 30 = .ok (.iload_n 1, 1) := by decide +kernel
theorem dX11_lamp_31 : decode cX11_lamp 31 = .ok (.putfield 97, 3) := by decide +kernel
theorem dX11_lamp_34 : decode cX11_lamp 34 = .ok (.iload_n 2, 1) := by decide +kernel
theorem dX11_lamp_35 : decode cX11_lamp 35 = .ok (.ireturn, 1) := by decide +kernel
theorem dX11_reach_0 : decode cX11_reach 0 = .ok (.iload_n 1, 1) := by decide +kernel
theorem dX11_reach_1 : decode cX11_reach 1 = .ok (.iconst 0, 1) := by decide +kernel
theorem dX11_reach_2 : decode cX11_reach 2 = .ok (.bipush 9, 2) := by decide +kernel
theorem dX11_reach_4 : decode cX11_reach 4 = .ok (.invokestatic 77, 3) := by decide +kernel
theorem dX11_reach_7 : decode cX11_reach 7 = .ok (.ifCond .ne 10, 3) := by decide +kernel
theorem dX11_reach_10 : decode cX11_reach 10 = .ok (.aload_n 0, 1) := by decide +kernel
theorem dX11_reach_11 : decode cX11_reach 11 = .ok (.ldc 81, 2) := by decide +kernel
theorem dX11_reach_13 : decode cX11_reach 13 = .ok (.invokevirtual 82, 3) := by decide +kernel
theorem dX11_reach_16 : decode cX11_reach 16 = .ok (.ireturn, 1) := by decide +kernel
theorem dX11_reach_17 : decode cX11_reach 17 = .ok (.aload_n 0, 1) := by decide +kernel
theorem dX11_reach_18 : decode cX11_reach 18 = .ok (.getfield 36, 3) := by decide +kernel
theorem dX11_reach_21 : decode cX11_reach 21 = .ok (.getfield 100, 3) := by decide +kernel
theorem dX11_reach_24 : decode cX11_reach 24 = .ok (.istore_n 2, 1) := by decide +kernel
theorem dX11_reach_25 : decode cX11_reach 25 = .ok (.aload_n 0, 1) := by decide +kernel
theorem dX11_reach_26 : decode cX11_reach 26 = .ok (.getfield 36, 3) := by decide +kernel
theorem dX11_reach_29 : decode cX11_reach 29 = .ok (.iload_n 1, 1) := by decide +kernel
theorem dX11_reach_30 : decode cX11_reach 30 = .ok (.putfield 100, 3) := by decide +kernel
theorem dX11_reach_33 : decode cX11_reach 33 = .ok (.iload_n 2, 1) := by decide +kernel
theorem dX11_reach_34 : decode cX11_reach 34 = .ok (.ireturn, 1) := by decide +kernel
theorem dX11_now_0 : decode cX11_now 0 = .ok (.iload_n 1, 1) := by decide +kernel
theorem dX11_now_1 : decode cX11_now 1 = .ok (.tableswitch 117 0 7 #[47, 55, 63, 74, 85, 93, 101, 109], 47) := by decide +kernel
theorem dX11_now_48 : decode cX11_now 48 = .ok (.aload_n 0, 1) := by decide +kernel
theorem dX11_now_49 : decode cX11_now 49 = .ok (.getfield 36, 3) := by decide +kernel
theorem dX11_now_52 : decode cX11_now 52 = .ok (.getfield 103, 3) := by decide +kernel
theorem dX11_now_55 : decode cX11_now 55 = .ok (.ireturn, 1) := by decide +kernel
theorem dX11_now_56 : decode cX11_now 56 = .ok (.aload_n 0, 1) := by decide +kernel
theorem dX11_now_57 : decode cX11_now 57 = .ok (.getfield 36, 3) := by decide +kernel
theorem dX11_now_60 : decode cX11_now 60 = .ok (.invokevirtual 106, 3) := by decide +kernel
theorem dX11_now_63 : decode cX11_now 63 = .ok (.ireturn, 1) := by decide +kernel
theorem dX11_now_64 : decode cX11_now 64 = .ok (.aload_n 0, 1) := by decide +kernel
theorem dX11_now_65 : decode cX11_now 65 = .ok (.getfield 36, 3) := by decide +kernel
theorem dX11_now_68 : decode cX11_now 68 = .ok (.invokevirtual 109, 3) := by decide +kernel
theorem dX11_now_71 : decode cX11_now 71 = .ok (.invokestatic 113, 3) := by decide +kernel
theorem dX11_now_74 : decode cX11_now 74 = .ok (.ireturn, 1) := by decide +kernel
theorem dX11_now_75 : decode cX11_now 75 = .ok (.aload_n 0, 1) := by decide +kernel
theorem dX11_now_76 : decode cX11_now 76 = .ok (.getfield 36, 3) := by decide +kernel
theorem dX11_now_79 : decode cX11_now 79 = .ok (.invokevirtual 117, 3) := by decide +kernel
theorem dX11_now_82 : decode cX11_now 82 = .ok (.invokestatic 113, 3) := by decide +kernel
theorem dX11_now_85 : decode cX11_now 85 = .ok (.ireturn, 1) := by decide +kernel
theorem dX11_now_86 : decode cX11_now 86 = .ok (.aload_n 0, 1) := by decide +kernel
theorem dX11_now_87 : decode cX11_now 87 = .ok (.getfield 36, 3) := by decide +kernel
theorem dX11_now_90 : decode cX11_now 90 = .ok (.invokevirtual 86, 3) := by decide +kernel
theorem dX11_now_93 : decode cX11_now 93 = .ok (.ireturn, 1) := by decide +kernel
theorem dX11_now_94 : decode cX11_now 94 = .ok (.aload_n 0, 1) := by decide +kernel
theorem dX11_now_95 : decode cX11_now 95 = .ok (.getfield 36, 3) := by decide +kernel
theorem dX11_now_98 : decode cX11_now 98 = .ok (.getfield 100, 3) := by decide +kernel
theorem dX11_now_101 : decode cX11_now 101 = .ok (.ireturn, 1) := by decide +kernel
theorem dX11_now_102 : decode cX11_now 102 = .ok (.aload_n 0, 1) := by decide +kernel
theorem dX11_now_103 : decode cX11_now 103 = .ok (.getfield 36, 3) := by decide +kernel
theorem dX11_now_106 : decode cX11_now 106 = .ok (.invokevirtual 120, 3) := by decide +kernel
theorem dX11_now_109 : decode cX11_now 109 = .ok (.ireturn, 1) := by decide +kernel
theorem dX11_now_110 : decode cX11_now 110 = .ok (.aload_n 0, 1) := by decide +kernel
theorem dX11_now_111 : decode cX11_now 111 = .ok (.getfield 36, 3) := by decide +kernel
theorem dX11_now_114 : decode cX11_now 114 = .ok (.invokevirtual 123, 3) := by decide +kernel
theorem dX11_now_117 : decode cX11_now 117 = .ok (.ireturn, 1) := by decide +kernel
theorem dX11_now_118 : decode cX11_now 118 = .ok (.aload_n 0, 1) := by decide +kernel
theorem dX11_now_119 : decode cX11_now 119 = .ok (.ldc 81, 2) := by decide +kernel
theorem dX11_now_121 : decode cX11_now 121 = .ok (.invokevirtual 82, 3) := by decide +kernel
theorem dX11_now_124 : decode cX11_now 124 = .ok (.ireturn, 1) := by decide +kernel
theorem dX11_ship_0 : decode cX11_ship 0 = .ok (.iload_n 1, 1) := by decide +kernel
theorem dX11_ship_1 : decode cX11_ship 1 = .ok (.invokestatic 126, 3) := by decide +kernel
theorem dX11_ship_4 : decode cX11_ship 4 = .ok (.ifCond .eq 13, 3) := by decide +kernel
theorem dX11_ship_7 : decode cX11_ship 7 = .ok (.iload_n 2, 1) := by decide +kernel
theorem dX11_ship_8 : decode cX11_ship 8 = .ok (.iconst 0, 1) := by decide +kernel
theorem dX11_ship_9 : decode cX11_ship 9 = .ok (.bipush 9, 2) := by decide +kernel
theorem dX11_ship_11 : decode cX11_ship 11 = .ok (.invokestatic 77, 3) := by decide +kernel
theorem dX11_ship_14 : decode cX11_ship 14 = .ok (.ifCond .ne 10, 3) := by decide +kernel
theorem dX11_ship_17 : decode cX11_ship 17 = .ok (.aload_n 0, 1) := by decide +kernel
theorem dX11_ship_18 : decode cX11_ship 18 = .ok (.ldc 81, 2) := by decide +kernel
theorem dX11_ship_20 : decode cX11_ship 20 = .ok (.invokevirtual 82, 3) := by decide +kernel
theorem dX11_ship_23 : decode cX11_ship 23 = .ok (.ireturn, 1) := by decide +kernel
theorem dX11_ship_24 : decode cX11_ship 24 = .ok (.aload_n 0, 1) := by decide +kernel
theorem dX11_ship_25 : decode cX11_ship 25 = .ok (.getfield 36, 3) := by decide +kernel
theorem dX11_ship_28 : decode cX11_ship 28 = .ok (.invokevirtual 130, 3) := by decide +kernel
theorem dX11_ship_31 : decode cX11_ship 31 = .ok (.ifCond .eq 10, 3) := by decide +kernel
theorem dX11_ship_34 : decode cX11_ship 34 = .ok (.aload_n 0, 1) := by decide +kernel
theorem dX11_ship_35 : decode cX11_ship 35 = .ok (.ldc 133, 2) := by decide +kernel
theorem dX11_ship_37 : decode cX11_ship 37 = .ok (.invokevirtual 82, 3) := by decide +kernel
theorem dX11_ship_40 : decode cX11_ship 40 = .ok (.ireturn, 1) := by decide +kernel
theorem dX11_ship_41 : decode cX11_ship 41 = .ok (.aload_n 0, 1) := by decide +kernel
theorem dX11_ship_42 : decode cX11_ship 42 = .ok (.getfield 36, 3) := by decide +kernel
theorem dX11_ship_45 : decode cX11_ship 45 = .ok (.aload_n 0, 1) := by decide +kernel
theorem dX11_ship_46 : decode cX11_ship 46 = .ok (.getfield 27, 3) := by decide +kernel
theorem dX11_ship_49 : decode cX11_ship 49 = .ok (.iload_n 1, 1) := by decide +kernel
theorem dX11_ship_50 : decode cX11_ship 50 = .ok (.aaload, 1) := by decide +kernel
theorem dX11_ship_51 : decode cX11_ship 51 = .ok (.iconst 0, 1) := by decide +kernel
theorem dX11_ship_52 : decode cX11_ship 52 = .ok (.iload_n 2, 1) := by decide +kernel
theorem dX11_ship_53 : decode cX11_ship 53 = .ok (.invokevirtual 134, 3) := by decide +kernel
theorem dX11_ship_56 : decode cX11_ship 56 = .ok (.aload_n 0, 1) := by decide +kernel
theorem dX11_ship_57 : decode cX11_ship 57 = .ok (.getfield 36, 3) := by decide +kernel
theorem dX11_ship_60 : decode cX11_ship 60 = .ok (.getfield 138, 3) := by decide +kernel
theorem dX11_ship_63 : decode cX11_ship 63 = .ok (.iconst 1, 1) := by decide +kernel
theorem dX11_ship_64 : decode cX11_ship 64 = .ok (.isub, 1) := by decide +kernel
theorem dX11_ship_65 : decode cX11_ship 65 = .ok (.ireturn, 1) := by decide +kernel
theorem dX11_of_0 : decode cX11_of 0 = .ok (.aload_n 0, 1) := by decide +kernel
theorem dX11_of_1 : decode cX11_of 1 = .ok (.iload_n 1, 1) := by decide +kernel
theorem dX11_of_2 : decode cX11_of 2 = .ok (.invokevirtual 141, 3) := by decide +kernel
theorem dX11_of_5 : decode cX11_of 5 = .ok (.ifCond .eq 13, 3) := by decide +kernel
theorem dX11_of_8 : decode cX11_of 8 = .ok (.iload_n 2, 1) := by decide +kernel
theorem dX11_of_9 : decode cX11_of 9 = .ok (.iconst 0, 1) := by decide +kernel
theorem dX11_of_10 : decode cX11_of 10 = .ok (.bipush 11, 2) := by decide +kernel
theorem dX11_of_12 : decode cX11_of 12 = .ok (.invokestatic 77, 3) := by decide +kernel
theorem dX11_of_15 : decode cX11_of 15 = .ok (.ifCond .ne 10, 3) := by decide +kernel
theorem dX11_of_18 : decode cX11_of 18 = .ok (.aload_n 0, 1) := by decide +kernel
theorem dX11_of_19 : decode cX11_of 19 = .ok (.ldc 81, 2) := by decide +kernel
theorem dX11_of_21 : decode cX11_of 21 = .ok (.invokevirtual 82, 3) := by decide +kernel
theorem dX11_of_24 : decode cX11_of 24 = .ok (.ireturn, 1) := by decide +kernel
theorem dX11_of_25 : decode cX11_of 25 = .ok (.aload_n 0, 1) := by decide +kernel
theorem dX11_of_26 : decode cX11_of 26 = .ok (.getfield 36, 3) := by decide +kernel
theorem dX11_of_29 : decode cX11_of 29 = .ok (.getfield 144, 3) := by decide +kernel
theorem dX11_of_32 : decode cX11_of 32 = .ok (.iload_n 1, 1) := by decide +kernel
theorem dX11_of_33 : decode cX11_of 33 = .ok (.aaload, 1) := by decide +kernel
theorem dX11_of_34 : decode cX11_of 34 = .ok (.astore_n 3, 1) := by decide +kernel
theorem dX11_of_35 : decode cX11_of 35 = .ok (.iload_n 2, 1) := by decide +kernel
theorem dX11_of_36 : decode cX11_of 36 = .ok (.bipush 6, 2) := by decide +kernel
theorem dX11_of_38 : decode cX11_of 38 = .ok (.if_icmp .gt 11, 3) := by decide +kernel
theorem dX11_of_41 : decode cX11_of 41 = .ok (.aload_n 3, 1) := by decide +kernel
theorem dX11_of_42 : decode cX11_of 42 = .ok (.iload_n 2, 1) := by decide +kernel
theorem dX11_of_43 : decode cX11_of 43 = .ok (.invokevirtual 150, 3) := by decide +kernel
theorem dX11_of_46 : decode cX11_of 46 = .ok (.goto 12, 3) := by decide +kernel
theorem dX11_of_49 : decode cX11_of 49 = .ok (.aload_n 0, 1) := by decide +kernel
theorem dX11_of_50 : decode cX11_of 50 = .ok (.getfield 36, 3) := by decide +kernel
theorem dX11_of_53 : decode cX11_of 53 = .ok (.aload_n 3, 1) := by decide +kernel
theorem dX11_of_54 : decode cX11_of 54 = .ok (.iload_n 2, 1) := by decide +kernel
theorem dX11_of_55 : decode cX11_of 55 = .ok (.invokevirtual 153, 3) := by decide +kernel
theorem dX11_of_58 : decode cX11_of 58 = .ok (.ireturn, 1) := by decide +kernel
theorem dX11_set_0 : decode cX11_set 0 = .ok (.aload_n 0, 1) := by decide +kernel
theorem dX11_set_1 : decode cX11_set 1 = .ok (.iload_n 1, 1) := by decide +kernel
theorem dX11_set_2 : decode cX11_set 2 = .ok (.invokevirtual 141, 3) := by decide +kernel
theorem dX11_set_5 : decode cX11_set 5 = .ok (.ifCond .eq 12, 3) := by decide +kernel
theorem dX11_set_8 : decode cX11_set 8 = .ok (.iload_n 2, 1) := by decide +kernel
theorem dX11_set_9 : decode cX11_set 9 = .ok (.iconst 1, 1) := by decide +kernel
theorem dX11_set_10 : decode cX11_set 10 = .ok (.iconst 4, 1) := by decide +kernel
theorem dX11_set_11 : decode cX11_set 11 = .ok (.invokestatic 77, 3) := by decide +kernel
theorem dX11_set_14 : decode cX11_set 14 = .ok (.ifCond .ne 10, 3) := by decide +kernel
theorem dX11_set_17 : decode cX11_set 17 = .ok (.aload_n 0, 1) := by decide +kernel
theorem dX11_set_18 : decode cX11_set 18 = .ok (.ldc 81, 2) := by decide +kernel
theorem dX11_set_20 : decode cX11_set 20 = .ok (.invokevirtual 82, 3) := by decide +kernel
theorem dX11_set_23 : decode cX11_set 23 = .ok (.ireturn, 1) := by decide +kernel
theorem dX11_set_24 : decode cX11_set 24 = .ok (.iload_n 3, 1) := by decide +kernel
theorem dX11_set_25 : decode cX11_set 25 = .ok (.iconst 0, 1) := by decide +kernel
theorem dX11_set_26 : decode cX11_set 26 = .ok (.iload_n 2, 1) := by decide +kernel
theorem dX11_set_27 : decode cX11_set 27 = .ok (.invokestatic 157, 3) := by decide +kernel
theorem dX11_set_30 : decode cX11_set 30 = .ok (.invokestatic 77, 3) := by decide +kernel
theorem dX11_set_33 : decode cX11_set 33 = .ok (.ifCond .ne 10, 3) := by decide +kernel
theorem dX11_set_36 : decode cX11_set 36 = .ok (.aload_n 0, 1) := by decide +kernel
theorem dX11_set_37 : decode cX11_set 37 = .ok (.ldc 81, 2) := by decide +kernel
theorem dX11_set_39 : decode cX11_set 39 = .ok (.invokevirtual 82, 3) := by decide +kernel
theorem dX11_set_42 : decode cX11_set 42 = .ok (.ireturn, 1) := by decide +kernel
theorem dX11_set_43 : decode cX11_set 43 = .ok (.aload_n 0, 1) := by decide +kernel
theorem dX11_set_44 : decode cX11_set 44 = .ok (.getfield 36, 3) := by decide +kernel
theorem dX11_set_47 : decode cX11_set 47 = .ok (.getfield 144, 3) := by decide +kernel
theorem dX11_set_50 : decode cX11_set 50 = .ok (.iload_n 1, 1) := by decide +kernel
theorem dX11_set_51 : decode cX11_set 51 = .ok (.aaload, 1) := by decide +kernel
theorem dX11_set_52 : decode cX11_set 52 = .ok (.astore 4, 2) := by decide +kernel
theorem dX11_set_54 : decode cX11_set 54 = .ok (.aload 4, 2) := by decide +kernel
theorem dX11_set_56 : decode cX11_set 56 = .ok (.iload_n 2, 1) := by decide +kernel
theorem dX11_set_57 : decode cX11_set 57 = .ok (.invokevirtual 150, 3) := by decide +kernel
theorem dX11_set_60 : decode cX11_set 60 = .ok (.istore 5, 2) := by decide +kernel
theorem dX11_set_62 : decode cX11_set 62 = .ok (.aload 4, 2) := by decide +kernel
theorem dX11_set_64 : decode cX11_set 64 = .ok (.iload_n 2, 1) := by decide +kernel
theorem dX11_set_65 : decode cX11_set 65 = .ok (.iload_n 3, 1) := by decide +kernel
theorem dX11_set_66 : decode cX11_set 66 = .ok (.invokevirtual 160, 3) := by decide +kernel
theorem dX11_set_69 : decode cX11_set 69 = .ok (.iload 5, 2) := by decide +kernel
theorem dX11_set_71 : decode cX11_set 71 = .ok (.ireturn, 1) := by decide +kernel
theorem dX11_turn_0 : decode cX11_turn 0 = .ok (.aload_n 0, 1) := by decide +kernel
theorem dX11_turn_1 : decode cX11_turn 1 = .ok (.iload_n 1, 1) := by decide +kernel
theorem dX11_turn_2 : decode cX11_turn 2 = .ok (.invokevirtual 141, 3) := by decide +kernel
theorem dX11_turn_5 : decode cX11_turn 5 = .ok (.ifCond .eq 10, 3) := by decide +kernel
theorem dX11_turn_8 : decode cX11_turn 8 = .ok (.iload_n 2, 1) := by decide +kernel
theorem dX11_turn_9 : decode cX11_turn 9 = .ok (.invokestatic 126, 3) := by decide +kernel
theorem dX11_turn_12 : decode cX11_turn 12 = .ok (.ifCond .ne 10, 3) := by decide +kernel
theorem dX11_turn_15 : decode cX11_turn 15 = .ok (.aload_n 0, 1) := by decide +kernel
theorem dX11_turn_16 : decode cX11_turn 16 = .ok (.ldc 81, 2) := by decide +kernel
theorem dX11_turn_18 : decode cX11_turn 18 = .ok (.invokevirtual 82, 3) := by decide +kernel
theorem dX11_turn_21 : decode cX11_turn 21 = .ok (.ireturn, 1) := by decide +kernel
theorem dX11_turn_22 : decode cX11_turn 22 = .ok (.aload_n 0, 1) := by decide +kernel
theorem dX11_turn_23 : decode cX11_turn 23 = .ok (.getfield 36, 3) := by decide +kernel
theorem dX11_turn_26 : decode cX11_turn 26 = .ok (.getfield 144, 3) := by decide +kernel
theorem dX11_turn_29 : decode cX11_turn 29 = .ok (.iload_n 1, 1) := by decide +kernel
theorem dX11_turn_30 : decode cX11_turn 30 = .ok (.aaload, 1) := by decide +kernel
theorem dX11_turn_31 : decode cX11_turn 31 = .ok (.astore_n 3, 1) := by decide +kernel
theorem dX11_turn_32 : decode cX11_turn 32 = .ok (.aload_n 3, 1) := by decide +kernel
theorem dX11_turn_33 : decode cX11_turn 33 = .ok (.getfield 164, 3) := by decide +kernel
theorem dX11_turn_36 : decode cX11_turn 36 = .ok (.invokevirtual 168, 3) := by decide +kernel
theorem dX11_turn_39 : decode cX11_turn 39 = .ok (.istore 4, 2) := by decide +kernel
theorem dX11_turn_41 : decode cX11_turn 41 = .ok (.aload_n 3, 1) := by decide +kernel
theorem dX11_turn_42 : decode cX11_turn 42 = .ok (.aload_n 0, 1) := by decide +kernel
theorem dX11_turn_43 : decode cX11_turn 43 = .ok (.getfield 27, 3) := by decide +kernel
theorem dX11_turn_46 : decode cX11_turn 46 = .ok (.iload_n 2, 1) := by decide +kernel
theorem dX11_turn_47 : decode cX11_turn 47 = .ok (.aaload, 1) := by decide +kernel
theorem dX11_turn_48 : decode cX11_turn 48 = .ok (.putfield 164, 3) := by decide +kernel
theorem dX11_turn_51 : decode cX11_turn 51 = .ok (.iload 4, 2) := by decide +kernel
theorem dX11_turn_53 : decode cX11_turn 53 = .ok (.ireturn, 1) := by decide +kernel
theorem dX11_as_0 : decode cX11_as 0 = .ok (.aload_n 0, 1) := by decide +kernel
theorem dX11_as_1 : decode cX11_as 1 = .ok (.iload_n 1, 1) := by decide +kernel
theorem dX11_as_2 : decode cX11_as 2 = .ok (.invokevirtual 141, 3) := by decide +kernel
theorem dX11_as_5 : decode cX11_as 5 = .ok (.ifCond .eq 10, 3) := by decide +kernel
theorem dX11_as_8 : decode cX11_as 8 = .ok (.iload_n 2, 1) := by decide +kernel
theorem dX11_as_9 : decode cX11_as 9 = .ok (.invokestatic 126, 3) := by decide +kernel
theorem dX11_as_12 : decode cX11_as 12 = .ok (.ifCond .ne 10, 3) := by decide +kernel
theorem dX11_as_15 : decode cX11_as 15 = .ok (.aload_n 0, 1) := by decide +kernel
theorem dX11_as_16 : decode cX11_as 16 = .ok (.ldc 81, 2) := by decide +kernel
theorem dX11_as_18 : decode cX11_as 18 = .ok (.invokevirtual 82, 3) := by decide +kernel
theorem dX11_as_21 : decode cX11_as 21 = .ok (.ireturn, 1) := by decide +kernel
theorem dX11_as_22 : decode cX11_as 22 = .ok (.aload_n 0, 1) := by decide +kernel
theorem dX11_as_23 : decode cX11_as 23 = .ok (.getfield 36, 3) := by decide +kernel
theorem dX11_as_26 : decode cX11_as 26 = .ok (.getfield 144, 3) := by decide +kernel
theorem dX11_as_29 : decode cX11_as 29 = .ok (.iload_n 1, 1) := by decide +kernel
theorem dX11_as_30 : decode cX11_as 30 = .ok (.aaload, 1) := by decide +kernel
theorem dX11_as_31 : decode cX11_as 31 = .ok (.astore_n 3, 1) := by decide +kernel
theorem dX11_as_32 : decode cX11_as 32 = .ok (.aload_n 3, 1) := by decide +kernel
theorem dX11_as_33 : decode cX11_as 33 = .ok (.getfield 164, 3) := by decide +kernel
theorem dX11_as_36 : decode cX11_as 36 = .ok (.iload_n 2, 1) := by decide +kernel
theorem dX11_as_37 : decode cX11_as 37 = .ok (.invokevirtual 171, 3) := by decide +kernel
theorem dX11_as_40 : decode cX11_as 40 = .ok (.ifCond .eq 10, 3) := by decide +kernel
theorem dX11_as_43 : decode cX11_as 43 = .ok (.aload_n 3, 1) := by decide +kernel
theorem dX11_as_44 : decode cX11_as 44 = .ok (.getfield 174, 3) := by decide +kernel
theorem dX11_as_47 : decode cX11_as 47 = .ok (.goto 9, 3) := by decide +kernel
theorem dX11_as_50 : decode cX11_as 50 = .ok (.aload_n 0, 1) := by decide +kernel
theorem dX11_as_51 : decode cX11_as 51 = .ok (.ldc 177, 2) := by decide +kernel
theorem dX11_as_53 : decode cX11_as 53 = .ok (.invokevirtual 82, 3) := by decide +kernel
theorem dX11_as_56 : decode cX11_as 56 = .ok (.ireturn, 1) := by decide +kernel
theorem dX11_hours_0 : decode cX11_hours 0 = .ok (.iload_n 1, 1) := by decide +kernel
theorem dX11_hours_1 : decode cX11_hours 1 = .ok (.iconst 1, 1) := by decide +kernel
theorem dX11_hours_2 : decode cX11_hours 2 = .ok (.bipush 100, 2) := by decide +kernel
theorem dX11_hours_4 : decode cX11_hours 4 = .ok (.invokestatic 77, 3) := by decide +kernel
theorem dX11_hours_7 : decode cX11_hours 7 = .ok (.ifCond .ne 10, 3) := by decide +kernel
theorem dX11_hours_10 : decode cX11_hours 10 = .ok (.aload_n 0, 1) := by decide +kernel
theorem dX11_hours_11 : decode cX11_hours 11 = .ok (.ldc 81, 2) := by decide +kernel
theorem dX11_hours_13 : decode cX11_hours 13 = .ok (.invokevirtual 82, 3) := by decide +kernel
theorem dX11_hours_16 : decode cX11_hours 16 = .ok (.ireturn, 1) := by decide +kernel
theorem dX11_hours_17 : decode cX11_hours 17 = .ok (.aload_n 0, 1) := by decide +kernel
theorem dX11_hours_18 : decode cX11_hours 18 = .ok (.getfield 36, 3) := by decide +kernel
theorem dX11_hours_21 : decode cX11_hours 21 = .ok (.getfield 103, 3) := by decide +kernel
theorem dX11_hours_24 : decode cX11_hours 24 = .ok (.iload_n 1, 1) := by decide +kernel
theorem dX11_hours_25 : decode cX11_hours 25 = .ok (.iadd, 1) := by decide +kernel
theorem dX11_hours_26 : decode cX11_hours 26 = .ok (.ldc 178, 2) := by decide +kernel
theorem dX11_hours_28 : decode cX11_hours 28 = .ok (.if_icmp .le 10, 3) := by decide +kernel
theorem dX11_hours_31 : decode cX11_hours 31 = .ok (.aload_n 0, 1) := by decide +kernel
theorem dX11_hours_32 : decode cX11_hours 32 = .ok (.ldc 179, 2) := by decide +kernel
theorem dX11_hours_34 : decode cX11_hours 34 = .ok (.invokevirtual 82, 3) := by decide +kernel
theorem dX11_hours_37 : decode cX11_hours 37 = .ok (.ireturn, 1) := by decide +kernel
theorem dX11_hours_38 : decode cX11_hours 38 = .ok (.aload_n 0, 1) := by decide +kernel
theorem dX11_hours_39 : decode cX11_hours 39 = .ok (.getfield 36, 3) := by decide +kernel
theorem dX11_hours_42 : decode cX11_hours 42 = .ok (.iload_n 1, 1) := by decide +kernel
theorem dX11_hours_43 : decode cX11_hours 43 = .ok (.invokevirtual 180, 3) := by decide +kernel
theorem dX11_hours_46 : decode cX11_hours 46 = .ok (.aload_n 0, 1) := by decide +kernel
theorem dX11_hours_47 : decode cX11_hours 47 = .ok (.getfield 36, 3) := by decide +kernel
theorem dX11_hours_50 : decode cX11_hours 50 = .ok (.invokevirtual 123, 3) := by decide +kernel
theorem dX11_hours_53 : decode cX11_hours 53 = .ok (.ireturn, 1) := by decide +kernel
theorem dX11_on_0 : decode cX11_on 0 = .ok (.aload_n 0, 1) := by decide +kernel
theorem dX11_on_1 : decode cX11_on 1 = .ok (.iload_n 1, 1) := by decide +kernel
theorem dX11_on_2 : decode cX11_on 2 = .ok (.invokevirtual 141, 3) := by decide +kernel
theorem dX11_on_5 : decode cX11_on 5 = .ok (.ifCond .eq 22, 3) := by decide +kernel
theorem dX11_on_8 : decode cX11_on 8 = .ok (.iload_n 2, 1) := by decide +kernel
theorem dX11_on_9 : decode cX11_on 9 = .ok (.iconst 0, 1) := by decide +kernel
theorem dX11_on_10 : decode cX11_on 10 = .ok (.bipush 100, 2) := by decide +kernel
theorem dX11_on_12 : decode cX11_on 12 = .ok (.invokestatic 77, 3) := by decide +kernel
theorem dX11_on_15 : decode cX11_on 15 = .ok (.ifCond .eq 12, 3) := by decide +kernel
theorem dX11_on_18 : decode cX11_on 18 = .ok (.iload_n 3, 1) := by decide +kernel
theorem dX11_on_19 : decode cX11_on 19 = .ok (.iconst 0, 1) := by decide +kernel
theorem dX11_on_20 : decode cX11_on 20 = .ok (.iconst 3, 1) := by decide +kernel
theorem dX11_on_21 : decode cX11_on 21 = .ok (.invokestatic 77, 3) := by decide +kernel
theorem dX11_on_24 : decode cX11_on 24 = .ok (.ifCond .ne 10, 3) := by decide +kernel
theorem dX11_on_27 : decode cX11_on 27 = .ok (.aload_n 0, 1) := by decide +kernel
theorem dX11_on_28 : decode cX11_on 28 = .ok (.ldc 81, 2) := by decide +kernel
theorem dX11_on_30 : decode cX11_on 30 = .ok (.invokevirtual 82, 3) := by decide +kernel
theorem dX11_on_33 : decode cX11_on 33 = .ok (.ireturn, 1) := by decide +kernel
theorem dX11_on_34 : decode cX11_on 34 = .ok (.aload_n 0, 1) := by decide +kernel
theorem dX11_on_35 : decode cX11_on 35 = .ok (.iload_n 1, 1) := by decide +kernel
theorem dX11_on_36 : decode cX11_on 36 = .ok (.invokevirtual 184, 3) := by decide +kernel
theorem dX11_on_39 : decode cX11_on 39 = .ok (.aload_n 0, 1) := by decide +kernel
theorem dX11_on_40 : decode cX11_on 40 = .ok (.getfield 43, 3) := by decide +kernel
theorem dX11_on_43 : decode cX11_on 43 = .ok (.iload_n 2, 1) := by decide +kernel
theorem dX11_on_44 : decode cX11_on 44 = .ok (.invokevirtual 180, 3) := by decide +kernel
theorem dX11_on_47 : decode cX11_on 47 = .ok (.aload_n 0, 1) := by decide +kernel
theorem dX11_on_48 : decode cX11_on 48 = .ok (.getfield 43, 3) := by decide +kernel
theorem dX11_on_51 : decode cX11_on 51 = .ok (.getfield 144, 3) := by decide +kernel
theorem dX11_on_54 : decode cX11_on 54 = .ok (.iconst 0, 1) := by decide +kernel
theorem dX11_on_55 : decode cX11_on 55 = .ok (.aaload, 1) := by decide +kernel
theorem dX11_on_56 : decode cX11_on 56 = .ok (.iconst 1, 1) := by decide +kernel
theorem dX11_on_57 : decode cX11_on 57 = .ok (.iload_n 3, 1) := by decide +kernel
theorem dX11_on_58 : decode cX11_on 58 = .ok (.iadd, 1) := by decide +kernel
theorem dX11_on_59 : decode cX11_on 59 = .ok (.invokevirtual 150, 3) := by decide +kernel
theorem dX11_on_62 : decode cX11_on 62 = .ok (.ireturn, 1) := by decide +kernel
theorem dX11_then_0 : decode cX11_then 0 = .ok (.iload_n 1, 1) := by decide +kernel
theorem dX11_then_1 : decode cX11_then 1 = .ok (.iconst 0, 1) := by decide +kernel
theorem dX11_then_2 : decode cX11_then 2 = .ok (.bipush 100, 2) := by decide +kernel
theorem dX11_then_4 : decode cX11_then 4 = .ok (.invokestatic 77, 3) := by decide +kernel
theorem dX11_then_7 : decode cX11_then 7 = .ok (.ifCond .eq 12, 3) := by decide +kernel
theorem dX11_then_10 : decode cX11_then 10 = .ok (.iload_n 2, 1) := by decide +kernel
theorem dX11_then_11 : decode cX11_then 11 = .ok (.iconst 0, 1) := by decide +kernel
theorem dX11_then_12 : decode cX11_then 12 = .ok (.iconst 1, 1) := by decide +kernel
theorem dX11_then_13 : decode cX11_then 13 = .ok (.invokestatic 77, 3) := by decide +kernel
theorem dX11_then_16 : decode cX11_then 16 = .ok (.ifCond .ne 10, 3) := by decide +kernel
theorem dX11_then_19 : decode cX11_then 19 = .ok (.aload_n 0, 1) := by decide +kernel
theorem dX11_then_20 : decode cX11_then 20 = .ok (.ldc 81, 2) := by decide +kernel
theorem dX11_then_22 : decode cX11_then 22 = .ok (.invokevirtual 82, 3) := by decide +kernel
theorem dX11_then_25 : decode cX11_then 25 = .ok (.ireturn, 1) := by decide +kernel
theorem dX11_then_26 : decode cX11_then 26 = .ok (.aload_n 0, 1) := by decide +kernel
theorem dX11_then_27 : decode cX11_then 27 = .ok (.getfield 43, 3) := by decide +kernel
theorem dX11_then_30 : decode cX11_then 30 = .ok (.aload_n 0, 1) := by decide +kernel
theorem dX11_then_31 : decode cX11_then 31 = .ok (.getfield 36, 3) := by decide +kernel
theorem dX11_then_34 : decode cX11_then 34 = .ok (.invokevirtual 187, 3) := by decide +kernel
theorem dX11_then_37 : decode cX11_then 37 = .ok (.aload_n 0, 1) := by decide +kernel
theorem dX11_then_38 : decode cX11_then 38 = .ok (.getfield 43, 3) := by decide +kernel
theorem dX11_then_41 : decode cX11_then 41 = .ok (.iload_n 1, 1) := by decide +kernel
theorem dX11_then_42 : decode cX11_then 42 = .ok (.invokevirtual 180, 3) := by decide +kernel
theorem dX11_then_45 : decode cX11_then 45 = .ok (.iload_n 2, 1) := by decide +kernel
theorem dX11_then_46 : decode cX11_then 46 = .ok (.ifCond .ne 13, 3) := by decide +kernel
theorem dX11_then_49 : decode cX11_then 49 = .ok (.aload_n 0, 1) := by decide +kernel
theorem dX11_then_50 : decode cX11_then 50 = .ok (.getfield 43, 3) := by decide +kernel
theorem dX11_then_53 : decode cX11_then 53 = .ok (.invokevirtual 120, 3) := by decide +kernel
theorem dX11_then_56 : decode cX11_then 56 = .ok (.goto 10, 3) := by decide +kernel
theorem dX11_then_59 : decode cX11_then 59 = .ok (.aload_n 0, 1) := by decide +kernel
theorem dX11_then_60 : decode cX11_then 60 = .ok (.getfield 43, 3) := by decide +kernel
theorem dX11_then_63 : decode cX11_then 63 = .ok (.invokevirtual 123, 3) := by decide +kernel
theorem dX11_then_66 : decode cX11_then 66 = .ok (.ireturn, 1) := by decide +kernel
theorem dX11_comes_0 : decode cX11_comes 0 = .ok (.aload_n 0, 1) := by decide +kernel
theorem dX11_comes_1 : decode cX11_comes 1 = .ok (.iload_n 1, 1) := by decide +kernel
theorem dX11_comes_2 : decode cX11_comes 2 = .ok (.invokevirtual 141, 3) := by decide +kernel
theorem dX11_comes_5 : decode cX11_comes 5 = .ok (.ifCond .ne 10, 3) := by decide +kernel
theorem dX11_comes_8 : decode cX11_comes 8 = .ok (.aload_n 0, 1) := by decide +kernel
theorem dX11_comes_9 : decode cX11_comes 9 = .ok (.ldc 81, 2) := by decide +kernel
theorem dX11_comes_11 : decode cX11_comes 11 = .ok (.invokevirtual 82, 3) := by decide +kernel
theorem dX11_comes_14 : decode cX11_comes 14 = .ok (.ireturn, 1) := by decide +kernel
theorem dX11_comes_15 : decode cX11_comes 15 = .ok (.aload_n 0, 1) := by decide +kernel
theorem dX11_comes_16 : decode cX11_comes 16 = .ok (.iload_n 1, 1) := by decide +kernel
theorem dX11_comes_17 : decode cX11_comes 17 = .ok (.invokevirtual 184, 3) := by decide +kernel
theorem dX11_comes_20 : decode cX11_comes 20 = .ok (.aload_n 0, 1) := by decide +kernel
theorem dX11_comes_21 : decode cX11_comes 21 = .ok (.invokevirtual 191, 3) := by decide +kernel
theorem dX11_comes_24 : decode cX11_comes 24 = .ok (.istore_n 2, 1) := by decide +kernel
theorem dX11_comes_25 : decode cX11_comes 25 = .ok (.iload_n 2, 1) := by decide +kernel
theorem dX11_comes_26 : decode cX11_comes 26 = .ok (.bipush 101, 2) := by decide +kernel
theorem dX11_comes_28 : decode cX11_comes 28 = .ok (.if_icmp .ne 12, 3) := by decide +kernel
theorem dX11_comes_31 : decode cX11_comes 31 = .ok (.aload_n 0, 1) := by decide +kernel
theorem dX11_comes_32 : decode cX11_comes 32 = .ok (.ldc 194, 2) := by decide +kernel
theorem dX11_comes_34 : decode cX11_comes 34 = .ok (.invokevirtual 82, 3) := by decide +kernel
theorem dX11_comes_37 : decode cX11_comes 37 = .ok (.goto 4, 3) := by decide +kernel
theorem dX11_comes_40 : decode cX11_comes 40 = .ok (.iload_n 2, 1) := by decide +kernel
theorem dX11_comes_41 : decode cX11_comes 41 = .ok (.ireturn, 1) := by decide +kernel
theorem dX11_wrecks_0 : decode cX11_wrecks 0 = .ok (.aload_n 0, 1) := by decide +kernel
theorem dX11_wrecks_1 : decode cX11_wrecks 1 = .ok (.iload_n 1, 1) := by decide +kernel
theorem dX11_wrecks_2 : decode cX11_wrecks 2 = .ok (.invokevirtual 141, 3) := by decide +kernel
theorem dX11_wrecks_5 : decode cX11_wrecks 5 = .ok (.ifCond .ne 10, 3) := by decide +kernel
theorem dX11_wrecks_8 : decode cX11_wrecks 8 = .ok (.aload_n 0, 1) := by decide +kernel
theorem dX11_wrecks_9 : decode cX11_wrecks 9 = .ok (.ldc 81, 2) := by decide +kernel
theorem dX11_wrecks_11 : decode cX11_wrecks 11 = .ok (.invokevirtual 82, 3) := by decide +kernel
theorem dX11_wrecks_14 : decode cX11_wrecks 14 = .ok (.ireturn, 1) := by decide +kernel
theorem dX11_wrecks_15 : decode cX11_wrecks 15 = .ok (.aload_n 0, 1) := by decide +kernel
theorem dX11_wrecks_16 : decode cX11_wrecks 16 = .ok (.iload_n 1, 1) := by decide +kernel
theorem dX11_wrecks_17 : decode cX11_wrecks 17 = .ok (.invokevirtual 184, 3) := by decide +kernel
theorem dX11_wrecks_20 : decode cX11_wrecks 20 = .ok (.aload_n 0, 1) := by decide +kernel
theorem dX11_wrecks_21 : decode cX11_wrecks 21 = .ok (.invokevirtual 195, 3) := by decide +kernel
theorem dX11_wrecks_24 : decode cX11_wrecks 24 = .ok (.istore_n 2, 1) := by decide +kernel
theorem dX11_wrecks_25 : decode cX11_wrecks 25 = .ok (.aload_n 0, 1) := by decide +kernel
theorem dX11_wrecks_26 : decode cX11_wrecks 26 = .ok (.getfield 43, 3) := by decide +kernel
theorem dX11_wrecks_29 : decode cX11_wrecks 29 = .ok (.getfield 144, 3) := by decide +kernel
theorem dX11_wrecks_32 : decode cX11_wrecks 32 = .ok (.iconst 0, 1) := by decide +kernel
theorem dX11_wrecks_33 : decode cX11_wrecks 33 = .ok (.aaload, 1) := by decide +kernel
theorem dX11_wrecks_34 : decode cX11_wrecks 34 = .ok (.getfield 198, 3) := by decide +kernel
theorem dX11_wrecks_37 : decode cX11_wrecks 37 = .ok (.ifCond .eq 7, 3) := by decide +kernel
theorem dX11_wrecks_40 : decode cX11_wrecks 40 = .ok (.iload_n 2, 1) := by decide +kernel
theorem dX11_wrecks_41 : decode cX11_wrecks 41 = .ok (.goto 9, 3) := by decide +kernel
theorem dX11_wrecks_44 : decode cX11_wrecks 44 = .ok (.aload_n 0, 1) := by decide +kernel
theorem dX11_wrecks_45 : decode cX11_wrecks 45 = .ok (.ldc 194, 2) := by decide +kernel
theorem dX11_wrecks_47 : decode cX11_wrecks 47 = .ok (.invokevirtual 82, 3) := by decide +kernel
theorem dX11_wrecks_50 : decode cX11_wrecks 50 = .ok (.ireturn, 1) := by decide +kernel
theorem dX11_row_0 : decode cX11_row 0 = .ok (.aload_n 0, 1) := by decide +kernel
theorem dX11_row_1 : decode cX11_row 1 = .ok (.iload_n 1, 1) := by decide +kernel
theorem dX11_row_2 : decode cX11_row 2 = .ok (.invokevirtual 201, 3) := by decide +kernel
theorem dX11_row_5 : decode cX11_row 5 = .ok (.istore_n 2, 1) := by decide +kernel
theorem dX11_row_6 : decode cX11_row 6 = .ok (.iload_n 2, 1) := by decide +kernel
theorem dX11_row_7 : decode cX11_row 7 = .ok (.ifCond .eq 9, 3) := by decide +kernel
theorem dX11_row_10 : decode cX11_row 10 = .ok (.aload_n 0, 1) := by decide +kernel
theorem dX11_row_11 : decode cX11_row 11 = .ok (.iload_n 2, 1) := by decide +kernel
theorem dX11_row_12 : decode cX11_row 12 = .ok (.invokevirtual 82, 3) := by decide +kernel
theorem dX11_row_15 : decode cX11_row 15 = .ok (.ireturn, 1) := by decide +kernel
theorem dX11_row_16 : decode cX11_row 16 = .ok (.ldc 194, 2) := by decide +kernel
theorem dX11_row_18 : decode cX11_row 18 = .ok (.istore_n 3, 1) := by decide +kernel
theorem dX11_row_19 : decode cX11_row 19 = .ok (.bipush 101, 2) := by decide +kernel
theorem dX11_row_21 : decode cX11_row 21 = .ok (.istore 4, 2) := by decide +kernel
theorem dX11_row_23 : decode cX11_row 23 = .ok (.iconst 0, 1) := by decide +kernel
theorem dX11_row_24 : decode cX11_row 24 = .ok (.istore 5, 2) := by decide +kernel
theorem dX11_row_26 : decode cX11_row 26 = .ok (.iload 5, 2) := by decide +kernel
theorem dX11_row_28 : decode cX11_row 28 = .ok (.bipush 9, 2) := by decide +kernel
theorem dX11_row_30 : decode cX11_row 30 = .ok (.if_icmp .gt 48, 3) := by decide +kernel
theorem dX11_row_33 : decode cX11_row 33 = .ok (.aload_n 0, 1) := by decide +kernel
theorem dX11_row_34 : decode cX11_row 34 = .ok (.iload_n 1, 1) := by decide +kernel
theorem dX11_row_35 : decode cX11_row 35 = .ok (.invokevirtual 184, 3) := by decide +kernel
theorem dX11_row_38 : decode cX11_row 38 = .ok (.aload_n 0, 1) := by decide +kernel
theorem dX11_row_39 : decode cX11_row 39 = .ok (.getfield 43, 3) := by decide +kernel
theorem dX11_row_42 : decode cX11_row 42 = .ok (.getfield 144, 3) := by decide +kernel
theorem dX11_row_45 : decode cX11_row 45 = .ok (.iconst 0, 1) := by decide +kernel
theorem dX11_row_46 : decode cX11_row 46 = .ok (.aaload, 1) := by decide +kernel
theorem dX11_row_47 : decode cX11_row 47 = .ok (.iload 5, 2) := by decide +kernel
theorem dX11_row_49 : decode cX11_row 49 = .ok (.putfield 204, 3) := by decide +kernel
theorem dX11_row_52 : decode cX11_row 52 = .ok (.aload_n 0, 1) := by decide +kernel
theorem dX11_row_53 : decode cX11_row 53 = .ok (.invokevirtual 191, 3) := by decide +kernel
theorem dX11_row_56 : decode cX11_row 56 = .ok (.istore 6, 2) := by decide +kernel
theorem dX11_row_58 : decode cX11_row 58 = .ok (.iload 6, 2) := by decide +kernel
theorem dX11_row_60 : decode cX11_row 60 = .ok (.iload 4, 2) := by decide +kernel
theorem dX11_row_62 : decode cX11_row 62 = .ok (.if_icmp .ge 10, 3) := by decide +kernel
theorem dX11_row_65 : decode cX11_row 65 = .ok (.iload 6, 2) := by decide +kernel
theorem dX11_row_67 : decode cX11_row 67 = .ok (.istore 4, 2) := by decide +kernel
theorem dX11_row_69 : decode cX11_row 69 = .ok (.iload 5, 2) := by decide +kernel
theorem dX11_row_71 : decode cX11_row 71 = .ok (.istore_n 3, 1) := by decide +kernel
theorem dX11_row_72 : decode cX11_row 72 = .ok (.iinc 5 1, 3) := by decide +kernel
theorem dX11_row_75 : decode cX11_row 75 = .ok (.goto (-49), 3) := by decide +kernel
theorem dX11_row_78 : decode cX11_row 78 = .ok (.iload_n 3, 1) := by decide +kernel
theorem dX11_row_79 : decode cX11_row 79 = .ok (.ldc 194, 2) := by decide +kernel
theorem dX11_row_81 : decode cX11_row 81 = .ok (.if_icmp .ne 12, 3) := by decide +kernel
theorem dX11_row_84 : decode cX11_row 84 = .ok (.aload_n 0, 1) := by decide +kernel
theorem dX11_row_85 : decode cX11_row 85 = .ok (.ldc 194, 2) := by decide +kernel
theorem dX11_row_87 : decode cX11_row 87 = .ok (.invokevirtual 82, 3) := by decide +kernel
theorem dX11_row_90 : decode cX11_row 90 = .ok (.goto 4, 3) := by decide +kernel
theorem dX11_row_93 : decode cX11_row 93 = .ok (.iload_n 3, 1) := by decide +kernel
theorem dX11_row_94 : decode cX11_row 94 = .ok (.ireturn, 1) := by decide +kernel
theorem dX11_kind_0 : decode cX11_kind 0 = .ok (.aload_n 0, 1) := by decide +kernel
theorem dX11_kind_1 : decode cX11_kind 1 = .ok (.iload_n 1, 1) := by decide +kernel
theorem dX11_kind_2 : decode cX11_kind 2 = .ok (.invokevirtual 201, 3) := by decide +kernel
theorem dX11_kind_5 : decode cX11_kind 5 = .ok (.istore_n 2, 1) := by decide +kernel
theorem dX11_kind_6 : decode cX11_kind 6 = .ok (.iload_n 2, 1) := by decide +kernel
theorem dX11_kind_7 : decode cX11_kind 7 = .ok (.ifCond .eq 9, 3) := by decide +kernel
theorem dX11_kind_10 : decode cX11_kind 10 = .ok (.aload_n 0, 1) := by decide +kernel
theorem dX11_kind_11 : decode cX11_kind 11 = .ok (.iload_n 2, 1) := by decide +kernel
theorem dX11_kind_12 : decode cX11_kind 12 = .ok (.invokevirtual 82, 3) := by decide +kernel
theorem dX11_kind_15 : decode cX11_kind 15 = .ok (.ireturn, 1) := by decide +kernel
theorem dX11_kind_16 : decode cX11_kind 16 = .ok (.ldc 194, 2) := by decide +kernel
theorem dX11_kind_18 : decode cX11_kind 18 = .ok (.istore_n 3, 1) := by decide +kernel
theorem dX11_kind_19 : decode cX11_kind 19 = .ok (.bipush 101, 2) := by decide +kernel
theorem dX11_kind_21 : decode cX11_kind 21 = .ok (.istore 4, 2) := by decide +kernel
theorem dX11_kind_23 : decode cX11_kind 23 = .ok (.iconst 0, 1) := by decide +kernel
theorem dX11_kind_24 : decode cX11_kind 24 = .ok (.istore 5, 2) := by decide +kernel
theorem dX11_kind_26 : decode cX11_kind 26 = .ok (.iload 5, 2) := by decide +kernel
theorem dX11_kind_28 : decode cX11_kind 28 = .ok (.iconst 5, 1) := by decide +kernel
theorem dX11_kind_29 : decode cX11_kind 29 = .ok (.if_icmp .gt 53, 3) := by decide +kernel
theorem dX11_kind_32 : decode cX11_kind 32 = .ok (.aload_n 0, 1) := by decide +kernel
theorem dX11_kind_33 : decode cX11_kind 33 = .ok (.iload_n 1, 1) := by decide +kernel
theorem dX11_kind_34 : decode cX11_kind 34 = .ok (.invokevirtual 184, 3) := by decide +kernel
theorem dX11_kind_37 : decode cX11_kind 37 = .ok (.aload_n 0, 1) := by decide +kernel
theorem dX11_kind_38 : decode cX11_kind 38 = .ok (.getfield 43, 3) := by decide +kernel
theorem dX11_kind_41 : decode cX11_kind 41 = .ok (.getfield 144, 3) := by decide +kernel
theorem dX11_kind_44 : decode cX11_kind 44 = .ok (.iconst 0, 1) := by decide +kernel
theorem dX11_kind_45 : decode cX11_kind 45 = .ok (.aaload, 1) := by decide +kernel
theorem dX11_kind_46 : decode cX11_kind 46 = .ok (.aload_n 0, 1) := by decide +kernel
theorem dX11_kind_47 : decode cX11_kind 47 = .ok (.getfield 27, 3) := by decide +kernel
theorem dX11_kind_50 : decode cX11_kind 50 = .ok (.iload 5, 2) := by decide +kernel
theorem dX11_kind_52 : decode cX11_kind 52 = .ok (.aaload, 1) := by decide +kernel
theorem dX11_kind_53 : decode cX11_kind 53 = .ok (.putfield 164, 3) := by decide +kernel
theorem dX11_kind_56 : decode cX11_kind 56 = .ok (.aload_n 0, 1) := by decide +kernel
theorem dX11_kind_57 : decode cX11_kind 57 = .ok (.invokevirtual 191, 3) := by decide +kernel
theorem dX11_kind_60 : decode cX11_kind 60 = .ok (.istore 6, 2) := by decide +kernel
theorem dX11_kind_62 : decode cX11_kind 62 = .ok (.iload 6, 2) := by decide +kernel
theorem dX11_kind_64 : decode cX11_kind 64 = .ok (.iload 4, 2) := by decide +kernel
theorem dX11_kind_66 : decode cX11_kind 66 = .ok (.if_icmp .ge 10, 3) := by decide +kernel
theorem dX11_kind_69 : decode cX11_kind 69 = .ok (.iload 6, 2) := by decide +kernel
theorem dX11_kind_71 : decode cX11_kind 71 = .ok (.istore 4, 2) := by decide +kernel
theorem dX11_kind_73 : decode cX11_kind 73 = .ok (.iload 5, 2) := by decide +kernel
theorem dX11_kind_75 : decode cX11_kind 75 = .ok (.istore_n 3, 1) := by decide +kernel
theorem dX11_kind_76 : decode cX11_kind 76 = .ok (.iinc 5 1, 3) := by decide +kernel
theorem dX11_kind_79 : decode cX11_kind 79 = .ok (.goto (-53), 3) := by decide +kernel
theorem dX11_kind_82 : decode cX11_kind 82 = .ok (.iload_n 3, 1) := by decide +kernel
theorem dX11_kind_83 : decode cX11_kind 83 = .ok (.ldc 194, 2) := by decide +kernel
theorem dX11_kind_85 : decode cX11_kind 85 = .ok (.if_icmp .ne 12, 3) := by decide +kernel
theorem dX11_kind_88 : decode cX11_kind 88 = .ok (.aload_n 0, 1) := by decide +kernel
theorem dX11_kind_89 : decode cX11_kind 89 = .ok (.ldc 194, 2) := by decide +kernel
theorem dX11_kind_91 : decode cX11_kind 91 = .ok (.invokevirtual 82, 3) := by decide +kernel
theorem dX11_kind_94 : decode cX11_kind 94 = .ok (.goto 4, 3) := by decide +kernel
theorem dX11_kind_97 : decode cX11_kind 97 = .ok (.iload_n 3, 1) := by decide +kernel
theorem dX11_kind_98 : decode cX11_kind 98 = .ok (.ireturn, 1) := by decide +kernel
theorem dX11_shine_0 : decode cX11_shine 0 = .ok (.iload_n 1, 1) := by decide +kernel
theorem dX11_shine_1 : decode cX11_shine 1 = .ok (.iconst 1, 1) := by decide +kernel
theorem dX11_shine_2 : decode cX11_shine 2 = .ok (.bipush 60, 2) := by decide +kernel
theorem dX11_shine_4 : decode cX11_shine 4 = .ok (.invokestatic 77, 3) := by decide +kernel
theorem dX11_shine_7 : decode cX11_shine 7 = .ok (.ifCond .ne 10, 3) := by decide +kernel
theorem dX11_shine_10 : decode cX11_shine 10 = .ok (.aload_n 0, 1) := by decide +kernel
theorem dX11_shine_11 : decode cX11_shine 11 = .ok (.ldc 81, 2) := by decide +kernel
theorem dX11_shine_13 : decode cX11_shine 13 = .ok (.invokevirtual 82, 3) := by decide +kernel
theorem dX11_shine_16 : decode cX11_shine 16 = .ok (.ireturn, 1) := by decide +kernel
theorem dX11_shine_17 : decode cX11_shine 17 = .ok (.iconst 0, 1) := by decide +kernel
theorem dX11_shine_18 : decode cX11_shine 18 = .ok (.istore_n 2, 1) := by decide +kernel
theorem dX11_shine_19 : decode cX11_shine 19 = .ok (.bipush 7, 2) := by decide +kernel
theorem dX11_shine_21 : decode cX11_shine 21 = .ok (.istore_n 3, 1) := by decide +kernel
theorem dX11_shine_22 : decode cX11_shine 22 = .ok (.iconst 0, 1) := by decide +kernel
theorem dX11_shine_23 : decode cX11_shine 23 = .ok (.istore 4, 2) := by decide +kernel
theorem dX11_shine_25 : decode cX11_shine 25 = .ok (.iload 4, 2) := by decide +kernel
theorem dX11_shine_27 : decode cX11_shine 27 = .ok (.bipush 9, 2) := by decide +kernel
theorem dX11_shine_29 : decode cX11_shine 29 = .ok (.if_icmp .gt 61, 3) := by decide +kernel
theorem dX11_shine_32 : decode cX11_shine 32 = .ok (.aload_n 0, 1) := by decide +kernel
theorem dX11_shine_33 : decode cX11_shine 33 = .ok (.getfield 43, 3) := by decide +kernel
theorem dX11_shine_36 : decode cX11_shine 36 = .ok (.aload_n 0, 1) := by decide +kernel
theorem dX11_shine_37 : decode cX11_shine 37 = .ok (.getfield 36, 3) := by decide +kernel
theorem dX11_shine_40 : decode cX11_shine 40 = .ok (.invokevirtual 187, 3) := by decide +kernel
theorem dX11_shine_43 : decode cX11_shine 43 = .ok (.aload_n 0, 1) := by decide +kernel
theorem dX11_shine_44 : decode cX11_shine 44 = .ok (.getfield 43, 3) := by decide +kernel
theorem dX11_shine_47 : decode cX11_shine 47 = .ok (.iload 4, 2) := by decide +kernel
theorem dX11_shine_49 : decode cX11_shine 49 = .ok (.putfield 100, 3) := by decide +kernel
theorem dX11_shine_52 : decode cX11_shine 52 = .ok (.aload_n 0, 1) := by decide +kernel
theorem dX11_shine_53 : decode cX11_shine 53 = .ok (.getfield 43, 3) := by decide +kernel
theorem dX11_shine_56 : decode cX11_shine 56 = .ok (.iload_n 1, 1) := by decide +kernel
theorem dX11_shine_57 : decode cX11_shine 57 = .ok (.invokevirtual 180, 3) := by decide +kernel
theorem dX11_shine_60 : decode cX11_shine 60 = .ok (.aload_n 0, 1) := by decide +kernel
theorem dX11_shine_61 : decode cX11_shine 61 = .ok (.getfield 43, 3) := by decide +kernel
theorem dX11_shine_64 : decode cX11_shine 64 = .ok (.invokevirtual 120, 3) := by decide +kernel
theorem dX11_shine_67 : decode cX11_shine 67 = .ok (.invokestatic 207, 3) := by decide +kernel
theorem dX11_shine_70 : decode cX11_shine 70 = .ok (.istore 5, 2) := by decide +kernel
theorem dX11_shine_72 : decode cX11_shine 72 = .ok (.iload 5, 2) := by decide +kernel
theorem dX11_shine_74 : decode cX11_shine 74 = .ok (.iload_n 3, 1) := by decide +kernel
theorem dX11_shine_75 : decode cX11_shine 75 = .ok (.if_icmp .ge 9, 3) := by decide +kernel
theorem dX11_shine_78 : decode cX11_shine 78 = .ok (.iload 5, 2) := by decide +kernel
theorem dX11_shine_80 : decode cX11_shine 80 = .ok (.istore_n 3, 1) := by decide +kernel
theorem dX11_shine_81 : decode cX11_shine 81 = .ok (.iload 4, 2) := by decide +kernel
theorem dX11_shine_83 : decode cX11_shine 83 = .ok (.istore_n 2, 1) := by decide +kernel
theorem dX11_shine_84 : decode cX11_shine 84 = .ok (.iinc 4 1, 3) := by decide +kernel
theorem dX11_shine_87 : decode cX11_shine 87 = .ok (.goto (-62), 3) := by decide +kernel
theorem dX11_shine_90 : decode cX11_shine 90 = .ok (.iload_n 2, 1) := by decide +kernel
theorem dX11_shine_91 : decode cX11_shine 91 = .ok (.ireturn, 1) := by decide +kernel
theorem dX11_hour_0 : decode cX11_hour 0 = .ok (.iload_n 1, 1) := by decide +kernel
theorem dX11_hour_1 : decode cX11_hour 1 = .ok (.iconst 1, 1) := by decide +kernel
theorem dX11_hour_2 : decode cX11_hour 2 = .ok (.bipush 60, 2) := by decide +kernel
theorem dX11_hour_4 : decode cX11_hour 4 = .ok (.invokestatic 77, 3) := by decide +kernel
theorem dX11_hour_7 : decode cX11_hour 7 = .ok (.ifCond .ne 10, 3) := by decide +kernel
theorem dX11_hour_10 : decode cX11_hour 10 = .ok (.aload_n 0, 1) := by decide +kernel
theorem dX11_hour_11 : decode cX11_hour 11 = .ok (.ldc 81, 2) := by decide +kernel
theorem dX11_hour_13 : decode cX11_hour 13 = .ok (.invokevirtual 82, 3) := by decide +kernel
theorem dX11_hour_16 : decode cX11_hour 16 = .ok (.ireturn, 1) := by decide +kernel
theorem dX11_hour_17 : decode cX11_hour 17 = .ok (.iconst 0, 1) := by decide +kernel
theorem dX11_hour_18 : decode cX11_hour 18 = .ok (.istore_n 2, 1) := by decide +kernel
theorem dX11_hour_19 : decode cX11_hour 19 = .ok (.ldc 212, 2) := by decide +kernel
theorem dX11_hour_21 : decode cX11_hour 21 = .ok (.istore_n 3, 1) := by decide +kernel
theorem dX11_hour_22 : decode cX11_hour 22 = .ok (.iconst 0, 1) := by decide +kernel
theorem dX11_hour_23 : decode cX11_hour 23 = .ok (.istore 4, 2) := by decide +kernel
theorem dX11_hour_25 : decode cX11_hour 25 = .ok (.iload 4, 2) := by decide +kernel
theorem dX11_hour_27 : decode cX11_hour 27 = .ok (.bipush 12, 2) := by decide +kernel
theorem dX11_hour_29 : decode cX11_hour 29 = .ok (.if_icmp .ge 68, 3) := by decide +kernel
theorem dX11_hour_32 : decode cX11_hour 32 = .ok (.aload_n 0, 1) := by decide +kernel
theorem dX11_hour_33 : decode cX11_hour 33 = .ok (.getfield 43, 3) := by decide +kernel
theorem dX11_hour_36 : decode cX11_hour 36 = .ok (.aload_n 0, 1) := by decide +kernel
theorem dX11_hour_37 : decode cX11_hour 37 = .ok (.getfield 36, 3) := by decide +kernel
theorem dX11_hour_40 : decode cX11_hour 40 = .ok (.invokevirtual 187, 3) := by decide +kernel
theorem dX11_hour_43 : decode cX11_hour 43 = .ok (.aload_n 0, 1) := by decide +kernel
theorem dX11_hour_44 : decode cX11_hour 44 = .ok (.getfield 43, 3) := by decide +kernel
theorem dX11_hour_47 : decode cX11_hour 47 = .ok (.aload_n 0, 1) := by decide +kernel
theorem dX11_hour_48 : decode cX11_hour 48 = .ok (.getfield 36, 3) := by decide +kernel
theorem dX11_hour_51 : decode cX11_hour 51 = .ok (.getfield 97, 3) := by decide +kernel
theorem dX11_hour_54 : decode cX11_hour 54 = .ok (.iconst 1, 1) := by decide +kernel
theorem dX11_hour_55 : decode cX11_hour 55 = .ok (.iload 4, 2) := by decide +kernel
theorem dX11_hour_57 : decode cX11_hour 57 = .ok (.ishl, 1) := by decide +kernel
theorem dX11_hour_58 : decode cX11_hour 58 = .ok (.ixor, 1) := by decide +kernel
theorem dX11_hour_59 : decode cX11_hour 59 = .ok (.putfield 97, 3) := by decide +kernel
theorem dX11_hour_62 : decode cX11_hour 62 = .ok (.aload_n 0, 1) := by decide +kernel
theorem dX11_hour_63 : decode cX11_hour 63 = .ok (.getfield 43, 3) := by decide +kernel
theorem dX11_hour_66 : decode cX11_hour 66 = .ok (.iload_n 1, 1) := by decide +kernel
theorem dX11_hour_67 : decode cX11_hour 67 = .ok (.invokevirtual 180, 3) := by decide +kernel
theorem dX11_hour_70 : decode cX11_hour 70 = .ok (.aload_n 0, 1) := by decide +kernel
theorem dX11_hour_71 : decode cX11_hour 71 = .ok (.getfield 43, 3) := by decide +kernel
theorem dX11_hour_74 : decode cX11_hour 74 = .ok (.invokevirtual 213, 3) := by decide +kernel
theorem dX11_hour_77 : decode cX11_hour 77 = .ok (.istore 5, 2) := by decide +kernel
theorem dX11_hour_79 : decode cX11_hour 79 = .ok (.iload 5, 2) := by decide +kernel
theorem dX11_hour_81 : decode cX11_hour 81 = .ok (.iload_n 3, 1) := by decide +kernel
theorem dX11_hour_82 : decode cX11_hour 82 = .ok (.if_icmp .ge 9, 3) := by decide +kernel
theorem dX11_hour_85 : decode cX11_hour 85 = .ok (.iload 5, 2) := by decide +kernel
theorem dX11_hour_87 : decode cX11_hour 87 = .ok (.istore_n 3, 1) := by decide +kernel
theorem dX11_hour_88 : decode cX11_hour 88 = .ok (.iload 4, 2) := by decide +kernel
theorem dX11_hour_90 : decode cX11_hour 90 = .ok (.istore_n 2, 1) := by decide +kernel
theorem dX11_hour_91 : decode cX11_hour 91 = .ok (.iinc 4 1, 3) := by decide +kernel
theorem dX11_hour_94 : decode cX11_hour 94 = .ok (.goto (-69), 3) := by decide +kernel
theorem dX11_hour_97 : decode cX11_hour 97 = .ok (.iload_n 2, 1) := by decide +kernel
theorem dX11_hour_98 : decode cX11_hour 98 = .ok (.ireturn, 1) := by decide +kernel
theorem dX11_site_0 : decode cX11_site 0 = .ok (.iload_n 1, 1) := by decide +kernel
theorem dX11_site_1 : decode cX11_site 1 = .ok (.iconst 1, 1) := by decide +kernel
theorem dX11_site_2 : decode cX11_site 2 = .ok (.bipush 40, 2) := by decide +kernel
theorem dX11_site_4 : decode cX11_site 4 = .ok (.invokestatic 77, 3) := by decide +kernel
theorem dX11_site_7 : decode cX11_site 7 = .ok (.ifCond .ne 10, 3) := by decide +kernel
theorem dX11_site_10 : decode cX11_site 10 = .ok (.aload_n 0, 1) := by decide +kernel
theorem dX11_site_11 : decode cX11_site 11 = .ok (.ldc 81, 2) := by decide +kernel
theorem dX11_site_13 : decode cX11_site 13 = .ok (.invokevirtual 82, 3) := by decide +kernel
theorem dX11_site_16 : decode cX11_site 16 = .ok (.ireturn, 1) := by decide +kernel
theorem dX11_site_17 : decode cX11_site 17 = .ok (.iconst 0, 1) := by decide +kernel
theorem dX11_site_18 : decode cX11_site 18 = .ok (.istore_n 2, 1) := by decide +kernel
theorem dX11_site_19 : decode cX11_site 19 = .ok (.bipush 7, 2) := by decide +kernel
theorem dX11_site_21 : decode cX11_site 21 = .ok (.istore_n 3, 1) := by decide +kernel
theorem dX11_site_22 : decode cX11_site 22 = .ok (.ldc 212, 2) := by decide +kernel
theorem dX11_site_24 : decode cX11_site 24 = .ok (.istore 4, 2) := by decide +kernel
theorem dX11_site_26 : decode cX11_site 26 = .ok (.iconst 0, 1) := by decide +kernel
theorem dX11_site_27 : decode cX11_site 27 = .ok (.istore 5, 2) := by decide +kernel
theorem dX11_site_29 : decode cX11_site 29 = .ok (.iload 5, 2) := by decide +kernel
theorem dX11_site_31 : decode cX11_site 31 = .ok (.sipush 199, 3) := by decide +kernel
theorem dX11_site_34 : decode cX11_site 34 = .ok (.if_icmp .gt 102, 3) := by decide +kernel
theorem dX11_site_37 : decode cX11_site 37 = .ok (.aload_n 0, 1) := by decide +kernel
theorem dX11_site_38 : decode cX11_site 38 = .ok (.getfield 43, 3) := by decide +kernel
theorem dX11_site_41 : decode cX11_site 41 = .ok (.aload_n 0, 1) := by decide +kernel
theorem dX11_site_42 : decode cX11_site 42 = .ok (.getfield 36, 3) := by decide +kernel
theorem dX11_site_45 : decode cX11_site 45 = .ok (.invokevirtual 187, 3) := by decide +kernel
theorem dX11_site_48 : decode cX11_site 48 = .ok (.aload_n 0, 1) := by decide +kernel
theorem dX11_site_49 : decode cX11_site 49 = .ok (.getfield 43, 3) := by decide +kernel
theorem dX11_site_52 : decode cX11_site 52 = .ok (.iload 5, 2) := by decide +kernel
theorem dX11_site_54 : decode cX11_site 54 = .ok (.bipush 10, 2) := by decide +kernel
theorem dX11_site_56 : decode cX11_site 56 = .ok (.idiv, 1) := by decide +kernel
theorem dX11_site_57 : decode cX11_site 57 = .ok (.putfield 90, 3) := by decide +kernel
theorem dX11_site_60 : decode cX11_site 60 = .ok (.aload_n 0, 1) := by decide +kernel
theorem dX11_site_61 : decode cX11_site 61 = .ok (.getfield 43, 3) := by decide +kernel
theorem dX11_site_64 : decode cX11_site 64 = .ok (.iload 5, 2) := by decide +kernel
theorem dX11_site_66 : decode cX11_site 66 = .ok (.bipush 10, 2) := by decide +kernel
theorem dX11_site_68 : decode cX11_site 68 = .ok (.irem, 1) := by decide +kernel
theorem dX11_site_69 : decode cX11_site 69 = .ok (.putfield 94, 3) := by decide +kernel
theorem dX11_site_72 : decode cX11_site 72 = .ok (.aload_n 0, 1) := by decide +kernel
theorem dX11_site_73 : decode cX11_site 73 = .ok (.getfield 43, 3) := by decide +kernel
theorem dX11_site_76 : decode cX11_site 76 = .ok (.iload_n 1, 1) := by decide +kernel
theorem dX11_site_77 : decode cX11_site 77 = .ok (.invokevirtual 180, 3) := by decide +kernel
theorem dX11_site_80 : decode cX11_site 80 = .ok (.aload_n 0, 1) := by decide +kernel
theorem dX11_site_81 : decode cX11_site 81 = .ok (.getfield 43, 3) := by decide +kernel
theorem dX11_site_84 : decode cX11_site 84 = .ok (.invokevirtual 120, 3) := by decide +kernel
theorem dX11_site_87 : decode cX11_site 87 = .ok (.invokestatic 207, 3) := by decide +kernel
theorem dX11_site_90 : decode cX11_site 90 = .ok (.istore 6, 2) := by decide +kernel
theorem dX11_site_92 : decode cX11_site 92 = .ok (.aload_n 0, 1) := by decide +kernel
theorem dX11_site_93 : decode cX11_site 93 = .ok (.getfield 43, 3) := by decide +kernel
theorem dX11_site_96 : decode cX11_site 96 = .ok (.invokevirtual 213, 3) := by decide +kernel
theorem dX11_site_99 : decode cX11_site 99 = .ok (.istore 7, 2) := by decide +kernel
theorem dX11_site_101 : decode cX11_site 101 = .ok (.iload 6, 2) := by decide +kernel
theorem dX11_site_103 : decode cX11_site 103 = .ok (.iload_n 3, 1) := by decide +kernel
theorem dX11_site_104 : decode cX11_site 104 = .ok (.if_icmp .lt 16, 3) := by decide +kernel
theorem dX11_site_107 : decode cX11_site 107 = .ok (.iload 6, 2) := by decide +kernel
theorem dX11_site_109 : decode cX11_site 109 = .ok (.iload_n 3, 1) := by decide +kernel
theorem dX11_site_110 : decode cX11_site 110 = .ok (.if_icmp .ne 20, 3) := by decide +kernel
theorem dX11_site_113 : decode cX11_site 113 = .ok (.iload 7, 2) := by decide +kernel
theorem dX11_site_115 : decode cX11_site 115 = .ok (.iload 4, 2) := by decide +kernel
theorem dX11_site_117 : decode cX11_site 117 = .ok (.if_icmp .ge 13, 3) := by decide +kernel
theorem dX11_site_120 : decode cX11_site 120 = .ok (.iload 6, 2) := by decide +kernel
theorem dX11_site_122 : decode cX11_site 122 = .ok (.istore_n 3, 1) := by decide +kernel
theorem dX11_site_123 : decode cX11_site 123 = .ok (.iload 7, 2) := by decide +kernel
theorem dX11_site_125 : decode cX11_site 125 = .ok (.istore 4, 2) := by decide +kernel
theorem dX11_site_127 : decode cX11_site 127 = .ok (.iload 5, 2) := by decide +kernel
theorem dX11_site_129 : decode cX11_site 129 = .ok (.istore_n 2, 1) := by decide +kernel
theorem dX11_site_130 : decode cX11_site 130 = .ok (.iinc 5 1, 3) := by decide +kernel
theorem dX11_site_133 : decode cX11_site 133 = .ok (.goto (-104), 3) := by decide +kernel
theorem dX11_site_136 : decode cX11_site 136 = .ok (.iload_n 2, 1) := by decide +kernel
theorem dX11_site_137 : decode cX11_site 137 = .ok (.ireturn, 1) := by decide +kernel
theorem dX11_nearest_0 : decode cX11_nearest 0 = .ok (.iload_n 1, 1) := by decide +kernel
theorem dX11_nearest_1 : decode cX11_nearest 1 = .ok (.iconst 0, 1) := by decide +kernel
theorem dX11_nearest_2 : decode cX11_nearest 2 = .ok (.bipush 100, 2) := by decide +kernel
theorem dX11_nearest_4 : decode cX11_nearest 4 = .ok (.invokestatic 77, 3) := by decide +kernel
theorem dX11_nearest_7 : decode cX11_nearest 7 = .ok (.ifCond .ne 10, 3) := by decide +kernel
theorem dX11_nearest_10 : decode cX11_nearest 10 = .ok (.aload_n 0, 1) := by decide +kernel
theorem dX11_nearest_11 : decode cX11_nearest 11 = .ok (.ldc 81, 2) := by decide +kernel
theorem dX11_nearest_13 : decode cX11_nearest 13 = .ok (.invokevirtual 82, 3) := by decide +kernel
theorem dX11_nearest_16 : decode cX11_nearest 16 = .ok (.ireturn, 1) := by decide +kernel
theorem dX11_nearest_17 : decode cX11_nearest 17 = .ok (.aload_n 0, 1) := by decide +kernel
theorem dX11_nearest_18 : decode cX11_nearest 18 = .ok (.getfield 36, 3) := by decide +kernel
theorem dX11_nearest_21 : decode cX11_nearest 21 = .ok (.getfield 138, 3) := by decide +kernel
theorem dX11_nearest_24 : decode cX11_nearest 24 = .ok (.ifCond .ne 10, 3) := by decide +kernel
theorem dX11_nearest_27 : decode cX11_nearest 27 = .ok (.aload_n 0, 1) := by decide +kernel
theorem dX11_nearest_28 : decode cX11_nearest 28 = .ok (.ldc 194, 2) := by decide +kernel
theorem dX11_nearest_30 : decode cX11_nearest 30 = .ok (.invokevirtual 82, 3) := by decide +kernel
theorem dX11_nearest_33 : decode cX11_nearest 33 = .ok (.ireturn, 1) := by decide +kernel
theorem dX11_nearest_34 : decode cX11_nearest 34 = .ok (.aload_n 0, 1) := by decide +kernel
theorem dX11_nearest_35 : decode cX11_nearest 35 = .ok (.getfield 43, 3) := by decide +kernel
theorem dX11_nearest_38 : decode cX11_nearest 38 = .ok (.aload_n 0, 1) := by decide +kernel
theorem dX11_nearest_39 : decode cX11_nearest 39 = .ok (.getfield 36, 3) := by decide +kernel
theorem dX11_nearest_42 : decode cX11_nearest 42 = .ok (.invokevirtual 187, 3) := by decide +kernel
theorem dX11_nearest_45 : decode cX11_nearest 45 = .ok (.aload_n 0, 1) := by decide +kernel
theorem dX11_nearest_46 : decode cX11_nearest 46 = .ok (.getfield 43, 3) := by decide +kernel
theorem dX11_nearest_49 : decode cX11_nearest 49 = .ok (.iload_n 1, 1) := by decide +kernel
theorem dX11_nearest_50 : decode cX11_nearest 50 = .ok (.invokevirtual 180, 3) := by decide +kernel
theorem dX11_nearest_53 : decode cX11_nearest 53 = .ok (.aload_n 0, 1) := by decide +kernel
theorem dX11_nearest_54 : decode cX11_nearest 54 = .ok (.getfield 43, 3) := by decide +kernel
theorem dX11_nearest_57 : decode cX11_nearest 57 = .ok (.invokevirtual 216, 3) := by decide +kernel
theorem dX11_nearest_60 : decode cX11_nearest 60 = .ok (.ireturn, 1) := by decide +kernel
theorem dX11_feed_0 : decode cX11_feed 0 = .ok (.iload_n 2, 1) := by decide +kernel
theorem dX11_feed_1 : decode cX11_feed 1 = .ok (.iconst 1, 1) := by decide +kernel
theorem dX11_feed_2 : decode cX11_feed 2 = .ok (.iconst 4, 1) := by decide +kernel
theorem dX11_feed_3 : decode cX11_feed 3 = .ok (.invokestatic 77, 3) := by decide +kernel
theorem dX11_feed_6 : decode cX11_feed 6 = .ok (.ifCond .ne 10, 3) := by decide +kernel
theorem dX11_feed_9 : decode cX11_feed 9 = .ok (.aload_n 0, 1) := by decide +kernel
theorem dX11_feed_10 : decode cX11_feed 10 = .ok (.ldc 81, 2) := by decide +kernel
theorem dX11_feed_12 : decode cX11_feed 12 = .ok (.invokevirtual 82, 3) := by decide +kernel
theorem dX11_feed_15 : decode cX11_feed 15 = .ok (.ireturn, 1) := by decide +kernel
theorem dX11_feed_16 : decode cX11_feed 16 = .ok (.aload_n 0, 1) := by decide +kernel
theorem dX11_feed_17 : decode cX11_feed 17 = .ok (.getfield 53, 3) := by decide +kernel
theorem dX11_feed_20 : decode cX11_feed 20 = .ok (.getfield 219, 3) := by decide +kernel
theorem dX11_feed_23 : decode cX11_feed 23 = .ok (.iload_n 2, 1) := by decide +kernel
theorem dX11_feed_24 : decode cX11_feed 24 = .ok (.iadd, 1) := by decide +kernel
theorem dX11_feed_25 : decode cX11_feed 25 = .ok (.bipush 120, 2) := by decide +kernel
theorem dX11_feed_27 : decode cX11_feed 27 = .ok (.if_icmp .le 10, 3) := by decide +kernel
theorem dX11_feed_30 : decode cX11_feed 30 = .ok (.aload_n 0, 1) := by decide +kernel
theorem dX11_feed_31 : decode cX11_feed 31 = .ok (.ldc 133, 2) := by decide +kernel
theorem dX11_feed_33 : decode cX11_feed 33 = .ok (.invokevirtual 82, 3) := by decide +kernel
theorem dX11_feed_36 : decode cX11_feed 36 = .ok (.ireturn, 1) := by decide +kernel
theorem dX11_feed_37 : decode cX11_feed 37 = .ok (.iload_n 2, 1) := by decide +kernel
theorem dX11_feed_38 : decode cX11_feed 38 = .ok (.iconst 1, 1) := by decide +kernel
theorem dX11_feed_39 : decode cX11_feed 39 = .ok (.isub, 1) := by decide +kernel
theorem dX11_feed_40 : decode cX11_feed 40 = .ok (.istore_n 3, 1) := by decide +kernel
theorem dX11_feed_41 : decode cX11_feed 41 = .ok (.iload_n 3, 1) := by decide +kernel
theorem dX11_feed_42 : decode cX11_feed 42 = .ok (.ifCond .lt 23, 3) := by decide +kernel
theorem dX11_feed_45 : decode cX11_feed 45 = .ok (.aload_n 0, 1) := by decide +kernel
theorem dX11_feed_46 : decode cX11_feed 46 = .ok (.getfield 53, 3) := by decide +kernel
theorem dX11_feed_49 : decode cX11_feed 49 = .ok (.iload_n 1, 1) := by decide +kernel
theorem dX11_feed_50 : decode cX11_feed 50 = .ok (.bipush 8, 2) := by decide +kernel
theorem dX11_feed_52 : decode cX11_feed 52 = .ok (.iload_n 3, 1) := by decide +kernel
theorem dX11_feed_53 : decode cX11_feed 53 = .ok (.imul, 1) := by decide +kernel
theorem dX11_feed_54 : decode cX11_feed 54 = .ok (.iushr, 1) := by decide +kernel
theorem dX11_feed_55 : decode cX11_feed 55 = .ok (.i2b, 1) := by decide +kernel
theorem dX11_feed_56 : decode cX11_feed 56 = .ok (.invokevirtual 222, 3) := by decide +kernel
theorem dX11_feed_59 : decode cX11_feed 59 = .ok (.iinc 3 (-1), 3) := by decide +kernel
theorem dX11_feed_62 : decode cX11_feed 62 = .ok (.goto (-21), 3) := by decide +kernel
theorem dX11_feed_65 : decode cX11_feed 65 = .ok (.aload_n 0, 1) := by decide +kernel
theorem dX11_feed_66 : decode cX11_feed 66 = .ok (.getfield 53, 3) := by decide +kernel
theorem dX11_feed_69 : decode cX11_feed 69 = .ok (.getfield 219, 3) := by decide +kernel
theorem dX11_feed_72 : decode cX11_feed 72 = .ok (.ireturn, 1) := by decide +kernel
theorem dX11_wipe_0 : decode cX11_wipe 0 = .ok (.aload_n 0, 1) := by decide +kernel
theorem dX11_wipe_1 : decode cX11_wipe 1 = .ok (.getfield 53, 3) := by decide +kernel
theorem dX11_wipe_4 : decode cX11_wipe 4 = .ok (.invokevirtual 226, 3) := by decide +kernel
theorem dX11_wipe_7 : decode cX11_wipe 7 = .ok (.ireturn, 1) := by decide +kernel
theorem dX11_sea_0 : decode cX11_sea 0 = .ok (.aload_n 0, 1) := by decide +kernel
theorem dX11_sea_1 : decode cX11_sea 1 = .ok (.getfield 43, 3) := by decide +kernel
theorem dX11_sea_4 : decode cX11_sea 4 = .ok (.aload_n 0, 1) := by decide +kernel
theorem dX11_sea_5 : decode cX11_sea 5 = .ok (.getfield 36, 3) := by decide +kernel
theorem dX11_sea_8 : decode cX11_sea 8 = .ok (.invokevirtual 187, 3) := by decide +kernel
theorem dX11_sea_11 : decode cX11_sea 11 = .ok (.aload_n 0, 1) := by decide +kernel
theorem dX11_sea_12 : decode cX11_sea 12 = .ok (.getfield 62, 3) := by decide +kernel
theorem dX11_sea_15 : decode cX11_sea 15 = .ok (.aload_n 0, 1) := by decide +kernel
theorem dX11_sea_16 : decode cX11_sea 16 = .ok (.getfield 43, 3) := by decide +kernel
theorem dX11_sea_19 : decode cX11_sea 19 = .ok (.invokevirtual 229, 3) := by decide +kernel
theorem dX11_sea_22 : decode cX11_sea 22 = .ok (.istore_n 1, 1) := by decide +kernel
theorem dX11_sea_23 : decode cX11_sea 23 = .ok (.iload_n 1, 1) := by decide +kernel
theorem dX11_sea_24 : decode cX11_sea 24 = .ok (.ifCond .lt 14, 3) := by decide +kernel
theorem dX11_sea_27 : decode cX11_sea 27 = .ok (.aload_n 0, 1) := by decide +kernel
theorem dX11_sea_28 : decode cX11_sea 28 = .ok (.getfield 36, 3) := by decide +kernel
theorem dX11_sea_31 : decode cX11_sea 31 = .ok (.aload_n 0, 1) := by decide +kernel
theorem dX11_sea_32 : decode cX11_sea 32 = .ok (.getfield 43, 3) := by decide +kernel
theorem dX11_sea_35 : decode cX11_sea 35 = .ok (.invokevirtual 187, 3) := by decide +kernel
theorem dX11_sea_38 : decode cX11_sea 38 = .ok (.aload_n 0, 1) := by decide +kernel
theorem dX11_sea_39 : decode cX11_sea 39 = .ok (.getfield 53, 3) := by decide +kernel
theorem dX11_sea_42 : decode cX11_sea 42 = .ok (.invokevirtual 226, 3) := by decide +kernel
theorem dX11_sea_45 : decode cX11_sea 45 = .ok (.pop, 1) := by decide +kernel
theorem dX11_sea_46 : decode cX11_sea 46 = .ok (.iload_n 1, 1) := by decide +kernel
theorem dX11_sea_47 : decode cX11_sea 47 = .ok (.ireturn, 1) := by decide +kernel
theorem dX11_sheet_0 : decode cX11_sheet 0 = .ok (.iload_n 1, 1) := by decide +kernel
theorem dX11_sheet_1 : decode cX11_sheet 1 = .ok (.invokestatic 233, 3) := by decide +kernel
theorem dX11_sheet_4 : decode cX11_sheet 4 = .ok (.ifCond .eq 25, 3) := by decide +kernel
theorem dX11_sheet_7 : decode cX11_sheet 7 = .ok (.iload_n 2, 1) := by decide +kernel
theorem dX11_sheet_8 : decode cX11_sheet 8 = .ok (.ifCond .eq 28, 3) := by decide +kernel
theorem dX11_sheet_11 : decode cX11_sheet 11 = .ok (.iload_n 2, 1) := by decide +kernel
theorem dX11_sheet_12 : decode cX11_sheet 12 = .ok (.bipush 8, 2) := by decide +kernel
theorem dX11_sheet_14 : decode cX11_sheet 14 = .ok (.if_icmp .eq 22, 3) := by decide +kernel
theorem dX11_sheet_17 : decode cX11_sheet 17 = .ok (.iload_n 2, 1) := by decide +kernel
theorem dX11_sheet_18 : decode cX11_sheet 18 = .ok (.bipush 16, 2) := by decide +kernel
theorem dX11_sheet_20 : decode cX11_sheet 20 = .ok (.if_icmp .eq 16, 3) := by decide +kernel
theorem dX11_sheet_23 : decode cX11_sheet 23 = .ok (.iload_n 2, 1) := by decide +kernel
theorem dX11_sheet_24 : decode cX11_sheet 24 = .ok (.bipush 64, 2) := by decide +kernel
theorem dX11_sheet_26 : decode cX11_sheet 26 = .ok (.if_icmp .eq 10, 3) := by decide +kernel
theorem dX11_sheet_29 : decode cX11_sheet 29 = .ok (.aload_n 0, 1) := by decide +kernel
theorem dX11_sheet_30 : decode cX11_sheet 30 = .ok (.ldc 81, 2) := by decide +kernel
theorem dX11_sheet_32 : decode cX11_sheet 32 = .ok (.invokevirtual 82, 3) := by decide +kernel
theorem dX11_sheet_35 : decode cX11_sheet 35 = .ok (.ireturn, 1) := by decide +kernel
theorem dX11_sheet_36 : decode cX11_sheet 36 = .ok (.iload_n 3, 1) := by decide +kernel
theorem dX11_sheet_37 : decode cX11_sheet 37 = .ok (.ifCond .ge 10, 3) := by decide +kernel
theorem dX11_sheet_40 : decode cX11_sheet 40 = .ok (.aload_n 0, 1) := by decide +kernel
theorem dX11_sheet_41 : decode cX11_sheet 41 = .ok (.ldc 236, 2) := by decide +kernel
theorem dX11_sheet_43 : decode cX11_sheet 43 = .ok (.invokevirtual 82, 3) := by decide +kernel
theorem dX11_sheet_46 : decode cX11_sheet 46 = .ok (.ireturn, 1) := by decide +kernel
theorem dX11_sheet_47 : decode cX11_sheet 47 = .ok (.iload_n 3, 1) := by decide +kernel
theorem dX11_sheet_48 : decode cX11_sheet 48 = .ok (.bipush 40, 2) := by decide +kernel
theorem dX11_sheet_50 : decode cX11_sheet 50 = .ok (.if_icmp .le 10, 3) := by decide +kernel
theorem dX11_sheet_53 : decode cX11_sheet 53 = .ok (.aload_n 0, 1) := by decide +kernel
theorem dX11_sheet_54 : decode cX11_sheet 54 = .ok (.ldc 81, 2) := by decide +kernel
theorem dX11_sheet_56 : decode cX11_sheet 56 = .ok (.invokevirtual 82, 3) := by decide +kernel
theorem dX11_sheet_59 : decode cX11_sheet 59 = .ok (.ireturn, 1) := by decide +kernel
theorem dX11_sheet_60 : decode cX11_sheet 60 = .ok (.aload_n 0, 1) := by decide +kernel
theorem dX11_sheet_61 : decode cX11_sheet 61 = .ok (.getfield 69, 3) := by decide +kernel
theorem dX11_sheet_64 : decode cX11_sheet 64 = .ok (.iload_n 1, 1) := by decide +kernel
theorem dX11_sheet_65 : decode cX11_sheet 65 = .ok (.aaload, 1) := by decide +kernel
theorem dX11_sheet_66 : decode cX11_sheet 66 = .ok (.iload_n 2, 1) := by decide +kernel
theorem dX11_sheet_67 : decode cX11_sheet 67 = .ok (.iload_n 2, 1) := by decide +kernel
theorem dX11_sheet_68 : decode cX11_sheet 68 = .ok (.ifCond .ne 7, 3) := by decide +kernel
theorem dX11_sheet_71 : decode cX11_sheet 71 = .ok (.iconst 0, 1) := by decide +kernel
theorem dX11_sheet_72 : decode cX11_sheet 72 = .ok (.goto 4, 3) := by decide +kernel
theorem dX11_sheet_75 : decode cX11_sheet 75 = .ok (.iload_n 3, 1) := by decide +kernel
theorem dX11_sheet_76 : decode cX11_sheet 76 = .ok (.invokevirtual 237, 3) := by decide +kernel
theorem dX11_sheet_79 : decode cX11_sheet 79 = .ok (.aload_n 0, 1) := by decide +kernel
theorem dX11_sheet_80 : decode cX11_sheet 80 = .ok (.getfield 69, 3) := by decide +kernel
theorem dX11_sheet_83 : decode cX11_sheet 83 = .ok (.iload_n 1, 1) := by decide +kernel
theorem dX11_sheet_84 : decode cX11_sheet 84 = .ok (.aaload, 1) := by decide +kernel
theorem dX11_sheet_85 : decode cX11_sheet 85 = .ok (.getfield 240, 3) := by decide +kernel
theorem dX11_sheet_88 : decode cX11_sheet 88 = .ok (.ireturn, 1) := by decide +kernel
theorem dX11_write_0 : decode cX11_write 0 = .ok (.aload_n 0, 1) := by decide +kernel
theorem dX11_write_1 : decode cX11_write 1 = .ok (.iload_n 1, 1) := by decide +kernel
theorem dX11_write_2 : decode cX11_write 2 = .ok (.invokevirtual 241, 3) := by decide +kernel
theorem dX11_write_5 : decode cX11_write 5 = .ok (.istore 5, 2) := by decide +kernel
theorem dX11_write_7 : decode cX11_write 7 = .ok (.iload 5, 2) := by decide +kernel
theorem dX11_write_9 : decode cX11_write 9 = .ok (.ifCond .eq 11, 3) := by decide +kernel
theorem dX11_write_12 : decode cX11_write 12 = .ok (.aload_n 0, 1) := by decide +kernel
theorem dX11_write_13 : decode cX11_write 13 = .ok (.iload 5, 2) := by decide +kernel
theorem dX11_write_15 : decode cX11_write 15 = .ok (.invokevirtual 82, 3) := by decide +kernel
theorem dX11_write_18 : decode cX11_write 18 = .ok (.i2l, 1) := by decide +kernel
theorem dX11_write_19 : decode cX11_write 19 = .ok (.lreturn, 1) := by decide +kernel
theorem dX11_write_20 : decode cX11_write 20 = .ok (.aload_n 0, 1) := by decide +kernel
theorem dX11_write_21 : decode cX11_write 21 = .ok (.getfield 69, 3) := by decide +kernel
theorem dX11_write_24 : decode cX11_write 24 = .ok (.iload_n 1, 1) := by decide +kernel
theorem dX11_write_25 : decode cX11_write 25 = .ok (.aaload, 1) := by decide +kernel
theorem dX11_write_26 : decode cX11_write 26 = .ok (.astore 6, 2) := by decide +kernel
theorem dX11_write_28 : decode cX11_write 28 = .ok (.iload_n 2, 1) := by decide +kernel
theorem dX11_write_29 : decode cX11_write 29 = .ok (.iconst 0, 1) := by decide +kernel
theorem dX11_write_30 : decode cX11_write 30 = .ok (.aload 6, 2) := by decide +kernel
theorem dX11_write_32 : decode cX11_write 32 = .ok (.getfield 240, 3) := by decide +kernel
theorem dX11_write_35 : decode cX11_write 35 = .ok (.iconst 1, 1) := by decide +kernel
theorem dX11_write_36 : decode cX11_write 36 = .ok (.isub, 1) := by decide +kernel
theorem dX11_write_37 : decode cX11_write 37 = .ok (.invokestatic 77, 3) := by decide +kernel
theorem dX11_write_40 : decode cX11_write 40 = .ok (.ifCond .ne 11, 3) := by decide +kernel
theorem dX11_write_43 : decode cX11_write 43 = .ok (.aload_n 0, 1) := by decide +kernel
theorem dX11_write_44 : decode cX11_write 44 = .ok (.ldc 81, 2) := by decide +kernel
theorem dX11_write_46 : decode cX11_write 46 = .ok (.invokevirtual 82, 3) := by decide +kernel
theorem dX11_write_49 : decode cX11_write 49 = .ok (.i2l, 1) := by decide +kernel
theorem dX11_write_50 : decode cX11_write 50 = .ok (.lreturn, 1) := by decide +kernel
theorem dX11_write_51 : decode cX11_write 51 = .ok (.aload 6, 2) := by decide +kernel
theorem dX11_write_53 : decode cX11_write 53 = .ok (.iload_n 2, 1) := by decide +kernel
theorem dX11_write_54 : decode cX11_write 54 = .ok (.invokevirtual 244, 3) := by decide +kernel
theorem dX11_write_57 : decode cX11_write 57 = .ok (.lstore 7, 2) := by decide +kernel
theorem dX11_write_59 : decode cX11_write 59 = .ok (.aload 6, 2) := by decide +kernel
theorem dX11_write_61 : decode cX11_write 61 = .ok (.iload_n 2, 1) := by decide +kernel
theorem dX11_write_62 : decode cX11_write 62 = .ok (.lload_n 3, 1) := by decide +kernel
theorem dX11_write_63 : decode cX11_write 63 = .ok (.invokevirtual 248, 3) := by decide +kernel
theorem dX11_write_66 : decode cX11_write 66 = .ok (.lload 7, 2) := by decide +kernel
theorem dX11_write_68 : decode cX11_write 68 = .ok (.lreturn, 1) := by decide +kernel
theorem dX11_copy_0 : decode cX11_copy 0 = .ok (.iload_n 1, 1) := by decide +kernel
theorem dX11_copy_1 : decode cX11_copy 1 = .ok (.invokestatic 233, 3) := by decide +kernel
theorem dX11_copy_4 : decode cX11_copy 4 = .ok (.ifCond .eq 10, 3) := by decide +kernel
theorem dX11_copy_7 : decode cX11_copy 7 = .ok (.iload_n 3, 1) := by decide +kernel
theorem dX11_copy_8 : decode cX11_copy 8 = .ok (.invokestatic 233, 3) := by decide +kernel
theorem dX11_copy_11 : decode cX11_copy 11 = .ok (.ifCond .ne 10, 3) := by decide +kernel
theorem dX11_copy_14 : decode cX11_copy 14 = .ok (.aload_n 0, 1) := by decide +kernel
theorem dX11_copy_15 : decode cX11_copy 15 = .ok (.ldc 81, 2) := by decide +kernel
theorem dX11_copy_17 : decode cX11_copy 17 = .ok (.invokevirtual 82, 3) := by decide +kernel
theorem dX11_copy_20 : decode cX11_copy 20 = .ok (.ireturn, 1) := by decide +kernel
theorem dX11_copy_21 : decode cX11_copy 21 = .ok (.aload_n 0, 1) := by decide +kernel
theorem dX11_copy_22 : decode cX11_copy 22 = .ok (.getfield 69, 3) := by decide +kernel
theorem dX11_copy_25 : decode cX11_copy 25 = .ok (.iload_n 1, 1) := by decide +kernel
theorem dX11_copy_26 : decode cX11_copy 26 = .ok (.aaload, 1) := by decide +kernel
theorem dX11_copy_27 : decode cX11_copy 27 = .ok (.astore 6, 2) := by decide +kernel
theorem dX11_copy_29 : decode cX11_copy 29 = .ok (.aload_n 0, 1) := by decide +kernel
theorem dX11_copy_30 : decode cX11_copy 30 = .ok (.getfield 69, 3) := by decide +kernel
theorem dX11_copy_33 : decode cX11_copy 33 = .ok (.iload_n 3, 1) := by decide +kernel
theorem dX11_copy_34 : decode cX11_copy 34 = .ok (.aaload, 1) := by decide +kernel
theorem dX11_copy_35 : decode cX11_copy 35 = .ok (.astore 7, 2) := by decide +kernel
theorem dX11_copy_37 : decode cX11_copy 37 = .ok (.aload 6, 2) := by decide +kernel
theorem dX11_copy_39 : decode cX11_copy 39 = .ok (.invokevirtual 251, 3) := by decide +kernel
theorem dX11_copy_42 : decode cX11_copy 42 = .ok (.ifCond .ne 11, 3) := by decide +kernel
theorem dX11_copy_45 : decode cX11_copy 45 = .ok (.aload 7, 2) := by decide +kernel
theorem dX11_copy_47 : decode cX11_copy 47 = .ok (.invokevirtual 251, 3) := by decide +kernel
theorem dX11_copy_50 : decode cX11_copy 50 = .ok (.ifCond .eq 10, 3) := by decide +kernel
theorem dX11_copy_53 : decode cX11_copy 53 = .ok (.aload_n 0, 1) := by decide +kernel
theorem dX11_copy_54 : decode cX11_copy 54 = .ok (.ldc 254, 2) := by decide +kernel
theorem dX11_copy_56 : decode cX11_copy 56 = .ok (.invokevirtual 82, 3) := by decide +kernel
theorem dX11_copy_59 : decode cX11_copy 59 = .ok (.ireturn, 1) := by decide +kernel
theorem dX11_copy_60 : decode cX11_copy 60 = .ok (.aload 6, 2) := by decide +kernel
theorem dX11_copy_62 : decode cX11_copy 62 = .ok (.getfield 255, 3) := by decide +kernel
theorem dX11_copy_65 : decode cX11_copy 65 = .ok (.aload 7, 2) := by decide +kernel
theorem dX11_copy_67 : decode cX11_copy 67 = .ok (.getfield 255, 3) := by decide +kernel
theorem dX11_copy_70 : decode cX11_copy 70 = .ok (.if_icmp .eq 10, 3) := by decide +kernel
theorem dX11_copy_73 : decode cX11_copy 73 = .ok (.aload_n 0, 1) := by decide +kernel
theorem dX11_copy_74 : decode cX11_copy 74 = .ok (.ldc 177, 2) := by decide +kernel
theorem dX11_copy_76 : decode cX11_copy 76 = .ok (.invokevirtual 82, 3) := by decide +kernel
theorem dX11_copy_79 : decode cX11_copy 79 = .ok (.ireturn, 1) := by decide +kernel
theorem dX11_copy_80 : decode cX11_copy 80 = .ok (.aload 6, 2) := by decide +kernel
theorem dX11_copy_82 : decode cX11_copy 82 = .ok (.iload_n 2, 1) := by decide +kernel
theorem dX11_copy_83 : decode cX11_copy 83 = .ok (.iload 5, 2) := by decide +kernel
theorem dX11_copy_85 : decode cX11_copy 85 = .ok (.invokevirtual 258, 3) := by decide +kernel
theorem dX11_copy_88 : decode cX11_copy 88 = .ok (.ifCond .eq 15, 3) := by decide +kernel
theorem dX11_copy_91 : decode cX11_copy 91 = .ok (.aload 7, 2) := by decide +kernel
theorem dX11_copy_93 : decode cX11_copy 93 = .ok (.iload 4, 2) := by decide +kernel
theorem dX11_copy_95 : decode cX11_copy 95 = .ok (.iload 5, 2) := by decide +kernel
theorem dX11_copy_97 : decode cX11_copy 97 = .ok (.invokevirtual 258, 3) := by decide +kernel
theorem dX11_copy_100 : decode cX11_copy 100 = .ok (.ifCond .ne 10, 3) := by decide +kernel
theorem dX11_copy_103 : decode cX11_copy 103 = .ok (.aload_n 0, 1) := by decide +kernel
theorem dX11_copy_104 : decode cX11_copy 104 = .ok (.ldc 81, 2) := by decide +kernel
theorem dX11_copy_106 : decode cX11_copy 106 = .ok (.invokevirtual 82, 3) := by decide +kernel
theorem dX11_copy_109 : decode cX11_copy 109 = .ok (.ireturn, 1) := by decide +kernel
theorem dX11_copy_110 : decode cX11_copy 110 = .ok (.aload 6, 2) := by decide +kernel
theorem dX11_copy_112 : decode cX11_copy 112 = .ok (.getfield 262, 3) := by decide +kernel
theorem dX11_copy_115 : decode cX11_copy 115 = .ok (.iload_n 2, 1) := by decide +kernel
theorem dX11_copy_116 : decode cX11_copy 116 = .ok (.aload 7, 2) := by decide +kernel
theorem dX11_copy_118 : decode cX11_copy 118 = .ok (.getfield 262, 3) := by decide +kernel
theorem dX11_copy_121 : decode cX11_copy 121 = .ok (.iload 4, 2) := by decide +kernel
theorem dX11_copy_123 : decode cX11_copy 123 = .ok (.iload 5, 2) := by decide +kernel
theorem dX11_copy_125 : decode cX11_copy 125 = .ok (.invokestatic 266, 3) := by decide +kernel
theorem dX11_copy_128 : decode cX11_copy 128 = .ok (.iload 5, 2) := by decide +kernel
theorem dX11_copy_130 : decode cX11_copy 130 = .ok (.ireturn, 1) := by decide +kernel
theorem dX11_lays_0 : decode cX11_lays 0 = .ok (.aload_n 0, 1) := by decide +kernel
theorem dX11_lays_1 : decode cX11_lays 1 = .ok (.iload_n 1, 1) := by decide +kernel
theorem dX11_lays_2 : decode cX11_lays 2 = .ok (.invokevirtual 241, 3) := by decide +kernel
theorem dX11_lays_5 : decode cX11_lays 5 = .ok (.istore_n 2, 1) := by decide +kernel
theorem dX11_lays_6 : decode cX11_lays 6 = .ok (.iload_n 2, 1) := by decide +kernel
theorem dX11_lays_7 : decode cX11_lays 7 = .ok (.ifCond .eq 9, 3) := by decide +kernel
theorem dX11_lays_10 : decode cX11_lays 10 = .ok (.aload_n 0, 1) := by decide +kernel
theorem dX11_lays_11 : decode cX11_lays 11 = .ok (.iload_n 2, 1) := by decide +kernel
theorem dX11_lays_12 : decode cX11_lays 12 = .ok (.invokevirtual 82, 3) := by decide +kernel
theorem dX11_lays_15 : decode cX11_lays 15 = .ok (.ireturn, 1) := by decide +kernel
theorem dX11_lays_16 : decode cX11_lays 16 = .ok (.aload_n 0, 1) := by decide +kernel
theorem dX11_lays_17 : decode cX11_lays 17 = .ok (.getfield 69, 3) := by decide +kernel
theorem dX11_lays_20 : decode cX11_lays 20 = .ok (.iload_n 1, 1) := by decide +kernel
theorem dX11_lays_21 : decode cX11_lays 21 = .ok (.aaload, 1) := by decide +kernel
theorem dX11_lays_22 : decode cX11_lays 22 = .ok (.astore_n 3, 1) := by decide +kernel
theorem dX11_lays_23 : decode cX11_lays 23 = .ok (.iconst 0, 1) := by decide +kernel
theorem dX11_lays_24 : decode cX11_lays 24 = .ok (.istore 4, 2) := by decide +kernel
theorem dX11_lays_26 : decode cX11_lays 26 = .ok (.iconst 0, 1) := by decide +kernel
theorem dX11_lays_27 : decode cX11_lays 27 = .ok (.istore 5, 2) := by decide +kernel
theorem dX11_lays_29 : decode cX11_lays 29 = .ok (.iload 5, 2) := by decide +kernel
theorem dX11_lays_31 : decode cX11_lays 31 = .ok (.aload_n 3, 1) := by decide +kernel
theorem dX11_lays_32 : decode cX11_lays 32 = .ok (.getfield 240, 3) := by decide +kernel
theorem dX11_lays_35 : decode cX11_lays 35 = .ok (.if_icmp .ge 61, 3) := by decide +kernel
theorem dX11_lays_38 : decode cX11_lays 38 = .ok (.aload_n 0, 1) := by decide +kernel
theorem dX11_lays_39 : decode cX11_lays 39 = .ok (.iload 5, 2) := by decide +kernel
theorem dX11_lays_41 : decode cX11_lays 41 = .ok (.invokevirtual 141, 3) := by decide +kernel
theorem dX11_lays_44 : decode cX11_lays 44 = .ok (.ifCond .eq 52, 3) := by decide +kernel
theorem dX11_lays_47 : decode cX11_lays 47 = .ok (.aload_n 3, 1) := by decide +kernel
theorem dX11_lays_48 : decode cX11_lays 48 = .ok (.iload 5, 2) := by decide +kernel
theorem dX11_lays_50 : decode cX11_lays 50 = .ok (.invokevirtual 244, 3) := by decide +kernel
theorem dX11_lays_53 : decode cX11_lays 53 = .ok (.lstore 6, 2) := by decide +kernel
theorem dX11_lays_55 : decode cX11_lays 55 = .ok (.lload 6, 2) := by decide +kernel
theorem dX11_lays_57 : decode cX11_lays 57 = .ok (.lconst 0, 1) := by decide +kernel
theorem dX11_lays_58 : decode cX11_lays 58 = .ok (.lcmp, 1) := by decide +kernel
theorem dX11_lays_59 : decode cX11_lays 59 = .ok (.ifCond .lt 31, 3) := by decide +kernel
theorem dX11_lays_62 : decode cX11_lays 62 = .ok (.lload 6, 2) := by decide +kernel
theorem dX11_lays_64 : decode cX11_lays 64 = .ok (.ldc2_w 272, 3) := by decide +kernel
theorem dX11_lays_67 : decode cX11_lays 67 = .ok (.lcmp, 1) := by decide +kernel
theorem dX11_lays_68 : decode cX11_lays 68 = .ok (.ifCond .gt 22, 3) := by decide +kernel
theorem dX11_lays_71 : decode cX11_lays 71 = .ok (.aload_n 0, 1) := by decide +kernel
theorem dX11_lays_72 : decode cX11_lays 72 = .ok (.getfield 36, 3) := by decide +kernel
theorem dX11_lays_75 : decode cX11_lays 75 = .ok (.getfield 144, 3) := by decide +kernel
theorem dX11_lays_78 : decode cX11_lays 78 = .ok (.iload 5, 2) := by decide +kernel
theorem dX11_lays_80 : decode cX11_lays 80 = .ok (.aaload, 1) := by decide +kernel
theorem dX11_lays_81 : decode cX11_lays 81 = .ok (.lload 6, 2) := by decide +kernel
theorem dX11_lays_83 : decode cX11_lays 83 = .ok (.l2i, 1) := by decide +kernel
theorem dX11_lays_84 : decode cX11_lays 84 = .ok (.putfield 204, 3) := by decide +kernel
theorem dX11_lays_87 : decode cX11_lays 87 = .ok (.iinc 4 1, 3) := by decide +kernel
theorem dX11_lays_90 : decode cX11_lays 90 = .ok (.iinc 5 1, 3) := by decide +kernel
theorem dX11_lays_93 : decode cX11_lays 93 = .ok (.goto (-64), 3) := by decide +kernel
theorem dX11_lays_96 : decode cX11_lays 96 = .ok (.iload 4, 2) := by decide +kernel
theorem dX11_lays_98 : decode cX11_lays 98 = .ok (.ireturn, 1) := by decide +kernel
theorem dX11_book_0 : decode cX11_book 0 = .ok (.aload_n 0, 1) := by decide +kernel
theorem dX11_book_1 : decode cX11_book 1 = .ok (.iload_n 1, 1) := by decide +kernel
theorem dX11_book_2 : decode cX11_book 2 = .ok (.invokevirtual 241, 3) := by decide +kernel
theorem dX11_book_5 : decode cX11_book 5 = .ok (.istore_n 3, 1) := by decide +kernel
theorem dX11_book_6 : decode cX11_book 6 = .ok (.iload_n 3, 1) := by decide +kernel
theorem dX11_book_7 : decode cX11_book 7 = .ok (.ifCond .eq 9, 3) := by decide +kernel
theorem dX11_book_10 : decode cX11_book 10 = .ok (.aload_n 0, 1) := by decide +kernel
theorem dX11_book_11 : decode cX11_book 11 = .ok (.iload_n 3, 1) := by decide +kernel
theorem dX11_book_12 : decode cX11_book 12 = .ok (.invokevirtual 82, 3) := by decide +kernel
theorem dX11_book_15 : decode cX11_book 15 = .ok (.ireturn, 1) := by decide +kernel
theorem dX11_book_16 : decode cX11_book 16 = .ok (.aload_n 0, 1) := by decide +kernel
theorem dX11_book_17 : decode cX11_book 17 = .ok (.getfield 69, 3) := by decide +kernel
theorem dX11_book_20 : decode cX11_book 20 = .ok (.iload_n 1, 1) := by decide +kernel
theorem dX11_book_21 : decode cX11_book 21 = .ok (.aaload, 1) := by decide +kernel
theorem dX11_book_22 : decode cX11_book 22 = .ok (.astore 4, 2) := by decide +kernel
theorem dX11_book_24 : decode cX11_book 24 = .ok (.aload_n 0, 1) := by decide +kernel
theorem dX11_book_25 : decode cX11_book 25 = .ok (.iload_n 2, 1) := by decide +kernel
theorem dX11_book_26 : decode cX11_book 26 = .ok (.invokevirtual 141, 3) := by decide +kernel
theorem dX11_book_29 : decode cX11_book 29 = .ok (.ifCond .ne 10, 3) := by decide +kernel
theorem dX11_book_32 : decode cX11_book 32 = .ok (.aload_n 0, 1) := by decide +kernel
theorem dX11_book_33 : decode cX11_book 33 = .ok (.ldc 81, 2) := by decide +kernel
theorem dX11_book_35 : decode cX11_book 35 = .ok (.invokevirtual 82, 3) := by decide +kernel
theorem dX11_book_38 : decode cX11_book 38 = .ok (.ireturn, 1) := by decide +kernel
theorem dX11_book_39 : decode cX11_book 39 = .ok (.aload_n 0, 1) := by decide +kernel
theorem dX11_book_40 : decode cX11_book 40 = .ok (.iload_n 2, 1) := by decide +kernel
theorem dX11_book_41 : decode cX11_book 41 = .ok (.invokevirtual 184, 3) := by decide +kernel
theorem dX11_book_44 : decode cX11_book 44 = .ok (.iconst 0, 1) := by decide +kernel
theorem dX11_book_45 : decode cX11_book 45 = .ok (.istore 5, 2) := by decide +kernel
theorem dX11_book_47 : decode cX11_book 47 = .ok (.iload 5, 2) := by decide +kernel
theorem dX11_book_49 : decode cX11_book 49 = .ok (.aload 4, 2) := by decide +kernel
theorem dX11_book_51 : decode cX11_book 51 = .ok (.getfield 240, 3) := by decide +kernel
theorem dX11_book_54 : decode cX11_book 54 = .ok (.if_icmp .ge 37, 3) := by decide +kernel
theorem dX11_book_57 : decode cX11_book 57 = .ok (.aload 4, 2) := by decide +kernel
theorem dX11_book_59 : decode cX11_book 59 = .ok (.iload 5, 2) := by decide +kernel
theorem dX11_book_61 : decode cX11_book 61 = .ok (.aload_n 0, 1) := by decide +kernel
theorem dX11_book_62 : decode cX11_book 62 = .ok (.getfield 43, 3) := by decide +kernel
theorem dX11_book_65 : decode cX11_book 65 = .ok (.getfield 144, 3) := by decide +kernel
theorem dX11_book_68 : decode cX11_book 68 = .ok (.iconst 0, 1) := by decide +kernel
theorem dX11_book_69 : decode cX11_book 69 = .ok (.aaload, 1) := by decide +kernel
theorem dX11_book_70 : decode cX11_book 70 = .ok (.getfield 204, 3) := by decide +kernel
theorem dX11_book_73 : decode cX11_book 73 = .ok (.i2l, 1) := by decide +kernel
theorem dX11_book_74 : decode cX11_book 74 = .ok (.invokevirtual 248, 3) := by decide +kernel
theorem dX11_book_77 : decode cX11_book 77 = .ok (.aload_n 0, 1) := by decide +kernel
theorem dX11_book_78 : decode cX11_book 78 = .ok (.getfield 43, 3) := by decide +kernel
theorem dX11_book_81 : decode cX11_book 81 = .ok (.iconst 1, 1) := by decide +kernel
theorem dX11_book_82 : decode cX11_book 82 = .ok (.invokevirtual 180, 3) := by decide +kernel
theorem dX11_book_85 : decode cX11_book 85 = .ok (.iinc 5 1, 3) := by decide +kernel
theorem dX11_book_88 : decode cX11_book 88 = .ok (.goto (-41), 3) := by decide +kernel
theorem dX11_book_91 : decode cX11_book 91 = .ok (.aload 4, 2) := by decide +kernel
theorem dX11_book_93 : decode cX11_book 93 = .ok (.getfield 240, 3) := by decide +kernel
theorem dX11_book_96 : decode cX11_book 96 = .ok (.ireturn, 1) := by decide +kernel
theorem dX11_read_0 : decode cX11_read 0 = .ok (.aload_n 0, 1) := by decide +kernel
theorem dX11_read_1 : decode cX11_read 1 = .ok (.iload_n 1, 1) := by decide +kernel
theorem dX11_read_2 : decode cX11_read 2 = .ok (.invokevirtual 241, 3) := by decide +kernel
theorem dX11_read_5 : decode cX11_read 5 = .ok (.istore_n 3, 1) := by decide +kernel
theorem dX11_read_6 : decode cX11_read 6 = .ok (.iload_n 3, 1) := by decide +kernel
theorem dX11_read_7 : decode cX11_read 7 = .ok (.ifCond .eq 9, 3) := by decide +kernel
theorem dX11_read_10 : decode cX11_read 10 = .ok (.aload_n 0, 1) := by decide +kernel
theorem dX11_read_11 : decode cX11_read 11 = .ok (.iload_n 3, 1) := by decide +kernel
theorem dX11_read_12 : decode cX11_read 12 = .ok (.invokevirtual 82, 3) := by decide +kernel
theorem dX11_read_15 : decode cX11_read 15 = .ok (.ireturn, 1) := by decide +kernel
theorem dX11_read_16 : decode cX11_read 16 = .ok (.aload_n 0, 1) := by decide +kernel
theorem dX11_read_17 : decode cX11_read 17 = .ok (.getfield 69, 3) := by decide +kernel
theorem dX11_read_20 : decode cX11_read 20 = .ok (.iload_n 1, 1) := by decide +kernel
theorem dX11_read_21 : decode cX11_read 21 = .ok (.aaload, 1) := by decide +kernel
theorem dX11_read_22 : decode cX11_read 22 = .ok (.astore 4, 2) := by decide +kernel
theorem dX11_read_24 : decode cX11_read 24 = .ok (.aload_n 0, 1) := by decide +kernel
theorem dX11_read_25 : decode cX11_read 25 = .ok (.iload_n 2, 1) := by decide +kernel
theorem dX11_read_26 : decode cX11_read 26 = .ok (.invokevirtual 141, 3) := by decide +kernel
theorem dX11_read_29 : decode cX11_read 29 = .ok (.ifCond .ne 10, 3) := by decide +kernel
theorem dX11_read_32 : decode cX11_read 32 = .ok (.aload_n 0, 1) := by decide +kernel
theorem dX11_read_33 : decode cX11_read 33 = .ok (.ldc 81, 2) := by decide +kernel
theorem dX11_read_35 : decode cX11_read 35 = .ok (.invokevirtual 82, 3) := by decide +kernel
theorem dX11_read_38 : decode cX11_read 38 = .ok (.ireturn, 1) := by decide +kernel
theorem dX11_read_39 : decode cX11_read 39 = .ok (.iconst 0, 1) := by decide +kernel
theorem dX11_read_40 : decode cX11_read 40 = .ok (.istore 5, 2) := by decide +kernel
theorem dX11_read_42 : decode cX11_read 42 = .ok (.iconst 0, 1) := by decide +kernel
theorem dX11_read_43 : decode cX11_read 43 = .ok (.istore 6, 2) := by decide +kernel
theorem dX11_read_45 : decode cX11_read 45 = .ok (.iload 6, 2) := by decide +kernel
theorem dX11_read_47 : decode cX11_read 47 = .ok (.iconst 5, 1) := by decide +kernel
theorem dX11_read_48 : decode cX11_read 48 = .ok (.if_icmp .gt 70, 3) := by decide +kernel
theorem dX11_read_51 : decode cX11_read 51 = .ok (.iconst 0, 1) := by decide +kernel
theorem dX11_read_52 : decode cX11_read 52 = .ok (.istore 7, 2) := by decide +kernel
theorem dX11_read_54 : decode cX11_read 54 = .ok (.iload 7, 2) := by decide +kernel
theorem dX11_read_56 : decode cX11_read 56 = .ok (.bipush 9, 2) := by decide +kernel
theorem dX11_read_58 : decode cX11_read 58 = .ok (.if_icmp .gt 54, 3) := by decide +kernel
theorem dX11_read_61 : decode cX11_read 61 = .ok (.aload_n 0, 1) := by decide +kernel
theorem dX11_read_62 : decode cX11_read 62 = .ok (.iload_n 2, 1) := by decide +kernel
theorem dX11_read_63 : decode cX11_read 63 = .ok (.invokevirtual 184, 3) := by decide +kernel
theorem dX11_read_66 : decode cX11_read 66 = .ok (.aload_n 0, 1) := by decide +kernel
theorem dX11_read_67 : decode cX11_read 67 = .ok (.getfield 43, 3) := by decide +kernel
theorem dX11_read_70 : decode cX11_read 70 = .ok (.getfield 144, 3) := by decide +kernel
theorem dX11_read_73 : decode cX11_read 73 = .ok (.iconst 0, 1) := by decide +kernel
theorem dX11_read_74 : decode cX11_read 74 = .ok (.aaload, 1) := by decide +kernel
theorem dX11_read_75 : decode cX11_read 75 = .ok (.aload_n 0, 1) := by decide +kernel
theorem dX11_read_76 : decode cX11_read 76 = .ok (.getfield 27, 3) := by decide +kernel
theorem dX11_read_79 : decode cX11_read 79 = .ok (.iload 6, 2) := by decide +kernel
theorem dX11_read_81 : decode cX11_read 81 = .ok (.aaload, 1) := by decide +kernel
theorem dX11_read_82 : decode cX11_read 82 = .ok (.putfield 164, 3) := by decide +kernel
theorem dX11_read_85 : decode cX11_read 85 = .ok (.aload_n 0, 1) := by decide +kernel
theorem dX11_read_86 : decode cX11_read 86 = .ok (.getfield 43, 3) := by decide +kernel
theorem dX11_read_89 : decode cX11_read 89 = .ok (.iload 7, 2) := by decide +kernel
theorem dX11_read_91 : decode cX11_read 91 = .ok (.putfield 100, 3) := by decide +kernel
theorem dX11_read_94 : decode cX11_read 94 = .ok (.aload_n 0, 1) := by decide +kernel
theorem dX11_read_95 : decode cX11_read 95 = .ok (.aload 4, 2) := by decide +kernel
theorem dX11_read_97 : decode cX11_read 97 = .ok (.invokevirtual 274, 3) := by decide +kernel
theorem dX11_read_100 : decode cX11_read 100 = .ok (.ifCond .eq 6, 3) := by decide +kernel
theorem dX11_read_103 : decode cX11_read 103 = .ok (.iinc 5 1, 3) := by decide +kernel
theorem dX11_read_106 : decode cX11_read 106 = .ok (.iinc 7 1, 3) := by decide +kernel
theorem dX11_read_109 : decode cX11_read 109 = .ok (.goto (-55), 3) := by decide +kernel
theorem dX11_read_112 : decode cX11_read 112 = .ok (.iinc 6 1, 3) := by decide +kernel
theorem dX11_read_115 : decode cX11_read 115 = .ok (.goto (-70), 3) := by decide +kernel
theorem dX11_read_118 : decode cX11_read 118 = .ok (.iload 5, 2) := by decide +kernel
theorem dX11_read_120 : decode cX11_read 120 = .ok (.ireturn, 1) := by decide +kernel
theorem dX11_image_0 : decode cX11_image 0 = .ok (.aload_n 0, 1) := by decide +kernel
theorem dX11_image_1 : decode cX11_image 1 = .ok (.getfield 40, 3) := by decide +kernel
theorem dX11_image_4 : decode cX11_image 4 = .ok (.aload_n 0, 1) := by decide +kernel
theorem dX11_image_5 : decode cX11_image 5 = .ok (.getfield 36, 3) := by decide +kernel
theorem dX11_image_8 : decode cX11_image 8 = .ok (.invokevirtual 187, 3) := by decide +kernel
theorem dX11_image_11 : decode cX11_image 11 = .ok (.aload_n 0, 1) := by decide +kernel
theorem dX11_image_12 : decode cX11_image 12 = .ok (.iconst 1, 1) := by decide +kernel
theorem dX11_image_13 : decode cX11_image 13 = .ok (.putfield 46, 3) := by decide +kernel
theorem dX11_image_16 : decode cX11_image 16 = .ok (.iconst 1, 1) := by decide +kernel
theorem dX11_image_17 : decode cX11_image 17 = .ok (.ireturn, 1) := by decide +kernel
theorem dX11_undo_0 : decode cX11_undo 0 = .ok (.aload_n 0, 1) := by decide +kernel
theorem dX11_undo_1 : decode cX11_undo 1 = .ok (.getfield 46, 3) := by decide +kernel
theorem dX11_undo_4 : decode cX11_undo 4 = .ok (.ifCond .ne 10, 3) := by decide +kernel
theorem dX11_undo_7 : decode cX11_undo 7 = .ok (.aload_n 0, 1) := by decide +kernel
theorem dX11_undo_8 : decode cX11_undo 8 = .ok (.ldc 194, 2) := by decide +kernel
theorem dX11_undo_10 : decode cX11_undo 10 = .ok (.invokevirtual 82, 3) := by decide +kernel
theorem dX11_undo_13 : decode cX11_undo 13 = .ok (.ireturn, 1) := by decide +kernel
theorem dX11_undo_14 : decode cX11_undo 14 = .ok (.aload_n 0, 1) := by decide +kernel
theorem dX11_undo_15 : decode cX11_undo 15 = .ok (.getfield 36, 3) := by decide +kernel
theorem dX11_undo_18 : decode cX11_undo 18 = .ok (.aload_n 0, 1) := by decide +kernel
theorem dX11_undo_19 : decode cX11_undo 19 = .ok (.getfield 40, 3) := by decide +kernel
theorem dX11_undo_22 : decode cX11_undo 22 = .ok (.invokevirtual 187, 3) := by decide +kernel
theorem dX11_undo_25 : decode cX11_undo 25 = .ok (.aload_n 0, 1) := by decide +kernel
theorem dX11_undo_26 : decode cX11_undo 26 = .ok (.getfield 36, 3) := by decide +kernel
theorem dX11_undo_29 : decode cX11_undo 29 = .ok (.getfield 138, 3) := by decide +kernel
theorem dX11_undo_32 : decode cX11_undo 32 = .ok (.ireturn, 1) := by decide +kernel
theorem dX11_tear_0 : decode cX11_tear 0 = .ok (.aload_n 0, 1) := by decide +kernel
theorem dX11_tear_1 : decode cX11_tear 1 = .ok (.getfield 46, 3) := by decide +kernel
theorem dX11_tear_4 : decode cX11_tear 4 = .ok (.invokestatic 113, 3) := by decide +kernel
theorem dX11_tear_7 : decode cX11_tear 7 = .ok (.istore_n 1, 1) := by decide +kernel
theorem dX11_tear_8 : decode cX11_tear 8 = .ok (.aload_n 0, 1) := by decide +kernel
theorem dX11_tear_9 : decode cX11_tear 9 = .ok (.iconst 0, 1) := by decide +kernel
theorem dX11_tear_10 : decode cX11_tear 10 = .ok (.putfield 46, 3) := by decide +kernel
theorem dX11_tear_13 : decode cX11_tear 13 = .ok (.iload_n 1, 1) := by decide +kernel
theorem dX11_tear_14 : decode cX11_tear 14 = .ok (.ireturn, 1) := by decide +kernel
theorem dX11_count_0 : decode cX11_count 0 = .ok (.iload_n 1, 1) := by decide +kernel
theorem dX11_count_1 : decode cX11_count 1 = .ok (.tableswitch 66 0 3 #[31, 39, 47, 58], 31) := by decide +kernel
theorem dX11_count_32 : decode cX11_count 32 = .ok (.aload_n 0, 1) := by decide +kernel
theorem dX11_count_33 : decode cX11_count 33 = .ok (.getfield 36, 3) := by decide +kernel
theorem dX11_count_36 : decode cX11_count 36 = .ok (.getfield 138, 3) := by decide +kernel
theorem dX11_count_39 : decode cX11_count 39 = .ok (.ireturn, 1) := by decide +kernel
theorem dX11_count_40 : decode cX11_count 40 = .ok (.aload_n 0, 1) := by decide +kernel
theorem dX11_count_41 : decode cX11_count 41 = .ok (.getfield 53, 3) := by decide +kernel
theorem dX11_count_44 : decode cX11_count 44 = .ok (.getfield 219, 3) := by decide +kernel
theorem dX11_count_47 : decode cX11_count 47 = .ok (.ireturn, 1) := by decide +kernel
theorem dX11_count_48 : decode cX11_count 48 = .ok (.aload_n 0, 1) := by decide +kernel
theorem dX11_count_49 : decode cX11_count 49 = .ok (.getfield 36, 3) := by decide +kernel
theorem dX11_count_52 : decode cX11_count 52 = .ok (.getfield 97, 3) := by decide +kernel
theorem dX11_count_55 : decode cX11_count 55 = .ok (.invokestatic 207, 3) := by decide +kernel
theorem dX11_count_58 : decode cX11_count 58 = .ok (.ireturn, 1) := by decide +kernel
theorem dX11_count_59 : decode cX11_count 59 = .ok (.aload_n 0, 1) := by decide +kernel
theorem dX11_count_60 : decode cX11_count 60 = .ok (.getfield 36, 3) := by decide +kernel
theorem dX11_count_63 : decode cX11_count 63 = .ok (.invokevirtual 213, 3) := by decide +kernel
theorem dX11_count_66 : decode cX11_count 66 = .ok (.ireturn, 1) := by decide +kernel
theorem dX11_count_67 : decode cX11_count 67 = .ok (.aload_n 0, 1) := by decide +kernel
theorem dX11_count_68 : decode cX11_count 68 = .ok (.ldc 81, 2) := by decide +kernel
theorem dX11_count_70 : decode cX11_count 70 = .ok (.invokevirtual 82, 3) := by decide +kernel
theorem dX11_count_73 : decode cX11_count 73 = .ok (.ireturn, 1) := by decide +kernel
theorem dX11_status_0 : decode cX11_status 0 = .ok (.iload_n 1, 1) := by decide +kernel
theorem dX11_status_1 : decode cX11_status 1 = .ok (.iconst (-1), 1) := by decide +kernel
theorem dX11_status_2 : decode cX11_status 2 = .ok (.bipush 6, 2) := by decide +kernel
theorem dX11_status_4 : decode cX11_status 4 = .ok (.invokestatic 77, 3) := by decide +kernel
theorem dX11_status_7 : decode cX11_status 7 = .ok (.ifCond .ne 10, 3) := by decide +kernel
theorem dX11_status_10 : decode cX11_status 10 = .ok (.aload_n 0, 1) := by decide +kernel
theorem dX11_status_11 : decode cX11_status 11 = .ok (.ldc 81, 2) := by decide +kernel
theorem dX11_status_13 : decode cX11_status 13 = .ok (.invokevirtual 82, 3) := by decide +kernel
theorem dX11_status_16 : decode cX11_status 16 = .ok (.ireturn, 1) := by decide +kernel
theorem dX11_status_17 : decode cX11_status 17 = .ok (.iload_n 1, 1) := by decide +kernel
theorem dX11_status_18 : decode cX11_status 18 = .ok (.ifCond .lt 10, 3) := by decide +kernel
theorem dX11_status_21 : decode cX11_status 21 = .ok (.aload_n 0, 1) := by decide +kernel
theorem dX11_status_22 : decode cX11_status 22 = .ok (.getfield 73, 3) := by decide +kernel
theorem dX11_status_25 : decode cX11_status 25 = .ok (.iload_n 1, 1) := by decide +kernel
theorem dX11_status_26 : decode cX11_status 26 = .ok (.iaload, 1) := by decide +kernel
theorem dX11_status_27 : decode cX11_status 27 = .ok (.ireturn, 1) := by decide +kernel
theorem dX11_status_28 : decode cX11_status 28 = .ok (.iconst 0, 1) := by decide +kernel
theorem dX11_status_29 : decode cX11_status 29 = .ok (.istore_n 2, 1) := by decide +kernel
theorem dX11_status_30 : decode cX11_status 30 = .ok (.iconst 0, 1) := by decide +kernel
theorem dX11_status_31 : decode cX11_status 31 = .ok (.istore_n 3, 1) := by decide +kernel
theorem dX11_status_32 : decode cX11_status 32 = .ok (.iload_n 3, 1) := by decide +kernel
theorem dX11_status_33 : decode cX11_status 33 = .ok (.bipush 7, 2) := by decide +kernel
theorem dX11_status_35 : decode cX11_status 35 = .ok (.if_icmp .ge 18, 3) := by decide +kernel
theorem dX11_status_38 : decode cX11_status 38 = .ok (.iload_n 2, 1) := by decide +kernel
theorem dX11_status_39 : decode cX11_status 39 = .ok (.aload_n 0, 1) := by decide +kernel
theorem dX11_status_40 : decode cX11_status 40 = .ok (.getfield 73, 3) := by decide +kernel
theorem dX11_status_43 : decode cX11_status 43 = .ok (.iload_n 3, 1) := by decide +kernel
theorem dX11_status_44 : decode cX11_status 44 = .ok (.iaload, 1) := by decide +kernel
theorem dX11_status_45 : decode cX11_status 45 = .ok (.iadd, 1) := by decide +kernel
theorem dX11_status_46 : decode cX11_status 46 = .ok (.istore_n 2, 1) := by decide +kernel
theorem dX11_status_47 : decode cX11_status 47 = .ok (.iinc 3 1, 3) := by decide +kernel
theorem dX11_status_50 : decode cX11_status 50 = .ok (.goto (-18), 3) := by decide +kernel
theorem dX11_status_53 : decode cX11_status 53 = .ok (.iload_n 2, 1) := by decide +kernel
theorem dX11_status_54 : decode cX11_status 54 = .ok (.ireturn, 1) := by decide +kernel
theorem dX11_found_0 : decode cX11_found 0 = .ok (.ldc 81, 2) := by decide +kernel
theorem dX11_found_2 : decode cX11_found 2 = .ok (.iload_n 1, 1) := by decide +kernel
theorem dX11_found_3 : decode cX11_found 3 = .ok (.isub, 1) := by decide +kernel
theorem dX11_found_4 : decode cX11_found 4 = .ok (.istore_n 2, 1) := by decide +kernel
theorem dX11_found_5 : decode cX11_found 5 = .ok (.iload_n 2, 1) := by decide +kernel
theorem dX11_found_6 : decode cX11_found 6 = .ok (.iconst 0, 1) := by decide +kernel
theorem dX11_found_7 : decode cX11_found 7 = .ok (.bipush 6, 2) := by decide +kernel
theorem dX11_found_9 : decode cX11_found 9 = .ok (.invokestatic 77, 3) := by decide +kernel
theorem dX11_found_12 : decode cX11_found 12 = .ok (.ifCond .eq 13, 3) := by decide +kernel
theorem dX11_found_15 : decode cX11_found 15 = .ok (.aload_n 0, 1) := by decide +kernel
theorem dX11_found_16 : decode cX11_found 16 = .ok (.getfield 73, 3) := by decide +kernel
theorem dX11_found_19 : decode cX11_found 19 = .ok (.iload_n 2, 1) := by decide +kernel
theorem dX11_found_20 : decode cX11_found 20 = .ok (.dup2, 1) := by decide +kernel
theorem dX11_found_21 : decode cX11_found 21 = .ok (.iaload, 1) := by decide +kernel
theorem dX11_found_22 : decode cX11_found 22 = .ok (.iconst 1, 1) := by decide +kernel
theorem dX11_found_23 : decode cX11_found 23 = .ok (.iadd, 1) := by decide +kernel
theorem dX11_found_24 : decode cX11_found 24 = .ok (.iastore, 1) := by decide +kernel
theorem dX11_found_25 : decode cX11_found 25 = .ok (.iload_n 1, 1) := by decide +kernel
theorem dX11_found_26 : decode cX11_found 26 = .ok (.ireturn, 1) := by decide +kernel
theorem dX11_isShip_0 : decode cX11_isShip 0 = .ok (.iload_n 1, 1) := by decide +kernel
theorem dX11_isShip_1 : decode cX11_isShip 1 = .ok (.ifCond .lt 18, 3) := by decide +kernel
theorem dX11_isShip_4 : decode cX11_isShip 4 = .ok (.iload_n 1, 1) := by decide +kernel
theorem dX11_isShip_5 : decode cX11_isShip 5 = .ok (.aload_n 0, 1) := by decide +kernel
theorem dX11_isShip_6 : decode cX11_isShip 6 = .ok (.getfield 36, 3) := by decide +kernel
theorem dX11_isShip_9 : decode cX11_isShip 9 = .ok (.getfield 138, 3) := by decide +kernel
theorem dX11_isShip_12 : decode cX11_isShip 12 = .ok (.if_icmp .ge 7, 3) := by decide +kernel
theorem dX11_isShip_15 : decode cX11_isShip 15 = .ok (.iconst 1, 1) := by decide +kernel
theorem dX11_isShip_16 : decode cX11_isShip 16 = .ok (.goto 4, 3) := by decide +kernel
theorem dX11_isShip_19 : decode cX11_isShip 19 = .ok (.iconst 0, 1) := by decide +kernel
theorem dX11_isShip_20 : decode cX11_isShip 20 = .ok (.ireturn, 1) := by decide +kernel
theorem dX11_amissUnderWay_0 : decode cX11_amissUnderWay 0 = .ok (.aload_n 0, 1) := by decide +kernel
theorem dX11_amissUnderWay_1 : decode cX11_amissUnderWay 1 = .ok (.iload_n 1, 1) := by decide +kernel
theorem dX11_amissUnderWay_2 : decode cX11_amissUnderWay 2 = .ok (.invokevirtual 141, 3) := by decide +kernel
theorem dX11_amissUnderWay_5 : decode cX11_amissUnderWay 5 = .ok (.ifCond .ne 6, 3) := by decide +kernel
theorem dX11_amissUnderWay_8 : decode cX11_amissUnderWay 8 = .ok (.ldc 81, 2) := by decide +kernel
theorem dX11_amissUnderWay_10 : decode cX11_amissUnderWay 10 = .ok (.ireturn, 1) := by decide +kernel
theorem dX11_amissUnderWay_11 : decode cX11_amissUnderWay 11 = .ok (.aload_n 0, 1) := by decide +kernel
theorem dX11_amissUnderWay_12 : decode cX11_amissUnderWay 12 = .ok (.getfield 36, 3) := by decide +kernel
theorem dX11_amissUnderWay_15 : decode cX11_amissUnderWay 15 = .ok (.getfield 144, 3) := by decide +kernel
theorem dX11_amissUnderWay_18 : decode cX11_amissUnderWay 18 = .ok (.iload_n 1, 1) := by decide +kernel
theorem dX11_amissUnderWay_19 : decode cX11_amissUnderWay 19 = .ok (.aaload, 1) := by decide +kernel
theorem dX11_amissUnderWay_20 : decode cX11_amissUnderWay 20 = .ok (.invokevirtual 278, 3) := by decide +kernel
theorem dX11_amissUnderWay_23 : decode cX11_amissUnderWay 23 = .ok (.ifCond .eq 7, 3) := by decide +kernel
theorem dX11_amissUnderWay_26 : decode cX11_amissUnderWay 26 = .ok (.iconst 0, 1) := by decide +kernel
theorem dX11_amissUnderWay_27 : decode cX11_amissUnderWay 27 = .ok (.goto 5, 3) := by decide +kernel
theorem dX11_amissUnderWay_30 : decode cX11_amissUnderWay 30 = .ok (.ldc 179, 2) := by decide +kernel
theorem dX11_amissUnderWay_32 : decode cX11_amissUnderWay 32 = .ok (.ireturn, 1) := by decide +kernel
theorem dX11_amissInSheet_0 : decode cX11_amissInSheet 0 = .ok (.iload_n 1, 1) := by decide +kernel
theorem dX11_amissInSheet_1 : decode cX11_amissInSheet 1 = .ok (.invokestatic 233, 3) := by decide +kernel
theorem dX11_amissInSheet_4 : decode cX11_amissInSheet 4 = .ok (.ifCond .ne 6, 3) := by decide +kernel
theorem dX11_amissInSheet_7 : decode cX11_amissInSheet 7 = .ok (.ldc 81, 2) := by decide +kernel
theorem dX11_amissInSheet_9 : decode cX11_amissInSheet 9 = .ok (.ireturn, 1) := by decide +kernel
theorem dX11_amissInSheet_10 : decode cX11_amissInSheet 10 = .ok (.aload_n 0, 1) := by decide +kernel
theorem dX11_amissInSheet_11 : decode cX11_amissInSheet 11 = .ok (.getfield 69, 3) := by decide +kernel
theorem dX11_amissInSheet_14 : decode cX11_amissInSheet 14 = .ok (.iload_n 1, 1) := by decide +kernel
theorem dX11_amissInSheet_15 : decode cX11_amissInSheet 15 = .ok (.aaload, 1) := by decide +kernel
theorem dX11_amissInSheet_16 : decode cX11_amissInSheet 16 = .ok (.invokevirtual 251, 3) := by decide +kernel
theorem dX11_amissInSheet_19 : decode cX11_amissInSheet 19 = .ok (.ifCond .eq 8, 3) := by decide +kernel
theorem dX11_amissInSheet_22 : decode cX11_amissInSheet 22 = .ok (.ldc 254, 2) := by decide +kernel
theorem dX11_amissInSheet_24 : decode cX11_amissInSheet 24 = .ok (.goto 4, 3) := by decide +kernel
theorem dX11_amissInSheet_27 : decode cX11_amissInSheet 27 = .ok (.iconst 0, 1) := by decide +kernel
theorem dX11_amissInSheet_28 : decode cX11_amissInSheet 28 = .ok (.ireturn, 1) := by decide +kernel
theorem dX11_isKind_0 : decode cX11_isKind 0 = .ok (.iload_n 0, 1) := by decide +kernel
theorem dX11_isKind_1 : decode cX11_isKind 1 = .ok (.iconst 0, 1) := by decide +kernel
theorem dX11_isKind_2 : decode cX11_isKind 2 = .ok (.iconst 5, 1) := by decide +kernel
theorem dX11_isKind_3 : decode cX11_isKind 3 = .ok (.invokestatic 77, 3) := by decide +kernel
theorem dX11_isKind_6 : decode cX11_isKind 6 = .ok (.ireturn, 1) := by decide +kernel
theorem dX11_isSheet_0 : decode cX11_isSheet 0 = .ok (.iload_n 0, 1) := by decide +kernel
theorem dX11_isSheet_1 : decode cX11_isSheet 1 = .ok (.iconst 0, 1) := by decide +kernel
theorem dX11_isSheet_2 : decode cX11_isSheet 2 = .ok (.iconst 3, 1) := by decide +kernel
theorem dX11_isSheet_3 : decode cX11_isSheet 3 = .ok (.invokestatic 77, 3) := by decide +kernel
theorem dX11_isSheet_6 : decode cX11_isSheet 6 = .ok (.ireturn, 1) := by decide +kernel
theorem dX11_isWithin_0 : decode cX11_isWithin 0 = .ok (.iload_n 0, 1) := by decide +kernel
theorem dX11_isWithin_1 : decode cX11_isWithin 1 = .ok (.iload_n 1, 1) := by decide +kernel
theorem dX11_isWithin_2 : decode cX11_isWithin 2 = .ok (.if_icmp .lt 12, 3) := by decide +kernel
theorem dX11_isWithin_5 : decode cX11_isWithin 5 = .ok (.iload_n 0, 1) := by decide +kernel
theorem dX11_isWithin_6 : decode cX11_isWithin 6 = .ok (.iload_n 2, 1) := by decide +kernel
theorem dX11_isWithin_7 : decode cX11_isWithin 7 = .ok (.if_icmp .gt 7, 3) := by decide +kernel
theorem dX11_isWithin_10 : decode cX11_isWithin 10 = .ok (.iconst 1, 1) := by decide +kernel
theorem dX11_isWithin_11 : decode cX11_isWithin 11 = .ok (.goto 4, 3) := by decide +kernel
theorem dX11_isWithin_14 : decode cX11_isWithin 14 = .ok (.iconst 0, 1) := by decide +kernel
theorem dX11_isWithin_15 : decode cX11_isWithin 15 = .ok (.ireturn, 1) := by decide +kernel
theorem dX11_asNumber_0 : decode cX11_asNumber 0 = .ok (.iload_n 0, 1) := by decide +kernel
theorem dX11_asNumber_1 : decode cX11_asNumber 1 = .ok (.ifCond .eq 7, 3) := by decide +kernel
theorem dX11_asNumber_4 : decode cX11_asNumber 4 = .ok (.iconst 1, 1) := by decide +kernel
theorem dX11_asNumber_5 : decode cX11_asNumber 5 = .ok (.goto 4, 3) := by decide +kernel
theorem dX11_asNumber_8 : decode cX11_asNumber 8 = .ok (.iconst 0, 1) := by decide +kernel
theorem dX11_asNumber_9 : decode cX11_asNumber 9 = .ok (.ireturn, 1) := by decide +kernel
theorem dX11_tryAlone_0 : decode cX11_tryAlone 0 = .ok (.aload_n 0, 1) := by decide +kernel
theorem dX11_tryAlone_1 : decode cX11_tryAlone 1 = .ok (.getfield 43, 3) := by decide +kernel
theorem dX11_tryAlone_4 : decode cX11_tryAlone 4 = .ok (.aload_n 0, 1) := by decide +kernel
theorem dX11_tryAlone_5 : decode cX11_tryAlone 5 = .ok (.getfield 36, 3) := by decide +kernel
theorem dX11_tryAlone_8 : decode cX11_tryAlone 8 = .ok (.iload_n 1, 1) := by decide +kernel
theorem dX11_tryAlone_9 : decode cX11_tryAlone 9 = .ok (.invokevirtual 281, 3) := by decide +kernel
theorem dX11_tryAlone_12 : decode cX11_tryAlone 12 = .ok (.return_, 1) := by decide +kernel
theorem dX11_hoursUntilEnd_0 : decode cX11_hoursUntilEnd 0 = .ok (.iconst 0, 1) := by decide +kernel
theorem dX11_hoursUntilEnd_1 : decode cX11_hoursUntilEnd 1 = .ok (.istore_n 1, 1) := by decide +kernel
theorem dX11_hoursUntilEnd_2 : decode cX11_hoursUntilEnd 2 = .ok (.iload_n 1, 1) := by decide +kernel
theorem dX11_hoursUntilEnd_3 : decode cX11_hoursUntilEnd 3 = .ok (.bipush 100, 2) := by decide +kernel
theorem dX11_hoursUntilEnd_5 : decode cX11_hoursUntilEnd 5 = .ok (.if_icmp .ge 32, 3) := by decide +kernel
theorem dX11_hoursUntilEnd_8 : decode cX11_hoursUntilEnd 8 = .ok (.aload_n 0, 1) := by decide +kernel
theorem dX11_hoursUntilEnd_9 : decode cX11_hoursUntilEnd 9 = .ok (.getfield 43, 3) := by decide +kernel
theorem dX11_hoursUntilEnd_12 : decode cX11_hoursUntilEnd 12 = .ok (.getfield 144, 3) := by decide +kernel
theorem dX11_hoursUntilEnd_15 : decode cX11_hoursUntilEnd 15 = .ok (.iconst 0, 1) := by decide +kernel
theorem dX11_hoursUntilEnd_16 : decode cX11_hoursUntilEnd 16 = .ok (.aaload, 1) := by decide +kernel
theorem dX11_hoursUntilEnd_17 : decode cX11_hoursUntilEnd 17 = .ok (.invokevirtual 278, 3) := by decide +kernel
theorem dX11_hoursUntilEnd_20 : decode cX11_hoursUntilEnd 20 = .ok (.ifCond .eq 17, 3) := by decide +kernel
theorem dX11_hoursUntilEnd_23 : decode cX11_hoursUntilEnd 23 = .ok (.aload_n 0, 1) := by decide +kernel
theorem dX11_hoursUntilEnd_24 : decode cX11_hoursUntilEnd 24 = .ok (.getfield 43, 3) := by decide +kernel
theorem dX11_hoursUntilEnd_27 : decode cX11_hoursUntilEnd 27 = .ok (.iconst 1, 1) := by decide +kernel
theorem dX11_hoursUntilEnd_28 : decode cX11_hoursUntilEnd 28 = .ok (.invokevirtual 180, 3) := by decide +kernel
theorem dX11_hoursUntilEnd_31 : decode cX11_hoursUntilEnd 31 = .ok (.iinc 1 1, 3) := by decide +kernel
theorem dX11_hoursUntilEnd_34 : decode cX11_hoursUntilEnd 34 = .ok (.goto (-32), 3) := by decide +kernel
theorem dX11_hoursUntilEnd_37 : decode cX11_hoursUntilEnd 37 = .ok (.iload_n 1, 1) := by decide +kernel
theorem dX11_hoursUntilEnd_38 : decode cX11_hoursUntilEnd 38 = .ok (.ireturn, 1) := by decide +kernel
theorem dX11_hoursUntilBy_0 : decode cX11_hoursUntilBy 0 = .ok (.aload_n 0, 1) := by decide +kernel
theorem dX11_hoursUntilBy_1 : decode cX11_hoursUntilBy 1 = .ok (.invokevirtual 195, 3) := by decide +kernel
theorem dX11_hoursUntilBy_4 : decode cX11_hoursUntilBy 4 = .ok (.istore_n 1, 1) := by decide +kernel
theorem dX11_hoursUntilBy_5 : decode cX11_hoursUntilBy 5 = .ok (.aload_n 0, 1) := by decide +kernel
theorem dX11_hoursUntilBy_6 : decode cX11_hoursUntilBy 6 = .ok (.getfield 43, 3) := by decide +kernel
theorem dX11_hoursUntilBy_9 : decode cX11_hoursUntilBy 9 = .ok (.getfield 144, 3) := by decide +kernel
theorem dX11_hoursUntilBy_12 : decode cX11_hoursUntilBy 12 = .ok (.iconst 0, 1) := by decide +kernel
theorem dX11_hoursUntilBy_13 : decode cX11_hoursUntilBy 13 = .ok (.aaload, 1) := by decide +kernel
theorem dX11_hoursUntilBy_14 : decode cX11_hoursUntilBy 14 = .ok (.getfield 285, 3) := by decide +kernel
theorem dX11_hoursUntilBy_17 : decode cX11_hoursUntilBy 17 = .ok (.ifCond .eq 7, 3) := by decide +kernel
theorem dX11_hoursUntilBy_20 : decode cX11_hoursUntilBy 20 = .ok (.iload_n 1, 1) := by decide +kernel
theorem dX11_hoursUntilBy_21 : decode cX11_hoursUntilBy 21 = .ok (.goto 5, 3) := by decide +kernel
theorem dX11_hoursUntilBy_24 : decode cX11_hoursUntilBy 24 = .ok (.bipush 101, 2) := by decide +kernel
theorem dX11_hoursUntilBy_26 : decode cX11_hoursUntilBy 26 = .ok (.ireturn, 1) := by decide +kernel
theorem dX11_goesAsTold_0 : decode cX11_goesAsTold 0 = .ok (.iconst 0, 1) := by decide +kernel
theorem dX11_goesAsTold_1 : decode cX11_goesAsTold 1 = .ok (.istore_n 2, 1) := by decide +kernel
theorem dX11_goesAsTold_2 : decode cX11_goesAsTold 2 = .ok (.iload_n 2, 1) := by decide +kernel
theorem dX11_goesAsTold_3 : decode cX11_goesAsTold 3 = .ok (.aload_n 1, 1) := by decide +kernel
theorem dX11_goesAsTold_4 : decode cX11_goesAsTold 4 = .ok (.getfield 240, 3) := by decide +kernel
theorem dX11_goesAsTold_7 : decode cX11_goesAsTold 7 = .ok (.if_icmp .ge 41, 3) := by decide +kernel
theorem dX11_goesAsTold_10 : decode cX11_goesAsTold 10 = .ok (.aload_n 1, 1) := by decide +kernel
theorem dX11_goesAsTold_11 : decode cX11_goesAsTold 11 = .ok (.iload_n 2, 1) := by decide +kernel
theorem dX11_goesAsTold_12 : decode cX11_goesAsTold 12 = .ok (.invokevirtual 244, 3) := by decide +kernel
theorem dX11_goesAsTold_15 : decode cX11_goesAsTold 15 = .ok (.aload_n 0, 1) := by decide +kernel
theorem dX11_goesAsTold_16 : decode cX11_goesAsTold 16 = .ok (.getfield 43, 3) := by decide +kernel
theorem dX11_goesAsTold_19 : decode cX11_goesAsTold 19 = .ok (.getfield 144, 3) := by decide +kernel
theorem dX11_goesAsTold_22 : decode cX11_goesAsTold 22 = .ok (.iconst 0, 1) := by decide +kernel
theorem dX11_goesAsTold_23 : decode cX11_goesAsTold 23 = .ok (.aaload, 1) := by decide +kernel
theorem dX11_goesAsTold_24 : decode cX11_goesAsTold 24 = .ok (.getfield 204, 3) := by decide +kernel
theorem dX11_goesAsTold_27 : decode cX11_goesAsTold 27 = .ok (.i2l, 1) := by decide +kernel
theorem dX11_goesAsTold_28 : decode cX11_goesAsTold 28 = .ok (.lcmp, 1) := by decide +kernel
theorem dX11_goesAsTold_29 : decode cX11_goesAsTold 29 = .ok (.ifCond .eq 5, 3) := by decide +kernel
theorem dX11_goesAsTold_32 : decode cX11_goesAsTold 32 = .ok (.iconst 0, 1) := by decide +kernel
theorem dX11_goesAsTold_33 : decode cX11_goesAsTold 33 = .ok (.ireturn, 1) := by decide +kernel
theorem dX11_goesAsTold_34 : decode cX11_goesAsTold 34 = .ok (.aload_n 0, 1) := by decide +kernel
theorem dX11_goesAsTold_35 : decode cX11_goesAsTold 35 = .ok (.getfield 43, 3) := by decide +kernel
theorem dX11_goesAsTold_38 : decode cX11_goesAsTold 38 = .ok (.iconst 1, 1) := by decide +kernel
theorem dX11_goesAsTold_39 : decode cX11_goesAsTold 39 = .ok (.invokevirtual 180, 3) := by decide +kernel
theorem dX11_goesAsTold_42 : decode cX11_goesAsTold 42 = .ok (.iinc 2 1, 3) := by decide +kernel
theorem dX11_goesAsTold_45 : decode cX11_goesAsTold 45 = .ok (.goto (-43), 3) := by decide +kernel
theorem dX11_goesAsTold_48 : decode cX11_goesAsTold 48 = .ok (.iconst 1, 1) := by decide +kernel
theorem dX11_goesAsTold_49 : decode cX11_goesAsTold 49 = .ok (.ireturn, 1) := by decide +kernel
