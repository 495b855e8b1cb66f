theorem dX6_next_18 : decode cX6_next 18 = .ok (.iconst 1, 1) := by decide +kernel
theorem dX6_next_19 : decode cX6_next 19 = .ok (.iadd, 1) := by decide +kernel
theorem dX6_next_20 : decode cX6_next 20 = .ok (.putfield 70, 3) := by decide +kernel
theorem dX6_next_23 : decode cX6_next 23 = .ok (.goto (-23), 3) := by decide +kernel
theorem dX6_next_26 : decode cX6_next 26 = .ok (.aload_n 0, 1) := by decide +kernel
theorem dX6_next_27 : decode cX6_next 27 = .ok (.aload_n 0, 1) := by decide +kernel
theorem dX6_next_28 : decode cX6_next 28 = .ok (.getfield 70, 3) := by decide +kernel
theorem dX6_next_31 : decode cX6_next 31 = .ok (.putfield 77, 3) := by decide +kernel
theorem dX6_next_34 : decode cX6_next 34 = .ok (.aload_n 0, 1) := by decide +kernel
theorem dX6_next_35 : decode cX6_next 35 = .ok (.aload_n 0, 1) := by decide +kernel
theorem dX6_next_36 : decode cX6_next 36 = .ok (.getfield 70, 3) := by decide +kernel
theorem dX6_next_39 : decode cX6_next 39 = .ok (.invokevirtual 73, 3) := by decide +kernel
theorem dX6_next_42 : decode cX6_next 42 = .ok (.istore_n 1, 1) := by decide +kernel
theorem dX6_next_43 : decode cX6_next 43 = .ok (.aload_n 0, 1) := by decide +kernel
theorem dX6_next_44 : decode cX6_next 44 = .ok (.iconst 0, 1) := by decide +kernel
theorem dX6_next_45 : decode cX6_next 45 = .ok (.putfield 80, 3) := by decide +kernel
theorem dX6_next_48 : decode cX6_next 48 = .ok (.iload_n 1, 1) := by decide +kernel
theorem dX6_next_49 : decode cX6_next 49 = .ok (.ifCond .ge 11, 3) := by decide +kernel
theorem dX6_next_52 : decode cX6_next 52 = .ok (.aload_n 0, 1) := by decide +kernel
theorem dX6_next_53 : decode cX6_next 53 = .ok (.iconst 0, 1) := by decide +kernel
theorem dX6_next_54 : decode cX6_next 54 = .ok (.putfield 83, 3) := by decide +kernel
theorem dX6_next_57 : decode cX6_next 57 = .ok (.goto 174, 3) := by decide +kernel
theorem dX6_next_60 : decode cX6_next 60 = .ok (.iload_n 1, 1) := by decide +kernel
theorem dX6_next_61 : decode cX6_next 61 = .ok (.invokestatic 86, 3) := by decide +kernel
theorem dX6_next_64 : decode cX6_next 64 = .ok (.ifCond .eq 109, 3) := by decide +kernel
theorem dX6_next_67 : decode cX6_next 67 = .ok (.aload_n 0, 1) := by decide +kernel
theorem dX6_next_68 : decode cX6_next 68 = .ok (.aload_n 0, 1) := by decide +kernel
theorem dX6_next_69 : decode cX6_next 69 = .ok (.getfield 70, 3) := by decide +kernel
theorem dX6_next_72 : decode cX6_next 72 = .ok (.invokevirtual 73, 3) := by decide +kernel
theorem dX6_next_75 : decode cX6_next 75 = .ok (.invokestatic 86, 3) := by decide +kernel
theorem dX6_next_78 : decode cX6_next 78 = .ok (.ifCond .eq 55, 3) := by decide +kernel
theorem dX6_next_81 : decode cX6_next 81 = .ok (.aload_n 0, 1) := by decide +kernel
theorem dX6_next_82 : decode cX6_next 82 = .ok (.aload_n 0, 1) := by decide +kernel
theorem dX6_next_83 : decode cX6_next 83 = .ok (.getfield 80, 3) := by decide +kernel
theorem dX6_next_86 : decode cX6_next 86 = .ok (.bipush 99, 2) := by decide +kernel
theorem dX6_next_88 : decode cX6_next 88 = .ok (.if_icmp .le 10, 3) := by decide +kernel
theorem dX6_next_91 : decode cX6_next 91 = .ok (.aload_n 0, 1) := by decide +kernel
theorem dX6_next_92 : decode cX6_next 92 = .ok (.getfield 80, 3) := by decide +kernel
theorem dX6_next_95 : decode cX6_next 95 = .ok (.goto 22, 3) := by decide +kernel
theorem dX6_next_98 : decode cX6_next 98 = .ok (.bipush 10, 2) := by decide +kernel
theorem dX6_next_100 : decode cX6_next 100 = .ok (.aload_n 0, 1) := by decide +kernel
theorem dX6_next_101 : decode cX6_next 101 = .ok (.getfield 80, 3) := by decide +kernel
theorem dX6_next_104 : decode cX6_next 104 = .ok (.imul, 1) := by decide +kernel
theorem dX6_next_105 : decode cX6_next 105 = .ok (.aload_n 0, 1) := by decide +kernel
theorem dX6_next_106 : decode cX6_next 106 = .ok (.aload_n 0, 1) := by decide +kernel
theorem dX6_next_107 : decode cX6_next 107 = .ok (.getfield 70, 3) := by decide +kernel
theorem dX6_next_110 : decode cX6_next 110 = .ok (.invokevirtual 73, 3) := by decide +kernel
theorem dX6_next_113 : decode cX6_next 113 = .ok (.iadd, 1) := by decide +kernel
theorem dX6_next_114 : decode cX6_next 114 = .ok (.bipush 48, 2) := by decide +kernel
theorem dX6_next_116 : decode cX6_next 116 = .ok (.isub, 1) := by decide +kernel
theorem dX6_next_117 : decode cX6_next 117 = .ok (.putfield 80, 3) := by decide +kernel
theorem dX6_next_120 : decode cX6_next 120 = .ok (.aload_n 0, 1) := by decide +kernel
theorem dX6_next_121 : decode cX6_next 121 = .ok (.dup, 1) := by decide +kernel
theorem dX6_next_122 : decode cX6_next 122 = .ok (.getfield 70, 3) := by decide +kernel
theorem dX6_next_125 : decode cX6_next 125 = .ok (.iconst 1, 1) := by decide +kernel
theorem dX6_next_126 : decode cX6_next 126 = .ok (.iadd, 1) := by decide +kernel
theorem dX6_next_127 : decode cX6_next 127 = .ok (.putfield 70, 3) := by decide +kernel
theorem dX6_next_130 : decode cX6_next 130 = .ok (.goto (-63), 3) := by decide +kernel
theorem dX6_next_133 : decode cX6_next 133 = .ok (.aload_n 0, 1) := by decide +kernel
theorem dX6_next_134 : decode cX6_next 134 = .ok (.aload_n 0, 1) := by decide +kernel
theorem dX6_next_135 : decode cX6_next 135 = .ok (.getfield 80, 3) := by decide +kernel
theorem dX6_next_138 : decode cX6_next 138 = .ok (.bipush 99, 2) := by decide +kernel
theorem dX6_next_140 : decode cX6_next 140 = .ok (.if_icmp .gt 22, 3) := by decide +kernel
theorem dX6_next_143 : decode cX6_next 143 = .ok (.iload_n 1, 1) := by decide +kernel
theorem dX6_next_144 : decode cX6_next 144 = .ok (.bipush 48, 2) := by decide +kernel
theorem dX6_next_146 : decode cX6_next 146 = .ok (.if_icmp .ne 20, 3) := by decide +kernel
theorem dX6_next_149 : decode cX6_next 149 = .ok (.aload_n 0, 1) := by decide +kernel
theorem dX6_next_150 : decode cX6_next 150 = .ok (.getfield 70, 3) := by decide +kernel
theorem dX6_next_153 : decode cX6_next 153 = .ok (.aload_n 0, 1) := by decide +kernel
theorem dX6_next_154 : decode cX6_next 154 = .ok (.getfield 77, 3) := by decide +kernel
theorem dX6_next_157 : decode cX6_next 157 = .ok (.isub, 1) := by decide +kernel
theorem dX6_next_158 : decode cX6_next 158 = .ok (.iconst 1, 1) := by decide +kernel
theorem dX6_next_159 : decode cX6_next 159 = .ok (.if_icmp .le 7, 3) := by decide +kernel
theorem dX6_next_162 : decode cX6_next 162 = .ok (.iconst 4, 1) := by decide +kernel
theorem dX6_next_163 : decode cX6_next 163 = .ok (.goto 4, 3) := by decide +kernel
theorem dX6_next_166 : decode cX6_next 166 = .ok (.iconst 2, 1) := by decide +kernel
theorem dX6_next_167 : decode cX6_next 167 = .ok (.putfield 83, 3) := by decide +kernel
theorem dX6_next_170 : decode cX6_next 170 = .ok (.goto 61, 3) := by decide +kernel
theorem dX6_next_173 : decode cX6_next 173 = .ok (.aload_n 0, 1) := by decide +kernel
theorem dX6_next_174 : decode cX6_next 174 = .ok (.iload_n 1, 1) := by decide +kernel
theorem dX6_next_175 : decode cX6_next 175 = .ok (.bipush 100, 2) := by decide +kernel
theorem dX6_next_177 : decode cX6_next 177 = .ok (.if_icmp .eq 21, 3) := by decide +kernel
theorem dX6_next_180 : decode cX6_next 180 = .ok (.iload_n 1, 1) := by decide +kernel
theorem dX6_next_181 : decode cX6_next 181 = .ok (.bipush 104, 2) := by decide +kernel
theorem dX6_next_183 : decode cX6_next 183 = .ok (.if_icmp .eq 15, 3) := by decide +kernel
theorem dX6_next_186 : decode cX6_next 186 = .ok (.iload_n 1, 1) := by decide +kernel
theorem dX6_next_187 : decode cX6_next 187 = .ok (.bipush 103, 2) := by decide +kernel
theorem dX6_next_189 : decode cX6_next 189 = .ok (.if_icmp .eq 9, 3) := by decide +kernel
theorem dX6_next_192 : decode cX6_next 192 = .ok (.iload_n 1, 1) := by decide +kernel
theorem dX6_next_193 : decode cX6_next 193 = .ok (.bipush 114, 2) := by decide +kernel
theorem dX6_next_195 : decode cX6_next 195 = .ok (.if_icmp .ne 7, 3) := by decide +kernel
theorem dX6_next_198 : decode cX6_next 198 = .ok (.iconst 1, 1) := by decide +kernel
theorem dX6_next_199 : decode cX6_next 199 = .ok (.goto 14, 3) := by decide +kernel
theorem dX6_next_202 : decode cX6_next 202 = .ok (.iload_n 1, 1) := by decide +kernel
theorem dX6_next_203 : decode cX6_next 203 = .ok (.bipush 59, 2) := by decide +kernel
theorem dX6_next_205 : decode cX6_next 205 = .ok (.if_icmp .ne 7, 3) := by decide +kernel
theorem dX6_next_208 : decode cX6_next 208 = .ok (.iconst 3, 1) := by decide +kernel
theorem dX6_next_209 : decode cX6_next 209 = .ok (.goto 4, 3) := by decide +kernel
theorem dX6_next_212 : decode cX6_next 212 = .ok (.iconst 4, 1) := by decide +kernel
theorem dX6_next_213 : decode cX6_next 213 = .ok (.putfield 83, 3) := by decide +kernel
theorem dX6_next_216 : decode cX6_next 216 = .ok (.aload_n 0, 1) := by decide +kernel
theorem dX6_next_217 : decode cX6_next 217 = .ok (.iload_n 1, 1) := by decide +kernel
theorem dX6_next_218 : decode cX6_next 218 = .ok (.putfield 80, 3) := by decide +kernel
theorem dX6_next_221 : decode cX6_next 221 = .ok (.aload_n 0, 1) := by decide +kernel
theorem dX6_next_222 : decode cX6_next 222 = .ok (.dup, 1) := by decide +kernel
theorem dX6_next_223 : decode cX6_next 223 = .ok (.getfield 70, 3) := by decide +kernel
theorem dX6_next_226 : decode cX6_next 226 = .ok (.iconst 1, 1) := by decide +kernel
theorem dX6_next_227 : decode cX6_next 227 = .ok (.iadd, 1) := by decide +kernel
theorem dX6_next_228 : decode cX6_next 228 = .ok (.putfield 70, 3) := by decide +kernel
theorem dX6_next_231 : decode cX6_next 231 = .ok (.return_, 1) := by decide +kernel
theorem dX6_takesNumber_0 : decode cX6_takesNumber 0 = .ok (.aload_n 0, 1) := by decide +kernel
theorem dX6_takesNumber_1 : decode cX6_takesNumber 1 = .ok (.getfield 90, 3) := by decide +kernel
theorem dX6_takesNumber_4 : decode cX6_takesNumber 4 = .ok (.ifCond .ne 27, 3) := by decide +kernel
theorem dX6_takesNumber_7 : decode cX6_takesNumber 7 = .ok (.aload_n 0, 1) := by decide +kernel
theorem dX6_takesNumber_8 : decode cX6_takesNumber 8 = .ok (.getfield 83, 3) := by decide +kernel
theorem dX6_takesNumber_11 : decode cX6_takesNumber 11 = .ok (.iconst 2, 1) := by decide +kernel
theorem dX6_takesNumber_12 : decode cX6_takesNumber 12 = .ok (.if_icmp .ne 19, 3) := by decide +kernel
theorem dX6_takesNumber_15 : decode cX6_takesNumber 15 = .ok (.aload_n 0, 1) := by decide +kernel
theorem dX6_takesNumber_16 : decode cX6_takesNumber 16 = .ok (.getfield 80, 3) := by decide +kernel
theorem dX6_takesNumber_19 : decode cX6_takesNumber 19 = .ok (.iload_n 1, 1) := by decide +kernel
theorem dX6_takesNumber_20 : decode cX6_takesNumber 20 = .ok (.iload_n 2, 1) := by decide +kernel
theorem dX6_takesNumber_21 : decode cX6_takesNumber 21 = .ok (.invokestatic 63, 3) := by decide +kernel
theorem dX6_takesNumber_24 : decode cX6_takesNumber 24 = .ok (.ifCond .eq 7, 3) := by decide +kernel
theorem dX6_takesNumber_27 : decode cX6_takesNumber 27 = .ok (.iconst 1, 1) := by decide +kernel
theorem dX6_takesNumber_28 : decode cX6_takesNumber 28 = .ok (.goto 4, 3) := by decide +kernel
theorem dX6_takesNumber_31 : decode cX6_takesNumber 31 = .ok (.iconst 0, 1) := by decide +kernel
theorem dX6_takesNumber_32 : decode cX6_takesNumber 32 = .ok (.istore_n 3, 1) := by decide +kernel
theorem dX6_takesNumber_33 : decode cX6_takesNumber 33 = .ok (.aload_n 0, 1) := by decide +kernel
theorem dX6_takesNumber_34 : decode cX6_takesNumber 34 = .ok (.iload_n 3, 1) := by decide +kernel
theorem dX6_takesNumber_35 : decode cX6_takesNumber 35 = .ok (.ifCond .ne 7, 3) := by decide +kernel
theorem dX6_takesNumber_38 : decode cX6_takesNumber 38 = .ok (.iconst 1, 1) := by decide +kernel
theorem dX6_takesNumber_39 : decode cX6_takesNumber 39 = .ok (.goto 4, 3) := by decide +kernel
theorem dX6_takesNumber_42 : decode cX6_takesNumber 42 = .ok (.iconst 0, 1) := by decide +kernel
theorem dX6_takesNumber_43 : decode cX6_takesNumber 43 = .ok (.putfield 90, 3) := by decide +kernel
theorem dX6_takesNumber_46 : decode cX6_takesNumber 46 = .ok (.aload_n 0, 1) := by decide +kernel
theorem dX6_takesNumber_47 : decode cX6_takesNumber 47 = .ok (.getfield 80, 3) := by decide +kernel
theorem dX6_takesNumber_50 : decode cX6_takesNumber 50 = .ok (.istore 4, 2) := by decide +kernel
theorem dX6_takesNumber_52 : decode cX6_takesNumber 52 = .ok (.iload_n 3, 1) := by decide +kernel
theorem dX6_takesNumber_53 : decode cX6_takesNumber 53 = .ok (.ifCond .eq 7, 3) := by decide +kernel
theorem dX6_takesNumber_56 : decode cX6_takesNumber 56 = .ok (.aload_n 0, 1) := by decide +kernel
theorem dX6_takesNumber_57 : decode cX6_takesNumber 57 = .ok (.invokevirtual 94, 3) := by decide +kernel
theorem dX6_takesNumber_60 : decode cX6_takesNumber 60 = .ok (.iload_n 3, 1) := by decide +kernel
theorem dX6_takesNumber_61 : decode cX6_takesNumber 61 = .ok (.ifCond .eq 8, 3) := by decide +kernel
theorem dX6_takesNumber_64 : decode cX6_takesNumber 64 = .ok (.iload 4, 2) := by decide +kernel
theorem dX6_takesNumber_66 : decode cX6_takesNumber 66 = .ok (.goto 4, 3) := by decide +kernel
theorem dX6_takesNumber_69 : decode cX6_takesNumber 69 = .ok (.iconst 0, 1) := by decide +kernel
theorem dX6_takesNumber_70 : decode cX6_takesNumber 70 = .ok (.ireturn, 1) := by decide +kernel
theorem dX6_mayBegin_0 : decode cX6_mayBegin 0 = .ok (.iload_n 1, 1) := by decide +kernel
theorem dX6_mayBegin_1 : decode cX6_mayBegin 1 = .ok (.tableswitch 76 100 104 #[35, 76, 76, 63, 50], 35) := by decide +kernel
theorem dX6_mayBegin_36 : decode cX6_mayBegin 36 = .ok (.aload_n 0, 1) := by decide +kernel
theorem dX6_mayBegin_37 : decode cX6_mayBegin 37 = .ok (.getfield 97, 3) := by decide +kernel
theorem dX6_mayBegin_40 : decode cX6_mayBegin 40 = .ok (.bipush 6, 2) := by decide +kernel
theorem dX6_mayBegin_42 : decode cX6_mayBegin 42 = .ok (.if_icmp .ge 7, 3) := by decide +kernel
theorem dX6_mayBegin_45 : decode cX6_mayBegin 45 = .ok (.iconst 1, 1) := by decide +kernel
theorem dX6_mayBegin_46 : decode cX6_mayBegin 46 = .ok (.goto 4, 3) := by decide +kernel
theorem dX6_mayBegin_49 : decode cX6_mayBegin 49 = .ok (.iconst 0, 1) := by decide +kernel
theorem dX6_mayBegin_50 : decode cX6_mayBegin 50 = .ok (.ireturn, 1) := by decide +kernel
theorem dX6_mayBegin_51 : decode cX6_mayBegin 51 = .ok (.aload_n 0, 1) := by decide +kernel
theorem dX6_mayBegin_52 : decode cX6_mayBegin 52 = .ok (.getfield 100, 3) := by decide +kernel
theorem dX6_mayBegin_55 : decode cX6_mayBegin 55 = .ok (.ifCond .ge 7, 3) := by decide +kernel
theorem dX6_mayBegin_58 : decode cX6_mayBegin 58 = .ok (.iconst 1, 1) := by decide +kernel
theorem dX6_mayBegin_59 : decode cX6_mayBegin 59 = .ok (.goto 4, 3) := by decide +kernel
theorem dX6_mayBegin_62 : decode cX6_mayBegin 62 = .ok (.iconst 0, 1) := by decide +kernel
theorem dX6_mayBegin_63 : decode cX6_mayBegin 63 = .ok (.ireturn, 1) := by decide +kernel
theorem dX6_mayBegin_64 : decode cX6_mayBegin 64 = .ok (.aload_n 0, 1) := by decide +kernel
theorem dX6_mayBegin_65 : decode cX6_mayBegin 65 = .ok (.getfield 103, 3) := by decide +kernel
theorem dX6_mayBegin_68 : decode cX6_mayBegin 68 = .ok (.ifCond .ge 7, 3) := by decide +kernel
theorem dX6_mayBegin_71 : decode cX6_mayBegin 71 = .ok (.iconst 1, 1) := by decide +kernel
theorem dX6_mayBegin_72 : decode cX6_mayBegin 72 = .ok (.goto 4, 3) := by decide +kernel
theorem dX6_mayBegin_75 : decode cX6_mayBegin 75 = .ok (.iconst 0, 1) := by decide +kernel
theorem dX6_mayBegin_76 : decode cX6_mayBegin 76 = .ok (.ireturn, 1) := by decide +kernel
theorem dX6_mayBegin_77 : decode cX6_mayBegin 77 = .ok (.aload_n 0, 1) := by decide +kernel
theorem dX6_mayBegin_78 : decode cX6_mayBegin 78 = .ok (.getfield 106, 3) := by decide +kernel
theorem dX6_mayBegin_81 : decode cX6_mayBegin 81 = .ok (.ifCond .ge 7, 3) := by decide +kernel
theorem dX6_mayBegin_84 : decode cX6_mayBegin 84 = .ok (.iconst 1, 1) := by decide +kernel
theorem dX6_mayBegin_85 : decode cX6_mayBegin 85 = .ok (.goto 4, 3) := by decide +kernel
theorem dX6_mayBegin_88 : decode cX6_mayBegin 88 = .ok (.iconst 0, 1) := by decide +kernel
theorem dX6_mayBegin_89 : decode cX6_mayBegin 89 = .ok (.ireturn, 1) := by decide +kernel
theorem dX6_readBody_0 : decode cX6_readBody 0 = .ok (.iload_n 1, 1) := by decide +kernel
theorem dX6_readBody_1 : decode cX6_readBody 1 = .ok (.tableswitch 153 100 104 #[35, 153, 153, 139, 125], 35) := by decide +kernel
theorem dX6_readBody_36 : decode cX6_readBody 36 = .ok (.aload_n 0, 1) := by decide +kernel
theorem dX6_readBody_37 : decode cX6_readBody 37 = .ok (.getfield 48, 3) := by decide +kernel
theorem dX6_readBody_40 : decode cX6_readBody 40 = .ok (.iconst 4, 1) := by decide +kernel
theorem dX6_readBody_41 : decode cX6_readBody 41 = .ok (.aload_n 0, 1) := by decide +kernel
theorem dX6_readBody_42 : decode cX6_readBody 42 = .ok (.getfield 97, 3) := by decide +kernel
theorem dX6_readBody_45 : decode cX6_readBody 45 = .ok (.imul, 1) := by decide +kernel
theorem dX6_readBody_46 : decode cX6_readBody 46 = .ok (.aload_n 0, 1) := by decide +kernel
theorem dX6_readBody_47 : decode cX6_readBody 47 = .ok (.iconst 0, 1) := by decide +kernel
theorem dX6_readBody_48 : decode cX6_readBody 48 = .ok (.bipush 40, 2) := by decide +kernel
theorem dX6_readBody_50 : decode cX6_readBody 50 = .ok (.invokevirtual 109, 3) := by decide +kernel
theorem dX6_readBody_53 : decode cX6_readBody 53 = .ok (.iastore, 1) := by decide +kernel
theorem dX6_readBody_54 : decode cX6_readBody 54 = .ok (.aload_n 0, 1) := by decide +kernel
theorem dX6_readBody_55 : decode cX6_readBody 55 = .ok (.getfield 48, 3) := by decide +kernel
theorem dX6_readBody_58 : decode cX6_readBody 58 = .ok (.iconst 4, 1) := by decide +kernel
theorem dX6_readBody_59 : decode cX6_readBody 59 = .ok (.aload_n 0, 1) := by decide +kernel
theorem dX6_readBody_60 : decode cX6_readBody 60 = .ok (.getfield 97, 3) := by decide +kernel
theorem dX6_readBody_63 : decode cX6_readBody 63 = .ok (.imul, 1) := by decide +kernel
theorem dX6_readBody_64 : decode cX6_readBody 64 = .ok (.iconst 1, 1) := by decide +kernel
theorem dX6_readBody_65 : decode cX6_readBody 65 = .ok (.iadd, 1) := by decide +kernel
theorem dX6_readBody_66 : decode cX6_readBody 66 = .ok (.aload_n 0, 1) := by decide +kernel
theorem dX6_readBody_67 : decode cX6_readBody 67 = .ok (.iconst 1, 1) := by decide +kernel
theorem dX6_readBody_68 : decode cX6_readBody 68 = .ok (.bipush 9, 2) := by decide +kernel
theorem dX6_readBody_70 : decode cX6_readBody 70 = .ok (.invokevirtual 109, 3) := by decide +kernel
theorem dX6_readBody_73 : decode cX6_readBody 73 = .ok (.iastore, 1) := by decide +kernel
theorem dX6_readBody_74 : decode cX6_readBody 74 = .ok (.aload_n 0, 1) := by decide +kernel
theorem dX6_readBody_75 : decode cX6_readBody 75 = .ok (.getfield 48, 3) := by decide +kernel
theorem dX6_readBody_78 : decode cX6_readBody 78 = .ok (.iconst 4, 1) := by decide +kernel
theorem dX6_readBody_79 : decode cX6_readBody 79 = .ok (.aload_n 0, 1) := by decide +kernel
theorem dX6_readBody_80 : decode cX6_readBody 80 = .ok (.getfield 97, 3) := by decide +kernel
theorem dX6_readBody_83 : decode cX6_readBody 83 = .ok (.imul, 1) := by decide +kernel
theorem dX6_readBody_84 : decode cX6_readBody 84 = .ok (.iconst 2, 1) := by decide +kernel
theorem dX6_readBody_85 : decode cX6_readBody 85 = .ok (.iadd, 1) := by decide +kernel
theorem dX6_readBody_86 : decode cX6_readBody 86 = .ok (.aload_n 0, 1) := by decide +kernel
theorem dX6_readBody_87 : decode cX6_readBody 87 = .ok (.iconst 0, 1) := by decide +kernel
theorem dX6_readBody_88 : decode cX6_readBody 88 = .ok (.iconst 3, 1) := by decide +kernel
theorem dX6_readBody_89 : decode cX6_readBody 89 = .ok (.invokevirtual 109, 3) := by decide +kernel
theorem dX6_readBody_92 : decode cX6_readBody 92 = .ok (.iastore, 1) := by decide +kernel
theorem dX6_readBody_93 : decode cX6_readBody 93 = .ok (.aload_n 0, 1) := by decide +kernel
theorem dX6_readBody_94 : decode cX6_readBody 94 = .ok (.getfield 48, 3) := by decide +kernel
theorem dX6_readBody_97 : decode cX6_readBody 97 = .ok (.iconst 4, 1) := by decide +kernel
theorem dX6_readBody_98 : decode cX6_readBody 98 = .ok (.aload_n 0, 1) := by decide +kernel
theorem dX6_readBody_99 : decode cX6_readBody 99 = .ok (.getfield 97, 3) := by decide +kernel
theorem dX6_readBody_102 : decode cX6_readBody 102 = .ok (.imul, 1) := by decide +kernel
theorem dX6_readBody_103 : decode cX6_readBody 103 = .ok (.iconst 3, 1) := by decide +kernel
theorem dX6_readBody_104 : decode cX6_readBody 104 = .ok (.iadd, 1) := by decide +kernel
theorem dX6_readBody_105 : decode cX6_readBody 105 = .ok (.aload_n 0, 1) := by decide +kernel
theorem dX6_readBody_106 : decode cX6_readBody 106 = .ok (.iconst 0, 1) := by decide +kernel
theorem dX6_readBody_107 : decode cX6_readBody 107 = .ok (.bipush 9, 2) := by decide +kernel
theorem dX6_readBody_109 : decode cX6_readBody 109 = .ok (.invokevirtual 109, 3) := by decide +kernel
theorem dX6_readBody_112 : decode cX6_readBody 112 = .ok (.iastore, 1) := by decide +kernel
theorem dX6_readBody_113 : decode cX6_readBody 113 = .ok (.aload_n 0, 1) := by decide +kernel
theorem dX6_readBody_114 : decode cX6_readBody 114 = .ok (.dup, 1) := by decide +kernel
theorem dX6_readBody_115 : decode cX6_readBody 115 = .ok (.getfield 97, 3) := by decide +kernel
theorem dX6_readBody_118 : decode cX6_readBody 118 = .ok (.iconst 1, 1) := by decide +kernel
theorem dX6_readBody_119 : decode cX6_readBody 119 = .ok (.iadd, 1) := by decide +kernel
theorem dX6_readBody_120 : decode cX6_readBody 120 = .ok (.putfield 97, 3) := by decide +kernel
theorem dX6_readBody_123 : decode cX6_readBody 123 = .ok (.goto 43, 3) := by decide +kernel
theorem dX6_readBody_126 : decode cX6_readBody 126 = .ok (.aload_n 0, 1) := by decide +kernel
theorem dX6_readBody_127 : decode cX6_readBody 127 = .ok (.aload_n 0, 1) := by decide +kernel
theorem dX6_readBody_128 : decode cX6_readBody 128 = .ok (.iconst 0, 1) := by decide +kernel
theorem dX6_readBody_129 : decode cX6_readBody 129 = .ok (.bipush 9, 2) := by decide +kernel
theorem dX6_readBody_131 : decode cX6_readBody 131 = .ok (.invokevirtual 109, 3) := by decide +kernel
theorem dX6_readBody_134 : decode cX6_readBody 134 = .ok (.putfield 100, 3) := by decide +kernel
theorem dX6_readBody_137 : decode cX6_readBody 137 = .ok (.goto 29, 3) := by decide +kernel
theorem dX6_readBody_140 : decode cX6_readBody 140 = .ok (.aload_n 0, 1) := by decide +kernel
theorem dX6_readBody_141 : decode cX6_readBody 141 = .ok (.aload_n 0, 1) := by decide +kernel
theorem dX6_readBody_142 : decode cX6_readBody 142 = .ok (.iconst 0, 1) := by decide +kernel
theorem dX6_readBody_143 : decode cX6_readBody 143 = .ok (.bipush 9, 2) := by decide +kernel
theorem dX6_readBody_145 : decode cX6_readBody 145 = .ok (.invokevirtual 109, 3) := by decide +kernel
theorem dX6_readBody_148 : decode cX6_readBody 148 = .ok (.putfield 103, 3) := by decide +kernel
theorem dX6_readBody_151 : decode cX6_readBody 151 = .ok (.goto 15, 3) := by decide +kernel
theorem dX6_readBody_154 : decode cX6_readBody 154 = .ok (.aload_n 0, 1) := by decide +kernel
theorem dX6_readBody_155 : decode cX6_readBody 155 = .ok (.aload_n 0, 1) := by decide +kernel
theorem dX6_readBody_156 : decode cX6_readBody 156 = .ok (.bipush 9, 2) := by decide +kernel
theorem dX6_readBody_158 : decode cX6_readBody 158 = .ok (.bipush 40, 2) := by decide +kernel
theorem dX6_readBody_160 : decode cX6_readBody 160 = .ok (.invokevirtual 109, 3) := by decide +kernel
theorem dX6_readBody_163 : decode cX6_readBody 163 = .ok (.putfield 106, 3) := by decide +kernel
theorem dX6_readBody_166 : decode cX6_readBody 166 = .ok (.return_, 1) := by decide +kernel
theorem dX6_readItem_0 : decode cX6_readItem 0 = .ok (.aload_n 0, 1) := by decide +kernel
theorem dX6_readItem_1 : decode cX6_readItem 1 = .ok (.getfield 80, 3) := by decide +kernel
theorem dX6_readItem_4 : decode cX6_readItem 4 = .ok (.istore_n 1, 1) := by decide +kernel
theorem dX6_readItem_5 : decode cX6_readItem 5 = .ok (.aload_n 0, 1) := by decide +kernel
theorem dX6_readItem_6 : decode cX6_readItem 6 = .ok (.getfield 83, 3) := by decide +kernel
theorem dX6_readItem_9 : decode cX6_readItem 9 = .ok (.iconst 1, 1) := by decide +kernel
theorem dX6_readItem_10 : decode cX6_readItem 10 = .ok (.if_icmp .ne 11, 3) := by decide +kernel
theorem dX6_readItem_13 : decode cX6_readItem 13 = .ok (.aload_n 0, 1) := by decide +kernel
theorem dX6_readItem_14 : decode cX6_readItem 14 = .ok (.iload_n 1, 1) := by decide +kernel
theorem dX6_readItem_15 : decode cX6_readItem 15 = .ok (.invokevirtual 113, 3) := by decide +kernel
theorem dX6_readItem_18 : decode cX6_readItem 18 = .ok (.ifCond .ne 9, 3) := by decide +kernel
theorem dX6_readItem_21 : decode cX6_readItem 21 = .ok (.aload_n 0, 1) := by decide +kernel
theorem dX6_readItem_22 : decode cX6_readItem 22 = .ok (.iconst 1, 1) := by decide +kernel
theorem dX6_readItem_23 : decode cX6_readItem 23 = .ok (.putfield 90, 3) := by decide +kernel
theorem dX6_readItem_26 : decode cX6_readItem 26 = .ok (.return_, 1) := by decide +kernel
theorem dX6_readItem_27 : decode cX6_readItem 27 = .ok (.aload_n 0, 1) := by decide +kernel
theorem dX6_readItem_28 : decode cX6_readItem 28 = .ok (.invokevirtual 94, 3) := by decide +kernel
theorem dX6_readItem_31 : decode cX6_readItem 31 = .ok (.aload_n 0, 1) := by decide +kernel
theorem dX6_readItem_32 : decode cX6_readItem 32 = .ok (.iload_n 1, 1) := by decide +kernel
theorem dX6_readItem_33 : decode cX6_readItem 33 = .ok (.invokevirtual 116, 3) := by decide +kernel
theorem dX6_readItem_36 : decode cX6_readItem 36 = .ok (.aload_n 0, 1) := by decide +kernel
theorem dX6_readItem_37 : decode cX6_readItem 37 = .ok (.aload_n 0, 1) := by decide +kernel
theorem dX6_readItem_38 : decode cX6_readItem 38 = .ok (.getfield 90, 3) := by decide +kernel
theorem dX6_readItem_41 : decode cX6_readItem 41 = .ok (.ifCond .ne 11, 3) := by decide +kernel
theorem dX6_readItem_44 : decode cX6_readItem 44 = .ok (.aload_n 0, 1) := by decide +kernel
theorem dX6_readItem_45 : decode cX6_readItem 45 = .ok (.getfield 83, 3) := by decide +kernel
theorem dX6_readItem_48 : decode cX6_readItem 48 = .ok (.iconst 3, 1) := by decide +kernel
theorem dX6_readItem_49 : decode cX6_readItem 49 = .ok (.if_icmp .eq 7, 3) := by decide +kernel
theorem dX6_readItem_52 : decode cX6_readItem 52 = .ok (.iconst 1, 1) := by decide +kernel
theorem dX6_readItem_53 : decode cX6_readItem 53 = .ok (.goto 4, 3) := by decide +kernel
theorem dX6_readItem_56 : decode cX6_readItem 56 = .ok (.iconst 0, 1) := by decide +kernel
theorem dX6_readItem_57 : decode cX6_readItem 57 = .ok (.putfield 90, 3) := by decide +kernel
theorem dX6_readItem_60 : decode cX6_readItem 60 = .ok (.aload_n 0, 1) := by decide +kernel
theorem dX6_readItem_61 : decode cX6_readItem 61 = .ok (.getfield 90, 3) := by decide +kernel
theorem dX6_readItem_64 : decode cX6_readItem 64 = .ok (.ifCond .ne 7, 3) := by decide +kernel
theorem dX6_readItem_67 : decode cX6_readItem 67 = .ok (.aload_n 0, 1) := by decide +kernel
theorem dX6_readItem_68 : decode cX6_readItem 68 = .ok (.invokevirtual 94, 3) := by decide +kernel
theorem dX6_readItem_71 : decode cX6_readItem 71 = .ok (.return_, 1) := by decide +kernel
theorem dX6_pot_0 : decode cX6_pot 0 = .ok (.aload_n 0, 1) := by decide +kernel
theorem dX6_pot_1 : decode cX6_pot 1 = .ok (.iconst 0, 1) := by decide +kernel
theorem dX6_pot_2 : decode cX6_pot 2 = .ok (.putfield 70, 3) := by decide +kernel
theorem dX6_pot_5 : decode cX6_pot 5 = .ok (.aload_n 0, 1) := by decide +kernel
theorem dX6_pot_6 : decode cX6_pot 6 = .ok (.iconst 0, 1) := by decide +kernel
theorem dX6_pot_7 : decode cX6_pot 7 = .ok (.putfield 90, 3) := by decide +kernel
theorem dX6_pot_10 : decode cX6_pot 10 = .ok (.aload_n 0, 1) := by decide +kernel
theorem dX6_pot_11 : decode cX6_pot 11 = .ok (.iconst 0, 1) := by decide +kernel
theorem dX6_pot_12 : decode cX6_pot 12 = .ok (.putfield 120, 3) := by decide +kernel
theorem dX6_pot_15 : decode cX6_pot 15 = .ok (.aload_n 0, 1) := by decide +kernel
theorem dX6_pot_16 : decode cX6_pot 16 = .ok (.iconst 0, 1) := by decide +kernel
theorem dX6_pot_17 : decode cX6_pot 17 = .ok (.putfield 97, 3) := by decide +kernel
theorem dX6_pot_20 : decode cX6_pot 20 = .ok (.aload_n 0, 1) := by decide +kernel
theorem dX6_pot_21 : decode cX6_pot 21 = .ok (.iconst (-1), 1) := by decide +kernel
theorem dX6_pot_22 : decode cX6_pot 22 = .ok (.putfield 100, 3) := by decide +kernel
theorem dX6_pot_25 : decode cX6_pot 25 = .ok (.aload_n 0, 1) := by decide +kernel
theorem dX6_pot_26 : decode cX6_pot 26 = .ok (.iconst (-1), 1) := by decide +kernel
theorem dX6_pot_27 : decode cX6_pot 27 = .ok (.putfield 103, 3) := by decide +kernel
theorem dX6_pot_30 : decode cX6_pot 30 = .ok (.aload_n 0, 1) := by decide +kernel
theorem dX6_pot_31 : decode cX6_pot 31 = .ok (.iconst (-1), 1) := by decide +kernel
theorem dX6_pot_32 : decode cX6_pot 32 = .ok (.putfield 106, 3) := by decide +kernel
theorem dX6_pot_35 : decode cX6_pot 35 = .ok (.aload_n 0, 1) := by decide +kernel
theorem dX6_pot_36 : decode cX6_pot 36 = .ok (.invokevirtual 94, 3) := by decide +kernel
theorem dX6_pot_39 : decode cX6_pot 39 = .ok (.aload_n 0, 1) := by decide +kernel
theorem dX6_pot_40 : decode cX6_pot 40 = .ok (.getfield 83, 3) := by decide +kernel
theorem dX6_pot_43 : decode cX6_pot 43 = .ok (.ifCond .eq 27, 3) := by decide +kernel
theorem dX6_pot_46 : decode cX6_pot 46 = .ok (.aload_n 0, 1) := by decide +kernel
theorem dX6_pot_47 : decode cX6_pot 47 = .ok (.getfield 90, 3) := by decide +kernel
theorem dX6_pot_50 : decode cX6_pot 50 = .ok (.ifCond .ne 20, 3) := by decide +kernel
theorem dX6_pot_53 : decode cX6_pot 53 = .ok (.aload_n 0, 1) := by decide +kernel
theorem dX6_pot_54 : decode cX6_pot 54 = .ok (.invokevirtual 123, 3) := by decide +kernel
theorem dX6_pot_57 : decode cX6_pot 57 = .ok (.aload_n 0, 1) := by decide +kernel
theorem dX6_pot_58 : decode cX6_pot 58 = .ok (.dup, 1) := by decide +kernel
theorem dX6_pot_59 : decode cX6_pot 59 = .ok (.getfield 120, 3) := by decide +kernel
theorem dX6_pot_62 : decode cX6_pot 62 = .ok (.iconst 1, 1) := by decide +kernel
theorem dX6_pot_63 : decode cX6_pot 63 = .ok (.iadd, 1) := by decide +kernel
theorem dX6_pot_64 : decode cX6_pot 64 = .ok (.putfield 120, 3) := by decide +kernel
theorem dX6_pot_67 : decode cX6_pot 67 = .ok (.goto (-28), 3) := by decide +kernel
theorem dX6_pot_70 : decode cX6_pot 70 = .ok (.aload_n 0, 1) := by decide +kernel
theorem dX6_pot_71 : decode cX6_pot 71 = .ok (.getfield 90, 3) := by decide +kernel
theorem dX6_pot_74 : decode cX6_pot 74 = .ok (.ifCond .eq 11, 3) := by decide +kernel
theorem dX6_pot_77 : decode cX6_pot 77 = .ok (.bipush (-10), 2) := by decide +kernel
theorem dX6_pot_79 : decode cX6_pot 79 = .ok (.aload_n 0, 1) := by decide +kernel
theorem dX6_pot_80 : decode cX6_pot 80 = .ok (.getfield 77, 3) := by decide +kernel
theorem dX6_pot_83 : decode cX6_pot 83 = .ok (.isub, 1) := by decide +kernel
theorem dX6_pot_84 : decode cX6_pot 84 = .ok (.ireturn, 1) := by decide +kernel
theorem dX6_pot_85 : decode cX6_pot 85 = .ok (.aload_n 0, 1) := by decide +kernel
theorem dX6_pot_86 : decode cX6_pot 86 = .ok (.invokevirtual 126, 3) := by decide +kernel
theorem dX6_pot_89 : decode cX6_pot 89 = .ok (.aload_n 0, 1) := by decide +kernel
theorem dX6_pot_90 : decode cX6_pot 90 = .ok (.getfield 120, 3) := by decide +kernel
theorem dX6_pot_93 : decode cX6_pot 93 = .ok (.ireturn, 1) := by decide +kernel
theorem dX6_settles_0 : decode cX6_settles 0 = .ok (.aload_n 0, 1) := by decide +kernel
theorem dX6_settles_1 : decode cX6_settles 1 = .ok (.aload_n 0, 1) := by decide +kernel
theorem dX6_settles_2 : decode cX6_settles 2 = .ok (.getfield 97, 3) := by decide +kernel
theorem dX6_settles_5 : decode cX6_settles 5 = .ok (.putfield 60, 3) := by decide +kernel
theorem dX6_settles_8 : decode cX6_settles 8 = .ok (.aload_n 0, 1) := by decide +kernel
theorem dX6_settles_9 : decode cX6_settles 9 = .ok (.aload_n 0, 1) := by decide +kernel
theorem dX6_settles_10 : decode cX6_settles 10 = .ok (.getfield 100, 3) := by decide +kernel
theorem dX6_settles_13 : decode cX6_settles 13 = .ok (.ifCond .ge 7, 3) := by decide +kernel
theorem dX6_settles_16 : decode cX6_settles 16 = .ok (.iconst 3, 1) := by decide +kernel
theorem dX6_settles_17 : decode cX6_settles 17 = .ok (.goto 7, 3) := by decide +kernel
theorem dX6_settles_20 : decode cX6_settles 20 = .ok (.aload_n 0, 1) := by decide +kernel
theorem dX6_settles_21 : decode cX6_settles 21 = .ok (.getfield 100, 3) := by decide +kernel
theorem dX6_settles_24 : decode cX6_settles 24 = .ok (.putfield 19, 3) := by decide +kernel
theorem dX6_settles_27 : decode cX6_settles 27 = .ok (.aload_n 0, 1) := by decide +kernel
theorem dX6_settles_28 : decode cX6_settles 28 = .ok (.aload_n 0, 1) := by decide +kernel
theorem dX6_settles_29 : decode cX6_settles 29 = .ok (.getfield 103, 3) := by decide +kernel
theorem dX6_settles_32 : decode cX6_settles 32 = .ok (.ifCond .ge 7, 3) := by decide +kernel
theorem dX6_settles_35 : decode cX6_settles 35 = .ok (.iconst 1, 1) := by decide +kernel
theorem dX6_settles_36 : decode cX6_settles 36 = .ok (.goto 7, 3) := by decide +kernel
theorem dX6_settles_39 : decode cX6_settles 39 = .ok (.aload_n 0, 1) := by decide +kernel
theorem dX6_settles_40 : decode cX6_settles 40 = .ok (.getfield 103, 3) := by decide +kernel
theorem dX6_settles_43 : decode cX6_settles 43 = .ok (.putfield 23, 3) := by decide +kernel
theorem dX6_settles_46 : decode cX6_settles 46 = .ok (.aload_n 0, 1) := by decide +kernel
theorem dX6_settles_47 : decode cX6_settles 47 = .ok (.aload_n 0, 1) := by decide +kernel
theorem dX6_settles_48 : decode cX6_settles 48 = .ok (.getfield 106, 3) := by decide +kernel
theorem dX6_settles_51 : decode cX6_settles 51 = .ok (.ifCond .ge 8, 3) := by decide +kernel
theorem dX6_settles_54 : decode cX6_settles 54 = .ok (.bipush 20, 2) := by decide +kernel
theorem dX6_settles_56 : decode cX6_settles 56 = .ok (.goto 7, 3) := by decide +kernel
theorem dX6_settles_59 : decode cX6_settles 59 = .ok (.aload_n 0, 1) := by decide +kernel
theorem dX6_settles_60 : decode cX6_settles 60 = .ok (.getfield 106, 3) := by decide +kernel
theorem dX6_settles_63 : decode cX6_settles 63 = .ok (.putfield 26, 3) := by decide +kernel
theorem dX6_settles_66 : decode cX6_settles 66 = .ok (.aload_n 0, 1) := by decide +kernel
theorem dX6_settles_67 : decode cX6_settles 67 = .ok (.getfield 29, 3) := by decide +kernel
theorem dX6_settles_70 : decode cX6_settles 70 = .ok (.iconst 0, 1) := by decide +kernel
theorem dX6_settles_71 : decode cX6_settles 71 = .ok (.iconst 0, 1) := by decide +kernel
theorem dX6_settles_72 : decode cX6_settles 72 = .ok (.iastore, 1) := by decide +kernel
theorem dX6_settles_73 : decode cX6_settles 73 = .ok (.aload_n 0, 1) := by decide +kernel
theorem dX6_settles_74 : decode cX6_settles 74 = .ok (.getfield 29, 3) := by decide +kernel
theorem dX6_settles_77 : decode cX6_settles 77 = .ok (.iconst 1, 1) := by decide +kernel
theorem dX6_settles_78 : decode cX6_settles 78 = .ok (.aload_n 0, 1) := by decide +kernel
theorem dX6_settles_79 : decode cX6_settles 79 = .ok (.getfield 19, 3) := by decide +kernel
theorem dX6_settles_82 : decode cX6_settles 82 = .ok (.iastore, 1) := by decide +kernel
theorem dX6_settles_83 : decode cX6_settles 83 = .ok (.iconst 0, 1) := by decide +kernel
theorem dX6_settles_84 : decode cX6_settles 84 = .ok (.istore_n 1, 1) := by decide +kernel
theorem dX6_settles_85 : decode cX6_settles 85 = .ok (.iload_n 1, 1) := by decide +kernel
theorem dX6_settles_86 : decode cX6_settles 86 = .ok (.bipush 6, 2) := by decide +kernel
theorem dX6_settles_88 : decode cX6_settles 88 = .ok (.if_icmp .ge 107, 3) := by decide +kernel
theorem dX6_settles_91 : decode cX6_settles 91 = .ok (.aload_n 0, 1) := by decide +kernel
theorem dX6_settles_92 : decode cX6_settles 92 = .ok (.getfield 7, 3) := by decide +kernel
theorem dX6_settles_95 : decode cX6_settles 95 = .ok (.iload_n 1, 1) := by decide +kernel
theorem dX6_settles_96 : decode cX6_settles 96 = .ok (.aload_n 0, 1) := by decide +kernel
theorem dX6_settles_97 : decode cX6_settles 97 = .ok (.getfield 48, 3) := by decide +kernel
theorem dX6_settles_100 : decode cX6_settles 100 = .ok (.iconst 4, 1) := by decide +kernel
theorem dX6_settles_101 : decode cX6_settles 101 = .ok (.iload_n 1, 1) := by decide +kernel
theorem dX6_settles_102 : decode cX6_settles 102 = .ok (.imul, 1) := by decide +kernel
theorem dX6_settles_103 : decode cX6_settles 103 = .ok (.iaload, 1) := by decide +kernel
theorem dX6_settles_104 : decode cX6_settles 104 = .ok (.iastore, 1) := by decide +kernel
theorem dX6_settles_105 : decode cX6_settles 105 = .ok (.aload_n 0, 1) := by decide +kernel
theorem dX6_settles_106 : decode cX6_settles 106 = .ok (.getfield 13, 3) := by decide +kernel
theorem dX6_settles_109 : decode cX6_settles 109 = .ok (.iload_n 1, 1) := by decide +kernel
theorem dX6_settles_110 : decode cX6_settles 110 = .ok (.aload_n 0, 1) := by decide +kernel
theorem dX6_settles_111 : decode cX6_settles 111 = .ok (.getfield 48, 3) := by decide +kernel
theorem dX6_settles_114 : decode cX6_settles 114 = .ok (.iconst 4, 1) := by decide +kernel
theorem dX6_settles_115 : decode cX6_settles 115 = .ok (.iload_n 1, 1) := by decide +kernel
theorem dX6_settles_116 : decode cX6_settles 116 = .ok (.imul, 1) := by decide +kernel
theorem dX6_settles_117 : decode cX6_settles 117 = .ok (.iconst 2, 1) := by decide +kernel
theorem dX6_settles_118 : decode cX6_settles 118 = .ok (.iadd, 1) := by decide +kernel
theorem dX6_settles_119 : decode cX6_settles 119 = .ok (.iaload, 1) := by decide +kernel
theorem dX6_settles_120 : decode cX6_settles 120 = .ok (.iastore, 1) := by decide +kernel
theorem dX6_settles_121 : decode cX6_settles 121 = .ok (.aload_n 0, 1) := by decide +kernel
theorem dX6_settles_122 : decode cX6_settles 122 = .ok (.getfield 16, 3) := by decide +kernel
theorem dX6_settles_125 : decode cX6_settles 125 = .ok (.iload_n 1, 1) := by decide +kernel
theorem dX6_settles_126 : decode cX6_settles 126 = .ok (.aload_n 0, 1) := by decide +kernel
theorem dX6_settles_127 : decode cX6_settles 127 = .ok (.getfield 48, 3) := by decide +kernel
theorem dX6_settles_130 : decode cX6_settles 130 = .ok (.iconst 4, 1) := by decide +kernel
theorem dX6_settles_131 : decode cX6_settles 131 = .ok (.iload_n 1, 1) := by decide +kernel
theorem dX6_settles_132 : decode cX6_settles 132 = .ok (.imul, 1) := by decide +kernel
theorem dX6_settles_133 : decode cX6_settles 133 = .ok (.iconst 3, 1) := by decide +kernel
theorem dX6_settles_134 : decode cX6_settles 134 = .ok (.iadd, 1) := by decide +kernel
theorem dX6_settles_135 : decode cX6_settles 135 = .ok (.iaload, 1) := by decide +kernel
theorem dX6_settles_136 : decode cX6_settles 136 = .ok (.iastore, 1) := by decide +kernel
theorem dX6_settles_137 : decode cX6_settles 137 = .ok (.aload_n 0, 1) := by decide +kernel
theorem dX6_settles_138 : decode cX6_settles 138 = .ok (.getfield 29, 3) := by decide +kernel
theorem dX6_settles_141 : decode cX6_settles 141 = .ok (.iconst 2, 1) := by decide +kernel
theorem dX6_settles_142 : decode cX6_settles 142 = .ok (.iload_n 1, 1) := by decide +kernel
theorem dX6_settles_143 : decode cX6_settles 143 = .ok (.iadd, 1) := by decide +kernel
theorem dX6_settles_144 : decode cX6_settles 144 = .ok (.bipush (-9), 2) := by decide +kernel
theorem dX6_settles_146 : decode cX6_settles 146 = .ok (.iastore, 1) := by decide +kernel
theorem dX6_settles_147 : decode cX6_settles 147 = .ok (.aload_n 0, 1) := by decide +kernel
theorem dX6_settles_148 : decode cX6_settles 148 = .ok (.getfield 29, 3) := by decide +kernel
theorem dX6_settles_151 : decode cX6_settles 151 = .ok (.bipush 8, 2) := by decide +kernel
theorem dX6_settles_153 : decode cX6_settles 153 = .ok (.iload_n 1, 1) := by decide +kernel
theorem dX6_settles_154 : decode cX6_settles 154 = .ok (.iadd, 1) := by decide +kernel
theorem dX6_settles_155 : decode cX6_settles 155 = .ok (.aload_n 0, 1) := by decide +kernel
theorem dX6_settles_156 : decode cX6_settles 156 = .ok (.getfield 48, 3) := by decide +kernel
theorem dX6_settles_159 : decode cX6_settles 159 = .ok (.iconst 4, 1) := by decide +kernel
theorem dX6_settles_160 : decode cX6_settles 160 = .ok (.iload_n 1, 1) := by decide +kernel
theorem dX6_settles_161 : decode cX6_settles 161 = .ok (.imul, 1) := by decide +kernel
theorem dX6_settles_162 : decode cX6_settles 162 = .ok (.iconst 1, 1) := by decide +kernel
theorem dX6_settles_163 : decode cX6_settles 163 = .ok (.iadd, 1) := by decide +kernel
theorem dX6_settles_164 : decode cX6_settles 164 = .ok (.iaload, 1) := by decide +kernel
theorem dX6_settles_165 : decode cX6_settles 165 = .ok (.iastore, 1) := by decide +kernel
theorem dX6_settles_166 : decode cX6_settles 166 = .ok (.aload_n 0, 1) := by decide +kernel
theorem dX6_settles_167 : decode cX6_settles 167 = .ok (.getfield 29, 3) := by decide +kernel
theorem dX6_settles_170 : decode cX6_settles 170 = .ok (.bipush 14, 2) := by decide +kernel
theorem dX6_settles_172 : decode cX6_settles 172 = .ok (.iload_n 1, 1) := by decide +kernel
theorem dX6_settles_173 : decode cX6_settles 173 = .ok (.iadd, 1) := by decide +kernel
theorem dX6_settles_174 : decode cX6_settles 174 = .ok (.iconst 1, 1) := by decide +kernel
theorem dX6_settles_175 : decode cX6_settles 175 = .ok (.iload_n 1, 1) := by decide +kernel
theorem dX6_settles_176 : decode cX6_settles 176 = .ok (.ishl, 1) := by decide +kernel
theorem dX6_settles_177 : decode cX6_settles 177 = .ok (.iastore, 1) := by decide +kernel
theorem dX6_settles_178 : decode cX6_settles 178 = .ok (.aload_n 0, 1) := by decide +kernel
theorem dX6_settles_179 : decode cX6_settles 179 = .ok (.getfield 29, 3) := by decide +kernel
theorem dX6_settles_182 : decode cX6_settles 182 = .ok (.bipush 20, 2) := by decide +kernel
theorem dX6_settles_184 : decode cX6_settles 184 = .ok (.iload_n 1, 1) := by decide +kernel
theorem dX6_settles_185 : decode cX6_settles 185 = .ok (.iadd, 1) := by decide +kernel
theorem dX6_settles_186 : decode cX6_settles 186 = .ok (.bipush (-9), 2) := by decide +kernel
theorem dX6_settles_188 : decode cX6_settles 188 = .ok (.iastore, 1) := by decide +kernel
theorem dX6_settles_189 : decode cX6_settles 189 = .ok (.iinc 1 1, 3) := by decide +kernel
theorem dX6_settles_192 : decode cX6_settles 192 = .ok (.goto (-107), 3) := by decide +kernel
theorem dX6_settles_195 : decode cX6_settles 195 = .ok (.aload_n 0, 1) := by decide +kernel
theorem dX6_settles_196 : decode cX6_settles 196 = .ok (.iconst 0, 1) := by decide +kernel
theorem dX6_settles_197 : decode cX6_settles 197 = .ok (.putfield 129, 3) := by decide +kernel
theorem dX6_settles_200 : decode cX6_settles 200 = .ok (.aload_n 0, 1) := by decide +kernel
theorem dX6_settles_201 : decode cX6_settles 201 = .ok (.iconst 0, 1) := by decide +kernel
theorem dX6_settles_202 : decode cX6_settles 202 = .ok (.putfield 132, 3) := by decide +kernel
theorem dX6_settles_205 : decode cX6_settles 205 = .ok (.aload_n 0, 1) := by decide +kernel
theorem dX6_settles_206 : decode cX6_settles 206 = .ok (.getfield 38, 3) := by decide +kernel
theorem dX6_settles_209 : decode cX6_settles 209 = .ok (.iconst 0, 1) := by decide +kernel
theorem dX6_settles_210 : decode cX6_settles 210 = .ok (.iconst 0, 1) := by decide +kernel
theorem dX6_settles_211 : decode cX6_settles 211 = .ok (.bastore, 1) := by decide +kernel
theorem dX6_settles_212 : decode cX6_settles 212 = .ok (.aload_n 0, 1) := by decide +kernel
theorem dX6_settles_213 : decode cX6_settles 213 = .ok (.getfield 38, 3) := by decide +kernel
theorem dX6_settles_216 : decode cX6_settles 216 = .ok (.iconst 1, 1) := by decide +kernel
theorem dX6_settles_217 : decode cX6_settles 217 = .ok (.iconst 0, 1) := by decide +kernel
theorem dX6_settles_218 : decode cX6_settles 218 = .ok (.bastore, 1) := by decide +kernel
theorem dX6_settles_219 : decode cX6_settles 219 = .ok (.aload_n 0, 1) := by decide +kernel
theorem dX6_settles_220 : decode cX6_settles 220 = .ok (.iconst 0, 1) := by decide +kernel
theorem dX6_settles_221 : decode cX6_settles 221 = .ok (.putfield 67, 3) := by decide +kernel
theorem dX6_settles_224 : decode cX6_settles 224 = .ok (.return_, 1) := by decide +kernel
theorem dX6_asItIs_0 : decode cX6_asItIs 0 = .ok (.aload_n 0, 1) := by decide +kernel
theorem dX6_asItIs_1 : decode cX6_asItIs 1 = .ok (.getfield 51, 3) := by decide +kernel
theorem dX6_asItIs_4 : decode cX6_asItIs 4 = .ok (.iconst 0, 1) := by decide +kernel
theorem dX6_asItIs_5 : decode cX6_asItIs 5 = .ok (.aload_n 0, 1) := by decide +kernel
theorem dX6_asItIs_6 : decode cX6_asItIs 6 = .ok (.getfield 29, 3) := by decide +kernel
theorem dX6_asItIs_9 : decode cX6_asItIs 9 = .ok (.iconst 0, 1) := by decide +kernel
theorem dX6_asItIs_10 : decode cX6_asItIs 10 = .ok (.invokestatic 135, 3) := by decide +kernel
theorem dX6_asItIs_13 : decode cX6_asItIs 13 = .ok (.return_, 1) := by decide +kernel
theorem dX6_swell_0 : decode cX6_swell 0 = .ok (.iconst 0, 1) := by decide +kernel
theorem dX6_swell_1 : decode cX6_swell 1 = .ok (.istore_n 1, 1) := by decide +kernel
theorem dX6_swell_2 : decode cX6_swell 2 = .ok (.iload_n 1, 1) := by decide +kernel
theorem dX6_swell_3 : decode cX6_swell 3 = .ok (.aload_n 0, 1) := by decide +kernel
theorem dX6_swell_4 : decode cX6_swell 4 = .ok (.getfield 60, 3) := by decide +kernel
theorem dX6_swell_7 : decode cX6_swell 7 = .ok (.if_icmp .ge 72, 3) := by decide +kernel
theorem dX6_swell_10 : decode cX6_swell 10 = .ok (.aload_n 0, 1) := by decide +kernel
theorem dX6_swell_11 : decode cX6_swell 11 = .ok (.getfield 51, 3) := by decide +kernel
theorem dX6_swell_14 : decode cX6_swell 14 = .ok (.bipush 8, 2) := by decide +kernel
theorem dX6_swell_16 : decode cX6_swell 16 = .ok (.iload_n 1, 1) := by decide +kernel
theorem dX6_swell_17 : decode cX6_swell 17 = .ok (.iadd, 1) := by decide +kernel
theorem dX6_swell_18 : decode cX6_swell 18 = .ok (.iaload, 1) := by decide +kernel
theorem dX6_swell_19 : decode cX6_swell 19 = .ok (.aload_n 0, 1) := by decide +kernel
theorem dX6_swell_20 : decode cX6_swell 20 = .ok (.getfield 13, 3) := by decide +kernel
theorem dX6_swell_23 : decode cX6_swell 23 = .ok (.iload_n 1, 1) := by decide +kernel
theorem dX6_swell_24 : decode cX6_swell 24 = .ok (.iaload, 1) := by decide +kernel
theorem dX6_swell_25 : decode cX6_swell 25 = .ok (.iadd, 1) := by decide +kernel
theorem dX6_swell_26 : decode cX6_swell 26 = .ok (.istore_n 2, 1) := by decide +kernel
theorem dX6_swell_27 : decode cX6_swell 27 = .ok (.aload_n 0, 1) := by decide +kernel
theorem dX6_swell_28 : decode cX6_swell 28 = .ok (.getfield 51, 3) := by decide +kernel
theorem dX6_swell_31 : decode cX6_swell 31 = .ok (.bipush 8, 2) := by decide +kernel
theorem dX6_swell_33 : decode cX6_swell 33 = .ok (.iload_n 1, 1) := by decide +kernel
theorem dX6_swell_34 : decode cX6_swell 34 = .ok (.iadd, 1) := by decide +kernel
theorem dX6_swell_35 : decode cX6_swell 35 = .ok (.aload_n 0, 1) := by decide +kernel
theorem dX6_swell_36 : decode cX6_swell 36 = .ok (.getfield 51, 3) := by decide +kernel
theorem dX6_swell_39 : decode cX6_swell 39 = .ok (.iconst 2, 1) := by decide +kernel
theorem dX6_swell_40 : decode cX6_swell 40 = .ok (.iload_n 1, 1) := by decide +kernel
theorem dX6_swell_41 : decode cX6_swell 41 = .ok (.iadd, 1) := by decide +kernel
theorem dX6_swell_42 : decode cX6_swell 42 = .ok (.iaload, 1) := by decide +kernel
theorem dX6_swell_43 : decode cX6_swell 43 = .ok (.bipush (-9), 2) := by decide +kernel
theorem dX6_swell_45 : decode cX6_swell 45 = .ok (.if_icmp .ne 15, 3) := by decide +kernel
theorem dX6_swell_48 : decode cX6_swell 48 = .ok (.aload_n 0, 1) := by decide +kernel
theorem dX6_swell_49 : decode cX6_swell 49 = .ok (.getfield 51, 3) := by decide +kernel
theorem dX6_swell_52 : decode cX6_swell 52 = .ok (.bipush 8, 2) := by decide +kernel
theorem dX6_swell_54 : decode cX6_swell 54 = .ok (.iload_n 1, 1) := by decide +kernel
theorem dX6_swell_55 : decode cX6_swell 55 = .ok (.iadd, 1) := by decide +kernel
theorem dX6_swell_56 : decode cX6_swell 56 = .ok (.iaload, 1) := by decide +kernel
theorem dX6_swell_57 : decode cX6_swell 57 = .ok (.goto 15, 3) := by decide +kernel
theorem dX6_swell_60 : decode cX6_swell 60 = .ok (.iload_n 2, 1) := by decide +kernel
theorem dX6_swell_61 : decode cX6_swell 61 = .ok (.bipush 30, 2) := by decide +kernel
theorem dX6_swell_63 : decode cX6_swell 63 = .ok (.if_icmp .le 8, 3) := by decide +kernel
theorem dX6_swell_66 : decode cX6_swell 66 = .ok (.bipush 30, 2) := by decide +kernel
theorem dX6_swell_68 : decode cX6_swell 68 = .ok (.goto 4, 3) := by decide +kernel
theorem dX6_swell_71 : decode cX6_swell 71 = .ok (.iload_n 2, 1) := by decide +kernel
theorem dX6_swell_72 : decode cX6_swell 72 = .ok (.iastore, 1) := by decide +kernel
theorem dX6_swell_73 : decode cX6_swell 73 = .ok (.iinc 1 1, 3) := by decide +kernel
theorem dX6_swell_76 : decode cX6_swell 76 = .ok (.goto (-74), 3) := by decide +kernel
theorem dX6_swell_79 : decode cX6_swell 79 = .ok (.return_, 1) := by decide +kernel
theorem dX6_lift_0 : decode cX6_lift 0 = .ok (.iconst 0, 1) := by decide +kernel
theorem dX6_lift_1 : decode cX6_lift 1 = .ok (.istore_n 2, 1) := by decide +kernel
theorem dX6_lift_2 : decode cX6_lift 2 = .ok (.iconst 0, 1) := by decide +kernel
theorem dX6_lift_3 : decode cX6_lift 3 = .ok (.istore_n 3, 1) := by decide +kernel
theorem dX6_lift_4 : decode cX6_lift 4 = .ok (.iload_n 3, 1) := by decide +kernel
theorem dX6_lift_5 : decode cX6_lift 5 = .ok (.aload_n 0, 1) := by decide +kernel
theorem dX6_lift_6 : decode cX6_lift 6 = .ok (.getfield 60, 3) := by decide +kernel
theorem dX6_lift_9 : decode cX6_lift 9 = .ok (.if_icmp .ge 47, 3) := by decide +kernel
theorem dX6_lift_12 : decode cX6_lift 12 = .ok (.iload_n 2, 1) := by decide +kernel
theorem dX6_lift_13 : decode cX6_lift 13 = .ok (.iload_n 1, 1) := by decide +kernel
theorem dX6_lift_14 : decode cX6_lift 14 = .ok (.iload_n 3, 1) := by decide +kernel
theorem dX6_lift_15 : decode cX6_lift 15 = .ok (.invokestatic 139, 3) := by decide +kernel
theorem dX6_lift_18 : decode cX6_lift 18 = .ok (.ifCond .eq 29, 3) := by decide +kernel
theorem dX6_lift_21 : decode cX6_lift 21 = .ok (.aload_n 0, 1) := by decide +kernel
theorem dX6_lift_22 : decode cX6_lift 22 = .ok (.getfield 51, 3) := by decide +kernel
theorem dX6_lift_25 : decode cX6_lift 25 = .ok (.bipush 8, 2) := by decide +kernel
theorem dX6_lift_27 : decode cX6_lift 27 = .ok (.iload_n 3, 1) := by decide +kernel
theorem dX6_lift_28 : decode cX6_lift 28 = .ok (.iadd, 1) := by decide +kernel
theorem dX6_lift_29 : decode cX6_lift 29 = .ok (.iaload, 1) := by decide +kernel
theorem dX6_lift_30 : decode cX6_lift 30 = .ok (.aload_n 0, 1) := by decide +kernel
theorem dX6_lift_31 : decode cX6_lift 31 = .ok (.getfield 51, 3) := by decide +kernel
theorem dX6_lift_34 : decode cX6_lift 34 = .ok (.iconst 1, 1) := by decide +kernel
theorem dX6_lift_35 : decode cX6_lift 35 = .ok (.iaload, 1) := by decide +kernel
theorem dX6_lift_36 : decode cX6_lift 36 = .ok (.iadd, 1) := by decide +kernel
theorem dX6_lift_37 : decode cX6_lift 37 = .ok (.aload_n 0, 1) := by decide +kernel
theorem dX6_lift_38 : decode cX6_lift 38 = .ok (.getfield 7, 3) := by decide +kernel
theorem dX6_lift_41 : decode cX6_lift 41 = .ok (.iload_n 3, 1) := by decide +kernel
theorem dX6_lift_42 : decode cX6_lift 42 = .ok (.iaload, 1) := by decide +kernel
theorem dX6_lift_43 : decode cX6_lift 43 = .ok (.isub, 1) := by decide +kernel
theorem dX6_lift_44 : decode cX6_lift 44 = .ok (.goto 4, 3) := by decide +kernel
theorem dX6_lift_47 : decode cX6_lift 47 = .ok (.iconst 0, 1) := by decide +kernel
theorem dX6_lift_48 : decode cX6_lift 48 = .ok (.iadd, 1) := by decide +kernel
theorem dX6_lift_49 : decode cX6_lift 49 = .ok (.istore_n 2, 1) := by decide +kernel
theorem dX6_lift_50 : decode cX6_lift 50 = .ok (.iinc 3 1, 3) := by decide +kernel
theorem dX6_lift_53 : decode cX6_lift 53 = .ok (.goto (-49), 3) := by decide +kernel
theorem dX6_lift_56 : decode cX6_lift 56 = .ok (.iload_n 2, 1) := by decide +kernel
theorem dX6_lift_57 : decode cX6_lift 57 = .ok (.ireturn, 1) := by decide +kernel
theorem dX6_floats_0 : decode cX6_floats 0 = .ok (.iconst 0, 1) := by decide +kernel
theorem dX6_floats_1 : decode cX6_floats 1 = .ok (.istore_n 1, 1) := by decide +kernel
theorem dX6_floats_2 : decode cX6_floats 2 = .ok (.iload_n 1, 1) := by decide +kernel
theorem dX6_floats_3 : decode cX6_floats 3 = .ok (.aload_n 0, 1) := by decide +kernel
theorem dX6_floats_4 : decode cX6_floats 4 = .ok (.getfield 60, 3) := by decide +kernel
theorem dX6_floats_7 : decode cX6_floats 7 = .ok (.if_icmp .ge 91, 3) := by decide +kernel
theorem dX6_floats_10 : decode cX6_floats 10 = .ok (.aload_n 0, 1) := by decide +kernel
theorem dX6_floats_11 : decode cX6_floats 11 = .ok (.aload_n 0, 1) := by decide +kernel
theorem dX6_floats_12 : decode cX6_floats 12 = .ok (.getfield 51, 3) := by decide +kernel
theorem dX6_floats_15 : decode cX6_floats 15 = .ok (.bipush 14, 2) := by decide +kernel
theorem dX6_floats_17 : decode cX6_floats 17 = .ok (.iload_n 1, 1) := by decide +kernel
theorem dX6_floats_18 : decode cX6_floats 18 = .ok (.iadd, 1) := by decide +kernel
theorem dX6_floats_19 : decode cX6_floats 19 = .ok (.iaload, 1) := by decide +kernel
theorem dX6_floats_20 : decode cX6_floats 20 = .ok (.invokevirtual 143, 3) := by decide +kernel
theorem dX6_floats_23 : decode cX6_floats 23 = .ok (.istore_n 2, 1) := by decide +kernel
theorem dX6_floats_24 : decode cX6_floats 24 = .ok (.aload_n 0, 1) := by decide +kernel
theorem dX6_floats_25 : decode cX6_floats 25 = .ok (.getfield 51, 3) := by decide +kernel
theorem dX6_floats_28 : decode cX6_floats 28 = .ok (.iconst 2, 1) := by decide +kernel
theorem dX6_floats_29 : decode cX6_floats 29 = .ok (.iload_n 1, 1) := by decide +kernel
theorem dX6_floats_30 : decode cX6_floats 30 = .ok (.iadd, 1) := by decide +kernel
theorem dX6_floats_31 : decode cX6_floats 31 = .ok (.iaload, 1) := by decide +kernel
theorem dX6_floats_32 : decode cX6_floats 32 = .ok (.bipush (-9), 2) := by decide +kernel
theorem dX6_floats_34 : decode cX6_floats 34 = .ok (.if_icmp .eq 58, 3) := by decide +kernel
theorem dX6_floats_37 : decode cX6_floats 37 = .ok (.aload_n 0, 1) := by decide +kernel
theorem dX6_floats_38 : decode cX6_floats 38 = .ok (.getfield 51, 3) := by decide +kernel
theorem dX6_floats_41 : decode cX6_floats 41 = .ok (.iconst 2, 1) := by decide +kernel
theorem dX6_floats_42 : decode cX6_floats 42 = .ok (.iload_n 1, 1) := by decide +kernel
theorem dX6_floats_43 : decode cX6_floats 43 = .ok (.iadd, 1) := by decide +kernel
theorem dX6_floats_44 : decode cX6_floats 44 = .ok (.iaload, 1) := by decide +kernel
theorem dX6_floats_45 : decode cX6_floats 45 = .ok (.iload_n 2, 1) := by decide +kernel
theorem dX6_floats_46 : decode cX6_floats 46 = .ok (.ifCond .le 7, 3) := by decide +kernel
theorem dX6_floats_49 : decode cX6_floats 49 = .ok (.iconst 1, 1) := by decide +kernel
theorem dX6_floats_50 : decode cX6_floats 50 = .ok (.goto 12, 3) := by decide +kernel
theorem dX6_floats_53 : decode cX6_floats 53 = .ok (.iload_n 2, 1) := by decide +kernel
theorem dX6_floats_54 : decode cX6_floats 54 = .ok (.ifCond .ge 7, 3) := by decide +kernel
theorem dX6_floats_57 : decode cX6_floats 57 = .ok (.iconst (-1), 1) := by decide +kernel
theorem dX6_floats_58 : decode cX6_floats 58 = .ok (.goto 4, 3) := by decide +kernel
theorem dX6_floats_61 : decode cX6_floats 61 = .ok (.iconst 0, 1) := by decide +kernel
theorem dX6_floats_62 : decode cX6_floats 62 = .ok (.isub, 1) := by decide +kernel
theorem dX6_floats_63 : decode cX6_floats 63 = .ok (.istore_n 3, 1) := by decide +kernel
theorem dX6_floats_64 : decode cX6_floats 64 = .ok (.aload_n 0, 1) := by decide +kernel
theorem dX6_floats_65 : decode cX6_floats 65 = .ok (.getfield 51, 3) := by decide +kernel
theorem dX6_floats_68 : decode cX6_floats 68 = .ok (.iconst 2, 1) := by decide +kernel
theorem dX6_floats_69 : decode cX6_floats 69 = .ok (.iload_n 1, 1) := by decide +kernel
theorem dX6_floats_70 : decode cX6_floats 70 = .ok (.iadd, 1) := by decide +kernel
theorem dX6_floats_71 : decode cX6_floats 71 = .ok (.iload_n 3, 1) := by decide +kernel
theorem dX6_floats_72 : decode cX6_floats 72 = .ok (.ifCond .ge 7, 3) := by decide +kernel
theorem dX6_floats_75 : decode cX6_floats 75 = .ok (.iconst 0, 1) := by decide +kernel
theorem dX6_floats_76 : decode cX6_floats 76 = .ok (.goto 15, 3) := by decide +kernel
theorem dX6_floats_79 : decode cX6_floats 79 = .ok (.iload_n 3, 1) := by decide +kernel
theorem dX6_floats_80 : decode cX6_floats 80 = .ok (.bipush 10, 2) := by decide +kernel
theorem dX6_floats_82 : decode cX6_floats 82 = .ok (.if_icmp .le 8, 3) := by decide +kernel
theorem dX6_floats_85 : decode cX6_floats 85 = .ok (.bipush 10, 2) := by decide +kernel
theorem dX6_floats_87 : decode cX6_floats 87 = .ok (.goto 4, 3) := by decide +kernel
theorem dX6_floats_90 : decode cX6_floats 90 = .ok (.iload_n 3, 1) := by decide +kernel
theorem dX6_floats_91 : decode cX6_floats 91 = .ok (.iastore, 1) := by decide +kernel
theorem dX6_floats_92 : decode cX6_floats 92 = .ok (.iinc 1 1, 3) := by decide +kernel
theorem dX6_floats_95 : decode cX6_floats 95 = .ok (.goto (-93), 3) := by decide +kernel
theorem dX6_floats_98 : decode cX6_floats 98 = .ok (.return_, 1) := by decide +kernel
theorem dX6_stick_0 : decode cX6_stick 0 = .ok (.iconst 0, 1) := by decide +kernel
theorem dX6_stick_1 : decode cX6_stick 1 = .ok (.istore_n 1, 1) := by decide +kernel
theorem dX6_stick_2 : decode cX6_stick 2 = .ok (.iload_n 1, 1) := by decide +kernel
theorem dX6_stick_3 : decode cX6_stick 3 = .ok (.aload_n 0, 1) := by decide +kernel
theorem dX6_stick_4 : decode cX6_stick 4 = .ok (.getfield 60, 3) := by decide +kernel
theorem dX6_stick_7 : decode cX6_stick 7 = .ok (.if_icmp .ge 150, 3) := by decide +kernel
theorem dX6_stick_10 : decode cX6_stick 10 = .ok (.iload_n 1, 1) := by decide +kernel
theorem dX6_stick_11 : decode cX6_stick 11 = .ok (.iconst 1, 1) := by decide +kernel
theorem dX6_stick_12 : decode cX6_stick 12 = .ok (.iadd, 1) := by decide +kernel
theorem dX6_stick_13 : decode cX6_stick 13 = .ok (.istore_n 2, 1) := by decide +kernel
theorem dX6_stick_14 : decode cX6_stick 14 = .ok (.iload_n 2, 1) := by decide +kernel
theorem dX6_stick_15 : decode cX6_stick 15 = .ok (.aload_n 0, 1) := by decide +kernel
theorem dX6_stick_16 : decode cX6_stick 16 = .ok (.getfield 60, 3) := by decide +kernel
theorem dX6_stick_19 : decode cX6_stick 19 = .ok (.if_icmp .ge 132, 3) := by decide +kernel
theorem dX6_stick_22 : decode cX6_stick 22 = .ok (.aload_n 0, 1) := by decide +kernel
theorem dX6_stick_23 : decode cX6_stick 23 = .ok (.getfield 51, 3) := by decide +kernel
theorem dX6_stick_26 : decode cX6_stick 26 = .ok (.bipush 8, 2) := by decide +kernel
theorem dX6_stick_28 : decode cX6_stick 28 = .ok (.iload_n 1, 1) := by decide +kernel
theorem dX6_stick_29 : decode cX6_stick 29 = .ok (.iadd, 1) := by decide +kernel
theorem dX6_stick_30 : decode cX6_stick 30 = .ok (.iaload, 1) := by decide +kernel
theorem dX6_stick_31 : decode cX6_stick 31 = .ok (.aload_n 0, 1) := by decide +kernel
theorem dX6_stick_32 : decode cX6_stick 32 = .ok (.getfield 51, 3) := by decide +kernel
theorem dX6_stick_35 : decode cX6_stick 35 = .ok (.bipush 8, 2) := by decide +kernel
theorem dX6_stick_37 : decode cX6_stick 37 = .ok (.iload_n 2, 1) := by decide +kernel
theorem dX6_stick_38 : decode cX6_stick 38 = .ok (.iadd, 1) := by decide +kernel
theorem dX6_stick_39 : decode cX6_stick 39 = .ok (.iaload, 1) := by decide +kernel
theorem dX6_stick_40 : decode cX6_stick 40 = .ok (.isub, 1) := by decide +kernel
theorem dX6_stick_41 : decode cX6_stick 41 = .ok (.istore_n 3, 1) := by decide +kernel
theorem dX6_stick_42 : decode cX6_stick 42 = .ok (.aload_n 0, 1) := by decide +kernel
theorem dX6_stick_43 : decode cX6_stick 43 = .ok (.getfield 51, 3) := by decide +kernel
theorem dX6_stick_46 : decode cX6_stick 46 = .ok (.iconst 2, 1) := by decide +kernel
theorem dX6_stick_47 : decode cX6_stick 47 = .ok (.iload_n 1, 1) := by decide +kernel
theorem dX6_stick_48 : decode cX6_stick 48 = .ok (.iadd, 1) := by decide +kernel
theorem dX6_stick_49 : decode cX6_stick 49 = .ok (.iaload, 1) := by decide +kernel
theorem dX6_stick_50 : decode cX6_stick 50 = .ok (.aload_n 0, 1) := by decide +kernel
theorem dX6_stick_51 : decode cX6_stick 51 = .ok (.getfield 51, 3) := by decide +kernel
theorem dX6_stick_54 : decode cX6_stick 54 = .ok (.iconst 2, 1) := by decide +kernel
theorem dX6_stick_55 : decode cX6_stick 55 = .ok (.iload_n 2, 1) := by decide +kernel
theorem dX6_stick_56 : decode cX6_stick 56 = .ok (.iadd, 1) := by decide +kernel
theorem dX6_stick_57 : decode cX6_stick 57 = .ok (.iaload, 1) := by decide +kernel
theorem dX6_stick_58 : decode cX6_stick 58 = .ok (.if_icmp .ne 56, 3) := by decide +kernel
theorem dX6_stick_61 : decode cX6_stick 61 = .ok (.aload_n 0, 1) := by decide +kernel
theorem dX6_stick_62 : decode cX6_stick 62 = .ok (.getfield 51, 3) := by decide +kernel
theorem dX6_stick_65 : decode cX6_stick 65 = .ok (.iconst 2, 1) := by decide +kernel
theorem dX6_stick_66 : decode cX6_stick 66 = .ok (.iload_n 1, 1) := by decide +kernel
theorem dX6_stick_67 : decode cX6_stick 67 = .ok (.iadd, 1) := by decide +kernel
theorem dX6_stick_68 : decode cX6_stick 68 = .ok (.iaload, 1) := by decide +kernel
theorem dX6_stick_69 : decode cX6_stick 69 = .ok (.iconst 1, 1) := by decide +kernel
theorem dX6_stick_70 : decode cX6_stick 70 = .ok (.bipush 9, 2) := by decide +kernel
theorem dX6_stick_72 : decode cX6_stick 72 = .ok (.invokestatic 63, 3) := by decide +kernel
theorem dX6_stick_75 : decode cX6_stick 75 = .ok (.ifCond .eq 39, 3) := by decide +kernel
theorem dX6_stick_78 : decode cX6_stick 78 = .ok (.iload_n 3, 1) := by decide +kernel
theorem dX6_stick_79 : decode cX6_stick 79 = .ok (.aload_n 0, 1) := by decide +kernel
theorem dX6_stick_80 : decode cX6_stick 80 = .ok (.getfield 23, 3) := by decide +kernel
theorem dX6_stick_83 : decode cX6_stick 83 = .ok (.ineg, 1) := by decide +kernel
theorem dX6_stick_84 : decode cX6_stick 84 = .ok (.aload_n 0, 1) := by decide +kernel
theorem dX6_stick_85 : decode cX6_stick 85 = .ok (.getfield 23, 3) := by decide +kernel
theorem dX6_stick_88 : decode cX6_stick 88 = .ok (.invokestatic 63, 3) := by decide +kernel
theorem dX6_stick_91 : decode cX6_stick 91 = .ok (.ifCond .eq 23, 3) := by decide +kernel
theorem dX6_stick_94 : decode cX6_stick 94 = .ok (.aload_n 0, 1) := by decide +kernel
theorem dX6_stick_95 : decode cX6_stick 95 = .ok (.getfield 51, 3) := by decide +kernel
theorem dX6_stick_98 : decode cX6_stick 98 = .ok (.bipush 14, 2) := by decide +kernel
theorem dX6_stick_100 : decode cX6_stick 100 = .ok (.iload_n 1, 1) := by decide +kernel
theorem dX6_stick_101 : decode cX6_stick 101 = .ok (.iadd, 1) := by decide +kernel
theorem dX6_stick_102 : decode cX6_stick 102 = .ok (.iaload, 1) := by decide +kernel
theorem dX6_stick_103 : decode cX6_stick 103 = .ok (.iload_n 2, 1) := by decide +kernel
theorem dX6_stick_104 : decode cX6_stick 104 = .ok (.invokestatic 139, 3) := by decide +kernel
theorem dX6_stick_107 : decode cX6_stick 107 = .ok (.ifCond .ne 7, 3) := by decide +kernel
theorem dX6_stick_110 : decode cX6_stick 110 = .ok (.iconst 1, 1) := by decide +kernel
theorem dX6_stick_111 : decode cX6_stick 111 = .ok (.goto 4, 3) := by decide +kernel
theorem dX6_stick_114 : decode cX6_stick 114 = .ok (.iconst 0, 1) := by decide +kernel
theorem dX6_stick_115 : decode cX6_stick 115 = .ok (.istore 4, 2) := by decide +kernel
theorem dX6_stick_117 : decode cX6_stick 117 = .ok (.iload 4, 2) := by decide +kernel
theorem dX6_stick_119 : decode cX6_stick 119 = .ok (.ifCond .eq 26, 3) := by decide +kernel
theorem dX6_stick_122 : decode cX6_stick 122 = .ok (.aload_n 0, 1) := by decide +kernel
theorem dX6_stick_123 : decode cX6_stick 123 = .ok (.aload_n 0, 1) := by decide +kernel
theorem dX6_stick_124 : decode cX6_stick 124 = .ok (.getfield 51, 3) := by decide +kernel
theorem dX6_stick_127 : decode cX6_stick 127 = .ok (.bipush 14, 2) := by decide +kernel
theorem dX6_stick_129 : decode cX6_stick 129 = .ok (.iload_n 1, 1) := by decide +kernel
theorem dX6_stick_130 : decode cX6_stick 130 = .ok (.iadd, 1) := by decide +kernel
theorem dX6_stick_131 : decode cX6_stick 131 = .ok (.iaload, 1) := by decide +kernel
theorem dX6_stick_132 : decode cX6_stick 132 = .ok (.aload_n 0, 1) := by decide +kernel
theorem dX6_stick_133 : decode cX6_stick 133 = .ok (.getfield 51, 3) := by decide +kernel
theorem dX6_stick_136 : decode cX6_stick 136 = .ok (.bipush 14, 2) := by decide +kernel
theorem dX6_stick_138 : decode cX6_stick 138 = .ok (.iload_n 2, 1) := by decide +kernel
theorem dX6_stick_139 : decode cX6_stick 139 = .ok (.iadd, 1) := by decide +kernel
theorem dX6_stick_140 : decode cX6_stick 140 = .ok (.iaload, 1) := by decide +kernel
theorem dX6_stick_141 : decode cX6_stick 141 = .ok (.ior, 1) := by decide +kernel
theorem dX6_stick_142 : decode cX6_stick 142 = .ok (.invokevirtual 146, 3) := by decide +kernel
theorem dX6_stick_145 : decode cX6_stick 145 = .ok (.iinc 2 1, 3) := by decide +kernel
theorem dX6_stick_148 : decode cX6_stick 148 = .ok (.goto (-134), 3) := by decide +kernel
theorem dX6_stick_151 : decode cX6_stick 151 = .ok (.iinc 1 1, 3) := by decide +kernel
theorem dX6_stick_154 : decode cX6_stick 154 = .ok (.goto (-152), 3) := by decide +kernel
theorem dX6_stick_157 : decode cX6_stick 157 = .ok (.return_, 1) := by decide +kernel
theorem dX6_lays_0 : decode cX6_lays 0 = .ok (.iconst 0, 1) := by decide +kernel
theorem dX6_lays_1 : decode cX6_lays 1 = .ok (.istore_n 2, 1) := by decide +kernel
theorem dX6_lays_2 : decode cX6_lays 2 = .ok (.iload_n 2, 1) := by decide +kernel
theorem dX6_lays_3 : decode cX6_lays 3 = .ok (.aload_n 0, 1) := by decide +kernel
theorem dX6_lays_4 : decode cX6_lays 4 = .ok (.getfield 60, 3) := by decide +kernel
theorem dX6_lays_7 : decode cX6_lays 7 = .ok (.if_icmp .ge 39, 3) := by decide +kernel
theorem dX6_lays_10 : decode cX6_lays 10 = .ok (.aload_n 0, 1) := by decide +kernel
theorem dX6_lays_11 : decode cX6_lays 11 = .ok (.getfield 51, 3) := by decide +kernel
theorem dX6_lays_14 : decode cX6_lays 14 = .ok (.bipush 14, 2) := by decide +kernel
theorem dX6_lays_16 : decode cX6_lays 16 = .ok (.iload_n 2, 1) := by decide +kernel
theorem dX6_lays_17 : decode cX6_lays 17 = .ok (.iadd, 1) := by decide +kernel
theorem dX6_lays_18 : decode cX6_lays 18 = .ok (.iload_n 1, 1) := by decide +kernel
theorem dX6_lays_19 : decode cX6_lays 19 = .ok (.iload_n 2, 1) := by decide +kernel
theorem dX6_lays_20 : decode cX6_lays 20 = .ok (.invokestatic 139, 3) := by decide +kernel
theorem dX6_lays_23 : decode cX6_lays 23 = .ok (.ifCond .eq 7, 3) := by decide +kernel
theorem dX6_lays_26 : decode cX6_lays 26 = .ok (.iload_n 1, 1) := by decide +kernel
theorem dX6_lays_27 : decode cX6_lays 27 = .ok (.goto 12, 3) := by decide +kernel
theorem dX6_lays_30 : decode cX6_lays 30 = .ok (.aload_n 0, 1) := by decide +kernel
theorem dX6_lays_31 : decode cX6_lays 31 = .ok (.getfield 51, 3) := by decide +kernel
theorem dX6_lays_34 : decode cX6_lays 34 = .ok (.bipush 14, 2) := by decide +kernel
theorem dX6_lays_36 : decode cX6_lays 36 = .ok (.iload_n 2, 1) := by decide +kernel
theorem dX6_lays_37 : decode cX6_lays 37 = .ok (.iadd, 1) := by decide +kernel
theorem dX6_lays_38 : decode cX6_lays 38 = .ok (.iaload, 1) := by decide +kernel
theorem dX6_lays_39 : decode cX6_lays 39 = .ok (.iastore, 1) := by decide +kernel
theorem dX6_lays_40 : decode cX6_lays 40 = .ok (.iinc 2 1, 3) := by decide +kernel
theorem dX6_lays_43 : decode cX6_lays 43 = .ok (.goto (-41), 3) := by decide +kernel
theorem dX6_lays_46 : decode cX6_lays 46 = .ok (.return_, 1) := by decide +kernel
theorem dX6_goesBy_0 : decode cX6_goesBy 0 = .ok (.aload_n 0, 1) := by decide +kernel
theorem dX6_goesBy_1 : decode cX6_goesBy 1 = .ok (.getfield 51, 3) := by decide +kernel
theorem dX6_goesBy_4 : decode cX6_goesBy 4 = .ok (.iconst 0, 1) := by decide +kernel
theorem dX6_goesBy_5 : decode cX6_goesBy 5 = .ok (.dup2, 1) := by decide +kernel
theorem dX6_goesBy_6 : decode cX6_goesBy 6 = .ok (.iaload, 1) := by decide +kernel
theorem dX6_goesBy_7 : decode cX6_goesBy 7 = .ok (.iconst 1, 1) := by decide +kernel
theorem dX6_goesBy_8 : decode cX6_goesBy 8 = .ok (.iadd, 1) := by decide +kernel
theorem dX6_goesBy_9 : decode cX6_goesBy 9 = .ok (.iastore, 1) := by decide +kernel
theorem dX6_goesBy_10 : decode cX6_goesBy 10 = .ok (.aload_n 0, 1) := by decide +kernel
theorem dX6_goesBy_11 : decode cX6_goesBy 11 = .ok (.invokevirtual 149, 3) := by decide +kernel
theorem dX6_goesBy_14 : decode cX6_goesBy 14 = .ok (.aload_n 0, 1) := by decide +kernel
theorem dX6_goesBy_15 : decode cX6_goesBy 15 = .ok (.invokevirtual 152, 3) := by decide +kernel
theorem dX6_goesBy_18 : decode cX6_goesBy 18 = .ok (.aload_n 0, 1) := by decide +kernel
theorem dX6_goesBy_19 : decode cX6_goesBy 19 = .ok (.invokevirtual 155, 3) := by decide +kernel
theorem dX6_goesBy_22 : decode cX6_goesBy 22 = .ok (.iconst 0, 1) := by decide +kernel
theorem dX6_goesBy_23 : decode cX6_goesBy 23 = .ok (.istore_n 1, 1) := by decide +kernel
theorem dX6_goesBy_24 : decode cX6_goesBy 24 = .ok (.iload_n 1, 1) := by decide +kernel
theorem dX6_goesBy_25 : decode cX6_goesBy 25 = .ok (.aload_n 0, 1) := by decide +kernel
theorem dX6_goesBy_26 : decode cX6_goesBy 26 = .ok (.getfield 60, 3) := by decide +kernel
theorem dX6_goesBy_29 : decode cX6_goesBy 29 = .ok (.if_icmp .ge 61, 3) := by decide +kernel
theorem dX6_goesBy_32 : decode cX6_goesBy 32 = .ok (.aload_n 0, 1) := by decide +kernel
theorem dX6_goesBy_33 : decode cX6_goesBy 33 = .ok (.getfield 51, 3) := by decide +kernel
theorem dX6_goesBy_36 : decode cX6_goesBy 36 = .ok (.bipush 20, 2) := by decide +kernel
theorem dX6_goesBy_38 : decode cX6_goesBy 38 = .ok (.iload_n 1, 1) := by decide +kernel
theorem dX6_goesBy_39 : decode cX6_goesBy 39 = .ok (.iadd, 1) := by decide +kernel
theorem dX6_goesBy_40 : decode cX6_goesBy 40 = .ok (.aload_n 0, 1) := by decide +kernel
theorem dX6_goesBy_41 : decode cX6_goesBy 41 = .ok (.getfield 51, 3) := by decide +kernel
theorem dX6_goesBy_44 : decode cX6_goesBy 44 = .ok (.iconst 2, 1) := by decide +kernel
theorem dX6_goesBy_45 : decode cX6_goesBy 45 = .ok (.iload_n 1, 1) := by decide +kernel
theorem dX6_goesBy_46 : decode cX6_goesBy 46 = .ok (.iadd, 1) := by decide +kernel
theorem dX6_goesBy_47 : decode cX6_goesBy 47 = .ok (.iaload, 1) := by decide +kernel
theorem dX6_goesBy_48 : decode cX6_goesBy 48 = .ok (.ifCond .ne 26, 3) := by decide +kernel
theorem dX6_goesBy_51 : decode cX6_goesBy 51 = .ok (.aload_n 0, 1) := by decide +kernel
theorem dX6_goesBy_52 : decode cX6_goesBy 52 = .ok (.getfield 51, 3) := by decide +kernel
theorem dX6_goesBy_55 : decode cX6_goesBy 55 = .ok (.bipush 20, 2) := by decide +kernel
theorem dX6_goesBy_57 : decode cX6_goesBy 57 = .ok (.iload_n 1, 1) := by decide +kernel
theorem dX6_goesBy_58 : decode cX6_goesBy 58 = .ok (.iadd, 1) := by decide +kernel
theorem dX6_goesBy_59 : decode cX6_goesBy 59 = .ok (.iaload, 1) := by decide +kernel
theorem dX6_goesBy_60 : decode cX6_goesBy 60 = .ok (.bipush (-9), 2) := by decide +kernel
theorem dX6_goesBy_62 : decode cX6_goesBy 62 = .ok (.if_icmp .ne 12, 3) := by decide +kernel
theorem dX6_goesBy_65 : decode cX6_goesBy 65 = .ok (.aload_n 0, 1) := by decide +kernel
theorem dX6_goesBy_66 : decode cX6_goesBy 66 = .ok (.getfield 51, 3) := by decide +kernel
theorem dX6_goesBy_69 : decode cX6_goesBy 69 = .ok (.iconst 0, 1) := by decide +kernel
theorem dX6_goesBy_70 : decode cX6_goesBy 70 = .ok (.iaload, 1) := by decide +kernel
theorem dX6_goesBy_71 : decode cX6_goesBy 71 = .ok (.goto 12, 3) := by decide +kernel
theorem dX6_goesBy_74 : decode cX6_goesBy 74 = .ok (.aload_n 0, 1) := by decide +kernel
theorem dX6_goesBy_75 : decode cX6_goesBy 75 = .ok (.getfield 51, 3) := by decide +kernel
theorem dX6_goesBy_78 : decode cX6_goesBy 78 = .ok (.bipush 20, 2) := by decide +kernel
theorem dX6_goesBy_80 : decode cX6_goesBy 80 = .ok (.iload_n 1, 1) := by decide +kernel
theorem dX6_goesBy_81 : decode cX6_goesBy 81 = .ok (.iadd, 1) := by decide +kernel
theorem dX6_goesBy_82 : decode cX6_goesBy 82 = .ok (.iaload, 1) := by decide +kernel
theorem dX6_goesBy_83 : decode cX6_goesBy 83 = .ok (.iastore, 1) := by decide +kernel
theorem dX6_goesBy_84 : decode cX6_goesBy 84 = .ok (.iinc 1 1, 3) := by decide +kernel
theorem dX6_goesBy_87 : decode cX6_goesBy 87 = .ok (.goto (-63), 3) := by decide +kernel
theorem dX6_goesBy_90 : decode cX6_goesBy 90 = .ok (.return_, 1) := by decide +kernel
theorem dX6_atDepth_0 : decode cX6_atDepth 0 = .ok (.iconst 0, 1) := by decide +kernel
theorem dX6_atDepth_1 : decode cX6_atDepth 1 = .ok (.istore_n 2, 1) := by decide +kernel
theorem dX6_atDepth_2 : decode cX6_atDepth 2 = .ok (.iconst 0, 1) := by decide +kernel
theorem dX6_atDepth_3 : decode cX6_atDepth 3 = .ok (.istore_n 3, 1) := by decide +kernel
theorem dX6_atDepth_4 : decode cX6_atDepth 4 = .ok (.iload_n 3, 1) := by decide +kernel
theorem dX6_atDepth_5 : decode cX6_atDepth 5 = .ok (.aload_n 0, 1) := by decide +kernel
theorem dX6_atDepth_6 : decode cX6_atDepth 6 = .ok (.getfield 60, 3) := by decide +kernel
theorem dX6_atDepth_9 : decode cX6_atDepth 9 = .ok (.if_icmp .ge 31, 3) := by decide +kernel
theorem dX6_atDepth_12 : decode cX6_atDepth 12 = .ok (.iload_n 2, 1) := by decide +kernel
theorem dX6_atDepth_13 : decode cX6_atDepth 13 = .ok (.aload_n 0, 1) := by decide +kernel
theorem dX6_atDepth_14 : decode cX6_atDepth 14 = .ok (.getfield 51, 3) := by decide +kernel
theorem dX6_atDepth_17 : decode cX6_atDepth 17 = .ok (.iconst 2, 1) := by decide +kernel
theorem dX6_atDepth_18 : decode cX6_atDepth 18 = .ok (.iload_n 3, 1) := by decide +kernel
theorem dX6_atDepth_19 : decode cX6_atDepth 19 = .ok (.iadd, 1) := by decide +kernel
theorem dX6_atDepth_20 : decode cX6_atDepth 20 = .ok (.iaload, 1) := by decide +kernel
theorem dX6_atDepth_21 : decode cX6_atDepth 21 = .ok (.iload_n 1, 1) := by decide +kernel
theorem dX6_atDepth_22 : decode cX6_atDepth 22 = .ok (.if_icmp .ne 9, 3) := by decide +kernel
theorem dX6_atDepth_25 : decode cX6_atDepth 25 = .ok (.iconst 1, 1) := by decide +kernel
theorem dX6_atDepth_26 : decode cX6_atDepth 26 = .ok (.iload_n 3, 1) := by decide +kernel
theorem dX6_atDepth_27 : decode cX6_atDepth 27 = .ok (.ishl, 1) := by decide +kernel
theorem dX6_atDepth_28 : decode cX6_atDepth 28 = .ok (.goto 4, 3) := by decide +kernel
theorem dX6_atDepth_31 : decode cX6_atDepth 31 = .ok (.iconst 0, 1) := by decide +kernel
theorem dX6_atDepth_32 : decode cX6_atDepth 32 = .ok (.ior, 1) := by decide +kernel
theorem dX6_atDepth_33 : decode cX6_atDepth 33 = .ok (.istore_n 2, 1) := by decide +kernel
theorem dX6_atDepth_34 : decode cX6_atDepth 34 = .ok (.iinc 3 1, 3) := by decide +kernel
theorem dX6_atDepth_37 : decode cX6_atDepth 37 = .ok (.goto (-33), 3) := by decide +kernel
theorem dX6_atDepth_40 : decode cX6_atDepth 40 = .ok (.iload_n 2, 1) := by decide +kernel
theorem dX6_atDepth_41 : decode cX6_atDepth 41 = .ok (.ireturn, 1) := by decide +kernel
theorem dX6_dry_0 : decode cX6_dry 0 = .ok (.aload_n 0, 1) := by decide +kernel
theorem dX6_dry_1 : decode cX6_dry 1 = .ok (.invokevirtual 158, 3) := by decide +kernel
theorem dX6_dry_4 : decode cX6_dry 4 = .ok (.aload_n 0, 1) := by decide +kernel
theorem dX6_dry_5 : decode cX6_dry 5 = .ok (.bipush (-9), 2) := by decide +kernel
theorem dX6_dry_7 : decode cX6_dry 7 = .ok (.invokevirtual 161, 3) := by decide +kernel
theorem dX6_dry_10 : decode cX6_dry 10 = .ok (.ireturn, 1) := by decide +kernel
theorem dX6_dumpling_0 : decode cX6_dumpling 0 = .ok (.aload_n 0, 1) := by decide +kernel
theorem dX6_dumpling_1 : decode cX6_dumpling 1 = .ok (.iload_n 1, 1) := by decide +kernel
theorem dX6_dumpling_2 : decode cX6_dumpling 2 = .ok (.invokevirtual 164, 3) := by decide +kernel
theorem dX6_dumpling_5 : decode cX6_dumpling 5 = .ok (.ifCond .ne 5, 3) := by decide +kernel
theorem dX6_dumpling_8 : decode cX6_dumpling 8 = .ok (.iconst (-1), 1) := by decide +kernel
theorem dX6_dumpling_9 : decode cX6_dumpling 9 = .ok (.ireturn, 1) := by decide +kernel
theorem dX6_dumpling_10 : decode cX6_dumpling 10 = .ok (.iload_n 2, 1) := by decide +kernel
theorem dX6_dumpling_11 : decode cX6_dumpling 11 = .ok (.tableswitch 101 0 6 #[41, 48, 58, 65, 72, 81, 91], 41) := by decide +kernel
theorem dX6_dumpling_52 : decode cX6_dumpling 52 = .ok (.aload_n 0, 1) := by decide +kernel
theorem dX6_dumpling_53 : decode cX6_dumpling 53 = .ok (.getfield 7, 3) := by decide +kernel
theorem dX6_dumpling_56 : decode cX6_dumpling 56 = .ok (.iload_n 1, 1) := by decide +kernel
theorem dX6_dumpling_57 : decode cX6_dumpling 57 = .ok (.iaload, 1) := by decide +kernel
theorem dX6_dumpling_58 : decode cX6_dumpling 58 = .ok (.ireturn, 1) := by decide +kernel
theorem dX6_dumpling_59 : decode cX6_dumpling 59 = .ok (.aload_n 0, 1) := by decide +kernel
theorem dX6_dumpling_60 : decode cX6_dumpling 60 = .ok (.getfield 29, 3) := by decide +kernel
theorem dX6_dumpling_63 : decode cX6_dumpling 63 = .ok (.bipush 8, 2) := by decide +kernel
theorem dX6_dumpling_65 : decode cX6_dumpling 65 = .ok (.iload_n 1, 1) := by decide +kernel
theorem dX6_dumpling_66 : decode cX6_dumpling 66 = .ok (.iadd, 1) := by decide +kernel
theorem dX6_dumpling_67 : decode cX6_dumpling 67 = .ok (.iaload, 1) := by decide +kernel
theorem dX6_dumpling_68 : decode cX6_dumpling 68 = .ok (.ireturn, 1) := by decide +kernel
theorem dX6_dumpling_69 : decode cX6_dumpling 69 = .ok (.aload_n 0, 1) := by decide +kernel
theorem dX6_dumpling_70 : decode cX6_dumpling 70 = .ok (.getfield 13, 3) := by decide +kernel
theorem dX6_dumpling_73 : decode cX6_dumpling 73 = .ok (.iload_n 1, 1) := by decide +kernel
theorem dX6_dumpling_74 : decode cX6_dumpling 74 = .ok (.iaload, 1) := by decide +kernel
theorem dX6_dumpling_75 : decode cX6_dumpling 75 = .ok (.ireturn, 1) := by decide +kernel
theorem dX6_dumpling_76 : decode cX6_dumpling 76 = .ok (.aload_n 0, 1) := by decide +kernel
theorem dX6_dumpling_77 : decode cX6_dumpling 77 = .ok (.getfield 16, 3) := by decide +kernel
theorem dX6_dumpling_80 : decode cX6_dumpling 80 = .ok (.iload_n 1, 1) := by decide +kernel
theorem dX6_dumpling_81 : decode cX6_dumpling 81 = .ok (.iaload, 1) := by decide +kernel
theorem dX6_dumpling_82 : decode cX6_dumpling 82 = .ok (.ireturn, 1) := by decide +kernel
theorem dX6_dumpling_83 : decode cX6_dumpling 83 = .ok (.aload_n 0, 1) := by decide +kernel
theorem dX6_dumpling_84 : decode cX6_dumpling 84 = .ok (.getfield 29, 3) := by decide +kernel
theorem dX6_dumpling_87 : decode cX6_dumpling 87 = .ok (.iconst 2, 1) := by decide +kernel
theorem dX6_dumpling_88 : decode cX6_dumpling 88 = .ok (.iload_n 1, 1) := by decide +kernel
theorem dX6_dumpling_89 : decode cX6_dumpling 89 = .ok (.iadd, 1) := by decide +kernel
theorem dX6_dumpling_90 : decode cX6_dumpling 90 = .ok (.iaload, 1) := by decide +kernel
theorem dX6_dumpling_91 : decode cX6_dumpling 91 = .ok (.ireturn, 1) := by decide +kernel
theorem dX6_dumpling_92 : decode cX6_dumpling 92 = .ok (.aload_n 0, 1) := by decide +kernel
theorem dX6_dumpling_93 : decode cX6_dumpling 93 = .ok (.getfield 29, 3) := by decide +kernel
theorem dX6_dumpling_96 : decode cX6_dumpling 96 = .ok (.bipush 14, 2) := by decide +kernel
theorem dX6_dumpling_98 : decode cX6_dumpling 98 = .ok (.iload_n 1, 1) := by decide +kernel
theorem dX6_dumpling_99 : decode cX6_dumpling 99 = .ok (.iadd, 1) := by decide +kernel
theorem dX6_dumpling_100 : decode cX6_dumpling 100 = .ok (.iaload, 1) := by decide +kernel
theorem dX6_dumpling_101 : decode cX6_dumpling 101 = .ok (.ireturn, 1) := by decide +kernel
theorem dX6_dumpling_102 : decode cX6_dumpling 102 = .ok (.aload_n 0, 1) := by decide +kernel
theorem dX6_dumpling_103 : decode cX6_dumpling 103 = .ok (.getfield 29, 3) := by decide +kernel
theorem dX6_dumpling_106 : decode cX6_dumpling 106 = .ok (.bipush 20, 2) := by decide +kernel
theorem dX6_dumpling_108 : decode cX6_dumpling 108 = .ok (.iload_n 1, 1) := by decide +kernel
theorem dX6_dumpling_109 : decode cX6_dumpling 109 = .ok (.iadd, 1) := by decide +kernel
theorem dX6_dumpling_110 : decode cX6_dumpling 110 = .ok (.iaload, 1) := by decide +kernel
theorem dX6_dumpling_111 : decode cX6_dumpling 111 = .ok (.ireturn, 1) := by decide +kernel
theorem dX6_dumpling_112 : decode cX6_dumpling 112 = .ok (.iconst (-1), 1) := by decide +kernel
theorem dX6_dumpling_113 : decode cX6_dumpling 113 = .ok (.ireturn, 1) := by decide +kernel
theorem dX6_risenMany_0 : decode cX6_risenMany 0 = .ok (.iconst 0, 1) := by decide +kernel
theorem dX6_risenMany_1 : decode cX6_risenMany 1 = .ok (.istore_n 1, 1) := by decide +kernel
theorem dX6_risenMany_2 : decode cX6_risenMany 2 = .ok (.iconst 0, 1) := by decide +kernel
theorem dX6_risenMany_3 : decode cX6_risenMany 3 = .ok (.istore_n 2, 1) := by decide +kernel
theorem dX6_risenMany_4 : decode cX6_risenMany 4 = .ok (.iload_n 2, 1) := by decide +kernel
theorem dX6_risenMany_5 : decode cX6_risenMany 5 = .ok (.aload_n 0, 1) := by decide +kernel
theorem dX6_risenMany_6 : decode cX6_risenMany 6 = .ok (.getfield 60, 3) := by decide +kernel
theorem dX6_risenMany_9 : decode cX6_risenMany 9 = .ok (.if_icmp .ge 31, 3) := by decide +kernel
theorem dX6_risenMany_12 : decode cX6_risenMany 12 = .ok (.iload_n 1, 1) := by decide +kernel
theorem dX6_risenMany_13 : decode cX6_risenMany 13 = .ok (.aload_n 0, 1) := by decide +kernel
theorem dX6_risenMany_14 : decode cX6_risenMany 14 = .ok (.getfield 29, 3) := by decide +kernel
theorem dX6_risenMany_17 : decode cX6_risenMany 17 = .ok (.bipush 20, 2) := by decide +kernel
theorem dX6_risenMany_19 : decode cX6_risenMany 19 = .ok (.iload_n 2, 1) := by decide +kernel
theorem dX6_risenMany_20 : decode cX6_risenMany 20 = .ok (.iadd, 1) := by decide +kernel
theorem dX6_risenMany_21 : decode cX6_risenMany 21 = .ok (.iaload, 1) := by decide +kernel
theorem dX6_risenMany_22 : decode cX6_risenMany 22 = .ok (.bipush (-9), 2) := by decide +kernel
theorem dX6_risenMany_24 : decode cX6_risenMany 24 = .ok (.if_icmp .ne 7, 3) := by decide +kernel
theorem dX6_risenMany_27 : decode cX6_risenMany 27 = .ok (.iconst 0, 1) := by decide +kernel
theorem dX6_risenMany_28 : decode cX6_risenMany 28 = .ok (.goto 4, 3) := by decide +kernel
theorem dX6_risenMany_31 : decode cX6_risenMany 31 = .ok (.iconst 1, 1) := by decide +kernel
theorem dX6_risenMany_32 : decode cX6_risenMany 32 = .ok (.iadd, 1) := by decide +kernel
theorem dX6_risenMany_33 : decode cX6_risenMany 33 = .ok (.istore_n 1, 1) := by decide +kernel
theorem dX6_risenMany_34 : decode cX6_risenMany 34 = .ok (.iinc 2 1, 3) := by decide +kernel
theorem dX6_risenMany_37 : decode cX6_risenMany 37 = .ok (.goto (-33), 3) := by decide +kernel
theorem dX6_risenMany_40 : decode cX6_risenMany 40 = .ok (.iload_n 1, 1) := by decide +kernel
theorem dX6_risenMany_41 : decode cX6_risenMany 41 = .ok (.ireturn, 1) := by decide +kernel
theorem dX6_now_0 : decode cX6_now 0 = .ok (.aload_n 0, 1) := by decide +kernel
theorem dX6_now_1 : decode cX6_now 1 = .ok (.invokevirtual 158, 3) := by decide +kernel
theorem dX6_now_4 : decode cX6_now 4 = .ok (.iload_n 1, 1) := by decide +kernel
theorem dX6_now_5 : decode cX6_now 5 = .ok (.tableswitch 78 0 6 #[43, 43, 50, 57, 63, 68, 73], 43) := by decide +kernel
theorem dX6_now_48 : decode cX6_now 48 = .ok (.aload_n 0, 1) := by decide +kernel
theorem dX6_now_49 : decode cX6_now 49 = .ok (.getfield 29, 3) := by decide +kernel
theorem dX6_now_52 : decode cX6_now 52 = .ok (.iload_n 1, 1) := by decide +kernel
theorem dX6_now_53 : decode cX6_now 53 = .ok (.iaload, 1) := by decide +kernel
theorem dX6_now_54 : decode cX6_now 54 = .ok (.ireturn, 1) := by decide +kernel
theorem dX6_now_55 : decode cX6_now 55 = .ok (.aload_n 0, 1) := by decide +kernel
theorem dX6_now_56 : decode cX6_now 56 = .ok (.bipush (-9), 2) := by decide +kernel
theorem dX6_now_58 : decode cX6_now 58 = .ok (.invokevirtual 161, 3) := by decide +kernel
theorem dX6_now_61 : decode cX6_now 61 = .ok (.ireturn, 1) := by decide +kernel
theorem dX6_now_62 : decode cX6_now 62 = .ok (.aload_n 0, 1) := by decide +kernel
theorem dX6_now_63 : decode cX6_now 63 = .ok (.iconst 0, 1) := by decide +kernel
theorem dX6_now_64 : decode cX6_now 64 = .ok (.invokevirtual 161, 3) := by decide +kernel
theorem dX6_now_67 : decode cX6_now 67 = .ok (.ireturn, 1) := by decide +kernel
theorem dX6_now_68 : decode cX6_now 68 = .ok (.aload_n 0, 1) := by decide +kernel
theorem dX6_now_69 : decode cX6_now 69 = .ok (.invokevirtual 167, 3) := by decide +kernel
theorem dX6_now_72 : decode cX6_now 72 = .ok (.ireturn, 1) := by decide +kernel
theorem dX6_now_73 : decode cX6_now 73 = .ok (.aload_n 0, 1) := by decide +kernel
theorem dX6_now_74 : decode cX6_now 74 = .ok (.invokevirtual 171, 3) := by decide +kernel
theorem dX6_now_77 : decode cX6_now 77 = .ok (.ireturn, 1) := by decide +kernel
theorem dX6_now_78 : decode cX6_now 78 = .ok (.aload_n 0, 1) := by decide +kernel
theorem dX6_now_79 : decode cX6_now 79 = .ok (.getfield 129, 3) := by decide +kernel
theorem dX6_now_82 : decode cX6_now 82 = .ok (.ireturn, 1) := by decide +kernel
theorem dX6_now_83 : decode cX6_now 83 = .ok (.iconst (-1), 1) := by decide +kernel
theorem dX6_now_84 : decode cX6_now 84 = .ok (.ireturn, 1) := by decide +kernel
theorem dX6_order_0 : decode cX6_order 0 = .ok (.iload_n 1, 1) := by decide +kernel
theorem dX6_order_1 : decode cX6_order 1 = .ok (.iconst 0, 1) := by decide +kernel
theorem dX6_order_2 : decode cX6_order 2 = .ok (.iconst 5, 1) := by decide +kernel
theorem dX6_order_3 : decode cX6_order 3 = .ok (.invokestatic 63, 3) := by decide +kernel
theorem dX6_order_6 : decode cX6_order 6 = .ok (.ifCond .ne 5, 3) := by decide +kernel
theorem dX6_order_9 : decode cX6_order 9 = .ok (.iconst (-1), 1) := by decide +kernel
theorem dX6_order_10 : decode cX6_order 10 = .ok (.ireturn, 1) := by decide +kernel
theorem dX6_order_11 : decode cX6_order 11 = .ok (.iload_n 1, 1) := by decide +kernel
theorem dX6_order_12 : decode cX6_order 12 = .ok (.istore_n 2, 1) := by decide +kernel
theorem dX6_order_13 : decode cX6_order 13 = .ok (.iconst 1, 1) := by decide +kernel
theorem dX6_order_14 : decode cX6_order 14 = .ok (.istore_n 3, 1) := by decide +kernel
theorem dX6_order_15 : decode cX6_order 15 = .ok (.iload_n 3, 1) := by decide +kernel
theorem dX6_order_16 : decode cX6_order 16 = .ok (.bipush 99, 2) := by decide +kernel
theorem dX6_order_18 : decode cX6_order 18 = .ok (.if_icmp .gt 51, 3) := by decide +kernel
theorem dX6_order_21 : decode cX6_order 21 = .ok (.iconst 0, 1) := by decide +kernel
theorem dX6_order_22 : decode cX6_order 22 = .ok (.istore 4, 2) := by decide +kernel
theorem dX6_order_24 : decode cX6_order 24 = .ok (.iload 4, 2) := by decide +kernel
theorem dX6_order_26 : decode cX6_order 26 = .ok (.aload_n 0, 1) := by decide +kernel
theorem dX6_order_27 : decode cX6_order 27 = .ok (.getfield 60, 3) := by decide +kernel
theorem dX6_order_30 : decode cX6_order 30 = .ok (.if_icmp .ge 33, 3) := by decide +kernel
theorem dX6_order_33 : decode cX6_order 33 = .ok (.aload_n 0, 1) := by decide +kernel
theorem dX6_order_34 : decode cX6_order 34 = .ok (.getfield 29, 3) := by decide +kernel
theorem dX6_order_37 : decode cX6_order 37 = .ok (.bipush 20, 2) := by decide +kernel
theorem dX6_order_39 : decode cX6_order 39 = .ok (.iload 4, 2) := by decide +kernel
theorem dX6_order_41 : decode cX6_order 41 = .ok (.iadd, 1) := by decide +kernel
theorem dX6_order_42 : decode cX6_order 42 = .ok (.iaload, 1) := by decide +kernel
theorem dX6_order_43 : decode cX6_order 43 = .ok (.iload_n 3, 1) := by decide +kernel
theorem dX6_order_44 : decode cX6_order 44 = .ok (.if_icmp .ne 13, 3) := by decide +kernel
theorem dX6_order_47 : decode cX6_order 47 = .ok (.iload_n 2, 1) := by decide +kernel
theorem dX6_order_48 : decode cX6_order 48 = .ok (.ifCond .ne 6, 3) := by decide +kernel
theorem dX6_order_51 : decode cX6_order 51 = .ok (.iload 4, 2) := by decide +kernel
theorem dX6_order_53 : decode cX6_order 53 = .ok (.ireturn, 1) := by decide +kernel
theorem dX6_order_54 : decode cX6_order 54 = .ok (.iinc 2 (-1), 3) := by decide +kernel
theorem dX6_order_57 : decode cX6_order 57 = .ok (.iinc 4 1, 3) := by decide +kernel
theorem dX6_order_60 : decode cX6_order 60 = .ok (.goto (-36), 3) := by decide +kernel
theorem dX6_order_63 : decode cX6_order 63 = .ok (.iinc 3 1, 3) := by decide +kernel
theorem dX6_order_66 : decode cX6_order 66 = .ok (.goto (-51), 3) := by decide +kernel
theorem dX6_order_69 : decode cX6_order 69 = .ok (.bipush (-9), 2) := by decide +kernel
theorem dX6_order_71 : decode cX6_order 71 = .ok (.ireturn, 1) := by decide +kernel
theorem dX6_remembers_0 : decode cX6_remembers 0 = .ok (.aload_n 0, 1) := by decide +kernel
theorem dX6_remembers_1 : decode cX6_remembers 1 = .ok (.getfield 129, 3) := by decide +kernel
theorem dX6_remembers_4 : decode cX6_remembers 4 = .ok (.bipush 10, 2) := by decide +kernel
theorem dX6_remembers_6 : decode cX6_remembers 6 = .ok (.if_icmp .ne 43, 3) := by decide +kernel
theorem dX6_remembers_9 : decode cX6_remembers 9 = .ok (.iconst 0, 1) := by decide +kernel
theorem dX6_remembers_10 : decode cX6_remembers 10 = .ok (.istore_n 1, 1) := by decide +kernel
theorem dX6_remembers_11 : decode cX6_remembers 11 = .ok (.iload_n 1, 1) := by decide +kernel
theorem dX6_remembers_12 : decode cX6_remembers 12 = .ok (.sipush 234, 3) := by decide +kernel
theorem dX6_remembers_15 : decode cX6_remembers 15 = .ok (.if_icmp .ge 24, 3) := by decide +kernel
theorem dX6_remembers_18 : decode cX6_remembers 18 = .ok (.aload_n 0, 1) := by decide +kernel
theorem dX6_remembers_19 : decode cX6_remembers 19 = .ok (.getfield 32, 3) := by decide +kernel
theorem dX6_remembers_22 : decode cX6_remembers 22 = .ok (.iload_n 1, 1) := by decide +kernel
theorem dX6_remembers_23 : decode cX6_remembers 23 = .ok (.aload_n 0, 1) := by decide +kernel
theorem dX6_remembers_24 : decode cX6_remembers 24 = .ok (.getfield 32, 3) := by decide +kernel
theorem dX6_remembers_27 : decode cX6_remembers 27 = .ok (.iload_n 1, 1) := by decide +kernel
theorem dX6_remembers_28 : decode cX6_remembers 28 = .ok (.bipush 26, 2) := by decide +kernel
theorem dX6_remembers_30 : decode cX6_remembers 30 = .ok (.iadd, 1) := by decide +kernel
theorem dX6_remembers_31 : decode cX6_remembers 31 = .ok (.iaload, 1) := by decide +kernel
theorem dX6_remembers_32 : decode cX6_remembers 32 = .ok (.iastore, 1) := by decide +kernel
theorem dX6_remembers_33 : decode cX6_remembers 33 = .ok (.iinc 1 1, 3) := by decide +kernel
theorem dX6_remembers_36 : decode cX6_remembers 36 = .ok (.goto (-25), 3) := by decide +kernel
theorem dX6_remembers_39 : decode cX6_remembers 39 = .ok (.aload_n 0, 1) := by decide +kernel
theorem dX6_remembers_40 : decode cX6_remembers 40 = .ok (.dup, 1) := by decide +kernel
theorem dX6_remembers_41 : decode cX6_remembers 41 = .ok (.getfield 129, 3) := by decide +kernel
theorem dX6_remembers_44 : decode cX6_remembers 44 = .ok (.iconst 1, 1) := by decide +kernel
theorem dX6_remembers_45 : decode cX6_remembers 45 = .ok (.isub, 1) := by decide +kernel
theorem dX6_remembers_46 : decode cX6_remembers 46 = .ok (.putfield 129, 3) := by decide +kernel
theorem dX6_remembers_49 : decode cX6_remembers 49 = .ok (.aload_n 0, 1) := by decide +kernel
theorem dX6_remembers_50 : decode cX6_remembers 50 = .ok (.getfield 32, 3) := by decide +kernel
theorem dX6_remembers_53 : decode cX6_remembers 53 = .ok (.bipush 26, 2) := by decide +kernel
theorem dX6_remembers_55 : decode cX6_remembers 55 = .ok (.aload_n 0, 1) := by decide +kernel
theorem dX6_remembers_56 : decode cX6_remembers 56 = .ok (.getfield 129, 3) := by decide +kernel
theorem dX6_remembers_59 : decode cX6_remembers 59 = .ok (.imul, 1) := by decide +kernel
theorem dX6_remembers_60 : decode cX6_remembers 60 = .ok (.aload_n 0, 1) := by decide +kernel
theorem dX6_remembers_61 : decode cX6_remembers 61 = .ok (.getfield 29, 3) := by decide +kernel
theorem dX6_remembers_64 : decode cX6_remembers 64 = .ok (.iconst 0, 1) := by decide +kernel
theorem dX6_remembers_65 : decode cX6_remembers 65 = .ok (.invokestatic 135, 3) := by decide +kernel
theorem dX6_remembers_68 : decode cX6_remembers 68 = .ok (.aload_n 0, 1) := by decide +kernel
theorem dX6_remembers_69 : decode cX6_remembers 69 = .ok (.dup, 1) := by decide +kernel
theorem dX6_remembers_70 : decode cX6_remembers 70 = .ok (.getfield 129, 3) := by decide +kernel
theorem dX6_remembers_73 : decode cX6_remembers 73 = .ok (.iconst 1, 1) := by decide +kernel
theorem dX6_remembers_74 : decode cX6_remembers 74 = .ok (.iadd, 1) := by decide +kernel
theorem dX6_remembers_75 : decode cX6_remembers 75 = .ok (.putfield 129, 3) := by decide +kernel
theorem dX6_remembers_78 : decode cX6_remembers 78 = .ok (.return_, 1) := by decide +kernel
theorem dX6_drops_0 : decode cX6_drops 0 = .ok (.aload_n 0, 1) := by decide +kernel
theorem dX6_drops_1 : decode cX6_drops 1 = .ok (.iload_n 1, 1) := by decide +kernel
theorem dX6_drops_2 : decode cX6_drops 2 = .ok (.invokevirtual 164, 3) := by decide +kernel
theorem dX6_drops_5 : decode cX6_drops 5 = .ok (.ifCond .ne 5, 3) := by decide +kernel
theorem dX6_drops_8 : decode cX6_drops 8 = .ok (.iconst (-1), 1) := by decide +kernel
theorem dX6_drops_9 : decode cX6_drops 9 = .ok (.ireturn, 1) := by decide +kernel
theorem dX6_drops_10 : decode cX6_drops 10 = .ok (.aload_n 0, 1) := by decide +kernel
theorem dX6_drops_11 : decode cX6_drops 11 = .ok (.getfield 29, 3) := by decide +kernel
theorem dX6_drops_14 : decode cX6_drops 14 = .ok (.iconst 2, 1) := by decide +kernel
theorem dX6_drops_15 : decode cX6_drops 15 = .ok (.iload_n 1, 1) := by decide +kernel
theorem dX6_drops_16 : decode cX6_drops 16 = .ok (.iadd, 1) := by decide +kernel
theorem dX6_drops_17 : decode cX6_drops 17 = .ok (.iaload, 1) := by decide +kernel
theorem dX6_drops_18 : decode cX6_drops 18 = .ok (.bipush (-9), 2) := by decide +kernel
theorem dX6_drops_20 : decode cX6_drops 20 = .ok (.if_icmp .eq 6, 3) := by decide +kernel
theorem dX6_drops_23 : decode cX6_drops 23 = .ok (.bipush (-2), 2) := by decide +kernel
theorem dX6_drops_25 : decode cX6_drops 25 = .ok (.ireturn, 1) := by decide +kernel
theorem dX6_drops_26 : decode cX6_drops 26 = .ok (.aload_n 0, 1) := by decide +kernel
theorem dX6_drops_27 : decode cX6_drops 27 = .ok (.invokevirtual 174, 3) := by decide +kernel
theorem dX6_drops_30 : decode cX6_drops 30 = .ok (.aload_n 0, 1) := by decide +kernel
theorem dX6_drops_31 : decode cX6_drops 31 = .ok (.getfield 29, 3) := by decide +kernel
theorem dX6_drops_34 : decode cX6_drops 34 = .ok (.iconst 2, 1) := by decide +kernel
theorem dX6_drops_35 : decode cX6_drops 35 = .ok (.iload_n 1, 1) := by decide +kernel
theorem dX6_drops_36 : decode cX6_drops 36 = .ok (.iadd, 1) := by decide +kernel
theorem dX6_drops_37 : decode cX6_drops 37 = .ok (.bipush 10, 2) := by decide +kernel
theorem dX6_drops_39 : decode cX6_drops 39 = .ok (.iastore, 1) := by decide +kernel
theorem dX6_drops_40 : decode cX6_drops 40 = .ok (.aload_n 0, 1) := by decide +kernel
theorem dX6_drops_41 : decode cX6_drops 41 = .ok (.getfield 60, 3) := by decide +kernel
theorem dX6_drops_44 : decode cX6_drops 44 = .ok (.aload_n 0, 1) := by decide +kernel
theorem dX6_drops_45 : decode cX6_drops 45 = .ok (.invokevirtual 177, 3) := by decide +kernel
theorem dX6_drops_48 : decode cX6_drops 48 = .ok (.invokestatic 180, 3) := by decide +kernel
theorem dX6_drops_51 : decode cX6_drops 51 = .ok (.isub, 1) := by decide +kernel
theorem dX6_drops_52 : decode cX6_drops 52 = .ok (.ireturn, 1) := by decide +kernel
theorem dX6_minute_0 : decode cX6_minute 0 = .ok (.aload_n 0, 1) := by decide +kernel
theorem dX6_minute_1 : decode cX6_minute 1 = .ok (.getfield 29, 3) := by decide +kernel
theorem dX6_minute_4 : decode cX6_minute 4 = .ok (.iconst 0, 1) := by decide +kernel
theorem dX6_minute_5 : decode cX6_minute 5 = .ok (.iaload, 1) := by decide +kernel
theorem dX6_minute_6 : decode cX6_minute 6 = .ok (.bipush 99, 2) := by decide +kernel
theorem dX6_minute_8 : decode cX6_minute 8 = .ok (.if_icmp .ne 6, 3) := by decide +kernel
theorem dX6_minute_11 : decode cX6_minute 11 = .ok (.bipush (-2), 2) := by decide +kernel
theorem dX6_minute_13 : decode cX6_minute 13 = .ok (.ireturn, 1) := by decide +kernel
theorem dX6_minute_14 : decode cX6_minute 14 = .ok (.aload_n 0, 1) := by decide +kernel
theorem dX6_minute_15 : decode cX6_minute 15 = .ok (.invokevirtual 174, 3) := by decide +kernel
theorem dX6_minute_18 : decode cX6_minute 18 = .ok (.aload_n 0, 1) := by decide +kernel
theorem dX6_minute_19 : decode cX6_minute 19 = .ok (.invokevirtual 158, 3) := by decide +kernel
theorem dX6_minute_22 : decode cX6_minute 22 = .ok (.aload_n 0, 1) := by decide +kernel
theorem dX6_minute_23 : decode cX6_minute 23 = .ok (.invokevirtual 183, 3) := by decide +kernel
theorem dX6_minute_26 : decode cX6_minute 26 = .ok (.aload_n 0, 1) := by decide +kernel
theorem dX6_minute_27 : decode cX6_minute 27 = .ok (.getfield 29, 3) := by decide +kernel
theorem dX6_minute_30 : decode cX6_minute 30 = .ok (.iconst 0, 1) := by decide +kernel
theorem dX6_minute_31 : decode cX6_minute 31 = .ok (.aload_n 0, 1) := by decide +kernel
theorem dX6_minute_32 : decode cX6_minute 32 = .ok (.getfield 51, 3) := by decide +kernel
theorem dX6_minute_35 : decode cX6_minute 35 = .ok (.iconst 0, 1) := by decide +kernel
theorem dX6_minute_36 : decode cX6_minute 36 = .ok (.invokestatic 135, 3) := by decide +kernel
theorem dX6_minute_39 : decode cX6_minute 39 = .ok (.aload_n 0, 1) := by decide +kernel
theorem dX6_minute_40 : decode cX6_minute 40 = .ok (.iconst 0, 1) := by decide +kernel
theorem dX6_minute_41 : decode cX6_minute 41 = .ok (.invokevirtual 161, 3) := by decide +kernel
theorem dX6_minute_44 : decode cX6_minute 44 = .ok (.invokestatic 180, 3) := by decide +kernel
theorem dX6_minute_47 : decode cX6_minute 47 = .ok (.ireturn, 1) := by decide +kernel
theorem dX6_heats_0 : decode cX6_heats 0 = .ok (.iload_n 1, 1) := by decide +kernel
theorem dX6_heats_1 : decode cX6_heats 1 = .ok (.iconst 0, 1) := by decide +kernel
theorem dX6_heats_2 : decode cX6_heats 2 = .ok (.bipush 9, 2) := by decide +kernel
theorem dX6_heats_4 : decode cX6_heats 4 = .ok (.invokestatic 63, 3) := by decide +kernel
theorem dX6_heats_7 : decode cX6_heats 7 = .ok (.ifCond .ne 5, 3) := by decide +kernel
theorem dX6_heats_10 : decode cX6_heats 10 = .ok (.iconst (-1), 1) := by decide +kernel
theorem dX6_heats_11 : decode cX6_heats 11 = .ok (.ireturn, 1) := by decide +kernel
theorem dX6_heats_12 : decode cX6_heats 12 = .ok (.aload_n 0, 1) := by decide +kernel
theorem dX6_heats_13 : decode cX6_heats 13 = .ok (.getfield 29, 3) := by decide +kernel
theorem dX6_heats_16 : decode cX6_heats 16 = .ok (.iconst 1, 1) := by decide +kernel
theorem dX6_heats_17 : decode cX6_heats 17 = .ok (.iaload, 1) := by decide +kernel
theorem dX6_heats_18 : decode cX6_heats 18 = .ok (.istore_n 2, 1) := by decide +kernel
theorem dX6_heats_19 : decode cX6_heats 19 = .ok (.iload_n 2, 1) := by decide +kernel
theorem dX6_heats_20 : decode cX6_heats 20 = .ok (.iload_n 1, 1) := by decide +kernel
theorem dX6_heats_21 : decode cX6_heats 21 = .ok (.if_icmp .ne 6, 3) := by decide +kernel
theorem dX6_heats_24 : decode cX6_heats 24 = .ok (.bipush (-2), 2) := by decide +kernel
theorem dX6_heats_26 : decode cX6_heats 26 = .ok (.ireturn, 1) := by decide +kernel
theorem dX6_heats_27 : decode cX6_heats 27 = .ok (.aload_n 0, 1) := by decide +kernel
theorem dX6_heats_28 : decode cX6_heats 28 = .ok (.invokevirtual 174, 3) := by decide +kernel
theorem dX6_heats_31 : decode cX6_heats 31 = .ok (.aload_n 0, 1) := by decide +kernel
theorem dX6_heats_32 : decode cX6_heats 32 = .ok (.getfield 29, 3) := by decide +kernel
theorem dX6_heats_35 : decode cX6_heats 35 = .ok (.iconst 1, 1) := by decide +kernel
theorem dX6_heats_36 : decode cX6_heats 36 = .ok (.iload_n 1, 1) := by decide +kernel
theorem dX6_heats_37 : decode cX6_heats 37 = .ok (.iastore, 1) := by decide +kernel
theorem dX6_heats_38 : decode cX6_heats 38 = .ok (.iload_n 2, 1) := by decide +kernel
theorem dX6_heats_39 : decode cX6_heats 39 = .ok (.ireturn, 1) := by decide +kernel
theorem dX6_skewers_0 : decode cX6_skewers 0 = .ok (.aload_n 0, 1) := by decide +kernel
theorem dX6_skewers_1 : decode cX6_skewers 1 = .ok (.iload_n 1, 1) := by decide +kernel
theorem dX6_skewers_2 : decode cX6_skewers 2 = .ok (.invokevirtual 164, 3) := by decide +kernel
theorem dX6_skewers_5 : decode cX6_skewers 5 = .ok (.ifCond .ne 5, 3) := by decide +kernel
theorem dX6_skewers_8 : decode cX6_skewers 8 = .ok (.iconst (-1), 1) := by decide +kernel
theorem dX6_skewers_9 : decode cX6_skewers 9 = .ok (.ireturn, 1) := by decide +kernel
theorem dX6_skewers_10 : decode cX6_skewers 10 = .ok (.aload_n 0, 1) := by decide +kernel
theorem dX6_skewers_11 : decode cX6_skewers 11 = .ok (.getfield 29, 3) := by decide +kernel
theorem dX6_skewers_14 : decode cX6_skewers 14 = .ok (.iconst 2, 1) := by decide +kernel
theorem dX6_skewers_15 : decode cX6_skewers 15 = .ok (.iload_n 1, 1) := by decide +kernel
theorem dX6_skewers_16 : decode cX6_skewers 16 = .ok (.iadd, 1) := by decide +kernel
theorem dX6_skewers_17 : decode cX6_skewers 17 = .ok (.iaload, 1) := by decide +kernel
theorem dX6_skewers_18 : decode cX6_skewers 18 = .ok (.bipush (-9), 2) := by decide +kernel
theorem dX6_skewers_20 : decode cX6_skewers 20 = .ok (.if_icmp .ne 6, 3) := by decide +kernel
theorem dX6_skewers_23 : decode cX6_skewers 23 = .ok (.bipush (-2), 2) := by decide +kernel
theorem dX6_skewers_25 : decode cX6_skewers 25 = .ok (.ireturn, 1) := by decide +kernel
theorem dX6_skewers_26 : decode cX6_skewers 26 = .ok (.aload_n 0, 1) := by decide +kernel
theorem dX6_skewers_27 : decode cX6_skewers 27 = .ok (.invokevirtual 174, 3) := by decide +kernel
theorem dX6_skewers_30 : decode cX6_skewers 30 = .ok (.aload_n 0, 1) := by decide +kernel
theorem dX6_skewers_31 : decode cX6_skewers 31 = .ok (.getfield 29, 3) := by decide +kernel
theorem dX6_skewers_34 : decode cX6_skewers 34 = .ok (.bipush 14, 2) := by decide +kernel
theorem dX6_skewers_36 : decode cX6_skewers 36 = .ok (.iload_n 1, 1) := by decide +kernel
theorem dX6_skewers_37 : decode cX6_skewers 37 = .ok (.iadd, 1) := by decide +kernel
theorem dX6_skewers_38 : decode cX6_skewers 38 = .ok (.iaload, 1) := by decide +kernel
theorem dX6_skewers_39 : decode cX6_skewers 39 = .ok (.istore_n 2, 1) := by decide +kernel
theorem dX6_skewers_40 : decode cX6_skewers 40 = .ok (.iconst 0, 1) := by decide +kernel
theorem dX6_skewers_41 : decode cX6_skewers 41 = .ok (.istore_n 3, 1) := by decide +kernel
theorem dX6_skewers_42 : decode cX6_skewers 42 = .ok (.iload_n 3, 1) := by decide +kernel
theorem dX6_skewers_43 : decode cX6_skewers 43 = .ok (.aload_n 0, 1) := by decide +kernel
theorem dX6_skewers_44 : decode cX6_skewers 44 = .ok (.getfield 60, 3) := by decide +kernel
theorem dX6_skewers_47 : decode cX6_skewers 47 = .ok (.if_icmp .ge 41, 3) := by decide +kernel
theorem dX6_skewers_50 : decode cX6_skewers 50 = .ok (.aload_n 0, 1) := by decide +kernel
theorem dX6_skewers_51 : decode cX6_skewers 51 = .ok (.getfield 29, 3) := by decide +kernel
theorem dX6_skewers_54 : decode cX6_skewers 54 = .ok (.bipush 14, 2) := by decide +kernel
theorem dX6_skewers_56 : decode cX6_skewers 56 = .ok (.iload_n 3, 1) := by decide +kernel
theorem dX6_skewers_57 : decode cX6_skewers 57 = .ok (.iadd, 1) := by decide +kernel
theorem dX6_skewers_58 : decode cX6_skewers 58 = .ok (.iload_n 2, 1) := by decide +kernel
theorem dX6_skewers_59 : decode cX6_skewers 59 = .ok (.iload_n 3, 1) := by decide +kernel
theorem dX6_skewers_60 : decode cX6_skewers 60 = .ok (.invokestatic 139, 3) := by decide +kernel
theorem dX6_skewers_63 : decode cX6_skewers 63 = .ok (.ifCond .eq 9, 3) := by decide +kernel
theorem dX6_skewers_66 : decode cX6_skewers 66 = .ok (.iconst 1, 1) := by decide +kernel
theorem dX6_skewers_67 : decode cX6_skewers 67 = .ok (.iload_n 3, 1) := by decide +kernel
theorem dX6_skewers_68 : decode cX6_skewers 68 = .ok (.ishl, 1) := by decide +kernel
theorem dX6_skewers_69 : decode cX6_skewers 69 = .ok (.goto 12, 3) := by decide +kernel
theorem dX6_skewers_72 : decode cX6_skewers 72 = .ok (.aload_n 0, 1) := by decide +kernel
theorem dX6_skewers_73 : decode cX6_skewers 73 = .ok (.getfield 29, 3) := by decide +kernel
theorem dX6_skewers_76 : decode cX6_skewers 76 = .ok (.bipush 14, 2) := by decide +kernel
theorem dX6_skewers_78 : decode cX6_skewers 78 = .ok (.iload_n 3, 1) := by decide +kernel
theorem dX6_skewers_79 : decode cX6_skewers 79 = .ok (.iadd, 1) := by decide +kernel
theorem dX6_skewers_80 : decode cX6_skewers 80 = .ok (.iaload, 1) := by decide +kernel
theorem dX6_skewers_81 : decode cX6_skewers 81 = .ok (.iastore, 1) := by decide +kernel
theorem dX6_skewers_82 : decode cX6_skewers 82 = .ok (.iinc 3 1, 3) := by decide +kernel
theorem dX6_skewers_85 : decode cX6_skewers 85 = .ok (.goto (-43), 3) := by decide +kernel
theorem dX6_skewers_88 : decode cX6_skewers 88 = .ok (.aload_n 0, 1) := by decide +kernel
theorem dX6_skewers_89 : decode cX6_skewers 89 = .ok (.getfield 29, 3) := by decide +kernel
theorem dX6_skewers_92 : decode cX6_skewers 92 = .ok (.bipush 8, 2) := by decide +kernel
theorem dX6_skewers_94 : decode cX6_skewers 94 = .ok (.iload_n 1, 1) := by decide +kernel
theorem dX6_skewers_95 : decode cX6_skewers 95 = .ok (.iadd, 1) := by decide +kernel
theorem dX6_skewers_96 : decode cX6_skewers 96 = .ok (.aload_n 0, 1) := by decide +kernel
theorem dX6_skewers_97 : decode cX6_skewers 97 = .ok (.getfield 29, 3) := by decide +kernel
theorem dX6_skewers_100 : decode cX6_skewers 100 = .ok (.bipush 8, 2) := by decide +kernel
theorem dX6_skewers_102 : decode cX6_skewers 102 = .ok (.iload_n 1, 1) := by decide +kernel
theorem dX6_skewers_103 : decode cX6_skewers 103 = .ok (.iadd, 1) := by decide +kernel
theorem dX6_skewers_104 : decode cX6_skewers 104 = .ok (.iaload, 1) := by decide +kernel
theorem dX6_skewers_105 : decode cX6_skewers 105 = .ok (.iconst 4, 1) := by decide +kernel
theorem dX6_skewers_106 : decode cX6_skewers 106 = .ok (.if_icmp .ge 7, 3) := by decide +kernel
theorem dX6_skewers_109 : decode cX6_skewers 109 = .ok (.iconst 1, 1) := by decide +kernel
theorem dX6_skewers_110 : decode cX6_skewers 110 = .ok (.goto 14, 3) := by decide +kernel
theorem dX6_skewers_113 : decode cX6_skewers 113 = .ok (.aload_n 0, 1) := by decide +kernel
theorem dX6_skewers_114 : decode cX6_skewers 114 = .ok (.getfield 29, 3) := by decide +kernel
theorem dX6_skewers_117 : decode cX6_skewers 117 = .ok (.bipush 8, 2) := by decide +kernel
theorem dX6_skewers_119 : decode cX6_skewers 119 = .ok (.iload_n 1, 1) := by decide +kernel
theorem dX6_skewers_120 : decode cX6_skewers 120 = .ok (.iadd, 1) := by decide +kernel
theorem dX6_skewers_121 : decode cX6_skewers 121 = .ok (.iaload, 1) := by decide +kernel
theorem dX6_skewers_122 : decode cX6_skewers 122 = .ok (.iconst 2, 1) := by decide +kernel
theorem dX6_skewers_123 : decode cX6_skewers 123 = .ok (.idiv, 1) := by decide +kernel
theorem dX6_skewers_124 : decode cX6_skewers 124 = .ok (.iastore, 1) := by decide +kernel
theorem dX6_skewers_125 : decode cX6_skewers 125 = .ok (.aload_n 0, 1) := by decide +kernel
theorem dX6_skewers_126 : decode cX6_skewers 126 = .ok (.getfield 29, 3) := by decide +kernel
theorem dX6_skewers_129 : decode cX6_skewers 129 = .ok (.bipush 8, 2) := by decide +kernel
theorem dX6_skewers_131 : decode cX6_skewers 131 = .ok (.iload_n 1, 1) := by decide +kernel
theorem dX6_skewers_132 : decode cX6_skewers 132 = .ok (.iadd, 1) := by decide +kernel
theorem dX6_skewers_133 : decode cX6_skewers 133 = .ok (.iaload, 1) := by decide +kernel
theorem dX6_skewers_134 : decode cX6_skewers 134 = .ok (.ireturn, 1) := by decide +kernel
theorem dX6_dips_0 : decode cX6_dips 0 = .ok (.aload_n 0, 1) := by decide +kernel
theorem dX6_dips_1 : decode cX6_dips 1 = .ok (.iload_n 1, 1) := by decide +kernel
theorem dX6_dips_2 : decode cX6_dips 2 = .ok (.invokevirtual 164, 3) := by decide +kernel
theorem dX6_dips_5 : decode cX6_dips 5 = .ok (.ifCond .ne 5, 3) := by decide +kernel
theorem dX6_dips_8 : decode cX6_dips 8 = .ok (.iconst (-1), 1) := by decide +kernel
theorem dX6_dips_9 : decode cX6_dips 9 = .ok (.ireturn, 1) := by decide +kernel
theorem dX6_dips_10 : decode cX6_dips 10 = .ok (.aload_n 0, 1) := by decide +kernel
theorem dX6_dips_11 : decode cX6_dips 11 = .ok (.getfield 29, 3) := by decide +kernel
theorem dX6_dips_14 : decode cX6_dips 14 = .ok (.iconst 2, 1) := by decide +kernel
theorem dX6_dips_15 : decode cX6_dips 15 = .ok (.iload_n 1, 1) := by decide +kernel
theorem dX6_dips_16 : decode cX6_dips 16 = .ok (.iadd, 1) := by decide +kernel
theorem dX6_dips_17 : decode cX6_dips 17 = .ok (.iaload, 1) := by decide +kernel
theorem dX6_dips_18 : decode cX6_dips 18 = .ok (.ifCond .eq 6, 3) := by decide +kernel
theorem dX6_dips_21 : decode cX6_dips 21 = .ok (.bipush (-2), 2) := by decide +kernel
theorem dX6_dips_23 : decode cX6_dips 23 = .ok (.ireturn, 1) := by decide +kernel
theorem dX6_dips_24 : decode cX6_dips 24 = .ok (.aload_n 0, 1) := by decide +kernel
theorem dX6_dips_25 : decode cX6_dips 25 = .ok (.invokevirtual 174, 3) := by decide +kernel
theorem dX6_dips_28 : decode cX6_dips 28 = .ok (.iconst 0, 1) := by decide +kernel
theorem dX6_dips_29 : decode cX6_dips 29 = .ok (.istore_n 2, 1) := by decide +kernel
theorem dX6_dips_30 : decode cX6_dips 30 = .ok (.iload_n 2, 1) := by decide +kernel
theorem dX6_dips_31 : decode cX6_dips 31 = .ok (.aload_n 0, 1) := by decide +kernel
theorem dX6_dips_32 : decode cX6_dips 32 = .ok (.getfield 60, 3) := by decide +kernel
theorem dX6_dips_35 : decode cX6_dips 35 = .ok (.if_icmp .ge 26, 3) := by decide +kernel
theorem dX6_dips_38 : decode cX6_dips 38 = .ok (.aload_n 0, 1) := by decide +kernel
theorem dX6_dips_39 : decode cX6_dips 39 = .ok (.getfield 29, 3) := by decide +kernel
theorem dX6_dips_42 : decode cX6_dips 42 = .ok (.bipush 14, 2) := by decide +kernel
theorem dX6_dips_44 : decode cX6_dips 44 = .ok (.iload_n 2, 1) := by decide +kernel
theorem dX6_dips_45 : decode cX6_dips 45 = .ok (.iadd, 1) := by decide +kernel
theorem dX6_dips_46 : decode cX6_dips 46 = .ok (.dup2, 1) := by decide +kernel
theorem dX6_dips_47 : decode cX6_dips 47 = .ok (.iaload, 1) := by decide +kernel
theorem dX6_dips_48 : decode cX6_dips 48 = .ok (.iconst 1, 1) := by decide +kernel
theorem dX6_dips_49 : decode cX6_dips 49 = .ok (.iload_n 1, 1) := by decide +kernel
theorem dX6_dips_50 : decode cX6_dips 50 = .ok (.ishl, 1) := by decide +kernel
theorem dX6_dips_51 : decode cX6_dips 51 = .ok (.iconst (-1), 1) := by decide +kernel
theorem dX6_dips_52 : decode cX6_dips 52 = .ok (.ixor, 1) := by decide +kernel
theorem dX6_dips_53 : decode cX6_dips 53 = .ok (.iand, 1) := by decide +kernel
theorem dX6_dips_54 : decode cX6_dips 54 = .ok (.iastore, 1) := by decide +kernel
theorem dX6_dips_55 : decode cX6_dips 55 = .ok (.iinc 2 1, 3) := by decide +kernel
theorem dX6_dips_58 : decode cX6_dips 58 = .ok (.goto (-28), 3) := by decide +kernel
theorem dX6_dips_61 : decode cX6_dips 61 = .ok (.aload_n 0, 1) := by decide +kernel
theorem dX6_dips_62 : decode cX6_dips 62 = .ok (.getfield 29, 3) := by decide +kernel
theorem dX6_dips_65 : decode cX6_dips 65 = .ok (.bipush 14, 2) := by decide +kernel
theorem dX6_dips_67 : decode cX6_dips 67 = .ok (.iload_n 1, 1) := by decide +kernel
theorem dX6_dips_68 : decode cX6_dips 68 = .ok (.iadd, 1) := by decide +kernel
theorem dX6_dips_69 : decode cX6_dips 69 = .ok (.iconst 1, 1) := by decide +kernel
theorem dX6_dips_70 : decode cX6_dips 70 = .ok (.iload_n 1, 1) := by decide +kernel
theorem dX6_dips_71 : decode cX6_dips 71 = .ok (.ishl, 1) := by decide +kernel
theorem dX6_dips_72 : decode cX6_dips 72 = .ok (.iastore, 1) := by decide +kernel
theorem dX6_dips_73 : decode cX6_dips 73 = .ok (.aload_n 0, 1) := by decide +kernel
theorem dX6_dips_74 : decode cX6_dips 74 = .ok (.getfield 29, 3) := by decide +kernel
theorem dX6_dips_77 : decode cX6_dips 77 = .ok (.iconst 2, 1) := by decide +kernel
theorem dX6_dips_78 : decode cX6_dips 78 = .ok (.iload_n 1, 1) := by decide +kernel
theorem dX6_dips_79 : decode cX6_dips 79 = .ok (.iadd, 1) := by decide +kernel
theorem dX6_dips_80 : decode cX6_dips 80 = .ok (.bipush (-9), 2) := by decide +kernel
theorem dX6_dips_82 : decode cX6_dips 82 = .ok (.iastore, 1) := by decide +kernel
theorem dX6_dips_83 : decode cX6_dips 83 = .ok (.aload_n 0, 1) := by decide +kernel
theorem dX6_dips_84 : decode cX6_dips 84 = .ok (.invokevirtual 177, 3) := by decide +kernel
theorem dX6_dips_87 : decode cX6_dips 87 = .ok (.invokestatic 180, 3) := by decide +kernel
theorem dX6_dips_90 : decode cX6_dips 90 = .ok (.ireturn, 1) := by decide +kernel
theorem dX6_undo_0 : decode cX6_undo 0 = .ok (.aload_n 0, 1) := by decide +kernel
theorem dX6_undo_1 : decode cX6_undo 1 = .ok (.getfield 129, 3) := by decide +kernel
theorem dX6_undo_4 : decode cX6_undo 4 = .ok (.ifCond .ne 6, 3) := by decide +kernel
theorem dX6_undo_7 : decode cX6_undo 7 = .ok (.bipush (-2), 2) := by decide +kernel
theorem dX6_undo_9 : decode cX6_undo 9 = .ok (.ireturn, 1) := by decide +kernel
theorem dX6_undo_10 : decode cX6_undo 10 = .ok (.aload_n 0, 1) := by decide +kernel
theorem dX6_undo_11 : decode cX6_undo 11 = .ok (.dup, 1) := by decide +kernel
theorem dX6_undo_12 : decode cX6_undo 12 = .ok (.getfield 129, 3) := by decide +kernel
theorem dX6_undo_15 : decode cX6_undo 15 = .ok (.iconst 1, 1) := by decide +kernel
theorem dX6_undo_16 : decode cX6_undo 16 = .ok (.isub, 1) := by decide +kernel
theorem dX6_undo_17 : decode cX6_undo 17 = .ok (.putfield 129, 3) := by decide +kernel
theorem dX6_undo_20 : decode cX6_undo 20 = .ok (.aload_n 0, 1) := by decide +kernel
theorem dX6_undo_21 : decode cX6_undo 21 = .ok (.getfield 29, 3) := by decide +kernel
theorem dX6_undo_24 : decode cX6_undo 24 = .ok (.iconst 0, 1) := by decide +kernel
theorem dX6_undo_25 : decode cX6_undo 25 = .ok (.aload_n 0, 1) := by decide +kernel
theorem dX6_undo_26 : decode cX6_undo 26 = .ok (.getfield 32, 3) := by decide +kernel
theorem dX6_undo_29 : decode cX6_undo 29 = .ok (.bipush 26, 2) := by decide +kernel
theorem dX6_undo_31 : decode cX6_undo 31 = .ok (.aload_n 0, 1) := by decide +kernel
theorem dX6_undo_32 : decode cX6_undo 32 = .ok (.getfield 129, 3) := by decide +kernel
theorem dX6_undo_35 : decode cX6_undo 35 = .ok (.imul, 1) := by decide +kernel
theorem dX6_undo_36 : decode cX6_undo 36 = .ok (.invokestatic 135, 3) := by decide +kernel
theorem dX6_undo_39 : decode cX6_undo 39 = .ok (.aload_n 0, 1) := by decide +kernel
theorem dX6_undo_40 : decode cX6_undo 40 = .ok (.getfield 129, 3) := by decide +kernel
theorem dX6_undo_43 : decode cX6_undo 43 = .ok (.ireturn, 1) := by decide +kernel
theorem dX6_deep_0 : decode cX6_deep 0 = .ok (.aload_n 0, 1) := by decide +kernel
theorem dX6_deep_1 : decode cX6_deep 1 = .ok (.iload_n 1, 1) := by decide +kernel
theorem dX6_deep_2 : decode cX6_deep 2 = .ok (.invokevirtual 164, 3) := by decide +kernel
theorem dX6_deep_5 : decode cX6_deep 5 = .ok (.ifCond .eq 13, 3) := by decide +kernel
theorem dX6_deep_8 : decode cX6_deep 8 = .ok (.iload_n 2, 1) := by decide +kernel
theorem dX6_deep_9 : decode cX6_deep 9 = .ok (.iconst 0, 1) := by decide +kernel
theorem dX6_deep_10 : decode cX6_deep 10 = .ok (.bipush 40, 2) := by decide +kernel
theorem dX6_deep_12 : decode cX6_deep 12 = .ok (.invokestatic 63, 3) := by decide +kernel
theorem dX6_deep_15 : decode cX6_deep 15 = .ok (.ifCond .ne 5, 3) := by decide +kernel
theorem dX6_deep_18 : decode cX6_deep 18 = .ok (.iconst (-1), 1) := by decide +kernel
theorem dX6_deep_19 : decode cX6_deep 19 = .ok (.ireturn, 1) := by decide +kernel
theorem dX6_deep_20 : decode cX6_deep 20 = .ok (.aload_n 0, 1) := by decide +kernel
theorem dX6_deep_21 : decode cX6_deep 21 = .ok (.invokevirtual 158, 3) := by decide +kernel
theorem dX6_deep_24 : decode cX6_deep 24 = .ok (.iconst 0, 1) := by decide +kernel
theorem dX6_deep_25 : decode cX6_deep 25 = .ok (.istore_n 3, 1) := by decide +kernel
theorem dX6_deep_26 : decode cX6_deep 26 = .ok (.iload_n 3, 1) := by decide +kernel
theorem dX6_deep_27 : decode cX6_deep 27 = .ok (.iload_n 2, 1) := by decide +kernel
theorem dX6_deep_28 : decode cX6_deep 28 = .ok (.if_icmp .ge 13, 3) := by decide +kernel
theorem dX6_deep_31 : decode cX6_deep 31 = .ok (.aload_n 0, 1) := by decide +kernel
theorem dX6_deep_32 : decode cX6_deep 32 = .ok (.invokevirtual 183, 3) := by decide +kernel
theorem dX6_deep_35 : decode cX6_deep 35 = .ok (.iinc 3 1, 3) := by decide +kernel
theorem dX6_deep_38 : decode cX6_deep 38 = .ok (.goto (-12), 3) := by decide +kernel
theorem dX6_deep_41 : decode cX6_deep 41 = .ok (.aload_n 0, 1) := by decide +kernel
theorem dX6_deep_42 : decode cX6_deep 42 = .ok (.getfield 51, 3) := by decide +kernel
theorem dX6_deep_45 : decode cX6_deep 45 = .ok (.iconst 2, 1) := by decide +kernel
theorem dX6_deep_46 : decode cX6_deep 46 = .ok (.iload_n 1, 1) := by decide +kernel
theorem dX6_deep_47 : decode cX6_deep 47 = .ok (.iadd, 1) := by decide +kernel
theorem dX6_deep_48 : decode cX6_deep 48 = .ok (.iaload, 1) := by decide +kernel
theorem dX6_deep_49 : decode cX6_deep 49 = .ok (.ireturn, 1) := by decide +kernel
theorem dX6_topped_0 : decode cX6_topped 0 = .ok (.iconst 0, 1) := by decide +kernel
theorem dX6_topped_1 : decode cX6_topped 1 = .ok (.istore_n 3, 1) := by decide +kernel
theorem dX6_topped_2 : decode cX6_topped 2 = .ok (.iload_n 3, 1) := by decide +kernel
theorem dX6_topped_3 : decode cX6_topped 3 = .ok (.iload_n 2, 1) := by decide +kernel
theorem dX6_topped_4 : decode cX6_topped 4 = .ok (.if_icmp .gt 26, 3) := by decide +kernel
theorem dX6_topped_7 : decode cX6_topped 7 = .ok (.aload_n 0, 1) := by decide +kernel
theorem dX6_topped_8 : decode cX6_topped 8 = .ok (.getfield 51, 3) := by decide +kernel
theorem dX6_topped_11 : decode cX6_topped 11 = .ok (.iconst 2, 1) := by decide +kernel
theorem dX6_topped_12 : decode cX6_topped 12 = .ok (.iload_n 1, 1) := by decide +kernel
theorem dX6_topped_13 : decode cX6_topped 13 = .ok (.iadd, 1) := by decide +kernel
theorem dX6_topped_14 : decode cX6_topped 14 = .ok (.iaload, 1) := by decide +kernel
theorem dX6_topped_15 : decode cX6_topped 15 = .ok (.ifCond .ne 5, 3) := by decide +kernel
theorem dX6_topped_18 : decode cX6_topped 18 = .ok (.iload_n 3, 1) := by decide +kernel
theorem dX6_topped_19 : decode cX6_topped 19 = .ok (.ireturn, 1) := by decide +kernel
theorem dX6_topped_20 : decode cX6_topped 20 = .ok (.aload_n 0, 1) := by decide +kernel
theorem dX6_topped_21 : decode cX6_topped 21 = .ok (.invokevirtual 183, 3) := by decide +kernel
theorem dX6_topped_24 : decode cX6_topped 24 = .ok (.iinc 3 1, 3) := by decide +kernel
theorem dX6_topped_27 : decode cX6_topped 27 = .ok (.goto (-25), 3) := by decide +kernel
theorem dX6_topped_30 : decode cX6_topped 30 = .ok (.bipush (-9), 2) := by decide +kernel
theorem dX6_topped_32 : decode cX6_topped 32 = .ok (.ireturn, 1) := by decide +kernel
theorem dX6_when_0 : decode cX6_when 0 = .ok (.aload_n 0, 1) := by decide +kernel
theorem dX6_when_1 : decode cX6_when 1 = .ok (.iload_n 1, 1) := by decide +kernel
theorem dX6_when_2 : decode cX6_when 2 = .ok (.invokevirtual 164, 3) := by decide +kernel
theorem dX6_when_5 : decode cX6_when 5 = .ok (.ifCond .ne 5, 3) := by decide +kernel
theorem dX6_when_8 : decode cX6_when 8 = .ok (.iconst (-1), 1) := by decide +kernel
theorem dX6_when_9 : decode cX6_when 9 = .ok (.ireturn, 1) := by decide +kernel
theorem dX6_when_10 : decode cX6_when 10 = .ok (.aload_n 0, 1) := by decide +kernel
theorem dX6_when_11 : decode cX6_when 11 = .ok (.getfield 29, 3) := by decide +kernel
theorem dX6_when_14 : decode cX6_when 14 = .ok (.iconst 2, 1) := by decide +kernel
theorem dX6_when_15 : decode cX6_when 15 = .ok (.iload_n 1, 1) := by decide +kernel
theorem dX6_when_16 : decode cX6_when 16 = .ok (.iadd, 1) := by decide +kernel
theorem dX6_when_17 : decode cX6_when 17 = .ok (.iaload, 1) := by decide +kernel
theorem dX6_when_18 : decode cX6_when 18 = .ok (.bipush (-9), 2) := by decide +kernel
theorem dX6_when_20 : decode cX6_when 20 = .ok (.if_icmp .ne 6, 3) := by decide +kernel
theorem dX6_when_23 : decode cX6_when 23 = .ok (.bipush (-2), 2) := by decide +kernel
theorem dX6_when_25 : decode cX6_when 25 = .ok (.ireturn, 1) := by decide +kernel
theorem dX6_when_26 : decode cX6_when 26 = .ok (.aload_n 0, 1) := by decide +kernel
theorem dX6_when_27 : decode cX6_when 27 = .ok (.invokevirtual 158, 3) := by decide +kernel
theorem dX6_when_30 : decode cX6_when 30 = .ok (.aload_n 0, 1) := by decide +kernel
theorem dX6_when_31 : decode cX6_when 31 = .ok (.iload_n 1, 1) := by decide +kernel
theorem dX6_when_32 : decode cX6_when 32 = .ok (.bipush 40, 2) := by decide +kernel
theorem dX6_when_34 : decode cX6_when 34 = .ok (.invokevirtual 186, 3) := by decide +kernel
theorem dX6_when_37 : decode cX6_when 37 = .ok (.ireturn, 1) := by decide +kernel
theorem dX6_warm_0 : decode cX6_warm 0 = .ok (.aload_n 0, 1) := by decide +kernel
theorem dX6_warm_1 : decode cX6_warm 1 = .ok (.iload_n 1, 1) := by decide +kernel
theorem dX6_warm_2 : decode cX6_warm 2 = .ok (.invokevirtual 164, 3) := by decide +kernel
theorem dX6_warm_5 : decode cX6_warm 5 = .ok (.ifCond .eq 13, 3) := by decide +kernel
theorem dX6_warm_8 : decode cX6_warm 8 = .ok (.iload_n 2, 1) := by decide +kernel
theorem dX6_warm_9 : decode cX6_warm 9 = .ok (.iconst 1, 1) := by decide +kernel
theorem dX6_warm_10 : decode cX6_warm 10 = .ok (.bipush 40, 2) := by decide +kernel
theorem dX6_warm_12 : decode cX6_warm 12 = .ok (.invokestatic 63, 3) := by decide +kernel
theorem dX6_warm_15 : decode cX6_warm 15 = .ok (.ifCond .ne 5, 3) := by decide +kernel
theorem dX6_warm_18 : decode cX6_warm 18 = .ok (.iconst (-1), 1) := by decide +kernel
theorem dX6_warm_19 : decode cX6_warm 19 = .ok (.ireturn, 1) := by decide +kernel
theorem dX6_warm_20 : decode cX6_warm 20 = .ok (.aload_n 0, 1) := by decide +kernel
theorem dX6_warm_21 : decode cX6_warm 21 = .ok (.getfield 29, 3) := by decide +kernel
theorem dX6_warm_24 : decode cX6_warm 24 = .ok (.iconst 2, 1) := by decide +kernel
theorem dX6_warm_25 : decode cX6_warm 25 = .ok (.iload_n 1, 1) := by decide +kernel
theorem dX6_warm_26 : decode cX6_warm 26 = .ok (.iadd, 1) := by decide +kernel
theorem dX6_warm_27 : decode cX6_warm 27 = .ok (.iaload, 1) := by decide +kernel
theorem dX6_warm_28 : decode cX6_warm 28 = .ok (.bipush (-9), 2) := by decide +kernel
theorem dX6_warm_30 : decode cX6_warm 30 = .ok (.if_icmp .ne 6, 3) := by decide +kernel
theorem dX6_warm_33 : decode cX6_warm 33 = .ok (.bipush (-2), 2) := by decide +kernel
theorem dX6_warm_35 : decode cX6_warm 35 = .ok (.ireturn, 1) := by decide +kernel
theorem dX6_warm_36 : decode cX6_warm 36 = .ok (.iconst 0, 1) := by decide +kernel
theorem dX6_warm_37 : decode cX6_warm 37 = .ok (.istore_n 3, 1) := by decide +kernel
theorem dX6_warm_38 : decode cX6_warm 38 = .ok (.iload_n 3, 1) := by decide +kernel
theorem dX6_warm_39 : decode cX6_warm 39 = .ok (.bipush 9, 2) := by decide +kernel
theorem dX6_warm_41 : decode cX6_warm 41 = .ok (.if_icmp .gt 33, 3) := by decide +kernel
theorem dX6_warm_44 : decode cX6_warm 44 = .ok (.aload_n 0, 1) := by decide +kernel
theorem dX6_warm_45 : decode cX6_warm 45 = .ok (.invokevirtual 158, 3) := by decide +kernel
theorem dX6_warm_48 : decode cX6_warm 48 = .ok (.aload_n 0, 1) := by decide +kernel
theorem dX6_warm_49 : decode cX6_warm 49 = .ok (.getfield 51, 3) := by decide +kernel
theorem dX6_warm_52 : decode cX6_warm 52 = .ok (.iconst 1, 1) := by decide +kernel
theorem dX6_warm_53 : decode cX6_warm 53 = .ok (.iload_n 3, 1) := by decide +kernel
theorem dX6_warm_54 : decode cX6_warm 54 = .ok (.iastore, 1) := by decide +kernel
theorem dX6_warm_55 : decode cX6_warm 55 = .ok (.aload_n 0, 1) := by decide +kernel
theorem dX6_warm_56 : decode cX6_warm 56 = .ok (.iload_n 1, 1) := by decide +kernel
theorem dX6_warm_57 : decode cX6_warm 57 = .ok (.iload_n 2, 1) := by decide +kernel
theorem dX6_warm_58 : decode cX6_warm 58 = .ok (.invokevirtual 186, 3) := by decide +kernel
theorem dX6_warm_61 : decode cX6_warm 61 = .ok (.bipush (-9), 2) := by decide +kernel
theorem dX6_warm_63 : decode cX6_warm 63 = .ok (.if_icmp .eq 5, 3) := by decide +kernel
theorem dX6_warm_66 : decode cX6_warm 66 = .ok (.iload_n 3, 1) := by decide +kernel
theorem dX6_warm_67 : decode cX6_warm 67 = .ok (.ireturn, 1) := by decide +kernel
theorem dX6_warm_68 : decode cX6_warm 68 = .ok (.iinc 3 1, 3) := by decide +kernel
theorem dX6_warm_71 : decode cX6_warm 71 = .ok (.goto (-33), 3) := by decide +kernel
theorem dX6_warm_74 : decode cX6_warm 74 = .ok (.bipush (-9), 2) := by decide +kernel
theorem dX6_warm_76 : decode cX6_warm 76 = .ok (.ireturn, 1) := by decide +kernel
theorem dX6_isFirst_0 : decode cX6_isFirst 0 = .ok (.iconst 0, 1) := by decide +kernel
theorem dX6_isFirst_1 : decode cX6_isFirst 1 = .ok (.istore_n 3, 1) := by decide +kernel
theorem dX6_isFirst_2 : decode cX6_isFirst 2 = .ok (.iconst 0, 1) := by decide +kernel
theorem dX6_isFirst_3 : decode cX6_isFirst 3 = .ok (.istore 4, 2) := by decide +kernel
theorem dX6_isFirst_5 : decode cX6_isFirst 5 = .ok (.iload 4, 2) := by decide +kernel
theorem dX6_isFirst_7 : decode cX6_isFirst 7 = .ok (.aload_n 0, 1) := by decide +kernel
theorem dX6_isFirst_8 : decode cX6_isFirst 8 = .ok (.getfield 60, 3) := by decide +kernel
theorem dX6_isFirst_11 : decode cX6_isFirst 11 = .ok (.if_icmp .ge 35, 3) := by decide +kernel
theorem dX6_isFirst_14 : decode cX6_isFirst 14 = .ok (.iload_n 3, 1) := by decide +kernel
theorem dX6_isFirst_15 : decode cX6_isFirst 15 = .ok (.aload_n 0, 1) := by decide +kernel
theorem dX6_isFirst_16 : decode cX6_isFirst 16 = .ok (.getfield 51, 3) := by decide +kernel
theorem dX6_isFirst_19 : decode cX6_isFirst 19 = .ok (.bipush 20, 2) := by decide +kernel
theorem dX6_isFirst_21 : decode cX6_isFirst 21 = .ok (.iload 4, 2) := by decide +kernel
theorem dX6_isFirst_23 : decode cX6_isFirst 23 = .ok (.iadd, 1) := by decide +kernel
theorem dX6_isFirst_24 : decode cX6_isFirst 24 = .ok (.iaload, 1) := by decide +kernel
theorem dX6_isFirst_25 : decode cX6_isFirst 25 = .ok (.bipush (-9), 2) := by decide +kernel
theorem dX6_isFirst_27 : decode cX6_isFirst 27 = .ok (.if_icmp .ne 7, 3) := by decide +kernel
theorem dX6_isFirst_30 : decode cX6_isFirst 30 = .ok (.iconst 0, 1) := by decide +kernel
theorem dX6_isFirst_31 : decode cX6_isFirst 31 = .ok (.goto 7, 3) := by decide +kernel
theorem dX6_isFirst_34 : decode cX6_isFirst 34 = .ok (.iconst 1, 1) := by decide +kernel
theorem dX6_isFirst_35 : decode cX6_isFirst 35 = .ok (.iload 4, 2) := by decide +kernel
theorem dX6_isFirst_37 : decode cX6_isFirst 37 = .ok (.ishl, 1) := by decide +kernel
theorem dX6_isFirst_38 : decode cX6_isFirst 38 = .ok (.ior, 1) := by decide +kernel
theorem dX6_isFirst_39 : decode cX6_isFirst 39 = .ok (.istore_n 3, 1) := by decide +kernel
theorem dX6_isFirst_40 : decode cX6_isFirst 40 = .ok (.iinc 4 1, 3) := by decide +kernel
theorem dX6_isFirst_43 : decode cX6_isFirst 43 = .ok (.goto (-38), 3) := by decide +kernel
theorem dX6_isFirst_46 : decode cX6_isFirst 46 = .ok (.iconst 0, 1) := by decide +kernel
theorem dX6_isFirst_47 : decode cX6_isFirst 47 = .ok (.istore 4, 2) := by decide +kernel
theorem dX6_isFirst_49 : decode cX6_isFirst 49 = .ok (.iload 4, 2) := by decide +kernel
theorem dX6_isFirst_51 : decode cX6_isFirst 51 = .ok (.iload_n 2, 1) := by decide +kernel
theorem dX6_isFirst_52 : decode cX6_isFirst 52 = .ok (.if_icmp .ge 67, 3) := by decide +kernel
theorem dX6_isFirst_55 : decode cX6_isFirst 55 = .ok (.aload_n 0, 1) := by decide +kernel
theorem dX6_isFirst_56 : decode cX6_isFirst 56 = .ok (.invokevirtual 183, 3) := by decide +kernel
theorem dX6_isFirst_59 : decode cX6_isFirst 59 = .ok (.iconst 0, 1) := by decide +kernel
theorem dX6_isFirst_60 : decode cX6_isFirst 60 = .ok (.istore 5, 2) := by decide +kernel
theorem dX6_isFirst_62 : decode cX6_isFirst 62 = .ok (.iload 5, 2) := by decide +kernel
theorem dX6_isFirst_64 : decode cX6_isFirst 64 = .ok (.aload_n 0, 1) := by decide +kernel
theorem dX6_isFirst_65 : decode cX6_isFirst 65 = .ok (.getfield 60, 3) := by decide +kernel
theorem dX6_isFirst_68 : decode cX6_isFirst 68 = .ok (.if_icmp .ge 45, 3) := by decide +kernel
theorem dX6_isFirst_71 : decode cX6_isFirst 71 = .ok (.aload_n 0, 1) := by decide +kernel
theorem dX6_isFirst_72 : decode cX6_isFirst 72 = .ok (.getfield 51, 3) := by decide +kernel
theorem dX6_isFirst_75 : decode cX6_isFirst 75 = .ok (.bipush 20, 2) := by decide +kernel
theorem dX6_isFirst_77 : decode cX6_isFirst 77 = .ok (.iload 5, 2) := by decide +kernel
theorem dX6_isFirst_79 : decode cX6_isFirst 79 = .ok (.iadd, 1) := by decide +kernel
theorem dX6_isFirst_80 : decode cX6_isFirst 80 = .ok (.iaload, 1) := by decide +kernel
theorem dX6_isFirst_81 : decode cX6_isFirst 81 = .ok (.bipush (-9), 2) := by decide +kernel
theorem dX6_isFirst_83 : decode cX6_isFirst 83 = .ok (.if_icmp .eq 24, 3) := by decide +kernel
theorem dX6_isFirst_86 : decode cX6_isFirst 86 = .ok (.iload_n 3, 1) := by decide +kernel
theorem dX6_isFirst_87 : decode cX6_isFirst 87 = .ok (.iload 5, 2) := by decide +kernel
theorem dX6_isFirst_89 : decode cX6_isFirst 89 = .ok (.invokestatic 139, 3) := by decide +kernel
theorem dX6_isFirst_92 : decode cX6_isFirst 92 = .ok (.ifCond .ne 15, 3) := by decide +kernel
theorem dX6_isFirst_95 : decode cX6_isFirst 95 = .ok (.iload 5, 2) := by decide +kernel
theorem dX6_isFirst_97 : decode cX6_isFirst 97 = .ok (.iload_n 1, 1) := by decide +kernel
theorem dX6_isFirst_98 : decode cX6_isFirst 98 = .ok (.if_icmp .ne 7, 3) := by decide +kernel
theorem dX6_isFirst_101 : decode cX6_isFirst 101 = .ok (.iconst 1, 1) := by decide +kernel
theorem dX6_isFirst_102 : decode cX6_isFirst 102 = .ok (.goto 4, 3) := by decide +kernel
theorem dX6_isFirst_105 : decode cX6_isFirst 105 = .ok (.iconst 0, 1) := by decide +kernel
theorem dX6_isFirst_106 : decode cX6_isFirst 106 = .ok (.ireturn, 1) := by decide +kernel
theorem dX6_isFirst_107 : decode cX6_isFirst 107 = .ok (.iinc 5 1, 3) := by decide +kernel
theorem dX6_isFirst_110 : decode cX6_isFirst 110 = .ok (.goto (-48), 3) := by decide +kernel
theorem dX6_isFirst_113 : decode cX6_isFirst 113 = .ok (.iinc 4 1, 3) := by decide +kernel
theorem dX6_isFirst_116 : decode cX6_isFirst 116 = .ok (.goto (-67), 3) := by decide +kernel
theorem dX6_isFirst_119 : decode cX6_isFirst 119 = .ok (.iconst 0, 1) := by decide +kernel
theorem dX6_isFirst_120 : decode cX6_isFirst 120 = .ok (.ireturn, 1) := by decide +kernel
theorem dX6_kept_0 : decode cX6_kept 0 = .ok (.aload_n 0, 1) := by decide +kernel
theorem dX6_kept_1 : decode cX6_kept 1 = .ok (.iload_n 1, 1) := by decide +kernel
theorem dX6_kept_2 : decode cX6_kept 2 = .ok (.invokevirtual 164, 3) := by decide +kernel
theorem dX6_kept_5 : decode cX6_kept 5 = .ok (.ifCond .eq 13, 3) := by decide +kernel
theorem dX6_kept_8 : decode cX6_kept 8 = .ok (.iload_n 2, 1) := by decide +kernel
theorem dX6_kept_9 : decode cX6_kept 9 = .ok (.iconst 1, 1) := by decide +kernel
theorem dX6_kept_10 : decode cX6_kept 10 = .ok (.bipush 40, 2) := by decide +kernel
theorem dX6_kept_12 : decode cX6_kept 12 = .ok (.invokestatic 63, 3) := by decide +kernel
theorem dX6_kept_15 : decode cX6_kept 15 = .ok (.ifCond .ne 5, 3) := by decide +kernel
theorem dX6_kept_18 : decode cX6_kept 18 = .ok (.iconst (-1), 1) := by decide +kernel
theorem dX6_kept_19 : decode cX6_kept 19 = .ok (.ireturn, 1) := by decide +kernel
theorem dX6_kept_20 : decode cX6_kept 20 = .ok (.aload_n 0, 1) := by decide +kernel
theorem dX6_kept_21 : decode cX6_kept 21 = .ok (.getfield 29, 3) := by decide +kernel
theorem dX6_kept_24 : decode cX6_kept 24 = .ok (.iconst 2, 1) := by decide +kernel
theorem dX6_kept_25 : decode cX6_kept 25 = .ok (.iload_n 1, 1) := by decide +kernel
theorem dX6_kept_26 : decode cX6_kept 26 = .ok (.iadd, 1) := by decide +kernel
theorem dX6_kept_27 : decode cX6_kept 27 = .ok (.iaload, 1) := by decide +kernel
theorem dX6_kept_28 : decode cX6_kept 28 = .ok (.bipush (-9), 2) := by decide +kernel
theorem dX6_kept_30 : decode cX6_kept 30 = .ok (.if_icmp .ne 17, 3) := by decide +kernel
theorem dX6_kept_33 : decode cX6_kept 33 = .ok (.aload_n 0, 1) := by decide +kernel
theorem dX6_kept_34 : decode cX6_kept 34 = .ok (.getfield 29, 3) := by decide +kernel
theorem dX6_kept_37 : decode cX6_kept 37 = .ok (.bipush 20, 2) := by decide +kernel
theorem dX6_kept_39 : decode cX6_kept 39 = .ok (.iload_n 1, 1) := by decide +kernel
theorem dX6_kept_40 : decode cX6_kept 40 = .ok (.iadd, 1) := by decide +kernel
theorem dX6_kept_41 : decode cX6_kept 41 = .ok (.iaload, 1) := by decide +kernel
theorem dX6_kept_42 : decode cX6_kept 42 = .ok (.bipush (-9), 2) := by decide +kernel
theorem dX6_kept_44 : decode cX6_kept 44 = .ok (.if_icmp .eq 6, 3) := by decide +kernel
theorem dX6_kept_47 : decode cX6_kept 47 = .ok (.bipush (-2), 2) := by decide +kernel
theorem dX6_kept_49 : decode cX6_kept 49 = .ok (.ireturn, 1) := by decide +kernel
