theorem dX6_kept_50 : decode cX6_kept 50 = .ok (.aload_n 0, 1) := by decide +kernel
theorem dX6_kept_51 : decode cX6_kept 51 = .ok (.invokevirtual 177, 3) := by decide +kernel
theorem dX6_kept_54 : decode cX6_kept 54 = .ok (.iconst 1, 1) := by decide +kernel
theorem dX6_kept_55 : decode cX6_kept 55 = .ok (.iload_n 1, 1) := by decide +kernel
theorem dX6_kept_56 : decode cX6_kept 56 = .ok (.ishl, 1) := by decide +kernel
theorem dX6_kept_57 : decode cX6_kept 57 = .ok (.iconst (-1), 1) := by decide +kernel
theorem dX6_kept_58 : decode cX6_kept 58 = .ok (.ixor, 1) := by decide +kernel
theorem dX6_kept_59 : decode cX6_kept 59 = .ok (.iand, 1) := by decide +kernel
theorem dX6_kept_60 : decode cX6_kept 60 = .ok (.istore_n 3, 1) := by decide +kernel
theorem dX6_kept_61 : decode cX6_kept 61 = .ok (.bipush (-9), 2) := by decide +kernel
theorem dX6_kept_63 : decode cX6_kept 63 = .ok (.istore 4, 2) := by decide +kernel
theorem dX6_kept_65 : decode cX6_kept 65 = .ok (.iconst 0, 1) := by decide +kernel
theorem dX6_kept_66 : decode cX6_kept 66 = .ok (.istore 5, 2) := by decide +kernel
theorem dX6_kept_68 : decode cX6_kept 68 = .ok (.iload 5, 2) := by decide +kernel
theorem dX6_kept_70 : decode cX6_kept 70 = .ok (.iconst 1, 1) := by decide +kernel
theorem dX6_kept_71 : decode cX6_kept 71 = .ok (.aload_n 0, 1) := by decide +kernel
theorem dX6_kept_72 : decode cX6_kept 72 = .ok (.getfield 60, 3) := by decide +kernel
theorem dX6_kept_75 : decode cX6_kept 75 = .ok (.ishl, 1) := by decide +kernel
theorem dX6_kept_76 : decode cX6_kept 76 = .ok (.if_icmp .ge 123, 3) := by decide +kernel
theorem dX6_kept_79 : decode cX6_kept 79 = .ok (.iload 5, 2) := by decide +kernel
theorem dX6_kept_81 : decode cX6_kept 81 = .ok (.iload_n 3, 1) := by decide +kernel
theorem dX6_kept_82 : decode cX6_kept 82 = .ok (.iconst (-1), 1) := by decide +kernel
theorem dX6_kept_83 : decode cX6_kept 83 = .ok (.ixor, 1) := by decide +kernel
theorem dX6_kept_84 : decode cX6_kept 84 = .ok (.iand, 1) := by decide +kernel
theorem dX6_kept_85 : decode cX6_kept 85 = .ok (.ifCond .ne 108, 3) := by decide +kernel
theorem dX6_kept_88 : decode cX6_kept 88 = .ok (.iload 4, 2) := by decide +kernel
theorem dX6_kept_90 : decode cX6_kept 90 = .ok (.ifCond .lt 16, 3) := by decide +kernel
theorem dX6_kept_93 : decode cX6_kept 93 = .ok (.iload 5, 2) := by decide +kernel
theorem dX6_kept_95 : decode cX6_kept 95 = .ok (.invokestatic 180, 3) := by decide +kernel
theorem dX6_kept_98 : decode cX6_kept 98 = .ok (.iload 4, 2) := by decide +kernel
theorem dX6_kept_100 : decode cX6_kept 100 = .ok (.invokestatic 180, 3) := by decide +kernel
theorem dX6_kept_103 : decode cX6_kept 103 = .ok (.if_icmp .ge 90, 3) := by decide +kernel
theorem dX6_kept_106 : decode cX6_kept 106 = .ok (.aload_n 0, 1) := by decide +kernel
theorem dX6_kept_107 : decode cX6_kept 107 = .ok (.invokevirtual 158, 3) := by decide +kernel
theorem dX6_kept_110 : decode cX6_kept 110 = .ok (.iconst 0, 1) := by decide +kernel
theorem dX6_kept_111 : decode cX6_kept 111 = .ok (.istore 6, 2) := by decide +kernel
theorem dX6_kept_113 : decode cX6_kept 113 = .ok (.iload 6, 2) := by decide +kernel
theorem dX6_kept_115 : decode cX6_kept 115 = .ok (.aload_n 0, 1) := by decide +kernel
theorem dX6_kept_116 : decode cX6_kept 116 = .ok (.getfield 60, 3) := by decide +kernel
theorem dX6_kept_119 : decode cX6_kept 119 = .ok (.if_icmp .ge 56, 3) := by decide +kernel
theorem dX6_kept_122 : decode cX6_kept 122 = .ok (.aload_n 0, 1) := by decide +kernel
theorem dX6_kept_123 : decode cX6_kept 123 = .ok (.getfield 51, 3) := by decide +kernel
theorem dX6_kept_126 : decode cX6_kept 126 = .ok (.iconst 2, 1) := by decide +kernel
theorem dX6_kept_127 : decode cX6_kept 127 = .ok (.iload 6, 2) := by decide +kernel
theorem dX6_kept_129 : decode cX6_kept 129 = .ok (.iadd, 1) := by decide +kernel
theorem dX6_kept_130 : decode cX6_kept 130 = .ok (.aload_n 0, 1) := by decide +kernel
theorem dX6_kept_131 : decode cX6_kept 131 = .ok (.getfield 51, 3) := by decide +kernel
theorem dX6_kept_134 : decode cX6_kept 134 = .ok (.iconst 2, 1) := by decide +kernel
theorem dX6_kept_135 : decode cX6_kept 135 = .ok (.iload 6, 2) := by decide +kernel
theorem dX6_kept_137 : decode cX6_kept 137 = .ok (.iadd, 1) := by decide +kernel
theorem dX6_kept_138 : decode cX6_kept 138 = .ok (.iaload, 1) := by decide +kernel
theorem dX6_kept_139 : decode cX6_kept 139 = .ok (.bipush (-9), 2) := by decide +kernel
theorem dX6_kept_141 : decode cX6_kept 141 = .ok (.if_icmp .ne 18, 3) := by decide +kernel
theorem dX6_kept_144 : decode cX6_kept 144 = .ok (.iload 5, 2) := by decide +kernel
theorem dX6_kept_146 : decode cX6_kept 146 = .ok (.iload 6, 2) := by decide +kernel
theorem dX6_kept_148 : decode cX6_kept 148 = .ok (.invokestatic 139, 3) := by decide +kernel
theorem dX6_kept_151 : decode cX6_kept 151 = .ok (.ifCond .ne 8, 3) := by decide +kernel
theorem dX6_kept_154 : decode cX6_kept 154 = .ok (.bipush 10, 2) := by decide +kernel
theorem dX6_kept_156 : decode cX6_kept 156 = .ok (.goto 12, 3) := by decide +kernel
theorem dX6_kept_159 : decode cX6_kept 159 = .ok (.aload_n 0, 1) := by decide +kernel
theorem dX6_kept_160 : decode cX6_kept 160 = .ok (.getfield 51, 3) := by decide +kernel
theorem dX6_kept_163 : decode cX6_kept 163 = .ok (.iconst 2, 1) := by decide +kernel
theorem dX6_kept_164 : decode cX6_kept 164 = .ok (.iload 6, 2) := by decide +kernel
theorem dX6_kept_166 : decode cX6_kept 166 = .ok (.iadd, 1) := by decide +kernel
theorem dX6_kept_167 : decode cX6_kept 167 = .ok (.iaload, 1) := by decide +kernel
theorem dX6_kept_168 : decode cX6_kept 168 = .ok (.iastore, 1) := by decide +kernel
theorem dX6_kept_169 : decode cX6_kept 169 = .ok (.iinc 6 1, 3) := by decide +kernel
theorem dX6_kept_172 : decode cX6_kept 172 = .ok (.goto (-59), 3) := by decide +kernel
theorem dX6_kept_175 : decode cX6_kept 175 = .ok (.aload_n 0, 1) := by decide +kernel
theorem dX6_kept_176 : decode cX6_kept 176 = .ok (.iload_n 1, 1) := by decide +kernel
theorem dX6_kept_177 : decode cX6_kept 177 = .ok (.iload_n 2, 1) := by decide +kernel
theorem dX6_kept_178 : decode cX6_kept 178 = .ok (.invokevirtual 189, 3) := by decide +kernel
theorem dX6_kept_181 : decode cX6_kept 181 = .ok (.ifCond .eq 8, 3) := by decide +kernel
theorem dX6_kept_184 : decode cX6_kept 184 = .ok (.iload 5, 2) := by decide +kernel
theorem dX6_kept_186 : decode cX6_kept 186 = .ok (.goto 5, 3) := by decide +kernel
theorem dX6_kept_189 : decode cX6_kept 189 = .ok (.iload 4, 2) := by decide +kernel
theorem dX6_kept_191 : decode cX6_kept 191 = .ok (.istore 4, 2) := by decide +kernel
theorem dX6_kept_193 : decode cX6_kept 193 = .ok (.iinc 5 1, 3) := by decide +kernel
theorem dX6_kept_196 : decode cX6_kept 196 = .ok (.goto (-128), 3) := by decide +kernel
theorem dX6_kept_199 : decode cX6_kept 199 = .ok (.iload 4, 2) := by decide +kernel
theorem dX6_kept_201 : decode cX6_kept 201 = .ok (.ireturn, 1) := by decide +kernel
theorem dX6_seatsOf_0 : decode cX6_seatsOf 0 = .ok (.iconst 0, 1) := by decide +kernel
theorem dX6_seatsOf_1 : decode cX6_seatsOf 1 = .ok (.istore_n 2, 1) := by decide +kernel
theorem dX6_seatsOf_2 : decode cX6_seatsOf 2 = .ok (.iconst 0, 1) := by decide +kernel
theorem dX6_seatsOf_3 : decode cX6_seatsOf 3 = .ok (.istore_n 3, 1) := by decide +kernel
theorem dX6_seatsOf_4 : decode cX6_seatsOf 4 = .ok (.iload_n 3, 1) := by decide +kernel
theorem dX6_seatsOf_5 : decode cX6_seatsOf 5 = .ok (.aload_n 0, 1) := by decide +kernel
theorem dX6_seatsOf_6 : decode cX6_seatsOf 6 = .ok (.getfield 60, 3) := by decide +kernel
theorem dX6_seatsOf_9 : decode cX6_seatsOf 9 = .ok (.if_icmp .ge 30, 3) := by decide +kernel
theorem dX6_seatsOf_12 : decode cX6_seatsOf 12 = .ok (.iload_n 2, 1) := by decide +kernel
theorem dX6_seatsOf_13 : decode cX6_seatsOf 13 = .ok (.iload_n 1, 1) := by decide +kernel
theorem dX6_seatsOf_14 : decode cX6_seatsOf 14 = .ok (.iload_n 3, 1) := by decide +kernel
theorem dX6_seatsOf_15 : decode cX6_seatsOf 15 = .ok (.invokestatic 139, 3) := by decide +kernel
theorem dX6_seatsOf_18 : decode cX6_seatsOf 18 = .ok (.ifCond .eq 12, 3) := by decide +kernel
theorem dX6_seatsOf_21 : decode cX6_seatsOf 21 = .ok (.aload_n 0, 1) := by decide +kernel
theorem dX6_seatsOf_22 : decode cX6_seatsOf 22 = .ok (.getfield 16, 3) := by decide +kernel
theorem dX6_seatsOf_25 : decode cX6_seatsOf 25 = .ok (.iload_n 3, 1) := by decide +kernel
theorem dX6_seatsOf_26 : decode cX6_seatsOf 26 = .ok (.iaload, 1) := by decide +kernel
theorem dX6_seatsOf_27 : decode cX6_seatsOf 27 = .ok (.goto 4, 3) := by decide +kernel
theorem dX6_seatsOf_30 : decode cX6_seatsOf 30 = .ok (.iconst 0, 1) := by decide +kernel
theorem dX6_seatsOf_31 : decode cX6_seatsOf 31 = .ok (.iadd, 1) := by decide +kernel
theorem dX6_seatsOf_32 : decode cX6_seatsOf 32 = .ok (.istore_n 2, 1) := by decide +kernel
theorem dX6_seatsOf_33 : decode cX6_seatsOf 33 = .ok (.iinc 3 1, 3) := by decide +kernel
theorem dX6_seatsOf_36 : decode cX6_seatsOf 36 = .ok (.goto (-32), 3) := by decide +kernel
theorem dX6_seatsOf_39 : decode cX6_seatsOf 39 = .ok (.iload_n 2, 1) := by decide +kernel
theorem dX6_seatsOf_40 : decode cX6_seatsOf 40 = .ok (.ireturn, 1) := by decide +kernel
theorem dX6_party_0 : decode cX6_party 0 = .ok (.iload_n 1, 1) := by decide +kernel
theorem dX6_party_1 : decode cX6_party 1 = .ok (.iconst 1, 1) := by decide +kernel
theorem dX6_party_2 : decode cX6_party 2 = .ok (.bipush 54, 2) := by decide +kernel
theorem dX6_party_4 : decode cX6_party 4 = .ok (.invokestatic 63, 3) := by decide +kernel
theorem dX6_party_7 : decode cX6_party 7 = .ok (.ifCond .ne 5, 3) := by decide +kernel
theorem dX6_party_10 : decode cX6_party 10 = .ok (.iconst (-1), 1) := by decide +kernel
theorem dX6_party_11 : decode cX6_party 11 = .ok (.ireturn, 1) := by decide +kernel
theorem dX6_party_12 : decode cX6_party 12 = .ok (.bipush (-9), 2) := by decide +kernel
theorem dX6_party_14 : decode cX6_party 14 = .ok (.istore_n 2, 1) := by decide +kernel
theorem dX6_party_15 : decode cX6_party 15 = .ok (.iconst 0, 1) := by decide +kernel
theorem dX6_party_16 : decode cX6_party 16 = .ok (.istore_n 3, 1) := by decide +kernel
theorem dX6_party_17 : decode cX6_party 17 = .ok (.iload_n 3, 1) := by decide +kernel
theorem dX6_party_18 : decode cX6_party 18 = .ok (.iconst 1, 1) := by decide +kernel
theorem dX6_party_19 : decode cX6_party 19 = .ok (.aload_n 0, 1) := by decide +kernel
theorem dX6_party_20 : decode cX6_party 20 = .ok (.getfield 60, 3) := by decide +kernel
theorem dX6_party_23 : decode cX6_party 23 = .ok (.ishl, 1) := by decide +kernel
theorem dX6_party_24 : decode cX6_party 24 = .ok (.if_icmp .ge 39, 3) := by decide +kernel
theorem dX6_party_27 : decode cX6_party 27 = .ok (.aload_n 0, 1) := by decide +kernel
theorem dX6_party_28 : decode cX6_party 28 = .ok (.iload_n 3, 1) := by decide +kernel
theorem dX6_party_29 : decode cX6_party 29 = .ok (.invokevirtual 192, 3) := by decide +kernel
theorem dX6_party_32 : decode cX6_party 32 = .ok (.iload_n 1, 1) := by decide +kernel
theorem dX6_party_33 : decode cX6_party 33 = .ok (.if_icmp .lt 22, 3) := by decide +kernel
theorem dX6_party_36 : decode cX6_party 36 = .ok (.iload_n 2, 1) := by decide +kernel
theorem dX6_party_37 : decode cX6_party 37 = .ok (.ifCond .lt 14, 3) := by decide +kernel
theorem dX6_party_40 : decode cX6_party 40 = .ok (.iload_n 3, 1) := by decide +kernel
theorem dX6_party_41 : decode cX6_party 41 = .ok (.invokestatic 180, 3) := by decide +kernel
theorem dX6_party_44 : decode cX6_party 44 = .ok (.iload_n 2, 1) := by decide +kernel
theorem dX6_party_45 : decode cX6_party 45 = .ok (.invokestatic 180, 3) := by decide +kernel
theorem dX6_party_48 : decode cX6_party 48 = .ok (.if_icmp .ge 7, 3) := by decide +kernel
theorem dX6_party_51 : decode cX6_party 51 = .ok (.iload_n 3, 1) := by decide +kernel
theorem dX6_party_52 : decode cX6_party 52 = .ok (.goto 4, 3) := by decide +kernel
theorem dX6_party_55 : decode cX6_party 55 = .ok (.iload_n 2, 1) := by decide +kernel
theorem dX6_party_56 : decode cX6_party 56 = .ok (.istore_n 2, 1) := by decide +kernel
theorem dX6_party_57 : decode cX6_party 57 = .ok (.iinc 3 1, 3) := by decide +kernel
theorem dX6_party_60 : decode cX6_party 60 = .ok (.goto (-43), 3) := by decide +kernel
theorem dX6_party_63 : decode cX6_party 63 = .ok (.iload_n 2, 1) := by decide +kernel
theorem dX6_party_64 : decode cX6_party 64 = .ok (.ireturn, 1) := by decide +kernel
theorem dX6_power_0 : decode cX6_power 0 = .ok (.aload_n 0, 1) := by decide +kernel
theorem dX6_power_1 : decode cX6_power 1 = .ok (.iload_n 1, 1) := by decide +kernel
theorem dX6_power_2 : decode cX6_power 2 = .ok (.invokevirtual 164, 3) := by decide +kernel
theorem dX6_power_5 : decode cX6_power 5 = .ok (.ifCond .eq 13, 3) := by decide +kernel
theorem dX6_power_8 : decode cX6_power 8 = .ok (.iload_n 2, 1) := by decide +kernel
theorem dX6_power_9 : decode cX6_power 9 = .ok (.iconst 1, 1) := by decide +kernel
theorem dX6_power_10 : decode cX6_power 10 = .ok (.bipush 54, 2) := by decide +kernel
theorem dX6_power_12 : decode cX6_power 12 = .ok (.invokestatic 63, 3) := by decide +kernel
theorem dX6_power_15 : decode cX6_power 15 = .ok (.ifCond .ne 5, 3) := by decide +kernel
theorem dX6_power_18 : decode cX6_power 18 = .ok (.iconst (-1), 1) := by decide +kernel
theorem dX6_power_19 : decode cX6_power 19 = .ok (.ireturn, 1) := by decide +kernel
theorem dX6_power_20 : decode cX6_power 20 = .ok (.iconst 0, 1) := by decide +kernel
theorem dX6_power_21 : decode cX6_power 21 = .ok (.istore_n 3, 1) := by decide +kernel
theorem dX6_power_22 : decode cX6_power 22 = .ok (.iconst 0, 1) := by decide +kernel
theorem dX6_power_23 : decode cX6_power 23 = .ok (.istore 4, 2) := by decide +kernel
theorem dX6_power_25 : decode cX6_power 25 = .ok (.iload 4, 2) := by decide +kernel
theorem dX6_power_27 : decode cX6_power 27 = .ok (.iconst 1, 1) := by decide +kernel
theorem dX6_power_28 : decode cX6_power 28 = .ok (.aload_n 0, 1) := by decide +kernel
theorem dX6_power_29 : decode cX6_power 29 = .ok (.getfield 60, 3) := by decide +kernel
theorem dX6_power_32 : decode cX6_power 32 = .ok (.ishl, 1) := by decide +kernel
theorem dX6_power_33 : decode cX6_power 33 = .ok (.if_icmp .ge 53, 3) := by decide +kernel
theorem dX6_power_36 : decode cX6_power 36 = .ok (.iload_n 3, 1) := by decide +kernel
theorem dX6_power_37 : decode cX6_power 37 = .ok (.iload 4, 2) := by decide +kernel
theorem dX6_power_39 : decode cX6_power 39 = .ok (.iload_n 1, 1) := by decide +kernel
theorem dX6_power_40 : decode cX6_power 40 = .ok (.invokestatic 139, 3) := by decide +kernel
theorem dX6_power_43 : decode cX6_power 43 = .ok (.ifCond .ne 34, 3) := by decide +kernel
theorem dX6_power_46 : decode cX6_power 46 = .ok (.aload_n 0, 1) := by decide +kernel
theorem dX6_power_47 : decode cX6_power 47 = .ok (.iload 4, 2) := by decide +kernel
theorem dX6_power_49 : decode cX6_power 49 = .ok (.invokevirtual 192, 3) := by decide +kernel
theorem dX6_power_52 : decode cX6_power 52 = .ok (.iload_n 2, 1) := by decide +kernel
theorem dX6_power_53 : decode cX6_power 53 = .ok (.if_icmp .ge 24, 3) := by decide +kernel
theorem dX6_power_56 : decode cX6_power 56 = .ok (.aload_n 0, 1) := by decide +kernel
theorem dX6_power_57 : decode cX6_power 57 = .ok (.iload 4, 2) := by decide +kernel
theorem dX6_power_59 : decode cX6_power 59 = .ok (.invokevirtual 192, 3) := by decide +kernel
theorem dX6_power_62 : decode cX6_power 62 = .ok (.aload_n 0, 1) := by decide +kernel
theorem dX6_power_63 : decode cX6_power 63 = .ok (.getfield 16, 3) := by decide +kernel
theorem dX6_power_66 : decode cX6_power 66 = .ok (.iload_n 1, 1) := by decide +kernel
theorem dX6_power_67 : decode cX6_power 67 = .ok (.iaload, 1) := by decide +kernel
theorem dX6_power_68 : decode cX6_power 68 = .ok (.iadd, 1) := by decide +kernel
theorem dX6_power_69 : decode cX6_power 69 = .ok (.iload_n 2, 1) := by decide +kernel
theorem dX6_power_70 : decode cX6_power 70 = .ok (.if_icmp .lt 7, 3) := by decide +kernel
theorem dX6_power_73 : decode cX6_power 73 = .ok (.iconst 1, 1) := by decide +kernel
theorem dX6_power_74 : decode cX6_power 74 = .ok (.goto 4, 3) := by decide +kernel
theorem dX6_power_77 : decode cX6_power 77 = .ok (.iconst 0, 1) := by decide +kernel
theorem dX6_power_78 : decode cX6_power 78 = .ok (.iadd, 1) := by decide +kernel
theorem dX6_power_79 : decode cX6_power 79 = .ok (.istore_n 3, 1) := by decide +kernel
theorem dX6_power_80 : decode cX6_power 80 = .ok (.iinc 4 1, 3) := by decide +kernel
theorem dX6_power_83 : decode cX6_power 83 = .ok (.goto (-58), 3) := by decide +kernel
theorem dX6_power_86 : decode cX6_power 86 = .ok (.iload_n 3, 1) := by decide +kernel
theorem dX6_power_87 : decode cX6_power 87 = .ok (.ireturn, 1) := by decide +kernel
theorem dX6_sizeOf_0 : decode cX6_sizeOf 0 = .ok (.iconst 0, 1) := by decide +kernel
theorem dX6_sizeOf_1 : decode cX6_sizeOf 1 = .ok (.istore_n 2, 1) := by decide +kernel
theorem dX6_sizeOf_2 : decode cX6_sizeOf 2 = .ok (.iconst 0, 1) := by decide +kernel
theorem dX6_sizeOf_3 : decode cX6_sizeOf 3 = .ok (.istore_n 3, 1) := by decide +kernel
theorem dX6_sizeOf_4 : decode cX6_sizeOf 4 = .ok (.iload_n 3, 1) := by decide +kernel
theorem dX6_sizeOf_5 : decode cX6_sizeOf 5 = .ok (.aload_n 0, 1) := by decide +kernel
theorem dX6_sizeOf_6 : decode cX6_sizeOf 6 = .ok (.getfield 60, 3) := by decide +kernel
theorem dX6_sizeOf_9 : decode cX6_sizeOf 9 = .ok (.if_icmp .ge 33, 3) := by decide +kernel
theorem dX6_sizeOf_12 : decode cX6_sizeOf 12 = .ok (.iload_n 2, 1) := by decide +kernel
theorem dX6_sizeOf_13 : decode cX6_sizeOf 13 = .ok (.iload_n 1, 1) := by decide +kernel
theorem dX6_sizeOf_14 : decode cX6_sizeOf 14 = .ok (.iload_n 3, 1) := by decide +kernel
theorem dX6_sizeOf_15 : decode cX6_sizeOf 15 = .ok (.invokestatic 139, 3) := by decide +kernel
theorem dX6_sizeOf_18 : decode cX6_sizeOf 18 = .ok (.ifCond .eq 15, 3) := by decide +kernel
theorem dX6_sizeOf_21 : decode cX6_sizeOf 21 = .ok (.aload_n 0, 1) := by decide +kernel
theorem dX6_sizeOf_22 : decode cX6_sizeOf 22 = .ok (.getfield 29, 3) := by decide +kernel
theorem dX6_sizeOf_25 : decode cX6_sizeOf 25 = .ok (.bipush 8, 2) := by decide +kernel
theorem dX6_sizeOf_27 : decode cX6_sizeOf 27 = .ok (.iload_n 3, 1) := by decide +kernel
theorem dX6_sizeOf_28 : decode cX6_sizeOf 28 = .ok (.iadd, 1) := by decide +kernel
theorem dX6_sizeOf_29 : decode cX6_sizeOf 29 = .ok (.iaload, 1) := by decide +kernel
theorem dX6_sizeOf_30 : decode cX6_sizeOf 30 = .ok (.goto 4, 3) := by decide +kernel
theorem dX6_sizeOf_33 : decode cX6_sizeOf 33 = .ok (.iconst 0, 1) := by decide +kernel
theorem dX6_sizeOf_34 : decode cX6_sizeOf 34 = .ok (.iadd, 1) := by decide +kernel
theorem dX6_sizeOf_35 : decode cX6_sizeOf 35 = .ok (.istore_n 2, 1) := by decide +kernel
theorem dX6_sizeOf_36 : decode cX6_sizeOf 36 = .ok (.iinc 3 1, 3) := by decide +kernel
theorem dX6_sizeOf_39 : decode cX6_sizeOf 39 = .ok (.goto (-35), 3) := by decide +kernel
theorem dX6_sizeOf_42 : decode cX6_sizeOf 42 = .ok (.iload_n 2, 1) := by decide +kernel
theorem dX6_sizeOf_43 : decode cX6_sizeOf 43 = .ok (.ireturn, 1) := by decide +kernel
theorem dX6_pots_0 : decode cX6_pots 0 = .ok (.iconst 1, 1) := by decide +kernel
theorem dX6_pots_1 : decode cX6_pots 1 = .ok (.aload_n 0, 1) := by decide +kernel
theorem dX6_pots_2 : decode cX6_pots 2 = .ok (.getfield 60, 3) := by decide +kernel
theorem dX6_pots_5 : decode cX6_pots 5 = .ok (.ishl, 1) := by decide +kernel
theorem dX6_pots_6 : decode cX6_pots 6 = .ok (.iconst 1, 1) := by decide +kernel
theorem dX6_pots_7 : decode cX6_pots 7 = .ok (.isub, 1) := by decide +kernel
theorem dX6_pots_8 : decode cX6_pots 8 = .ok (.istore_n 1, 1) := by decide +kernel
theorem dX6_pots_9 : decode cX6_pots 9 = .ok (.aload_n 0, 1) := by decide +kernel
theorem dX6_pots_10 : decode cX6_pots 10 = .ok (.getfield 54, 3) := by decide +kernel
theorem dX6_pots_13 : decode cX6_pots 13 = .ok (.iconst 0, 1) := by decide +kernel
theorem dX6_pots_14 : decode cX6_pots 14 = .ok (.iconst 0, 1) := by decide +kernel
theorem dX6_pots_15 : decode cX6_pots 15 = .ok (.iastore, 1) := by decide +kernel
theorem dX6_pots_16 : decode cX6_pots 16 = .ok (.iconst 1, 1) := by decide +kernel
theorem dX6_pots_17 : decode cX6_pots 17 = .ok (.istore_n 2, 1) := by decide +kernel
theorem dX6_pots_18 : decode cX6_pots 18 = .ok (.iload_n 2, 1) := by decide +kernel
theorem dX6_pots_19 : decode cX6_pots 19 = .ok (.iload_n 1, 1) := by decide +kernel
theorem dX6_pots_20 : decode cX6_pots 20 = .ok (.if_icmp .gt 100, 3) := by decide +kernel
theorem dX6_pots_23 : decode cX6_pots 23 = .ok (.aload_n 0, 1) := by decide +kernel
theorem dX6_pots_24 : decode cX6_pots 24 = .ok (.getfield 54, 3) := by decide +kernel
theorem dX6_pots_27 : decode cX6_pots 27 = .ok (.iload_n 2, 1) := by decide +kernel
theorem dX6_pots_28 : decode cX6_pots 28 = .ok (.bipush 99, 2) := by decide +kernel
theorem dX6_pots_30 : decode cX6_pots 30 = .ok (.iastore, 1) := by decide +kernel
theorem dX6_pots_31 : decode cX6_pots 31 = .ok (.iload_n 2, 1) := by decide +kernel
theorem dX6_pots_32 : decode cX6_pots 32 = .ok (.istore_n 3, 1) := by decide +kernel
theorem dX6_pots_33 : decode cX6_pots 33 = .ok (.iload_n 3, 1) := by decide +kernel
theorem dX6_pots_34 : decode cX6_pots 34 = .ok (.ifCond .le 80, 3) := by decide +kernel
theorem dX6_pots_37 : decode cX6_pots 37 = .ok (.aload_n 0, 1) := by decide +kernel
theorem dX6_pots_38 : decode cX6_pots 38 = .ok (.iload_n 3, 1) := by decide +kernel
theorem dX6_pots_39 : decode cX6_pots 39 = .ok (.invokevirtual 195, 3) := by decide +kernel
theorem dX6_pots_42 : decode cX6_pots 42 = .ok (.aload_n 0, 1) := by decide +kernel
theorem dX6_pots_43 : decode cX6_pots 43 = .ok (.getfield 26, 3) := by decide +kernel
theorem dX6_pots_46 : decode cX6_pots 46 = .ok (.if_icmp .gt 26, 3) := by decide +kernel
theorem dX6_pots_49 : decode cX6_pots 49 = .ok (.aload_n 0, 1) := by decide +kernel
theorem dX6_pots_50 : decode cX6_pots 50 = .ok (.getfield 54, 3) := by decide +kernel
theorem dX6_pots_53 : decode cX6_pots 53 = .ok (.iload_n 2, 1) := by decide +kernel
theorem dX6_pots_54 : decode cX6_pots 54 = .ok (.iload_n 3, 1) := by decide +kernel
theorem dX6_pots_55 : decode cX6_pots 55 = .ok (.isub, 1) := by decide +kernel
theorem dX6_pots_56 : decode cX6_pots 56 = .ok (.iaload, 1) := by decide +kernel
theorem dX6_pots_57 : decode cX6_pots 57 = .ok (.iconst 1, 1) := by decide +kernel
theorem dX6_pots_58 : decode cX6_pots 58 = .ok (.iadd, 1) := by decide +kernel
theorem dX6_pots_59 : decode cX6_pots 59 = .ok (.aload_n 0, 1) := by decide +kernel
theorem dX6_pots_60 : decode cX6_pots 60 = .ok (.getfield 54, 3) := by decide +kernel
theorem dX6_pots_63 : decode cX6_pots 63 = .ok (.iload_n 2, 1) := by decide +kernel
theorem dX6_pots_64 : decode cX6_pots 64 = .ok (.iaload, 1) := by decide +kernel
theorem dX6_pots_65 : decode cX6_pots 65 = .ok (.if_icmp .ge 7, 3) := by decide +kernel
theorem dX6_pots_68 : decode cX6_pots 68 = .ok (.iconst 1, 1) := by decide +kernel
theorem dX6_pots_69 : decode cX6_pots 69 = .ok (.goto 4, 3) := by decide +kernel
theorem dX6_pots_72 : decode cX6_pots 72 = .ok (.iconst 0, 1) := by decide +kernel
theorem dX6_pots_73 : decode cX6_pots 73 = .ok (.istore 4, 2) := by decide +kernel
theorem dX6_pots_75 : decode cX6_pots 75 = .ok (.aload_n 0, 1) := by decide +kernel
theorem dX6_pots_76 : decode cX6_pots 76 = .ok (.getfield 54, 3) := by decide +kernel
theorem dX6_pots_79 : decode cX6_pots 79 = .ok (.iload_n 2, 1) := by decide +kernel
theorem dX6_pots_80 : decode cX6_pots 80 = .ok (.iload 4, 2) := by decide +kernel
theorem dX6_pots_82 : decode cX6_pots 82 = .ok (.ifCond .eq 16, 3) := by decide +kernel
theorem dX6_pots_85 : decode cX6_pots 85 = .ok (.aload_n 0, 1) := by decide +kernel
theorem dX6_pots_86 : decode cX6_pots 86 = .ok (.getfield 54, 3) := by decide +kernel
theorem dX6_pots_89 : decode cX6_pots 89 = .ok (.iload_n 2, 1) := by decide +kernel
theorem dX6_pots_90 : decode cX6_pots 90 = .ok (.iload_n 3, 1) := by decide +kernel
theorem dX6_pots_91 : decode cX6_pots 91 = .ok (.isub, 1) := by decide +kernel
theorem dX6_pots_92 : decode cX6_pots 92 = .ok (.iaload, 1) := by decide +kernel
theorem dX6_pots_93 : decode cX6_pots 93 = .ok (.iconst 1, 1) := by decide +kernel
theorem dX6_pots_94 : decode cX6_pots 94 = .ok (.iadd, 1) := by decide +kernel
theorem dX6_pots_95 : decode cX6_pots 95 = .ok (.goto 9, 3) := by decide +kernel
theorem dX6_pots_98 : decode cX6_pots 98 = .ok (.aload_n 0, 1) := by decide +kernel
theorem dX6_pots_99 : decode cX6_pots 99 = .ok (.getfield 54, 3) := by decide +kernel
theorem dX6_pots_102 : decode cX6_pots 102 = .ok (.iload_n 2, 1) := by decide +kernel
theorem dX6_pots_103 : decode cX6_pots 103 = .ok (.iaload, 1) := by decide +kernel
theorem dX6_pots_104 : decode cX6_pots 104 = .ok (.iastore, 1) := by decide +kernel
theorem dX6_pots_105 : decode cX6_pots 105 = .ok (.iload_n 3, 1) := by decide +kernel
theorem dX6_pots_106 : decode cX6_pots 106 = .ok (.iconst 1, 1) := by decide +kernel
theorem dX6_pots_107 : decode cX6_pots 107 = .ok (.isub, 1) := by decide +kernel
theorem dX6_pots_108 : decode cX6_pots 108 = .ok (.iload_n 2, 1) := by decide +kernel
theorem dX6_pots_109 : decode cX6_pots 109 = .ok (.iand, 1) := by decide +kernel
theorem dX6_pots_110 : decode cX6_pots 110 = .ok (.istore_n 3, 1) := by decide +kernel
theorem dX6_pots_111 : decode cX6_pots 111 = .ok (.goto (-78), 3) := by decide +kernel
theorem dX6_pots_114 : decode cX6_pots 114 = .ok (.iinc 2 1, 3) := by decide +kernel
theorem dX6_pots_117 : decode cX6_pots 117 = .ok (.goto (-99), 3) := by decide +kernel
theorem dX6_pots_120 : decode cX6_pots 120 = .ok (.aload_n 0, 1) := by decide +kernel
theorem dX6_pots_121 : decode cX6_pots 121 = .ok (.getfield 54, 3) := by decide +kernel
theorem dX6_pots_124 : decode cX6_pots 124 = .ok (.iload_n 1, 1) := by decide +kernel
theorem dX6_pots_125 : decode cX6_pots 125 = .ok (.iaload, 1) := by decide +kernel
theorem dX6_pots_126 : decode cX6_pots 126 = .ok (.bipush 99, 2) := by decide +kernel
theorem dX6_pots_128 : decode cX6_pots 128 = .ok (.if_icmp .ne 8, 3) := by decide +kernel
theorem dX6_pots_131 : decode cX6_pots 131 = .ok (.bipush (-9), 2) := by decide +kernel
theorem dX6_pots_133 : decode cX6_pots 133 = .ok (.goto 9, 3) := by decide +kernel
theorem dX6_pots_136 : decode cX6_pots 136 = .ok (.aload_n 0, 1) := by decide +kernel
theorem dX6_pots_137 : decode cX6_pots 137 = .ok (.getfield 54, 3) := by decide +kernel
theorem dX6_pots_140 : decode cX6_pots 140 = .ok (.iload_n 1, 1) := by decide +kernel
theorem dX6_pots_141 : decode cX6_pots 141 = .ok (.iaload, 1) := by decide +kernel
theorem dX6_pots_142 : decode cX6_pots 142 = .ok (.ireturn, 1) := by decide +kernel
theorem dX6_lowest_0 : decode cX6_lowest 0 = .ok (.iload_n 0, 1) := by decide +kernel
theorem dX6_lowest_1 : decode cX6_lowest 1 = .ok (.istore_n 3, 1) := by decide +kernel
theorem dX6_lowest_2 : decode cX6_lowest 2 = .ok (.iload_n 1, 1) := by decide +kernel
theorem dX6_lowest_3 : decode cX6_lowest 3 = .ok (.istore 4, 2) := by decide +kernel
theorem dX6_lowest_5 : decode cX6_lowest 5 = .ok (.iload 4, 2) := by decide +kernel
theorem dX6_lowest_7 : decode cX6_lowest 7 = .ok (.ifCond .le 19, 3) := by decide +kernel
theorem dX6_lowest_10 : decode cX6_lowest 10 = .ok (.iload_n 3, 1) := by decide +kernel
theorem dX6_lowest_11 : decode cX6_lowest 11 = .ok (.iload 4, 2) := by decide +kernel
theorem dX6_lowest_13 : decode cX6_lowest 13 = .ok (.irem, 1) := by decide +kernel
theorem dX6_lowest_14 : decode cX6_lowest 14 = .ok (.istore 5, 2) := by decide +kernel
theorem dX6_lowest_16 : decode cX6_lowest 16 = .ok (.iload 4, 2) := by decide +kernel
theorem dX6_lowest_18 : decode cX6_lowest 18 = .ok (.istore_n 3, 1) := by decide +kernel
theorem dX6_lowest_19 : decode cX6_lowest 19 = .ok (.iload 5, 2) := by decide +kernel
theorem dX6_lowest_21 : decode cX6_lowest 21 = .ok (.istore 4, 2) := by decide +kernel
theorem dX6_lowest_23 : decode cX6_lowest 23 = .ok (.goto (-18), 3) := by decide +kernel
theorem dX6_lowest_26 : decode cX6_lowest 26 = .ok (.iload_n 2, 1) := by decide +kernel
theorem dX6_lowest_27 : decode cX6_lowest 27 = .ok (.ifCond .ne 7, 3) := by decide +kernel
theorem dX6_lowest_30 : decode cX6_lowest 30 = .ok (.iload_n 0, 1) := by decide +kernel
theorem dX6_lowest_31 : decode cX6_lowest 31 = .ok (.goto 4, 3) := by decide +kernel
theorem dX6_lowest_34 : decode cX6_lowest 34 = .ok (.iload_n 1, 1) := by decide +kernel
theorem dX6_lowest_35 : decode cX6_lowest 35 = .ok (.iload_n 3, 1) := by decide +kernel
theorem dX6_lowest_36 : decode cX6_lowest 36 = .ok (.idiv, 1) := by decide +kernel
theorem dX6_lowest_37 : decode cX6_lowest 37 = .ok (.ireturn, 1) := by decide +kernel
theorem dX6_odds_0 : decode cX6_odds 0 = .ok (.iload_n 1, 1) := by decide +kernel
theorem dX6_odds_1 : decode cX6_odds 1 = .ok (.iconst 0, 1) := by decide +kernel
theorem dX6_odds_2 : decode cX6_odds 2 = .ok (.bipush 10, 2) := by decide +kernel
theorem dX6_odds_4 : decode cX6_odds 4 = .ok (.invokestatic 63, 3) := by decide +kernel
theorem dX6_odds_7 : decode cX6_odds 7 = .ok (.ifCond .eq 22, 3) := by decide +kernel
theorem dX6_odds_10 : decode cX6_odds 10 = .ok (.iload_n 2, 1) := by decide +kernel
theorem dX6_odds_11 : decode cX6_odds 11 = .ok (.iconst 0, 1) := by decide +kernel
theorem dX6_odds_12 : decode cX6_odds 12 = .ok (.bipush 6, 2) := by decide +kernel
theorem dX6_odds_14 : decode cX6_odds 14 = .ok (.invokestatic 63, 3) := by decide +kernel
theorem dX6_odds_17 : decode cX6_odds 17 = .ok (.ifCond .eq 12, 3) := by decide +kernel
theorem dX6_odds_20 : decode cX6_odds 20 = .ok (.iload_n 3, 1) := by decide +kernel
theorem dX6_odds_21 : decode cX6_odds 21 = .ok (.iconst 0, 1) := by decide +kernel
theorem dX6_odds_22 : decode cX6_odds 22 = .ok (.iconst 1, 1) := by decide +kernel
theorem dX6_odds_23 : decode cX6_odds 23 = .ok (.invokestatic 63, 3) := by decide +kernel
theorem dX6_odds_26 : decode cX6_odds 26 = .ok (.ifCond .ne 5, 3) := by decide +kernel
theorem dX6_odds_29 : decode cX6_odds 29 = .ok (.iconst (-1), 1) := by decide +kernel
theorem dX6_odds_30 : decode cX6_odds 30 = .ok (.ireturn, 1) := by decide +kernel
theorem dX6_odds_31 : decode cX6_odds 31 = .ok (.aload_n 0, 1) := by decide +kernel
theorem dX6_odds_32 : decode cX6_odds 32 = .ok (.getfield 60, 3) := by decide +kernel
theorem dX6_odds_35 : decode cX6_odds 35 = .ok (.aload_n 0, 1) := by decide +kernel
theorem dX6_odds_36 : decode cX6_odds 36 = .ok (.invokevirtual 177, 3) := by decide +kernel
theorem dX6_odds_39 : decode cX6_odds 39 = .ok (.invokestatic 180, 3) := by decide +kernel
theorem dX6_odds_42 : decode cX6_odds 42 = .ok (.isub, 1) := by decide +kernel
theorem dX6_odds_43 : decode cX6_odds 43 = .ok (.istore 4, 2) := by decide +kernel
theorem dX6_odds_45 : decode cX6_odds 45 = .ok (.iconst 0, 1) := by decide +kernel
theorem dX6_odds_46 : decode cX6_odds 46 = .ok (.istore 5, 2) := by decide +kernel
theorem dX6_odds_48 : decode cX6_odds 48 = .ok (.iconst 1, 1) := by decide +kernel
theorem dX6_odds_49 : decode cX6_odds 49 = .ok (.istore 6, 2) := by decide +kernel
theorem dX6_odds_51 : decode cX6_odds 51 = .ok (.iconst 0, 1) := by decide +kernel
theorem dX6_odds_52 : decode cX6_odds 52 = .ok (.istore 7, 2) := by decide +kernel
theorem dX6_odds_54 : decode cX6_odds 54 = .ok (.iload 7, 2) := by decide +kernel
theorem dX6_odds_56 : decode cX6_odds 56 = .ok (.iload 4, 2) := by decide +kernel
theorem dX6_odds_58 : decode cX6_odds 58 = .ok (.if_icmp .ge 16, 3) := by decide +kernel
theorem dX6_odds_61 : decode cX6_odds 61 = .ok (.iload 6, 2) := by decide +kernel
theorem dX6_odds_63 : decode cX6_odds 63 = .ok (.bipush 10, 2) := by decide +kernel
theorem dX6_odds_65 : decode cX6_odds 65 = .ok (.imul, 1) := by decide +kernel
theorem dX6_odds_66 : decode cX6_odds 66 = .ok (.istore 6, 2) := by decide +kernel
theorem dX6_odds_68 : decode cX6_odds 68 = .ok (.iinc 7 1, 3) := by decide +kernel
theorem dX6_odds_71 : decode cX6_odds 71 = .ok (.goto (-17), 3) := by decide +kernel
theorem dX6_odds_74 : decode cX6_odds 74 = .ok (.iconst 0, 1) := by decide +kernel
theorem dX6_odds_75 : decode cX6_odds 75 = .ok (.istore 7, 2) := by decide +kernel
theorem dX6_odds_77 : decode cX6_odds 77 = .ok (.iload 7, 2) := by decide +kernel
theorem dX6_odds_79 : decode cX6_odds 79 = .ok (.iconst 1, 1) := by decide +kernel
theorem dX6_odds_80 : decode cX6_odds 80 = .ok (.iload 4, 2) := by decide +kernel
theorem dX6_odds_82 : decode cX6_odds 82 = .ok (.ishl, 1) := by decide +kernel
theorem dX6_odds_83 : decode cX6_odds 83 = .ok (.if_icmp .ge 71, 3) := by decide +kernel
theorem dX6_odds_86 : decode cX6_odds 86 = .ok (.iconst 1, 1) := by decide +kernel
theorem dX6_odds_87 : decode cX6_odds 87 = .ok (.istore 8, 2) := by decide +kernel
theorem dX6_odds_89 : decode cX6_odds 89 = .ok (.iconst 0, 1) := by decide +kernel
theorem dX6_odds_90 : decode cX6_odds 90 = .ok (.istore 9, 2) := by decide +kernel
theorem dX6_odds_92 : decode cX6_odds 92 = .ok (.iload 9, 2) := by decide +kernel
theorem dX6_odds_94 : decode cX6_odds 94 = .ok (.iload 4, 2) := by decide +kernel
theorem dX6_odds_96 : decode cX6_odds 96 = .ok (.if_icmp .ge 32, 3) := by decide +kernel
theorem dX6_odds_99 : decode cX6_odds 99 = .ok (.iload 8, 2) := by decide +kernel
theorem dX6_odds_101 : decode cX6_odds 101 = .ok (.iload 7, 2) := by decide +kernel
theorem dX6_odds_103 : decode cX6_odds 103 = .ok (.iload 9, 2) := by decide +kernel
theorem dX6_odds_105 : decode cX6_odds 105 = .ok (.invokestatic 139, 3) := by decide +kernel
theorem dX6_odds_108 : decode cX6_odds 108 = .ok (.ifCond .eq 7, 3) := by decide +kernel
theorem dX6_odds_111 : decode cX6_odds 111 = .ok (.iload_n 1, 1) := by decide +kernel
theorem dX6_odds_112 : decode cX6_odds 112 = .ok (.goto 7, 3) := by decide +kernel
theorem dX6_odds_115 : decode cX6_odds 115 = .ok (.bipush 10, 2) := by decide +kernel
theorem dX6_odds_117 : decode cX6_odds 117 = .ok (.iload_n 1, 1) := by decide +kernel
theorem dX6_odds_118 : decode cX6_odds 118 = .ok (.isub, 1) := by decide +kernel
theorem dX6_odds_119 : decode cX6_odds 119 = .ok (.imul, 1) := by decide +kernel
theorem dX6_odds_120 : decode cX6_odds 120 = .ok (.istore 8, 2) := by decide +kernel
theorem dX6_odds_122 : decode cX6_odds 122 = .ok (.iinc 9 1, 3) := by decide +kernel
theorem dX6_odds_125 : decode cX6_odds 125 = .ok (.goto (-33), 3) := by decide +kernel
theorem dX6_odds_128 : decode cX6_odds 128 = .ok (.iload 5, 2) := by decide +kernel
theorem dX6_odds_130 : decode cX6_odds 130 = .ok (.iload 7, 2) := by decide +kernel
theorem dX6_odds_132 : decode cX6_odds 132 = .ok (.invokestatic 180, 3) := by decide +kernel
theorem dX6_odds_135 : decode cX6_odds 135 = .ok (.iload_n 2, 1) := by decide +kernel
theorem dX6_odds_136 : decode cX6_odds 136 = .ok (.if_icmp .gt 8, 3) := by decide +kernel
theorem dX6_odds_139 : decode cX6_odds 139 = .ok (.iload 8, 2) := by decide +kernel
theorem dX6_odds_141 : decode cX6_odds 141 = .ok (.goto 4, 3) := by decide +kernel
theorem dX6_odds_144 : decode cX6_odds 144 = .ok (.iconst 0, 1) := by decide +kernel
theorem dX6_odds_145 : decode cX6_odds 145 = .ok (.iadd, 1) := by decide +kernel
theorem dX6_odds_146 : decode cX6_odds 146 = .ok (.istore 5, 2) := by decide +kernel
theorem dX6_odds_148 : decode cX6_odds 148 = .ok (.iinc 7 1, 3) := by decide +kernel
theorem dX6_odds_151 : decode cX6_odds 151 = .ok (.goto (-74), 3) := by decide +kernel
theorem dX6_odds_154 : decode cX6_odds 154 = .ok (.iload 5, 2) := by decide +kernel
theorem dX6_odds_156 : decode cX6_odds 156 = .ok (.iload 6, 2) := by decide +kernel
theorem dX6_odds_158 : decode cX6_odds 158 = .ok (.iload_n 3, 1) := by decide +kernel
theorem dX6_odds_159 : decode cX6_odds 159 = .ok (.invokestatic 198, 3) := by decide +kernel
theorem dX6_odds_162 : decode cX6_odds 162 = .ok (.ireturn, 1) := by decide +kernel
theorem dX6_sees_0 : decode cX6_sees 0 = .ok (.aload_n 0, 1) := by decide +kernel
theorem dX6_sees_1 : decode cX6_sees 1 = .ok (.iload_n 1, 1) := by decide +kernel
theorem dX6_sees_2 : decode cX6_sees 2 = .ok (.invokevirtual 164, 3) := by decide +kernel
theorem dX6_sees_5 : decode cX6_sees 5 = .ok (.ifCond .eq 23, 3) := by decide +kernel
theorem dX6_sees_8 : decode cX6_sees 8 = .ok (.iload_n 2, 1) := by decide +kernel
theorem dX6_sees_9 : decode cX6_sees 9 = .ok (.iconst 1, 1) := by decide +kernel
theorem dX6_sees_10 : decode cX6_sees 10 = .ok (.bipush 20, 2) := by decide +kernel
theorem dX6_sees_12 : decode cX6_sees 12 = .ok (.invokestatic 63, 3) := by decide +kernel
theorem dX6_sees_15 : decode cX6_sees 15 = .ok (.ifCond .eq 13, 3) := by decide +kernel
theorem dX6_sees_18 : decode cX6_sees 18 = .ok (.iload_n 3, 1) := by decide +kernel
theorem dX6_sees_19 : decode cX6_sees 19 = .ok (.iconst 0, 1) := by decide +kernel
theorem dX6_sees_20 : decode cX6_sees 20 = .ok (.bipush 10, 2) := by decide +kernel
theorem dX6_sees_22 : decode cX6_sees 22 = .ok (.invokestatic 63, 3) := by decide +kernel
theorem dX6_sees_25 : decode cX6_sees 25 = .ok (.ifCond .ne 5, 3) := by decide +kernel
theorem dX6_sees_28 : decode cX6_sees 28 = .ok (.iconst (-1), 1) := by decide +kernel
theorem dX6_sees_29 : decode cX6_sees 29 = .ok (.ireturn, 1) := by decide +kernel
theorem dX6_sees_30 : decode cX6_sees 30 = .ok (.aload_n 0, 1) := by decide +kernel
theorem dX6_sees_31 : decode cX6_sees 31 = .ok (.getfield 132, 3) := by decide +kernel
theorem dX6_sees_34 : decode cX6_sees 34 = .ok (.bipush 6, 2) := by decide +kernel
theorem dX6_sees_36 : decode cX6_sees 36 = .ok (.if_icmp .ne 6, 3) := by decide +kernel
theorem dX6_sees_39 : decode cX6_sees 39 = .ok (.bipush (-3), 2) := by decide +kernel
theorem dX6_sees_41 : decode cX6_sees 41 = .ok (.ireturn, 1) := by decide +kernel
theorem dX6_sees_42 : decode cX6_sees 42 = .ok (.aload_n 0, 1) := by decide +kernel
theorem dX6_sees_43 : decode cX6_sees 43 = .ok (.getfield 42, 3) := by decide +kernel
theorem dX6_sees_46 : decode cX6_sees 46 = .ok (.iconst 3, 1) := by decide +kernel
theorem dX6_sees_47 : decode cX6_sees 47 = .ok (.aload_n 0, 1) := by decide +kernel
theorem dX6_sees_48 : decode cX6_sees 48 = .ok (.getfield 132, 3) := by decide +kernel
theorem dX6_sees_51 : decode cX6_sees 51 = .ok (.imul, 1) := by decide +kernel
theorem dX6_sees_52 : decode cX6_sees 52 = .ok (.iload_n 1, 1) := by decide +kernel
theorem dX6_sees_53 : decode cX6_sees 53 = .ok (.iastore, 1) := by decide +kernel
theorem dX6_sees_54 : decode cX6_sees 54 = .ok (.aload_n 0, 1) := by decide +kernel
theorem dX6_sees_55 : decode cX6_sees 55 = .ok (.getfield 42, 3) := by decide +kernel
theorem dX6_sees_58 : decode cX6_sees 58 = .ok (.iconst 3, 1) := by decide +kernel
theorem dX6_sees_59 : decode cX6_sees 59 = .ok (.aload_n 0, 1) := by decide +kernel
theorem dX6_sees_60 : decode cX6_sees 60 = .ok (.getfield 132, 3) := by decide +kernel
theorem dX6_sees_63 : decode cX6_sees 63 = .ok (.imul, 1) := by decide +kernel
theorem dX6_sees_64 : decode cX6_sees 64 = .ok (.iconst 1, 1) := by decide +kernel
theorem dX6_sees_65 : decode cX6_sees 65 = .ok (.iadd, 1) := by decide +kernel
theorem dX6_sees_66 : decode cX6_sees 66 = .ok (.iload_n 2, 1) := by decide +kernel
theorem dX6_sees_67 : decode cX6_sees 67 = .ok (.iastore, 1) := by decide +kernel
theorem dX6_sees_68 : decode cX6_sees 68 = .ok (.aload_n 0, 1) := by decide +kernel
theorem dX6_sees_69 : decode cX6_sees 69 = .ok (.getfield 42, 3) := by decide +kernel
theorem dX6_sees_72 : decode cX6_sees 72 = .ok (.iconst 3, 1) := by decide +kernel
theorem dX6_sees_73 : decode cX6_sees 73 = .ok (.aload_n 0, 1) := by decide +kernel
theorem dX6_sees_74 : decode cX6_sees 74 = .ok (.getfield 132, 3) := by decide +kernel
theorem dX6_sees_77 : decode cX6_sees 77 = .ok (.imul, 1) := by decide +kernel
theorem dX6_sees_78 : decode cX6_sees 78 = .ok (.iconst 2, 1) := by decide +kernel
theorem dX6_sees_79 : decode cX6_sees 79 = .ok (.iadd, 1) := by decide +kernel
theorem dX6_sees_80 : decode cX6_sees 80 = .ok (.iload_n 3, 1) := by decide +kernel
theorem dX6_sees_81 : decode cX6_sees 81 = .ok (.iastore, 1) := by decide +kernel
theorem dX6_sees_82 : decode cX6_sees 82 = .ok (.aload_n 0, 1) := by decide +kernel
theorem dX6_sees_83 : decode cX6_sees 83 = .ok (.dup, 1) := by decide +kernel
theorem dX6_sees_84 : decode cX6_sees 84 = .ok (.getfield 132, 3) := by decide +kernel
theorem dX6_sees_87 : decode cX6_sees 87 = .ok (.iconst 1, 1) := by decide +kernel
theorem dX6_sees_88 : decode cX6_sees 88 = .ok (.iadd, 1) := by decide +kernel
theorem dX6_sees_89 : decode cX6_sees 89 = .ok (.putfield 132, 3) := by decide +kernel
theorem dX6_sees_92 : decode cX6_sees 92 = .ok (.aload_n 0, 1) := by decide +kernel
theorem dX6_sees_93 : decode cX6_sees 93 = .ok (.getfield 132, 3) := by decide +kernel
theorem dX6_sees_96 : decode cX6_sees 96 = .ok (.ireturn, 1) := by decide +kernel
theorem dX6_forget_0 : decode cX6_forget 0 = .ok (.aload_n 0, 1) := by decide +kernel
theorem dX6_forget_1 : decode cX6_forget 1 = .ok (.getfield 132, 3) := by decide +kernel
theorem dX6_forget_4 : decode cX6_forget 4 = .ok (.istore_n 1, 1) := by decide +kernel
theorem dX6_forget_5 : decode cX6_forget 5 = .ok (.aload_n 0, 1) := by decide +kernel
theorem dX6_forget_6 : decode cX6_forget 6 = .ok (.iconst 0, 1) := by decide +kernel
theorem dX6_forget_7 : decode cX6_forget 7 = .ok (.putfield 132, 3) := by decide +kernel
theorem dX6_forget_10 : decode cX6_forget 10 = .ok (.iload_n 1, 1) := by decide +kernel
theorem dX6_forget_11 : decode cX6_forget 11 = .ok (.ireturn, 1) := by decide +kernel
theorem dX6_deepAlone_0 : decode cX6_deepAlone 0 = .ok (.aload_n 0, 1) := by decide +kernel
theorem dX6_deepAlone_1 : decode cX6_deepAlone 1 = .ok (.getfield 29, 3) := by decide +kernel
theorem dX6_deepAlone_4 : decode cX6_deepAlone 4 = .ok (.bipush 8, 2) := by decide +kernel
theorem dX6_deepAlone_6 : decode cX6_deepAlone 6 = .ok (.iload_n 1, 1) := by decide +kernel
theorem dX6_deepAlone_7 : decode cX6_deepAlone 7 = .ok (.iadd, 1) := by decide +kernel
theorem dX6_deepAlone_8 : decode cX6_deepAlone 8 = .ok (.iaload, 1) := by decide +kernel
theorem dX6_deepAlone_9 : decode cX6_deepAlone 9 = .ok (.istore 4, 2) := by decide +kernel
theorem dX6_deepAlone_11 : decode cX6_deepAlone 11 = .ok (.bipush 10, 2) := by decide +kernel
theorem dX6_deepAlone_13 : decode cX6_deepAlone 13 = .ok (.istore 5, 2) := by decide +kernel
theorem dX6_deepAlone_15 : decode cX6_deepAlone 15 = .ok (.iconst 0, 1) := by decide +kernel
theorem dX6_deepAlone_16 : decode cX6_deepAlone 16 = .ok (.istore 6, 2) := by decide +kernel
theorem dX6_deepAlone_18 : decode cX6_deepAlone 18 = .ok (.iload 6, 2) := by decide +kernel
theorem dX6_deepAlone_20 : decode cX6_deepAlone 20 = .ok (.iload_n 3, 1) := by decide +kernel
theorem dX6_deepAlone_21 : decode cX6_deepAlone 21 = .ok (.if_icmp .ge 101, 3) := by decide +kernel
theorem dX6_deepAlone_24 : decode cX6_deepAlone 24 = .ok (.iload 4, 2) := by decide +kernel
theorem dX6_deepAlone_26 : decode cX6_deepAlone 26 = .ok (.aload_n 0, 1) := by decide +kernel
theorem dX6_deepAlone_27 : decode cX6_deepAlone 27 = .ok (.getfield 13, 3) := by decide +kernel
theorem dX6_deepAlone_30 : decode cX6_deepAlone 30 = .ok (.iload_n 1, 1) := by decide +kernel
theorem dX6_deepAlone_31 : decode cX6_deepAlone 31 = .ok (.iaload, 1) := by decide +kernel
theorem dX6_deepAlone_32 : decode cX6_deepAlone 32 = .ok (.iadd, 1) := by decide +kernel
theorem dX6_deepAlone_33 : decode cX6_deepAlone 33 = .ok (.bipush 30, 2) := by decide +kernel
theorem dX6_deepAlone_35 : decode cX6_deepAlone 35 = .ok (.if_icmp .le 8, 3) := by decide +kernel
theorem dX6_deepAlone_38 : decode cX6_deepAlone 38 = .ok (.bipush 30, 2) := by decide +kernel
theorem dX6_deepAlone_40 : decode cX6_deepAlone 40 = .ok (.goto 12, 3) := by decide +kernel
theorem dX6_deepAlone_43 : decode cX6_deepAlone 43 = .ok (.iload 4, 2) := by decide +kernel
theorem dX6_deepAlone_45 : decode cX6_deepAlone 45 = .ok (.aload_n 0, 1) := by decide +kernel
theorem dX6_deepAlone_46 : decode cX6_deepAlone 46 = .ok (.getfield 13, 3) := by decide +kernel
theorem dX6_deepAlone_49 : decode cX6_deepAlone 49 = .ok (.iload_n 1, 1) := by decide +kernel
theorem dX6_deepAlone_50 : decode cX6_deepAlone 50 = .ok (.iaload, 1) := by decide +kernel
theorem dX6_deepAlone_51 : decode cX6_deepAlone 51 = .ok (.iadd, 1) := by decide +kernel
theorem dX6_deepAlone_52 : decode cX6_deepAlone 52 = .ok (.istore 4, 2) := by decide +kernel
theorem dX6_deepAlone_54 : decode cX6_deepAlone 54 = .ok (.iload 4, 2) := by decide +kernel
theorem dX6_deepAlone_56 : decode cX6_deepAlone 56 = .ok (.aload_n 0, 1) := by decide +kernel
theorem dX6_deepAlone_57 : decode cX6_deepAlone 57 = .ok (.getfield 29, 3) := by decide +kernel
theorem dX6_deepAlone_60 : decode cX6_deepAlone 60 = .ok (.iconst 1, 1) := by decide +kernel
theorem dX6_deepAlone_61 : decode cX6_deepAlone 61 = .ok (.iaload, 1) := by decide +kernel
theorem dX6_deepAlone_62 : decode cX6_deepAlone 62 = .ok (.iadd, 1) := by decide +kernel
theorem dX6_deepAlone_63 : decode cX6_deepAlone 63 = .ok (.iload_n 2, 1) := by decide +kernel
theorem dX6_deepAlone_64 : decode cX6_deepAlone 64 = .ok (.isub, 1) := by decide +kernel
theorem dX6_deepAlone_65 : decode cX6_deepAlone 65 = .ok (.istore 7, 2) := by decide +kernel
theorem dX6_deepAlone_67 : decode cX6_deepAlone 67 = .ok (.iload 5, 2) := by decide +kernel
theorem dX6_deepAlone_69 : decode cX6_deepAlone 69 = .ok (.iload 7, 2) := by decide +kernel
theorem dX6_deepAlone_71 : decode cX6_deepAlone 71 = .ok (.ifCond .le 7, 3) := by decide +kernel
theorem dX6_deepAlone_74 : decode cX6_deepAlone 74 = .ok (.iconst 1, 1) := by decide +kernel
theorem dX6_deepAlone_75 : decode cX6_deepAlone 75 = .ok (.goto 13, 3) := by decide +kernel
theorem dX6_deepAlone_78 : decode cX6_deepAlone 78 = .ok (.iload 7, 2) := by decide +kernel
theorem dX6_deepAlone_80 : decode cX6_deepAlone 80 = .ok (.ifCond .ge 7, 3) := by decide +kernel
theorem dX6_deepAlone_83 : decode cX6_deepAlone 83 = .ok (.iconst (-1), 1) := by decide +kernel
theorem dX6_deepAlone_84 : decode cX6_deepAlone 84 = .ok (.goto 4, 3) := by decide +kernel
theorem dX6_deepAlone_87 : decode cX6_deepAlone 87 = .ok (.iconst 0, 1) := by decide +kernel
theorem dX6_deepAlone_88 : decode cX6_deepAlone 88 = .ok (.isub, 1) := by decide +kernel
theorem dX6_deepAlone_89 : decode cX6_deepAlone 89 = .ok (.istore 5, 2) := by decide +kernel
theorem dX6_deepAlone_91 : decode cX6_deepAlone 91 = .ok (.iload 5, 2) := by decide +kernel
theorem dX6_deepAlone_93 : decode cX6_deepAlone 93 = .ok (.ifCond .ge 7, 3) := by decide +kernel
theorem dX6_deepAlone_96 : decode cX6_deepAlone 96 = .ok (.iconst 0, 1) := by decide +kernel
theorem dX6_deepAlone_97 : decode cX6_deepAlone 97 = .ok (.goto 17, 3) := by decide +kernel
theorem dX6_deepAlone_100 : decode cX6_deepAlone 100 = .ok (.iload 5, 2) := by decide +kernel
theorem dX6_deepAlone_102 : decode cX6_deepAlone 102 = .ok (.bipush 10, 2) := by decide +kernel
theorem dX6_deepAlone_104 : decode cX6_deepAlone 104 = .ok (.if_icmp .le 8, 3) := by decide +kernel
theorem dX6_deepAlone_107 : decode cX6_deepAlone 107 = .ok (.bipush 10, 2) := by decide +kernel
theorem dX6_deepAlone_109 : decode cX6_deepAlone 109 = .ok (.goto 5, 3) := by decide +kernel
theorem dX6_deepAlone_112 : decode cX6_deepAlone 112 = .ok (.iload 5, 2) := by decide +kernel
theorem dX6_deepAlone_114 : decode cX6_deepAlone 114 = .ok (.istore 5, 2) := by decide +kernel
theorem dX6_deepAlone_116 : decode cX6_deepAlone 116 = .ok (.iinc 6 1, 3) := by decide +kernel
theorem dX6_deepAlone_119 : decode cX6_deepAlone 119 = .ok (.goto (-101), 3) := by decide +kernel
theorem dX6_deepAlone_122 : decode cX6_deepAlone 122 = .ok (.iload 5, 2) := by decide +kernel
theorem dX6_deepAlone_124 : decode cX6_deepAlone 124 = .ok (.ireturn, 1) := by decide +kernel
theorem dX6_isSo_0 : decode cX6_isSo 0 = .ok (.iconst 1, 1) := by decide +kernel
theorem dX6_isSo_1 : decode cX6_isSo 1 = .ok (.istore_n 3, 1) := by decide +kernel
theorem dX6_isSo_2 : decode cX6_isSo 2 = .ok (.iconst 0, 1) := by decide +kernel
theorem dX6_isSo_3 : decode cX6_isSo 3 = .ok (.istore 4, 2) := by decide +kernel
theorem dX6_isSo_5 : decode cX6_isSo 5 = .ok (.iload 4, 2) := by decide +kernel
theorem dX6_isSo_7 : decode cX6_isSo 7 = .ok (.aload_n 0, 1) := by decide +kernel
theorem dX6_isSo_8 : decode cX6_isSo 8 = .ok (.getfield 132, 3) := by decide +kernel
theorem dX6_isSo_11 : decode cX6_isSo 11 = .ok (.if_icmp .ge 63, 3) := by decide +kernel
theorem dX6_isSo_14 : decode cX6_isSo 14 = .ok (.iload_n 3, 1) := by decide +kernel
theorem dX6_isSo_15 : decode cX6_isSo 15 = .ok (.ifCond .eq 51, 3) := by decide +kernel
theorem dX6_isSo_18 : decode cX6_isSo 18 = .ok (.aload_n 0, 1) := by decide +kernel
theorem dX6_isSo_19 : decode cX6_isSo 19 = .ok (.getfield 42, 3) := by decide +kernel
theorem dX6_isSo_22 : decode cX6_isSo 22 = .ok (.iconst 3, 1) := by decide +kernel
theorem dX6_isSo_23 : decode cX6_isSo 23 = .ok (.iload 4, 2) := by decide +kernel
theorem dX6_isSo_25 : decode cX6_isSo 25 = .ok (.imul, 1) := by decide +kernel
theorem dX6_isSo_26 : decode cX6_isSo 26 = .ok (.iaload, 1) := by decide +kernel
theorem dX6_isSo_27 : decode cX6_isSo 27 = .ok (.iload_n 1, 1) := by decide +kernel
theorem dX6_isSo_28 : decode cX6_isSo 28 = .ok (.if_icmp .ne 34, 3) := by decide +kernel
theorem dX6_isSo_31 : decode cX6_isSo 31 = .ok (.aload_n 0, 1) := by decide +kernel
theorem dX6_isSo_32 : decode cX6_isSo 32 = .ok (.iload_n 1, 1) := by decide +kernel
theorem dX6_isSo_33 : decode cX6_isSo 33 = .ok (.iload_n 2, 1) := by decide +kernel
theorem dX6_isSo_34 : decode cX6_isSo 34 = .ok (.aload_n 0, 1) := by decide +kernel
theorem dX6_isSo_35 : decode cX6_isSo 35 = .ok (.getfield 42, 3) := by decide +kernel
theorem dX6_isSo_38 : decode cX6_isSo 38 = .ok (.iconst 3, 1) := by decide +kernel
theorem dX6_isSo_39 : decode cX6_isSo 39 = .ok (.iload 4, 2) := by decide +kernel
theorem dX6_isSo_41 : decode cX6_isSo 41 = .ok (.imul, 1) := by decide +kernel
theorem dX6_isSo_42 : decode cX6_isSo 42 = .ok (.iconst 1, 1) := by decide +kernel
theorem dX6_isSo_43 : decode cX6_isSo 43 = .ok (.iadd, 1) := by decide +kernel
theorem dX6_isSo_44 : decode cX6_isSo 44 = .ok (.iaload, 1) := by decide +kernel
theorem dX6_isSo_45 : decode cX6_isSo 45 = .ok (.invokevirtual 202, 3) := by decide +kernel
theorem dX6_isSo_48 : decode cX6_isSo 48 = .ok (.aload_n 0, 1) := by decide +kernel
theorem dX6_isSo_49 : decode cX6_isSo 49 = .ok (.getfield 42, 3) := by decide +kernel
theorem dX6_isSo_52 : decode cX6_isSo 52 = .ok (.iconst 3, 1) := by decide +kernel
theorem dX6_isSo_53 : decode cX6_isSo 53 = .ok (.iload 4, 2) := by decide +kernel
theorem dX6_isSo_55 : decode cX6_isSo 55 = .ok (.imul, 1) := by decide +kernel
theorem dX6_isSo_56 : decode cX6_isSo 56 = .ok (.iconst 2, 1) := by decide +kernel
theorem dX6_isSo_57 : decode cX6_isSo 57 = .ok (.iadd, 1) := by decide +kernel
theorem dX6_isSo_58 : decode cX6_isSo 58 = .ok (.iaload, 1) := by decide +kernel
theorem dX6_isSo_59 : decode cX6_isSo 59 = .ok (.if_icmp .ne 7, 3) := by decide +kernel
theorem dX6_isSo_62 : decode cX6_isSo 62 = .ok (.iconst 1, 1) := by decide +kernel
theorem dX6_isSo_63 : decode cX6_isSo 63 = .ok (.goto 4, 3) := by decide +kernel
theorem dX6_isSo_66 : decode cX6_isSo 66 = .ok (.iconst 0, 1) := by decide +kernel
theorem dX6_isSo_67 : decode cX6_isSo 67 = .ok (.istore_n 3, 1) := by decide +kernel
theorem dX6_isSo_68 : decode cX6_isSo 68 = .ok (.iinc 4 1, 3) := by decide +kernel
theorem dX6_isSo_71 : decode cX6_isSo 71 = .ok (.goto (-66), 3) := by decide +kernel
theorem dX6_isSo_74 : decode cX6_isSo 74 = .ok (.iload_n 3, 1) := by decide +kernel
theorem dX6_isSo_75 : decode cX6_isSo 75 = .ok (.ireturn, 1) := by decide +kernel
theorem dX6_weights_0 : decode cX6_weights 0 = .ok (.aload_n 0, 1) := by decide +kernel
theorem dX6_weights_1 : decode cX6_weights 1 = .ok (.iload_n 1, 1) := by decide +kernel
theorem dX6_weights_2 : decode cX6_weights 2 = .ok (.invokevirtual 164, 3) := by decide +kernel
theorem dX6_weights_5 : decode cX6_weights 5 = .ok (.ifCond .eq 12, 3) := by decide +kernel
theorem dX6_weights_8 : decode cX6_weights 8 = .ok (.iload_n 2, 1) := by decide +kernel
theorem dX6_weights_9 : decode cX6_weights 9 = .ok (.iconst 0, 1) := by decide +kernel
theorem dX6_weights_10 : decode cX6_weights 10 = .ok (.iconst 2, 1) := by decide +kernel
theorem dX6_weights_11 : decode cX6_weights 11 = .ok (.invokestatic 63, 3) := by decide +kernel
theorem dX6_weights_14 : decode cX6_weights 14 = .ok (.ifCond .ne 5, 3) := by decide +kernel
theorem dX6_weights_17 : decode cX6_weights 17 = .ok (.iconst (-1), 1) := by decide +kernel
theorem dX6_weights_18 : decode cX6_weights 18 = .ok (.ireturn, 1) := by decide +kernel
theorem dX6_weights_19 : decode cX6_weights 19 = .ok (.iconst 0, 1) := by decide +kernel
theorem dX6_weights_20 : decode cX6_weights 20 = .ok (.istore_n 3, 1) := by decide +kernel
theorem dX6_weights_21 : decode cX6_weights 21 = .ok (.bipush (-9), 2) := by decide +kernel
theorem dX6_weights_23 : decode cX6_weights 23 = .ok (.istore 4, 2) := by decide +kernel
theorem dX6_weights_25 : decode cX6_weights 25 = .ok (.bipush (-9), 2) := by decide +kernel
theorem dX6_weights_27 : decode cX6_weights 27 = .ok (.istore 5, 2) := by decide +kernel
theorem dX6_weights_29 : decode cX6_weights 29 = .ok (.iconst 0, 1) := by decide +kernel
theorem dX6_weights_30 : decode cX6_weights 30 = .ok (.istore 6, 2) := by decide +kernel
theorem dX6_weights_32 : decode cX6_weights 32 = .ok (.iload 6, 2) := by decide +kernel
theorem dX6_weights_34 : decode cX6_weights 34 = .ok (.bipush 40, 2) := by decide +kernel
theorem dX6_weights_36 : decode cX6_weights 36 = .ok (.if_icmp .gt 39, 3) := by decide +kernel
theorem dX6_weights_39 : decode cX6_weights 39 = .ok (.aload_n 0, 1) := by decide +kernel
theorem dX6_weights_40 : decode cX6_weights 40 = .ok (.iload_n 1, 1) := by decide +kernel
theorem dX6_weights_41 : decode cX6_weights 41 = .ok (.iload 6, 2) := by decide +kernel
theorem dX6_weights_43 : decode cX6_weights 43 = .ok (.invokevirtual 205, 3) := by decide +kernel
theorem dX6_weights_46 : decode cX6_weights 46 = .ok (.ifCond .eq 23, 3) := by decide +kernel
theorem dX6_weights_49 : decode cX6_weights 49 = .ok (.iload_n 3, 1) := by decide +kernel
theorem dX6_weights_50 : decode cX6_weights 50 = .ok (.ifCond .ne 8, 3) := by decide +kernel
theorem dX6_weights_53 : decode cX6_weights 53 = .ok (.iload 6, 2) := by decide +kernel
theorem dX6_weights_55 : decode cX6_weights 55 = .ok (.goto 5, 3) := by decide +kernel
theorem dX6_weights_58 : decode cX6_weights 58 = .ok (.iload 4, 2) := by decide +kernel
theorem dX6_weights_60 : decode cX6_weights 60 = .ok (.istore 4, 2) := by decide +kernel
theorem dX6_weights_62 : decode cX6_weights 62 = .ok (.iload 6, 2) := by decide +kernel
theorem dX6_weights_64 : decode cX6_weights 64 = .ok (.istore 5, 2) := by decide +kernel
theorem dX6_weights_66 : decode cX6_weights 66 = .ok (.iinc 3 1, 3) := by decide +kernel
theorem dX6_weights_69 : decode cX6_weights 69 = .ok (.iinc 6 1, 3) := by decide +kernel
theorem dX6_weights_72 : decode cX6_weights 72 = .ok (.goto (-40), 3) := by decide +kernel
theorem dX6_weights_75 : decode cX6_weights 75 = .ok (.iload_n 2, 1) := by decide +kernel
theorem dX6_weights_76 : decode cX6_weights 76 = .ok (.ifCond .ne 7, 3) := by decide +kernel
theorem dX6_weights_79 : decode cX6_weights 79 = .ok (.iload_n 3, 1) := by decide +kernel
theorem dX6_weights_80 : decode cX6_weights 80 = .ok (.goto 15, 3) := by decide +kernel
theorem dX6_weights_83 : decode cX6_weights 83 = .ok (.iload_n 2, 1) := by decide +kernel
theorem dX6_weights_84 : decode cX6_weights 84 = .ok (.iconst 1, 1) := by decide +kernel
theorem dX6_weights_85 : decode cX6_weights 85 = .ok (.if_icmp .ne 8, 3) := by decide +kernel
theorem dX6_weights_88 : decode cX6_weights 88 = .ok (.iload 4, 2) := by decide +kernel
theorem dX6_weights_90 : decode cX6_weights 90 = .ok (.goto 5, 3) := by decide +kernel
theorem dX6_weights_93 : decode cX6_weights 93 = .ok (.iload 5, 2) := by decide +kernel
theorem dX6_weights_95 : decode cX6_weights 95 = .ok (.ireturn, 1) := by decide +kernel
theorem dX6_greatestPart_0 : decode cX6_greatestPart 0 = .ok (.iconst 0, 1) := by decide +kernel
theorem dX6_greatestPart_1 : decode cX6_greatestPart 1 = .ok (.istore_n 3, 1) := by decide +kernel
theorem dX6_greatestPart_2 : decode cX6_greatestPart 2 = .ok (.iload_n 3, 1) := by decide +kernel
theorem dX6_greatestPart_3 : decode cX6_greatestPart 3 = .ok (.bipush 10, 2) := by decide +kernel
theorem dX6_greatestPart_5 : decode cX6_greatestPart 5 = .ok (.if_icmp .gt 16, 3) := by decide +kernel
theorem dX6_greatestPart_8 : decode cX6_greatestPart 8 = .ok (.aload_n 0, 1) := by decide +kernel
theorem dX6_greatestPart_9 : decode cX6_greatestPart 9 = .ok (.getfield 57, 3) := by decide +kernel
theorem dX6_greatestPart_12 : decode cX6_greatestPart 12 = .ok (.iload_n 3, 1) := by decide +kernel
theorem dX6_greatestPart_13 : decode cX6_greatestPart 13 = .ok (.iconst 0, 1) := by decide +kernel
theorem dX6_greatestPart_14 : decode cX6_greatestPart 14 = .ok (.iastore, 1) := by decide +kernel
theorem dX6_greatestPart_15 : decode cX6_greatestPart 15 = .ok (.iinc 3 1, 3) := by decide +kernel
theorem dX6_greatestPart_18 : decode cX6_greatestPart 18 = .ok (.goto (-16), 3) := by decide +kernel
theorem dX6_greatestPart_21 : decode cX6_greatestPart 21 = .ok (.iconst 0, 1) := by decide +kernel
theorem dX6_greatestPart_22 : decode cX6_greatestPart 22 = .ok (.istore_n 3, 1) := by decide +kernel
theorem dX6_greatestPart_23 : decode cX6_greatestPart 23 = .ok (.iconst 0, 1) := by decide +kernel
theorem dX6_greatestPart_24 : decode cX6_greatestPart 24 = .ok (.istore 4, 2) := by decide +kernel
theorem dX6_greatestPart_26 : decode cX6_greatestPart 26 = .ok (.iload 4, 2) := by decide +kernel
theorem dX6_greatestPart_28 : decode cX6_greatestPart 28 = .ok (.bipush 40, 2) := by decide +kernel
theorem dX6_greatestPart_30 : decode cX6_greatestPart 30 = .ok (.if_icmp .gt 67, 3) := by decide +kernel
theorem dX6_greatestPart_33 : decode cX6_greatestPart 33 = .ok (.aload_n 0, 1) := by decide +kernel
theorem dX6_greatestPart_34 : decode cX6_greatestPart 34 = .ok (.iload_n 1, 1) := by decide +kernel
theorem dX6_greatestPart_35 : decode cX6_greatestPart 35 = .ok (.iload 4, 2) := by decide +kernel
theorem dX6_greatestPart_37 : decode cX6_greatestPart 37 = .ok (.iload_n 2, 1) := by decide +kernel
theorem dX6_greatestPart_38 : decode cX6_greatestPart 38 = .ok (.invokevirtual 202, 3) := by decide +kernel
theorem dX6_greatestPart_41 : decode cX6_greatestPart 41 = .ok (.istore 5, 2) := by decide +kernel
theorem dX6_greatestPart_43 : decode cX6_greatestPart 43 = .ok (.aload_n 0, 1) := by decide +kernel
theorem dX6_greatestPart_44 : decode cX6_greatestPart 44 = .ok (.getfield 57, 3) := by decide +kernel
theorem dX6_greatestPart_47 : decode cX6_greatestPart 47 = .ok (.iload 5, 2) := by decide +kernel
theorem dX6_greatestPart_49 : decode cX6_greatestPart 49 = .ok (.dup2, 1) := by decide +kernel
theorem dX6_greatestPart_50 : decode cX6_greatestPart 50 = .ok (.iaload, 1) := by decide +kernel
theorem dX6_greatestPart_51 : decode cX6_greatestPart 51 = .ok (.aload_n 0, 1) := by decide +kernel
theorem dX6_greatestPart_52 : decode cX6_greatestPart 52 = .ok (.iload_n 1, 1) := by decide +kernel
theorem dX6_greatestPart_53 : decode cX6_greatestPart 53 = .ok (.iload 4, 2) := by decide +kernel
theorem dX6_greatestPart_55 : decode cX6_greatestPart 55 = .ok (.invokevirtual 205, 3) := by decide +kernel
theorem dX6_greatestPart_58 : decode cX6_greatestPart 58 = .ok (.ifCond .eq 7, 3) := by decide +kernel
theorem dX6_greatestPart_61 : decode cX6_greatestPart 61 = .ok (.iconst 1, 1) := by decide +kernel
theorem dX6_greatestPart_62 : decode cX6_greatestPart 62 = .ok (.goto 4, 3) := by decide +kernel
theorem dX6_greatestPart_65 : decode cX6_greatestPart 65 = .ok (.iconst 0, 1) := by decide +kernel
theorem dX6_greatestPart_66 : decode cX6_greatestPart 66 = .ok (.iadd, 1) := by decide +kernel
theorem dX6_greatestPart_67 : decode cX6_greatestPart 67 = .ok (.iastore, 1) := by decide +kernel
theorem dX6_greatestPart_68 : decode cX6_greatestPart 68 = .ok (.aload_n 0, 1) := by decide +kernel
theorem dX6_greatestPart_69 : decode cX6_greatestPart 69 = .ok (.getfield 57, 3) := by decide +kernel
theorem dX6_greatestPart_72 : decode cX6_greatestPart 72 = .ok (.iload 5, 2) := by decide +kernel
theorem dX6_greatestPart_74 : decode cX6_greatestPart 74 = .ok (.iaload, 1) := by decide +kernel
theorem dX6_greatestPart_75 : decode cX6_greatestPart 75 = .ok (.iload_n 3, 1) := by decide +kernel
theorem dX6_greatestPart_76 : decode cX6_greatestPart 76 = .ok (.if_icmp .le 13, 3) := by decide +kernel
theorem dX6_greatestPart_79 : decode cX6_greatestPart 79 = .ok (.aload_n 0, 1) := by decide +kernel
theorem dX6_greatestPart_80 : decode cX6_greatestPart 80 = .ok (.getfield 57, 3) := by decide +kernel
theorem dX6_greatestPart_83 : decode cX6_greatestPart 83 = .ok (.iload 5, 2) := by decide +kernel
theorem dX6_greatestPart_85 : decode cX6_greatestPart 85 = .ok (.iaload, 1) := by decide +kernel
theorem dX6_greatestPart_86 : decode cX6_greatestPart 86 = .ok (.goto 4, 3) := by decide +kernel
theorem dX6_greatestPart_89 : decode cX6_greatestPart 89 = .ok (.iload_n 3, 1) := by decide +kernel
theorem dX6_greatestPart_90 : decode cX6_greatestPart 90 = .ok (.istore_n 3, 1) := by decide +kernel
theorem dX6_greatestPart_91 : decode cX6_greatestPart 91 = .ok (.iinc 4 1, 3) := by decide +kernel
theorem dX6_greatestPart_94 : decode cX6_greatestPart 94 = .ok (.goto (-68), 3) := by decide +kernel
theorem dX6_greatestPart_97 : decode cX6_greatestPart 97 = .ok (.iload_n 3, 1) := by decide +kernel
theorem dX6_greatestPart_98 : decode cX6_greatestPart 98 = .ok (.ireturn, 1) := by decide +kernel
theorem dX6_look_0 : decode cX6_look 0 = .ok (.aload_n 0, 1) := by decide +kernel
theorem dX6_look_1 : decode cX6_look 1 = .ok (.iload_n 1, 1) := by decide +kernel
theorem dX6_look_2 : decode cX6_look 2 = .ok (.invokevirtual 164, 3) := by decide +kernel
theorem dX6_look_5 : decode cX6_look 5 = .ok (.ifCond .ne 5, 3) := by decide +kernel
theorem dX6_look_8 : decode cX6_look 8 = .ok (.iconst (-1), 1) := by decide +kernel
theorem dX6_look_9 : decode cX6_look 9 = .ok (.ireturn, 1) := by decide +kernel
theorem dX6_look_10 : decode cX6_look 10 = .ok (.aload_n 0, 1) := by decide +kernel
theorem dX6_look_11 : decode cX6_look 11 = .ok (.iload_n 1, 1) := by decide +kernel
theorem dX6_look_12 : decode cX6_look 12 = .ok (.iconst 0, 1) := by decide +kernel
theorem dX6_look_13 : decode cX6_look 13 = .ok (.invokevirtual 208, 3) := by decide +kernel
theorem dX6_look_16 : decode cX6_look 16 = .ok (.iconst 2, 1) := by decide +kernel
theorem dX6_look_17 : decode cX6_look 17 = .ok (.if_icmp .ge 6, 3) := by decide +kernel
theorem dX6_look_20 : decode cX6_look 20 = .ok (.bipush (-9), 2) := by decide +kernel
theorem dX6_look_22 : decode cX6_look 22 = .ok (.ireturn, 1) := by decide +kernel
theorem dX6_look_23 : decode cX6_look 23 = .ok (.bipush (-9), 2) := by decide +kernel
theorem dX6_look_25 : decode cX6_look 25 = .ok (.istore_n 2, 1) := by decide +kernel
theorem dX6_look_26 : decode cX6_look 26 = .ok (.iconst 0, 1) := by decide +kernel
theorem dX6_look_27 : decode cX6_look 27 = .ok (.istore_n 3, 1) := by decide +kernel
theorem dX6_look_28 : decode cX6_look 28 = .ok (.iconst 1, 1) := by decide +kernel
theorem dX6_look_29 : decode cX6_look 29 = .ok (.istore 4, 2) := by decide +kernel
theorem dX6_look_31 : decode cX6_look 31 = .ok (.iload 4, 2) := by decide +kernel
theorem dX6_look_33 : decode cX6_look 33 = .ok (.bipush 20, 2) := by decide +kernel
theorem dX6_look_35 : decode cX6_look 35 = .ok (.if_icmp .gt 59, 3) := by decide +kernel
theorem dX6_look_38 : decode cX6_look 38 = .ok (.aload_n 0, 1) := by decide +kernel
theorem dX6_look_39 : decode cX6_look 39 = .ok (.iload_n 1, 1) := by decide +kernel
theorem dX6_look_40 : decode cX6_look 40 = .ok (.iload 4, 2) := by decide +kernel
theorem dX6_look_42 : decode cX6_look 42 = .ok (.invokevirtual 210, 3) := by decide +kernel
theorem dX6_look_45 : decode cX6_look 45 = .ok (.istore 5, 2) := by decide +kernel
theorem dX6_look_47 : decode cX6_look 47 = .ok (.iload_n 2, 1) := by decide +kernel
theorem dX6_look_48 : decode cX6_look 48 = .ok (.ifCond .lt 9, 3) := by decide +kernel
theorem dX6_look_51 : decode cX6_look 51 = .ok (.iload 5, 2) := by decide +kernel
theorem dX6_look_53 : decode cX6_look 53 = .ok (.iload_n 3, 1) := by decide +kernel
theorem dX6_look_54 : decode cX6_look 54 = .ok (.if_icmp .ge 7, 3) := by decide +kernel
theorem dX6_look_57 : decode cX6_look 57 = .ok (.iconst 1, 1) := by decide +kernel
theorem dX6_look_58 : decode cX6_look 58 = .ok (.goto 4, 3) := by decide +kernel
theorem dX6_look_61 : decode cX6_look 61 = .ok (.iconst 0, 1) := by decide +kernel
theorem dX6_look_62 : decode cX6_look 62 = .ok (.istore 6, 2) := by decide +kernel
theorem dX6_look_64 : decode cX6_look 64 = .ok (.iload 6, 2) := by decide +kernel
theorem dX6_look_66 : decode cX6_look 66 = .ok (.ifCond .eq 8, 3) := by decide +kernel
theorem dX6_look_69 : decode cX6_look 69 = .ok (.iload 4, 2) := by decide +kernel
theorem dX6_look_71 : decode cX6_look 71 = .ok (.goto 4, 3) := by decide +kernel
theorem dX6_look_74 : decode cX6_look 74 = .ok (.iload_n 2, 1) := by decide +kernel
theorem dX6_look_75 : decode cX6_look 75 = .ok (.istore_n 2, 1) := by decide +kernel
theorem dX6_look_76 : decode cX6_look 76 = .ok (.iload 6, 2) := by decide +kernel
theorem dX6_look_78 : decode cX6_look 78 = .ok (.ifCond .eq 8, 3) := by decide +kernel
theorem dX6_look_81 : decode cX6_look 81 = .ok (.iload 5, 2) := by decide +kernel
theorem dX6_look_83 : decode cX6_look 83 = .ok (.goto 4, 3) := by decide +kernel
theorem dX6_look_86 : decode cX6_look 86 = .ok (.iload_n 3, 1) := by decide +kernel
theorem dX6_look_87 : decode cX6_look 87 = .ok (.istore_n 3, 1) := by decide +kernel
theorem dX6_look_88 : decode cX6_look 88 = .ok (.iinc 4 1, 3) := by decide +kernel
theorem dX6_look_91 : decode cX6_look 91 = .ok (.goto (-60), 3) := by decide +kernel
theorem dX6_look_94 : decode cX6_look 94 = .ok (.iload_n 2, 1) := by decide +kernel
theorem dX6_look_95 : decode cX6_look 95 = .ok (.ireturn, 1) := by decide +kernel
theorem dX6_rate_0 : decode cX6_rate 0 = .ok (.iload_n 1, 1) := by decide +kernel
theorem dX6_rate_1 : decode cX6_rate 1 = .ok (.iconst 0, 1) := by decide +kernel
theorem dX6_rate_2 : decode cX6_rate 2 = .ok (.iconst 5, 1) := by decide +kernel
theorem dX6_rate_3 : decode cX6_rate 3 = .ok (.invokestatic 63, 3) := by decide +kernel
theorem dX6_rate_6 : decode cX6_rate 6 = .ok (.ifCond .eq 11, 3) := by decide +kernel
theorem dX6_rate_9 : decode cX6_rate 9 = .ok (.aload_n 0, 1) := by decide +kernel
theorem dX6_rate_10 : decode cX6_rate 10 = .ok (.iload_n 2, 1) := by decide +kernel
theorem dX6_rate_11 : decode cX6_rate 11 = .ok (.invokevirtual 164, 3) := by decide +kernel
theorem dX6_rate_14 : decode cX6_rate 14 = .ok (.ifCond .ne 6, 3) := by decide +kernel
theorem dX6_rate_17 : decode cX6_rate 17 = .ok (.ldc 213, 2) := by decide +kernel
theorem dX6_rate_19 : decode cX6_rate 19 = .ok (.ireturn, 1) := by decide +kernel
theorem dX6_rate_20 : decode cX6_rate 20 = .ok (.aload_n 0, 1) := by decide +kernel
theorem dX6_rate_21 : decode cX6_rate 21 = .ok (.getfield 29, 3) := by decide +kernel
theorem dX6_rate_24 : decode cX6_rate 24 = .ok (.bipush 8, 2) := by decide +kernel
theorem dX6_rate_26 : decode cX6_rate 26 = .ok (.iload_n 2, 1) := by decide +kernel
theorem dX6_rate_27 : decode cX6_rate 27 = .ok (.iadd, 1) := by decide +kernel
theorem dX6_rate_28 : decode cX6_rate 28 = .ok (.iaload, 1) := by decide +kernel
theorem dX6_rate_29 : decode cX6_rate 29 = .ok (.istore_n 3, 1) := by decide +kernel
theorem dX6_rate_30 : decode cX6_rate 30 = .ok (.iload_n 3, 1) := by decide +kernel
theorem dX6_rate_31 : decode cX6_rate 31 = .ok (.aload_n 0, 1) := by decide +kernel
theorem dX6_rate_32 : decode cX6_rate 32 = .ok (.getfield 7, 3) := by decide +kernel
theorem dX6_rate_35 : decode cX6_rate 35 = .ok (.iload_n 2, 1) := by decide +kernel
theorem dX6_rate_36 : decode cX6_rate 36 = .ok (.iaload, 1) := by decide +kernel
theorem dX6_rate_37 : decode cX6_rate 37 = .ok (.iadd, 1) := by decide +kernel
theorem dX6_rate_38 : decode cX6_rate 38 = .ok (.istore 4, 2) := by decide +kernel
theorem dX6_rate_40 : decode cX6_rate 40 = .ok (.iload_n 3, 1) := by decide +kernel
theorem dX6_rate_41 : decode cX6_rate 41 = .ok (.aload_n 0, 1) := by decide +kernel
theorem dX6_rate_42 : decode cX6_rate 42 = .ok (.getfield 29, 3) := by decide +kernel
theorem dX6_rate_45 : decode cX6_rate 45 = .ok (.bipush 14, 2) := by decide +kernel
theorem dX6_rate_47 : decode cX6_rate 47 = .ok (.iload_n 2, 1) := by decide +kernel
theorem dX6_rate_48 : decode cX6_rate 48 = .ok (.iadd, 1) := by decide +kernel
theorem dX6_rate_49 : decode cX6_rate 49 = .ok (.iaload, 1) := by decide +kernel
theorem dX6_rate_50 : decode cX6_rate 50 = .ok (.invokestatic 180, 3) := by decide +kernel
theorem dX6_rate_53 : decode cX6_rate 53 = .ok (.isub, 1) := by decide +kernel
theorem dX6_rate_54 : decode cX6_rate 54 = .ok (.istore 5, 2) := by decide +kernel
theorem dX6_rate_56 : decode cX6_rate 56 = .ok (.iload_n 1, 1) := by decide +kernel
theorem dX6_rate_57 : decode cX6_rate 57 = .ok (.tableswitch 120 1 5 #[35, 50, 65, 82, 99], 35) := by decide +kernel
theorem dX6_rate_92 : decode cX6_rate 92 = .ok (.aload_n 0, 1) := by decide +kernel
theorem dX6_rate_93 : decode cX6_rate 93 = .ok (.dup, 1) := by decide +kernel
theorem dX6_rate_94 : decode cX6_rate 94 = .ok (.getfield 214, 3) := by decide +kernel
theorem dX6_rate_97 : decode cX6_rate 97 = .ok (.ldc2_w 218, 3) := by decide +kernel
theorem dX6_rate_100 : decode cX6_rate 100 = .ok (.ladd, 1) := by decide +kernel
theorem dX6_rate_101 : decode cX6_rate 101 = .ok (.putfield 214, 3) := by decide +kernel
theorem dX6_rate_104 : decode cX6_rate 104 = .ok (.iload 4, 2) := by decide +kernel
theorem dX6_rate_106 : decode cX6_rate 106 = .ok (.ireturn, 1) := by decide +kernel
theorem dX6_rate_107 : decode cX6_rate 107 = .ok (.aload_n 0, 1) := by decide +kernel
theorem dX6_rate_108 : decode cX6_rate 108 = .ok (.dup, 1) := by decide +kernel
theorem dX6_rate_109 : decode cX6_rate 109 = .ok (.getfield 214, 3) := by decide +kernel
theorem dX6_rate_112 : decode cX6_rate 112 = .ok (.ldc2_w 220, 3) := by decide +kernel
theorem dX6_rate_115 : decode cX6_rate 115 = .ok (.ladd, 1) := by decide +kernel
theorem dX6_rate_116 : decode cX6_rate 116 = .ok (.putfield 214, 3) := by decide +kernel
theorem dX6_rate_119 : decode cX6_rate 119 = .ok (.iload 5, 2) := by decide +kernel
theorem dX6_rate_121 : decode cX6_rate 121 = .ok (.ireturn, 1) := by decide +kernel
theorem dX6_rate_122 : decode cX6_rate 122 = .ok (.aload_n 0, 1) := by decide +kernel
theorem dX6_rate_123 : decode cX6_rate 123 = .ok (.dup, 1) := by decide +kernel
theorem dX6_rate_124 : decode cX6_rate 124 = .ok (.getfield 214, 3) := by decide +kernel
theorem dX6_rate_127 : decode cX6_rate 127 = .ok (.ldc2_w 222, 3) := by decide +kernel
theorem dX6_rate_130 : decode cX6_rate 130 = .ok (.ladd, 1) := by decide +kernel
theorem dX6_rate_131 : decode cX6_rate 131 = .ok (.putfield 214, 3) := by decide +kernel
theorem dX6_rate_134 : decode cX6_rate 134 = .ok (.iconst 2, 1) := by decide +kernel
theorem dX6_rate_135 : decode cX6_rate 135 = .ok (.iload 4, 2) := by decide +kernel
theorem dX6_rate_137 : decode cX6_rate 137 = .ok (.imul, 1) := by decide +kernel
theorem dX6_rate_138 : decode cX6_rate 138 = .ok (.ireturn, 1) := by decide +kernel
theorem dX6_rate_139 : decode cX6_rate 139 = .ok (.aload_n 0, 1) := by decide +kernel
theorem dX6_rate_140 : decode cX6_rate 140 = .ok (.dup, 1) := by decide +kernel
theorem dX6_rate_141 : decode cX6_rate 141 = .ok (.getfield 214, 3) := by decide +kernel
theorem dX6_rate_144 : decode cX6_rate 144 = .ok (.ldc2_w 224, 3) := by decide +kernel
theorem dX6_rate_147 : decode cX6_rate 147 = .ok (.ladd, 1) := by decide +kernel
theorem dX6_rate_148 : decode cX6_rate 148 = .ok (.putfield 214, 3) := by decide +kernel
theorem dX6_rate_151 : decode cX6_rate 151 = .ok (.iload 5, 2) := by decide +kernel
theorem dX6_rate_153 : decode cX6_rate 153 = .ok (.iload_n 2, 1) := by decide +kernel
theorem dX6_rate_154 : decode cX6_rate 154 = .ok (.iadd, 1) := by decide +kernel
theorem dX6_rate_155 : decode cX6_rate 155 = .ok (.ireturn, 1) := by decide +kernel
theorem dX6_rate_156 : decode cX6_rate 156 = .ok (.aload_n 0, 1) := by decide +kernel
theorem dX6_rate_157 : decode cX6_rate 157 = .ok (.dup, 1) := by decide +kernel
theorem dX6_rate_158 : decode cX6_rate 158 = .ok (.getfield 214, 3) := by decide +kernel
theorem dX6_rate_161 : decode cX6_rate 161 = .ok (.ldc2_w 226, 3) := by decide +kernel
theorem dX6_rate_164 : decode cX6_rate 164 = .ok (.ladd, 1) := by decide +kernel
theorem dX6_rate_165 : decode cX6_rate 165 = .ok (.putfield 214, 3) := by decide +kernel
theorem dX6_rate_168 : decode cX6_rate 168 = .ok (.iload_n 3, 1) := by decide +kernel
theorem dX6_rate_169 : decode cX6_rate 169 = .ok (.aload_n 0, 1) := by decide +kernel
theorem dX6_rate_170 : decode cX6_rate 170 = .ok (.getfield 29, 3) := by decide +kernel
theorem dX6_rate_173 : decode cX6_rate 173 = .ok (.iconst 1, 1) := by decide +kernel
theorem dX6_rate_174 : decode cX6_rate 174 = .ok (.iaload, 1) := by decide +kernel
theorem dX6_rate_175 : decode cX6_rate 175 = .ok (.iadd, 1) := by decide +kernel
theorem dX6_rate_176 : decode cX6_rate 176 = .ok (.ireturn, 1) := by decide +kernel
theorem dX6_rate_177 : decode cX6_rate 177 = .ok (.aload_n 0, 1) := by decide +kernel
theorem dX6_rate_178 : decode cX6_rate 178 = .ok (.dup, 1) := by decide +kernel
theorem dX6_rate_179 : decode cX6_rate 179 = .ok (.getfield 214, 3) := by decide +kernel
theorem dX6_rate_182 : decode cX6_rate 182 = .ok (.lconst 1, 1) := by decide +kernel
theorem dX6_rate_183 : decode cX6_rate 183 = .ok (.ladd, 1) := by decide +kernel
theorem dX6_rate_184 : decode cX6_rate 184 = .ok (.putfield 214, 3) := by decide +kernel
theorem dX6_rate_187 : decode cX6_rate 187 = .ok (.iload_n 3, 1) := by decide +kernel
theorem dX6_rate_188 : decode cX6_rate 188 = .ok (.ireturn, 1) := by decide +kernel
theorem dX6_keep_0 : decode cX6_keep 0 = .ok (.iload_n 1, 1) := by decide +kernel
theorem dX6_keep_1 : decode cX6_keep 1 = .ok (.iconst 0, 1) := by decide +kernel
theorem dX6_keep_2 : decode cX6_keep 2 = .ok (.iconst 1, 1) := by decide +kernel
theorem dX6_keep_3 : decode cX6_keep 3 = .ok (.invokestatic 63, 3) := by decide +kernel
theorem dX6_keep_6 : decode cX6_keep 6 = .ok (.ifCond .ne 5, 3) := by decide +kernel
theorem dX6_keep_9 : decode cX6_keep 9 = .ok (.iconst (-1), 1) := by decide +kernel
theorem dX6_keep_10 : decode cX6_keep 10 = .ok (.ireturn, 1) := by decide +kernel
theorem dX6_keep_11 : decode cX6_keep 11 = .ok (.aload_n 0, 1) := by decide +kernel
theorem dX6_keep_12 : decode cX6_keep 12 = .ok (.getfield 35, 3) := by decide +kernel
theorem dX6_keep_15 : decode cX6_keep 15 = .ok (.bipush 26, 2) := by decide +kernel
theorem dX6_keep_17 : decode cX6_keep 17 = .ok (.iload_n 1, 1) := by decide +kernel
theorem dX6_keep_18 : decode cX6_keep 18 = .ok (.imul, 1) := by decide +kernel
theorem dX6_keep_19 : decode cX6_keep 19 = .ok (.aload_n 0, 1) := by decide +kernel
theorem dX6_keep_20 : decode cX6_keep 20 = .ok (.getfield 29, 3) := by decide +kernel
theorem dX6_keep_23 : decode cX6_keep 23 = .ok (.iconst 0, 1) := by decide +kernel
theorem dX6_keep_24 : decode cX6_keep 24 = .ok (.invokestatic 135, 3) := by decide +kernel
theorem dX6_keep_27 : decode cX6_keep 27 = .ok (.aload_n 0, 1) := by decide +kernel
theorem dX6_keep_28 : decode cX6_keep 28 = .ok (.getfield 38, 3) := by decide +kernel
theorem dX6_keep_31 : decode cX6_keep 31 = .ok (.iload_n 1, 1) := by decide +kernel
theorem dX6_keep_32 : decode cX6_keep 32 = .ok (.iconst 1, 1) := by decide +kernel
theorem dX6_keep_33 : decode cX6_keep 33 = .ok (.bastore, 1) := by decide +kernel
theorem dX6_keep_34 : decode cX6_keep 34 = .ok (.aload_n 0, 1) := by decide +kernel
theorem dX6_keep_35 : decode cX6_keep 35 = .ok (.getfield 29, 3) := by decide +kernel
theorem dX6_keep_38 : decode cX6_keep 38 = .ok (.iconst 0, 1) := by decide +kernel
theorem dX6_keep_39 : decode cX6_keep 39 = .ok (.iaload, 1) := by decide +kernel
theorem dX6_keep_40 : decode cX6_keep 40 = .ok (.ireturn, 1) := by decide +kernel
theorem dX6_back_0 : decode cX6_back 0 = .ok (.iload_n 1, 1) := by decide +kernel
theorem dX6_back_1 : decode cX6_back 1 = .ok (.iconst 0, 1) := by decide +kernel
theorem dX6_back_2 : decode cX6_back 2 = .ok (.iconst 1, 1) := by decide +kernel
theorem dX6_back_3 : decode cX6_back 3 = .ok (.invokestatic 63, 3) := by decide +kernel
theorem dX6_back_6 : decode cX6_back 6 = .ok (.ifCond .ne 5, 3) := by decide +kernel
theorem dX6_back_9 : decode cX6_back 9 = .ok (.iconst (-1), 1) := by decide +kernel
theorem dX6_back_10 : decode cX6_back 10 = .ok (.ireturn, 1) := by decide +kernel
theorem dX6_back_11 : decode cX6_back 11 = .ok (.aload_n 0, 1) := by decide +kernel
theorem dX6_back_12 : decode cX6_back 12 = .ok (.getfield 38, 3) := by decide +kernel
theorem dX6_back_15 : decode cX6_back 15 = .ok (.iload_n 1, 1) := by decide +kernel
theorem dX6_back_16 : decode cX6_back 16 = .ok (.baload, 1) := by decide +kernel
theorem dX6_back_17 : decode cX6_back 17 = .ok (.ifCond .ne 6, 3) := by decide +kernel
theorem dX6_back_20 : decode cX6_back 20 = .ok (.bipush (-2), 2) := by decide +kernel
theorem dX6_back_22 : decode cX6_back 22 = .ok (.ireturn, 1) := by decide +kernel
theorem dX6_back_23 : decode cX6_back 23 = .ok (.aload_n 0, 1) := by decide +kernel
theorem dX6_back_24 : decode cX6_back 24 = .ok (.getfield 29, 3) := by decide +kernel
theorem dX6_back_27 : decode cX6_back 27 = .ok (.iconst 0, 1) := by decide +kernel
theorem dX6_back_28 : decode cX6_back 28 = .ok (.aload_n 0, 1) := by decide +kernel
theorem dX6_back_29 : decode cX6_back 29 = .ok (.getfield 35, 3) := by decide +kernel
theorem dX6_back_32 : decode cX6_back 32 = .ok (.bipush 26, 2) := by decide +kernel
theorem dX6_back_34 : decode cX6_back 34 = .ok (.iload_n 1, 1) := by decide +kernel
theorem dX6_back_35 : decode cX6_back 35 = .ok (.imul, 1) := by decide +kernel
theorem dX6_back_36 : decode cX6_back 36 = .ok (.invokestatic 135, 3) := by decide +kernel
theorem dX6_back_39 : decode cX6_back 39 = .ok (.aload_n 0, 1) := by decide +kernel
theorem dX6_back_40 : decode cX6_back 40 = .ok (.iconst 0, 1) := by decide +kernel
theorem dX6_back_41 : decode cX6_back 41 = .ok (.putfield 129, 3) := by decide +kernel
theorem dX6_back_44 : decode cX6_back 44 = .ok (.aload_n 0, 1) := by decide +kernel
theorem dX6_back_45 : decode cX6_back 45 = .ok (.getfield 29, 3) := by decide +kernel
theorem dX6_back_48 : decode cX6_back 48 = .ok (.iconst 0, 1) := by decide +kernel
theorem dX6_back_49 : decode cX6_back 49 = .ok (.iaload, 1) := by decide +kernel
theorem dX6_back_50 : decode cX6_back 50 = .ok (.ireturn, 1) := by decide +kernel
theorem dX6_count_0 : decode cX6_count 0 = .ok (.iload_n 1, 1) := by decide +kernel
theorem dX6_count_1 : decode cX6_count 1 = .ok (.tableswitch 69 0 5 #[39, 44, 49, 54, 59, 64], 39) := by decide +kernel
theorem dX6_count_40 : decode cX6_count 40 = .ok (.aload_n 0, 1) := by decide +kernel
theorem dX6_count_41 : decode cX6_count 41 = .ok (.getfield 60, 3) := by decide +kernel
theorem dX6_count_44 : decode cX6_count 44 = .ok (.ireturn, 1) := by decide +kernel
theorem dX6_count_45 : decode cX6_count 45 = .ok (.aload_n 0, 1) := by decide +kernel
theorem dX6_count_46 : decode cX6_count 46 = .ok (.getfield 19, 3) := by decide +kernel
theorem dX6_count_49 : decode cX6_count 49 = .ok (.ireturn, 1) := by decide +kernel
theorem dX6_count_50 : decode cX6_count 50 = .ok (.aload_n 0, 1) := by decide +kernel
theorem dX6_count_51 : decode cX6_count 51 = .ok (.getfield 23, 3) := by decide +kernel
theorem dX6_count_54 : decode cX6_count 54 = .ok (.ireturn, 1) := by decide +kernel
theorem dX6_count_55 : decode cX6_count 55 = .ok (.aload_n 0, 1) := by decide +kernel
theorem dX6_count_56 : decode cX6_count 56 = .ok (.getfield 26, 3) := by decide +kernel
theorem dX6_count_59 : decode cX6_count 59 = .ok (.ireturn, 1) := by decide +kernel
theorem dX6_count_60 : decode cX6_count 60 = .ok (.aload_n 0, 1) := by decide +kernel
theorem dX6_count_61 : decode cX6_count 61 = .ok (.getfield 132, 3) := by decide +kernel
theorem dX6_count_64 : decode cX6_count 64 = .ok (.ireturn, 1) := by decide +kernel
theorem dX6_count_65 : decode cX6_count 65 = .ok (.aload_n 0, 1) := by decide +kernel
theorem dX6_count_66 : decode cX6_count 66 = .ok (.getfield 67, 3) := by decide +kernel
theorem dX6_count_69 : decode cX6_count 69 = .ok (.ireturn, 1) := by decide +kernel
theorem dX6_count_70 : decode cX6_count 70 = .ok (.iconst (-1), 1) := by decide +kernel
theorem dX6_count_71 : decode cX6_count 71 = .ok (.ireturn, 1) := by decide +kernel
theorem dX6_trace_0 : decode cX6_trace 0 = .ok (.aload_n 0, 1) := by decide +kernel
theorem dX6_trace_1 : decode cX6_trace 1 = .ok (.getfield 214, 3) := by decide +kernel
theorem dX6_trace_4 : decode cX6_trace 4 = .ok (.lreturn, 1) := by decide +kernel
theorem dJ6_bitCount_0f7a4_0 : decode cJ6_bitCount_0f7a4 0 = .ok (.iload_n 0, 1) := by decide +kernel
theorem dJ6_bitCount_0f7a4_1 : decode cJ6_bitCount_0f7a4 1 = .ok (.iload_n 0, 1) := by decide +kernel
theorem dJ6_bitCount_0f7a4_2 : decode cJ6_bitCount_0f7a4 2 = .ok (.iconst 1, 1) := by decide +kernel
theorem dJ6_bitCount_0f7a4_3 : decode cJ6_bitCount_0f7a4 3 = .ok (.iushr, 1) := by decide +kernel
theorem dJ6_bitCount_0f7a4_4 : decode cJ6_bitCount_0f7a4 4 = .ok (.ldc_w 265, 3) := by decide +kernel
theorem dJ6_bitCount_0f7a4_7 : decode cJ6_bitCount_0f7a4 7 = .ok (.iand, 1) := by decide +kernel
theorem dJ6_bitCount_0f7a4_8 : decode cJ6_bitCount_0f7a4 8 = .ok (.isub, 1) := by decide +kernel
theorem dJ6_bitCount_0f7a4_9 : decode cJ6_bitCount_0f7a4 9 = .ok (.istore_n 0, 1) := by decide +kernel
theorem dJ6_bitCount_0f7a4_10 : decode cJ6_bitCount_0f7a4 10 = .ok (.iload_n 0, 1) := by decide +kernel
theorem dJ6_bitCount_0f7a4_11 : decode cJ6_bitCount_0f7a4 11 = .ok (.ldc_w 266, 3) := by decide +kernel
theorem dJ6_bitCount_0f7a4_14 : decode cJ6_bitCount_0f7a4 14 = .ok (.iand, 1) := by decide +kernel
theorem dJ6_bitCount_0f7a4_15 : decode cJ6_bitCount_0f7a4 15 = .ok (.iload_n 0, 1) := by decide +kernel
theorem dJ6_bitCount_0f7a4_16 : decode cJ6_bitCount_0f7a4 16 = .ok (.iconst 2, 1) := by decide +kernel
theorem dJ6_bitCount_0f7a4_17 : decode cJ6_bitCount_0f7a4 17 = .ok (.iushr, 1) := by decide +kernel
theorem dJ6_bitCount_0f7a4_18 : decode cJ6_bitCount_0f7a4 18 = .ok (.ldc_w 266, 3) := by decide +kernel
theorem dJ6_bitCount_0f7a4_21 : decode cJ6_bitCount_0f7a4 21 = .ok (.iand, 1) := by decide +kernel
theorem dJ6_bitCount_0f7a4_22 : decode cJ6_bitCount_0f7a4 22 = .ok (.iadd, 1) := by decide +kernel
theorem dJ6_bitCount_0f7a4_23 : decode cJ6_bitCount_0f7a4 23 = .ok (.istore_n 0, 1) := by decide +kernel
theorem dJ6_bitCount_0f7a4_24 : decode cJ6_bitCount_0f7a4 24 = .ok (.iload_n 0, 1) := by decide +kernel
theorem dJ6_bitCount_0f7a4_25 : decode cJ6_bitCount_0f7a4 25 = .ok (.iload_n 0, 1) := by decide +kernel
theorem dJ6_bitCount_0f7a4_26 : decode cJ6_bitCount_0f7a4 26 = .ok (.iconst 4, 1) := by decide +kernel
theorem dJ6_bitCount_0f7a4_27 : decode cJ6_bitCount_0f7a4 27 = .ok (.iushr, 1) := by decide +kernel
theorem dJ6_bitCount_0f7a4_28 : decode cJ6_bitCount_0f7a4 28 = .ok (.iadd, 1) := by decide +kernel
theorem dJ6_bitCount_0f7a4_29 : decode cJ6_bitCount_0f7a4 29 = .ok (.ldc_w 267, 3) := by decide +kernel
theorem dJ6_bitCount_0f7a4_32 : decode cJ6_bitCount_0f7a4 32 = .ok (.iand, 1) := by decide +kernel
theorem dJ6_bitCount_0f7a4_33 : decode cJ6_bitCount_0f7a4 33 = .ok (.istore_n 0, 1) := by decide +kernel
theorem dJ6_bitCount_0f7a4_34 : decode cJ6_bitCount_0f7a4 34 = .ok (.iload_n 0, 1) := by decide +kernel
theorem dJ6_bitCount_0f7a4_35 : decode cJ6_bitCount_0f7a4 35 = .ok (.iload_n 0, 1) := by decide +kernel
theorem dJ6_bitCount_0f7a4_36 : decode cJ6_bitCount_0f7a4 36 = .ok (.bipush 8, 2) := by decide +kernel
theorem dJ6_bitCount_0f7a4_38 : decode cJ6_bitCount_0f7a4 38 = .ok (.iushr, 1) := by decide +kernel
theorem dJ6_bitCount_0f7a4_39 : decode cJ6_bitCount_0f7a4 39 = .ok (.iadd, 1) := by decide +kernel
theorem dJ6_bitCount_0f7a4_40 : decode cJ6_bitCount_0f7a4 40 = .ok (.istore_n 0, 1) := by decide +kernel
theorem dJ6_bitCount_0f7a4_41 : decode cJ6_bitCount_0f7a4 41 = .ok (.iload_n 0, 1) := by decide +kernel
theorem dJ6_bitCount_0f7a4_42 : decode cJ6_bitCount_0f7a4 42 = .ok (.iload_n 0, 1) := by decide +kernel
theorem dJ6_bitCount_0f7a4_43 : decode cJ6_bitCount_0f7a4 43 = .ok (.bipush 16, 2) := by decide +kernel
theorem dJ6_bitCount_0f7a4_45 : decode cJ6_bitCount_0f7a4 45 = .ok (.iushr, 1) := by decide +kernel
theorem dJ6_bitCount_0f7a4_46 : decode cJ6_bitCount_0f7a4 46 = .ok (.iadd, 1) := by decide +kernel
theorem dJ6_bitCount_0f7a4_47 : decode cJ6_bitCount_0f7a4 47 = .ok (.istore_n 0, 1) := by decide +kernel
theorem dJ6_bitCount_0f7a4_48 : decode cJ6_bitCount_0f7a4 48 = .ok (.iload_n 0, 1) := by decide +kernel
theorem dJ6_bitCount_0f7a4_49 : decode cJ6_bitCount_0f7a4 49 = .ok (.bipush 63, 2) := by decide +kernel
theorem dJ6_bitCount_0f7a4_51 : decode cJ6_bitCount_0f7a4 51 = .ok (.iand, 1) := by decide +kernel
theorem dJ6_bitCount_0f7a4_52 : decode cJ6_bitCount_0f7a4 52 = .ok (.ireturn, 1) := by decide +kernel
theorem dJ13_bitCount_95d88_0 : decode cJ13_bitCount_95d88 0 = .ok (.lload_n 0, 1) := by decide +kernel
theorem dJ13_bitCount_95d88_1 : decode cJ13_bitCount_95d88 1 = .ok (.lload_n 0, 1) := by decide +kernel
theorem dJ13_bitCount_95d88_2 : decode cJ13_bitCount_95d88 2 = .ok (.iconst 1, 1) := by decide +kernel
theorem dJ13_bitCount_95d88_3 : decode cJ13_bitCount_95d88 3 = .ok (.lushr, 1) := by decide +kernel
theorem dJ13_bitCount_95d88_4 : decode cJ13_bitCount_95d88 4 = .ok (.ldc2_w 314, 3) := by decide +kernel
theorem dJ13_bitCount_95d88_7 : decode cJ13_bitCount_95d88 7 = .ok (.land, 1) := by decide +kernel
theorem dJ13_bitCount_95d88_8 : decode cJ13_bitCount_95d88 8 = .ok (.lsub, 1) := by decide +kernel
theorem dJ13_bitCount_95d88_9 : decode cJ13_bitCount_95d88 9 = .ok (.lstore_n 0, 1) := by decide +kernel
theorem dJ13_bitCount_95d88_10 : decode cJ13_bitCount_95d88 10 = .ok (.lload_n 0, 1) := by decide +kernel
theorem dJ13_bitCount_95d88_11 : decode cJ13_bitCount_95d88 11 = .ok (.ldc2_w 316, 3) := by decide +kernel
theorem dJ13_bitCount_95d88_14 : decode cJ13_bitCount_95d88 14 = .ok (.land, 1) := by decide +kernel
theorem dJ13_bitCount_95d88_15 : decode cJ13_bitCount_95d88 15 = .ok (.lload_n 0, 1) := by decide +kernel
theorem dJ13_bitCount_95d88_16 : decode cJ13_bitCount_95d88 16 = .ok (.iconst 2, 1) := by decide +kernel
theorem dJ13_bitCount_95d88_17 : decode cJ13_bitCount_95d88 17 = .ok (.lushr, 1) := by decide +kernel
theorem dJ13_bitCount_95d88_18 : decode cJ13_bitCount_95d88 18 = .ok (.ldc2_w 316, 3) := by decide +kernel
theorem dJ13_bitCount_95d88_21 : decode cJ13_bitCount_95d88 21 = .ok (.land, 1) := by decide +kernel
theorem dJ13_bitCount_95d88_22 : decode cJ13_bitCount_95d88 22 = .ok (.ladd, 1) := by decide +kernel
theorem dJ13_bitCount_95d88_23 : decode cJ13_bitCount_95d88 23 = .ok (.lstore_n 0, 1) := by decide +kernel
theorem dJ13_bitCount_95d88_24 : decode cJ13_bitCount_95d88 24 = .ok (.lload_n 0, 1) := by decide +kernel
theorem dJ13_bitCount_95d88_25 : decode cJ13_bitCount_95d88 25 = .ok (.lload_n 0, 1) := by decide +kernel
theorem dJ13_bitCount_95d88_26 : decode cJ13_bitCount_95d88 26 = .ok (.iconst 4, 1) := by decide +kernel
theorem dJ13_bitCount_95d88_27 : decode cJ13_bitCount_95d88 27 = .ok (.lushr, 1) := by decide +kernel
theorem dJ13_bitCount_95d88_28 : decode cJ13_bitCount_95d88 28 = .ok (.ladd, 1) := by decide +kernel
theorem dJ13_bitCount_95d88_29 : decode cJ13_bitCount_95d88 29 = .ok (.ldc2_w 318, 3) := by decide +kernel
theorem dJ13_bitCount_95d88_32 : decode cJ13_bitCount_95d88 32 = .ok (.land, 1) := by decide +kernel
theorem dJ13_bitCount_95d88_33 : decode cJ13_bitCount_95d88 33 = .ok (.lstore_n 0, 1) := by decide +kernel
theorem dJ13_bitCount_95d88_34 : decode cJ13_bitCount_95d88 34 = .ok (.lload_n 0, 1) := by decide +kernel
theorem dJ13_bitCount_95d88_35 : decode cJ13_bitCount_95d88 35 = .ok (.lload_n 0, 1) := by decide +kernel
theorem dJ13_bitCount_95d88_36 : decode cJ13_bitCount_95d88 36 = .ok (.bipush 8, 2) := by decide +kernel
theorem dJ13_bitCount_95d88_38 : decode cJ13_bitCount_95d88 38 = .ok (.lushr, 1) := by decide +kernel
theorem dJ13_bitCount_95d88_39 : decode cJ13_bitCount_95d88 39 = .ok (.ladd, 1) := by decide +kernel
theorem dJ13_bitCount_95d88_40 : decode cJ13_bitCount_95d88 40 = .ok (.lstore_n 0, 1) := by decide +kernel
theorem dJ13_bitCount_95d88_41 : decode cJ13_bitCount_95d88 41 = .ok (.lload_n 0, 1) := by decide +kernel
theorem dJ13_bitCount_95d88_42 : decode cJ13_bitCount_95d88 42 = .ok (.lload_n 0, 1) := by decide +kernel
theorem dJ13_bitCount_95d88_43 : decode cJ13_bitCount_95d88 43 = .ok (.bipush 16, 2) := by decide +kernel
theorem dJ13_bitCount_95d88_45 : decode cJ13_bitCount_95d88 45 = .ok (.lushr, 1) := by decide +kernel
theorem dJ13_bitCount_95d88_46 : decode cJ13_bitCount_95d88 46 = .ok (.ladd, 1) := by decide +kernel
theorem dJ13_bitCount_95d88_47 : decode cJ13_bitCount_95d88 47 = .ok (.lstore_n 0, 1) := by decide +kernel
theorem dJ13_bitCount_95d88_48 : decode cJ13_bitCount_95d88 48 = .ok (.lload_n 0, 1) := by decide +kernel
theorem dJ13_bitCount_95d88_49 : decode cJ13_bitCount_95d88 49 = .ok (.lload_n 0, 1) := by decide +kernel
theorem dJ13_bitCount_95d88_50 : decode cJ13_bitCount_95d88 50 = .ok (.bipush 32, 2) := by decide +kernel
theorem dJ13_bitCount_95d88_52 : decode cJ13_bitCount_95d88 52 = .ok (.lushr, 1) := by decide +kernel
theorem dJ13_bitCount_95d88_53 : decode cJ13_bitCount_95d88 53 = .ok (.ladd, 1) := by decide +kernel
theorem dJ13_bitCount_95d88_54 : decode cJ13_bitCount_95d88 54 = .ok (.lstore_n 0, 1) := by decide +kernel
theorem dJ13_bitCount_95d88_55 : decode cJ13_bitCount_95d88 55 = .ok (.lload_n 0, 1) := by decide +kernel
theorem dJ13_bitCount_95d88_56 : decode cJ13_bitCount_95d88 56 = .ok (.l2i, 1) := by decide +kernel
theorem dJ13_bitCount_95d88_57 : decode cJ13_bitCount_95d88 57 = .ok (.bipush 127, 2) := by decide +kernel
theorem dJ13_bitCount_95d88_59 : decode cJ13_bitCount_95d88 59 = .ok (.iand, 1) := by decide +kernel
theorem dJ13_bitCount_95d88_60 : decode cJ13_bitCount_95d88 60 = .ok (.ireturn, 1) := by decide +kernel
theorem dJ9_abs_0f7a4_0 : decode cJ9_abs_0f7a4 0 = .ok (.iload_n 0, 1) := by decide +kernel
theorem dJ9_abs_0f7a4_1 : decode cJ9_abs_0f7a4 1 = .ok (.ifCond .ge 8, 3) := by decide +kernel
theorem dJ9_abs_0f7a4_4 : decode cJ9_abs_0f7a4 4 = .ok (.iload_n 0, 1) := by decide +kernel
theorem dJ9_abs_0f7a4_5 : decode cJ9_abs_0f7a4 5 = .ok (.ineg, 1) := by decide +kernel
theorem dJ9_abs_0f7a4_6 : decode cJ9_abs_0f7a4 6 = .ok (.goto 4, 3) := by decide +kernel
theorem dJ9_abs_0f7a4_9 : decode cJ9_abs_0f7a4 9 = .ok (.iload_n 0, 1) := by decide +kernel
theorem dJ9_abs_0f7a4_10 : decode cJ9_abs_0f7a4 10 = .ok (.ireturn, 1) := by decide +kernel
theorem dJ9_max_7cf53_0 : decode cJ9_max_7cf53 0 = .ok (.iload_n 0, 1) := by decide +kernel
theorem dJ9_max_7cf53_1 : decode cJ9_max_7cf53 1 = .ok (.iload_n 1, 1) := by decide +kernel
theorem dJ9_max_7cf53_2 : decode cJ9_max_7cf53 2 = .ok (.if_icmp .lt 7, 3) := by decide +kernel
theorem dJ9_max_7cf53_5 : decode cJ9_max_7cf53 5 = .ok (.iload_n 0, 1) := by decide +kernel
theorem dJ9_max_7cf53_6 : decode cJ9_max_7cf53 6 = .ok (.goto 4, 3) := by decide +kernel
theorem dJ9_max_7cf53_9 : decode cJ9_max_7cf53 9 = .ok (.iload_n 1, 1) := by decide +kernel
theorem dJ9_max_7cf53_10 : decode cJ9_max_7cf53 10 = .ok (.ireturn, 1) := by decide +kernel
theorem dJ9_min_7cf53_0 : decode cJ9_min_7cf53 0 = .ok (.iload_n 0, 1) := by decide +kernel
theorem dJ9_min_7cf53_1 : decode cJ9_min_7cf53 1 = .ok (.iload_n 1, 1) := by decide +kernel
theorem dJ9_min_7cf53_2 : decode cJ9_min_7cf53 2 = .ok (.if_icmp .gt 7, 3) := by decide +kernel
theorem dJ9_min_7cf53_5 : decode cJ9_min_7cf53 5 = .ok (.iload_n 0, 1) := by decide +kernel
theorem dJ9_min_7cf53_6 : decode cJ9_min_7cf53 6 = .ok (.goto 4, 3) := by decide +kernel
theorem dJ9_min_7cf53_9 : decode cJ9_min_7cf53 9 = .ok (.iload_n 1, 1) := by decide +kernel
theorem dJ9_min_7cf53_10 : decode cJ9_min_7cf53 10 = .ok (.ireturn, 1) := by decide +kernel
theorem dL_law_0 : decode cL_law 0 = .ok (.new 7, 3) := by decide +kernel
theorem dL_law_3 : decode cL_law 3 = .ok (.dup, 1) := by decide +kernel
theorem dL_law_4 : decode cL_law 4 = .ok (.invokespecial 9, 3) := by decide +kernel
theorem dL_law_7 : decode cL_law 7 = .ok (.astore_n 1, 1) := by decide +kernel
theorem dL_law_8 : decode cL_law 8 = .ok (.new 10, 3) := by decide +kernel
theorem dL_law_11 : decode cL_law 11 = .ok (.dup, 1) := by decide +kernel
theorem dL_law_12 : decode cL_law 12 = .ok (.invokespecial 12, 3) := by decide +kernel
theorem dL_law_15 : decode cL_law 15 = .ok (.astore_n 2, 1) := by decide +kernel
theorem dL_law_16 : decode cL_law 16 = .ok (.iconst 0, 1) := by decide +kernel
theorem dL_law_17 : decode cL_law 17 = .ok (.istore_n 3, 1) := by decide +kernel
theorem dL_law_18 : decode cL_law 18 = .ok (.iload_n 3, 1) := by decide +kernel
theorem dL_law_19 : decode cL_law 19 = .ok (.aload_n 0, 1) := by decide +kernel
theorem dL_law_20 : decode cL_law 20 = .ok (.arraylength, 1) := by decide +kernel
theorem dL_law_21 : decode cL_law 21 = .ok (.iconst 4, 1) := by decide +kernel
theorem dL_law_22 : decode cL_law 22 = .ok (.isub, 1) := by decide +kernel
theorem dL_law_23 : decode cL_law 23 = .ok (.if_icmp .gt 838, 3) := by decide +kernel
theorem dL_law_26 : decode cL_law 26 = .ok (.aload_n 0, 1) := by decide +kernel
theorem dL_law_27 : decode cL_law 27 = .ok (.iload_n 3, 1) := by decide +kernel
theorem dL_law_28 : decode cL_law 28 = .ok (.iaload, 1) := by decide +kernel
theorem dL_law_29 : decode cL_law 29 = .ok (.bipush 31, 2) := by decide +kernel
theorem dL_law_31 : decode cL_law 31 = .ok (.iand, 1) := by decide +kernel
theorem dL_law_32 : decode cL_law 32 = .ok (.tableswitch 823 0 27 #[128, 151, 164, 177, 210, 233, 256, 279, 292, 315, 338, 361, 374, 407, 430, 463, 496, 519, 552, 595, 638, 651, 684, 707, 740, 763, 786, 809], 128) := by decide +kernel
theorem dL_law_160 : decode cL_law 160 = .ok (.aload_n 1, 1) := by decide +kernel
theorem dL_law_161 : decode cL_law 161 = .ok (.aload_n 0, 1) := by decide +kernel
theorem dL_law_162 : decode cL_law 162 = .ok (.iload_n 3, 1) := by decide +kernel
theorem dL_law_163 : decode cL_law 163 = .ok (.iconst 1, 1) := by decide +kernel
theorem dL_law_164 : decode cL_law 164 = .ok (.iadd, 1) := by decide +kernel
theorem dL_law_165 : decode cL_law 165 = .ok (.iaload, 1) := by decide +kernel
theorem dL_law_166 : decode cL_law 166 = .ok (.invokevirtual 13, 3) := by decide +kernel
theorem dL_law_169 : decode cL_law 169 = .ok (.aload_n 2, 1) := by decide +kernel
theorem dL_law_170 : decode cL_law 170 = .ok (.aload_n 0, 1) := by decide +kernel
theorem dL_law_171 : decode cL_law 171 = .ok (.iload_n 3, 1) := by decide +kernel
theorem dL_law_172 : decode cL_law 172 = .ok (.iconst 1, 1) := by decide +kernel
theorem dL_law_173 : decode cL_law 173 = .ok (.iadd, 1) := by decide +kernel
theorem dL_law_174 : decode cL_law 174 = .ok (.iaload, 1) := by decide +kernel
theorem dL_law_175 : decode cL_law 175 = .ok (.invokevirtual 17, 3) := by decide +kernel
theorem dL_law_178 : decode cL_law 178 = .ok (.if_icmp .eq 677, 3) := by decide +kernel
theorem dL_law_181 : decode cL_law 181 = .ok (.iconst 0, 1) := by decide +kernel
theorem dL_law_182 : decode cL_law 182 = .ok (.ireturn, 1) := by decide +kernel
theorem dL_law_183 : decode cL_law 183 = .ok (.aload_n 1, 1) := by decide +kernel
theorem dL_law_184 : decode cL_law 184 = .ok (.invokevirtual 18, 3) := by decide +kernel
theorem dL_law_187 : decode cL_law 187 = .ok (.aload_n 2, 1) := by decide +kernel
theorem dL_law_188 : decode cL_law 188 = .ok (.invokevirtual 22, 3) := by decide +kernel
theorem dL_law_191 : decode cL_law 191 = .ok (.if_icmp .eq 664, 3) := by decide +kernel
theorem dL_law_194 : decode cL_law 194 = .ok (.iconst 0, 1) := by decide +kernel
theorem dL_law_195 : decode cL_law 195 = .ok (.ireturn, 1) := by decide +kernel
theorem dL_law_196 : decode cL_law 196 = .ok (.aload_n 1, 1) := by decide +kernel
theorem dL_law_197 : decode cL_law 197 = .ok (.invokevirtual 23, 3) := by decide +kernel
theorem dL_law_200 : decode cL_law 200 = .ok (.aload_n 2, 1) := by decide +kernel
theorem dL_law_201 : decode cL_law 201 = .ok (.invokevirtual 26, 3) := by decide +kernel
theorem dL_law_204 : decode cL_law 204 = .ok (.if_icmp .eq 651, 3) := by decide +kernel
theorem dL_law_207 : decode cL_law 207 = .ok (.iconst 0, 1) := by decide +kernel
theorem dL_law_208 : decode cL_law 208 = .ok (.ireturn, 1) := by decide +kernel
theorem dL_law_209 : decode cL_law 209 = .ok (.aload_n 1, 1) := by decide +kernel
theorem dL_law_210 : decode cL_law 210 = .ok (.aload_n 0, 1) := by decide +kernel
theorem dL_law_211 : decode cL_law 211 = .ok (.iload_n 3, 1) := by decide +kernel
theorem dL_law_212 : decode cL_law 212 = .ok (.iconst 1, 1) := by decide +kernel
theorem dL_law_213 : decode cL_law 213 = .ok (.iadd, 1) := by decide +kernel
theorem dL_law_214 : decode cL_law 214 = .ok (.iaload, 1) := by decide +kernel
theorem dL_law_215 : decode cL_law 215 = .ok (.aload_n 0, 1) := by decide +kernel
theorem dL_law_216 : decode cL_law 216 = .ok (.iload_n 3, 1) := by decide +kernel
theorem dL_law_217 : decode cL_law 217 = .ok (.iconst 2, 1) := by decide +kernel
theorem dL_law_218 : decode cL_law 218 = .ok (.iadd, 1) := by decide +kernel
theorem dL_law_219 : decode cL_law 219 = .ok (.iaload, 1) := by decide +kernel
theorem dL_law_220 : decode cL_law 220 = .ok (.invokevirtual 27, 3) := by decide +kernel
theorem dL_law_223 : decode cL_law 223 = .ok (.aload_n 2, 1) := by decide +kernel
theorem dL_law_224 : decode cL_law 224 = .ok (.aload_n 0, 1) := by decide +kernel
theorem dL_law_225 : decode cL_law 225 = .ok (.iload_n 3, 1) := by decide +kernel
theorem dL_law_226 : decode cL_law 226 = .ok (.iconst 1, 1) := by decide +kernel
theorem dL_law_227 : decode cL_law 227 = .ok (.iadd, 1) := by decide +kernel
theorem dL_law_228 : decode cL_law 228 = .ok (.iaload, 1) := by decide +kernel
theorem dL_law_229 : decode cL_law 229 = .ok (.aload_n 0, 1) := by decide +kernel
theorem dL_law_230 : decode cL_law 230 = .ok (.iload_n 3, 1) := by decide +kernel
theorem dL_law_231 : decode cL_law 231 = .ok (.iconst 2, 1) := by decide +kernel
theorem dL_law_232 : decode cL_law 232 = .ok (.iadd, 1) := by decide +kernel
theorem dL_law_233 : decode cL_law 233 = .ok (.iaload, 1) := by decide +kernel
theorem dL_law_234 : decode cL_law 234 = .ok (.invokevirtual 31, 3) := by decide +kernel
theorem dL_law_237 : decode cL_law 237 = .ok (.if_icmp .eq 618, 3) := by decide +kernel
theorem dL_law_240 : decode cL_law 240 = .ok (.iconst 0, 1) := by decide +kernel
theorem dL_law_241 : decode cL_law 241 = .ok (.ireturn, 1) := by decide +kernel
theorem dL_law_242 : decode cL_law 242 = .ok (.aload_n 1, 1) := by decide +kernel
theorem dL_law_243 : decode cL_law 243 = .ok (.aload_n 0, 1) := by decide +kernel
theorem dL_law_244 : decode cL_law 244 = .ok (.iload_n 3, 1) := by decide +kernel
theorem dL_law_245 : decode cL_law 245 = .ok (.iconst 1, 1) := by decide +kernel
theorem dL_law_246 : decode cL_law 246 = .ok (.iadd, 1) := by decide +kernel
theorem dL_law_247 : decode cL_law 247 = .ok (.iaload, 1) := by decide +kernel
theorem dL_law_248 : decode cL_law 248 = .ok (.invokevirtual 32, 3) := by decide +kernel
theorem dL_law_251 : decode cL_law 251 = .ok (.aload_n 2, 1) := by decide +kernel
theorem dL_law_252 : decode cL_law 252 = .ok (.aload_n 0, 1) := by decide +kernel
theorem dL_law_253 : decode cL_law 253 = .ok (.iload_n 3, 1) := by decide +kernel
theorem dL_law_254 : decode cL_law 254 = .ok (.iconst 1, 1) := by decide +kernel
theorem dL_law_255 : decode cL_law 255 = .ok (.iadd, 1) := by decide +kernel
theorem dL_law_256 : decode cL_law 256 = .ok (.iaload, 1) := by decide +kernel
theorem dL_law_257 : decode cL_law 257 = .ok (.invokevirtual 35, 3) := by decide +kernel
theorem dL_law_260 : decode cL_law 260 = .ok (.if_icmp .eq 595, 3) := by decide +kernel
theorem dL_law_263 : decode cL_law 263 = .ok (.iconst 0, 1) := by decide +kernel
theorem dL_law_264 : decode cL_law 264 = .ok (.ireturn, 1) := by decide +kernel
theorem dL_law_265 : decode cL_law 265 = .ok (.aload_n 1, 1) := by decide +kernel
theorem dL_law_266 : decode cL_law 266 = .ok (.aload_n 0, 1) := by decide +kernel
theorem dL_law_267 : decode cL_law 267 = .ok (.iload_n 3, 1) := by decide +kernel
theorem dL_law_268 : decode cL_law 268 = .ok (.iconst 1, 1) := by decide +kernel
theorem dL_law_269 : decode cL_law 269 = .ok (.iadd, 1) := by decide +kernel
theorem dL_law_270 : decode cL_law 270 = .ok (.iaload, 1) := by decide +kernel
theorem dL_law_271 : decode cL_law 271 = .ok (.invokevirtual 36, 3) := by decide +kernel
theorem dL_law_274 : decode cL_law 274 = .ok (.aload_n 2, 1) := by decide +kernel
theorem dL_law_275 : decode cL_law 275 = .ok (.aload_n 0, 1) := by decide +kernel
theorem dL_law_276 : decode cL_law 276 = .ok (.iload_n 3, 1) := by decide +kernel
theorem dL_law_277 : decode cL_law 277 = .ok (.iconst 1, 1) := by decide +kernel
theorem dL_law_278 : decode cL_law 278 = .ok (.iadd, 1) := by decide +kernel
theorem dL_law_279 : decode cL_law 279 = .ok (.iaload, 1) := by decide +kernel
theorem dL_law_280 : decode cL_law 280 = .ok (.invokevirtual 39, 3) := by decide +kernel
theorem dL_law_283 : decode cL_law 283 = .ok (.if_icmp .eq 572, 3) := by decide +kernel
theorem dL_law_286 : decode cL_law 286 = .ok (.iconst 0, 1) := by decide +kernel
theorem dL_law_287 : decode cL_law 287 = .ok (.ireturn, 1) := by decide +kernel
theorem dL_law_288 : decode cL_law 288 = .ok (.aload_n 1, 1) := by decide +kernel
theorem dL_law_289 : decode cL_law 289 = .ok (.aload_n 0, 1) := by decide +kernel
theorem dL_law_290 : decode cL_law 290 = .ok (.iload_n 3, 1) := by decide +kernel
theorem dL_law_291 : decode cL_law 291 = .ok (.iconst 1, 1) := by decide +kernel
theorem dL_law_292 : decode cL_law 292 = .ok (.iadd, 1) := by decide +kernel
theorem dL_law_293 : decode cL_law 293 = .ok (.iaload, 1) := by decide +kernel
theorem dL_law_294 : decode cL_law 294 = .ok (.invokevirtual 40, 3) := by decide +kernel
theorem dL_law_297 : decode cL_law 297 = .ok (.aload_n 2, 1) := by decide +kernel
theorem dL_law_298 : decode cL_law 298 = .ok (.aload_n 0, 1) := by decide +kernel
theorem dL_law_299 : decode cL_law 299 = .ok (.iload_n 3, 1) := by decide +kernel
theorem dL_law_300 : decode cL_law 300 = .ok (.iconst 1, 1) := by decide +kernel
theorem dL_law_301 : decode cL_law 301 = .ok (.iadd, 1) := by decide +kernel
theorem dL_law_302 : decode cL_law 302 = .ok (.iaload, 1) := by decide +kernel
theorem dL_law_303 : decode cL_law 303 = .ok (.invokevirtual 43, 3) := by decide +kernel
theorem dL_law_306 : decode cL_law 306 = .ok (.if_icmp .eq 549, 3) := by decide +kernel
theorem dL_law_309 : decode cL_law 309 = .ok (.iconst 0, 1) := by decide +kernel
theorem dL_law_310 : decode cL_law 310 = .ok (.ireturn, 1) := by decide +kernel
theorem dL_law_311 : decode cL_law 311 = .ok (.aload_n 1, 1) := by decide +kernel
theorem dL_law_312 : decode cL_law 312 = .ok (.invokevirtual 44, 3) := by decide +kernel
theorem dL_law_315 : decode cL_law 315 = .ok (.aload_n 2, 1) := by decide +kernel
theorem dL_law_316 : decode cL_law 316 = .ok (.invokevirtual 47, 3) := by decide +kernel
theorem dL_law_319 : decode cL_law 319 = .ok (.if_icmp .eq 536, 3) := by decide +kernel
theorem dL_law_322 : decode cL_law 322 = .ok (.iconst 0, 1) := by decide +kernel
theorem dL_law_323 : decode cL_law 323 = .ok (.ireturn, 1) := by decide +kernel
theorem dL_law_324 : decode cL_law 324 = .ok (.aload_n 1, 1) := by decide +kernel
theorem dL_law_325 : decode cL_law 325 = .ok (.aload_n 0, 1) := by decide +kernel
theorem dL_law_326 : decode cL_law 326 = .ok (.iload_n 3, 1) := by decide +kernel
theorem dL_law_327 : decode cL_law 327 = .ok (.iconst 1, 1) := by decide +kernel
theorem dL_law_328 : decode cL_law 328 = .ok (.iadd, 1) := by decide +kernel
theorem dL_law_329 : decode cL_law 329 = .ok (.iaload, 1) := by decide +kernel
theorem dL_law_330 : decode cL_law 330 = .ok (.invokevirtual 48, 3) := by decide +kernel
theorem dL_law_333 : decode cL_law 333 = .ok (.aload_n 2, 1) := by decide +kernel
theorem dL_law_334 : decode cL_law 334 = .ok (.aload_n 0, 1) := by decide +kernel
theorem dL_law_335 : decode cL_law 335 = .ok (.iload_n 3, 1) := by decide +kernel
theorem dL_law_336 : decode cL_law 336 = .ok (.iconst 1, 1) := by decide +kernel
theorem dL_law_337 : decode cL_law 337 = .ok (.iadd, 1) := by decide +kernel
theorem dL_law_338 : decode cL_law 338 = .ok (.iaload, 1) := by decide +kernel
theorem dL_law_339 : decode cL_law 339 = .ok (.invokevirtual 51, 3) := by decide +kernel
theorem dL_law_342 : decode cL_law 342 = .ok (.if_icmp .eq 513, 3) := by decide +kernel
theorem dL_law_345 : decode cL_law 345 = .ok (.iconst 0, 1) := by decide +kernel
theorem dL_law_346 : decode cL_law 346 = .ok (.ireturn, 1) := by decide +kernel
theorem dL_law_347 : decode cL_law 347 = .ok (.aload_n 1, 1) := by decide +kernel
theorem dL_law_348 : decode cL_law 348 = .ok (.aload_n 0, 1) := by decide +kernel
theorem dL_law_349 : decode cL_law 349 = .ok (.iload_n 3, 1) := by decide +kernel
theorem dL_law_350 : decode cL_law 350 = .ok (.iconst 1, 1) := by decide +kernel
theorem dL_law_351 : decode cL_law 351 = .ok (.iadd, 1) := by decide +kernel
theorem dL_law_352 : decode cL_law 352 = .ok (.iaload, 1) := by decide +kernel
theorem dL_law_353 : decode cL_law 353 = .ok (.invokevirtual 52, 3) := by decide +kernel
theorem dL_law_356 : decode cL_law 356 = .ok (.aload_n 2, 1) := by decide +kernel
theorem dL_law_357 : decode cL_law 357 = .ok (.aload_n 0, 1) := by decide +kernel
theorem dL_law_358 : decode cL_law 358 = .ok (.iload_n 3, 1) := by decide +kernel
theorem dL_law_359 : decode cL_law 359 = .ok (.iconst 1, 1) := by decide +kernel
theorem dL_law_360 : decode cL_law 360 = .ok (.iadd, 1) := by decide +kernel
theorem dL_law_361 : decode cL_law 361 = .ok (.iaload, 1) := by decide +kernel
theorem dL_law_362 : decode cL_law 362 = .ok (.invokevirtual 55, 3) := by decide +kernel
theorem dL_law_365 : decode cL_law 365 = .ok (.if_icmp .eq 490, 3) := by decide +kernel
theorem dL_law_368 : decode cL_law 368 = .ok (.iconst 0, 1) := by decide +kernel
theorem dL_law_369 : decode cL_law 369 = .ok (.ireturn, 1) := by decide +kernel
theorem dL_law_370 : decode cL_law 370 = .ok (.aload_n 1, 1) := by decide +kernel
theorem dL_law_371 : decode cL_law 371 = .ok (.aload_n 0, 1) := by decide +kernel
theorem dL_law_372 : decode cL_law 372 = .ok (.iload_n 3, 1) := by decide +kernel
theorem dL_law_373 : decode cL_law 373 = .ok (.iconst 1, 1) := by decide +kernel
theorem dL_law_374 : decode cL_law 374 = .ok (.iadd, 1) := by decide +kernel
theorem dL_law_375 : decode cL_law 375 = .ok (.iaload, 1) := by decide +kernel
theorem dL_law_376 : decode cL_law 376 = .ok (.invokevirtual 56, 3) := by decide +kernel
theorem dL_law_379 : decode cL_law 379 = .ok (.aload_n 2, 1) := by decide +kernel
theorem dL_law_380 : decode cL_law 380 = .ok (.aload_n 0, 1) := by decide +kernel
theorem dL_law_381 : decode cL_law 381 = .ok (.iload_n 3, 1) := by decide +kernel
theorem dL_law_382 : decode cL_law 382 = .ok (.iconst 1, 1) := by decide +kernel
theorem dL_law_383 : decode cL_law 383 = .ok (.iadd, 1) := by decide +kernel
theorem dL_law_384 : decode cL_law 384 = .ok (.iaload, 1) := by decide +kernel
theorem dL_law_385 : decode cL_law 385 = .ok (.invokevirtual 59, 3) := by decide +kernel
theorem dL_law_388 : decode cL_law 388 = .ok (.if_icmp .eq 467, 3) := by decide +kernel
theorem dL_law_391 : decode cL_law 391 = .ok (.iconst 0, 1) := by decide +kernel
theorem dL_law_392 : decode cL_law 392 = .ok (.ireturn, 1) := by decide +kernel
theorem dL_law_393 : decode cL_law 393 = .ok (.aload_n 1, 1) := by decide +kernel
theorem dL_law_394 : decode cL_law 394 = .ok (.invokevirtual 60, 3) := by decide +kernel
theorem dL_law_397 : decode cL_law 397 = .ok (.aload_n 2, 1) := by decide +kernel
theorem dL_law_398 : decode cL_law 398 = .ok (.invokevirtual 63, 3) := by decide +kernel
theorem dL_law_401 : decode cL_law 401 = .ok (.if_icmp .eq 454, 3) := by decide +kernel
theorem dL_law_404 : decode cL_law 404 = .ok (.iconst 0, 1) := by decide +kernel
theorem dL_law_405 : decode cL_law 405 = .ok (.ireturn, 1) := by decide +kernel
theorem dL_law_406 : decode cL_law 406 = .ok (.aload_n 1, 1) := by decide +kernel
theorem dL_law_407 : decode cL_law 407 = .ok (.aload_n 0, 1) := by decide +kernel
theorem dL_law_408 : decode cL_law 408 = .ok (.iload_n 3, 1) := by decide +kernel
theorem dL_law_409 : decode cL_law 409 = .ok (.iconst 1, 1) := by decide +kernel
theorem dL_law_410 : decode cL_law 410 = .ok (.iadd, 1) := by decide +kernel
theorem dL_law_411 : decode cL_law 411 = .ok (.iaload, 1) := by decide +kernel
theorem dL_law_412 : decode cL_law 412 = .ok (.aload_n 0, 1) := by decide +kernel
theorem dL_law_413 : decode cL_law 413 = .ok (.iload_n 3, 1) := by decide +kernel
theorem dL_law_414 : decode cL_law 414 = .ok (.iconst 2, 1) := by decide +kernel
theorem dL_law_415 : decode cL_law 415 = .ok (.iadd, 1) := by decide +kernel
theorem dL_law_416 : decode cL_law 416 = .ok (.iaload, 1) := by decide +kernel
theorem dL_law_417 : decode cL_law 417 = .ok (.invokevirtual 64, 3) := by decide +kernel
theorem dL_law_420 : decode cL_law 420 = .ok (.aload_n 2, 1) := by decide +kernel
theorem dL_law_421 : decode cL_law 421 = .ok (.aload_n 0, 1) := by decide +kernel
theorem dL_law_422 : decode cL_law 422 = .ok (.iload_n 3, 1) := by decide +kernel
theorem dL_law_423 : decode cL_law 423 = .ok (.iconst 1, 1) := by decide +kernel
theorem dL_law_424 : decode cL_law 424 = .ok (.iadd, 1) := by decide +kernel
theorem dL_law_425 : decode cL_law 425 = .ok (.iaload, 1) := by decide +kernel
theorem dL_law_426 : decode cL_law 426 = .ok (.aload_n 0, 1) := by decide +kernel
theorem dL_law_427 : decode cL_law 427 = .ok (.iload_n 3, 1) := by decide +kernel
theorem dL_law_428 : decode cL_law 428 = .ok (.iconst 2, 1) := by decide +kernel
theorem dL_law_429 : decode cL_law 429 = .ok (.iadd, 1) := by decide +kernel
theorem dL_law_430 : decode cL_law 430 = .ok (.iaload, 1) := by decide +kernel
theorem dL_law_431 : decode cL_law 431 = .ok (.invokevirtual 67, 3) := by decide +kernel
theorem dL_law_434 : decode cL_law 434 = .ok (.if_icmp .eq 421, 3) := by decide +kernel
theorem dL_law_437 : decode cL_law 437 = .ok (.iconst 0, 1) := by decide +kernel
theorem dL_law_438 : decode cL_law 438 = .ok (.ireturn, 1) := by decide +kernel
theorem dL_law_439 : decode cL_law 439 = .ok (.aload_n 1, 1) := by decide +kernel
theorem dL_law_440 : decode cL_law 440 = .ok (.aload_n 0, 1) := by decide +kernel
theorem dL_law_441 : decode cL_law 441 = .ok (.iload_n 3, 1) := by decide +kernel
theorem dL_law_442 : decode cL_law 442 = .ok (.iconst 1, 1) := by decide +kernel
theorem dL_law_443 : decode cL_law 443 = .ok (.iadd, 1) := by decide +kernel
theorem dL_law_444 : decode cL_law 444 = .ok (.iaload, 1) := by decide +kernel
theorem dL_law_445 : decode cL_law 445 = .ok (.invokevirtual 68, 3) := by decide +kernel
theorem dL_law_448 : decode cL_law 448 = .ok (.aload_n 2, 1) := by decide +kernel
theorem dL_law_449 : decode cL_law 449 = .ok (.aload_n 0, 1) := by decide +kernel
theorem dL_law_450 : decode cL_law 450 = .ok (.iload_n 3, 1) := by decide +kernel
theorem dL_law_451 : decode cL_law 451 = .ok (.iconst 1, 1) := by decide +kernel
theorem dL_law_452 : decode cL_law 452 = .ok (.iadd, 1) := by decide +kernel
theorem dL_law_453 : decode cL_law 453 = .ok (.iaload, 1) := by decide +kernel
theorem dL_law_454 : decode cL_law 454 = .ok (.invokevirtual 71, 3) := by decide +kernel
theorem dL_law_457 : decode cL_law 457 = .ok (.if_icmp .eq 398, 3) := by decide +kernel
theorem dL_law_460 : decode cL_law 460 = .ok (.iconst 0, 1) := by decide +kernel
theorem dL_law_461 : decode cL_law 461 = .ok (.ireturn, 1) := by decide +kernel
theorem dL_law_462 : decode cL_law 462 = .ok (.aload_n 1, 1) := by decide +kernel
theorem dL_law_463 : decode cL_law 463 = .ok (.aload_n 0, 1) := by decide +kernel
theorem dL_law_464 : decode cL_law 464 = .ok (.iload_n 3, 1) := by decide +kernel
theorem dL_law_465 : decode cL_law 465 = .ok (.iconst 1, 1) := by decide +kernel
theorem dL_law_466 : decode cL_law 466 = .ok (.iadd, 1) := by decide +kernel
theorem dL_law_467 : decode cL_law 467 = .ok (.iaload, 1) := by decide +kernel
theorem dL_law_468 : decode cL_law 468 = .ok (.aload_n 0, 1) := by decide +kernel
theorem dL_law_469 : decode cL_law 469 = .ok (.iload_n 3, 1) := by decide +kernel
theorem dL_law_470 : decode cL_law 470 = .ok (.iconst 2, 1) := by decide +kernel
theorem dL_law_471 : decode cL_law 471 = .ok (.iadd, 1) := by decide +kernel
theorem dL_law_472 : decode cL_law 472 = .ok (.iaload, 1) := by decide +kernel
theorem dL_law_473 : decode cL_law 473 = .ok (.invokevirtual 72, 3) := by decide +kernel
theorem dL_law_476 : decode cL_law 476 = .ok (.aload_n 2, 1) := by decide +kernel
theorem dL_law_477 : decode cL_law 477 = .ok (.aload_n 0, 1) := by decide +kernel
theorem dL_law_478 : decode cL_law 478 = .ok (.iload_n 3, 1) := by decide +kernel
theorem dL_law_479 : decode cL_law 479 = .ok (.iconst 1, 1) := by decide +kernel
theorem dL_law_480 : decode cL_law 480 = .ok (.iadd, 1) := by decide +kernel
theorem dL_law_481 : decode cL_law 481 = .ok (.iaload, 1) := by decide +kernel
theorem dL_law_482 : decode cL_law 482 = .ok (.aload_n 0, 1) := by decide +kernel
theorem dL_law_483 : decode cL_law 483 = .ok (.iload_n 3, 1) := by decide +kernel
theorem dL_law_484 : decode cL_law 484 = .ok (.iconst 2, 1) := by decide +kernel
theorem dL_law_485 : decode cL_law 485 = .ok (.iadd, 1) := by decide +kernel
theorem dL_law_486 : decode cL_law 486 = .ok (.iaload, 1) := by decide +kernel
theorem dL_law_487 : decode cL_law 487 = .ok (.invokevirtual 75, 3) := by decide +kernel
theorem dL_law_490 : decode cL_law 490 = .ok (.if_icmp .eq 365, 3) := by decide +kernel
theorem dL_law_493 : decode cL_law 493 = .ok (.iconst 0, 1) := by decide +kernel
theorem dL_law_494 : decode cL_law 494 = .ok (.ireturn, 1) := by decide +kernel
theorem dL_law_495 : decode cL_law 495 = .ok (.aload_n 1, 1) := by decide +kernel
theorem dL_law_496 : decode cL_law 496 = .ok (.aload_n 0, 1) := by decide +kernel
theorem dL_law_497 : decode cL_law 497 = .ok (.iload_n 3, 1) := by decide +kernel
theorem dL_law_498 : decode cL_law 498 = .ok (.iconst 1, 1) := by decide +kernel
theorem dL_law_499 : decode cL_law 499 = .ok (.iadd, 1) := by decide +kernel
theorem dL_law_500 : decode cL_law 500 = .ok (.iaload, 1) := by decide +kernel
theorem dL_law_501 : decode cL_law 501 = .ok (.aload_n 0, 1) := by decide +kernel
theorem dL_law_502 : decode cL_law 502 = .ok (.iload_n 3, 1) := by decide +kernel
theorem dL_law_503 : decode cL_law 503 = .ok (.iconst 2, 1) := by decide +kernel
theorem dL_law_504 : decode cL_law 504 = .ok (.iadd, 1) := by decide +kernel
theorem dL_law_505 : decode cL_law 505 = .ok (.iaload, 1) := by decide +kernel
theorem dL_law_506 : decode cL_law 506 = .ok (.invokevirtual 76, 3) := by decide +kernel
theorem dL_law_509 : decode cL_law 509 = .ok (.aload_n 2, 1) := by decide +kernel
theorem dL_law_510 : decode cL_law 510 = .ok (.aload_n 0, 1) := by decide +kernel
theorem dL_law_511 : decode cL_law 511 = .ok (.iload_n 3, 1) := by decide +kernel
theorem dL_law_512 : decode cL_law 512 = .ok (.iconst 1, 1) := by decide +kernel
theorem dL_law_513 : decode cL_law 513 = .ok (.iadd, 1) := by decide +kernel
theorem dL_law_514 : decode cL_law 514 = .ok (.iaload, 1) := by decide +kernel
theorem dL_law_515 : decode cL_law 515 = .ok (.aload_n 0, 1) := by decide +kernel
theorem dL_law_516 : decode cL_law 516 = .ok (.iload_n 3, 1) := by decide +kernel
theorem dL_law_517 : decode cL_law 517 = .ok (.iconst 2, 1) := by decide +kernel
theorem dL_law_518 : decode cL_law 518 = .ok (.iadd, 1) := by decide +kernel
theorem dL_law_519 : decode cL_law 519 = .ok (.iaload, 1) := by decide +kernel
theorem dL_law_520 : decode cL_law 520 = .ok (.invokevirtual 79, 3) := by decide +kernel
theorem dL_law_523 : decode cL_law 523 = .ok (.if_icmp .eq 332, 3) := by decide +kernel
theorem dL_law_526 : decode cL_law 526 = .ok (.iconst 0, 1) := by decide +kernel
theorem dL_law_527 : decode cL_law 527 = .ok (.ireturn, 1) := by decide +kernel
theorem dL_law_528 : decode cL_law 528 = .ok (.aload_n 1, 1) := by decide +kernel
theorem dL_law_529 : decode cL_law 529 = .ok (.aload_n 0, 1) := by decide +kernel
theorem dL_law_530 : decode cL_law 530 = .ok (.iload_n 3, 1) := by decide +kernel
theorem dL_law_531 : decode cL_law 531 = .ok (.iconst 1, 1) := by decide +kernel
theorem dL_law_532 : decode cL_law 532 = .ok (.iadd, 1) := by decide +kernel
theorem dL_law_533 : decode cL_law 533 = .ok (.iaload, 1) := by decide +kernel
theorem dL_law_534 : decode cL_law 534 = .ok (.invokevirtual 80, 3) := by decide +kernel
theorem dL_law_537 : decode cL_law 537 = .ok (.aload_n 2, 1) := by decide +kernel
theorem dL_law_538 : decode cL_law 538 = .ok (.aload_n 0, 1) := by decide +kernel
theorem dL_law_539 : decode cL_law 539 = .ok (.iload_n 3, 1) := by decide +kernel
theorem dL_law_540 : decode cL_law 540 = .ok (.iconst 1, 1) := by decide +kernel
theorem dL_law_541 : decode cL_law 541 = .ok (.iadd, 1) := by decide +kernel
theorem dL_law_542 : decode cL_law 542 = .ok (.iaload, 1) := by decide +kernel
theorem dL_law_543 : decode cL_law 543 = .ok (.invokevirtual 83, 3) := by decide +kernel
theorem dL_law_546 : decode cL_law 546 = .ok (.if_icmp .eq 309, 3) := by decide +kernel
theorem dL_law_549 : decode cL_law 549 = .ok (.iconst 0, 1) := by decide +kernel
theorem dL_law_550 : decode cL_law 550 = .ok (.ireturn, 1) := by decide +kernel
theorem dL_law_551 : decode cL_law 551 = .ok (.aload_n 1, 1) := by decide +kernel
theorem dL_law_552 : decode cL_law 552 = .ok (.aload_n 0, 1) := by decide +kernel
theorem dL_law_553 : decode cL_law 553 = .ok (.iload_n 3, 1) := by decide +kernel
theorem dL_law_554 : decode cL_law 554 = .ok (.iconst 1, 1) := by decide +kernel
theorem dL_law_555 : decode cL_law 555 = .ok (.iadd, 1) := by decide +kernel
theorem dL_law_556 : decode cL_law 556 = .ok (.iaload, 1) := by decide +kernel
theorem dL_law_557 : decode cL_law 557 = .ok (.aload_n 0, 1) := by decide +kernel
theorem dL_law_558 : decode cL_law 558 = .ok (.iload_n 3, 1) := by decide +kernel
theorem dL_law_559 : decode cL_law 559 = .ok (.iconst 2, 1) := by decide +kernel
theorem dL_law_560 : decode cL_law 560 = .ok (.iadd, 1) := by decide +kernel
theorem dL_law_561 : decode cL_law 561 = .ok (.iaload, 1) := by decide +kernel
theorem dL_law_562 : decode cL_law 562 = .ok (.invokevirtual 84, 3) := by decide +kernel
theorem dL_law_565 : decode cL_law 565 = .ok (.aload_n 2, 1) := by decide +kernel
theorem dL_law_566 : decode cL_law 566 = .ok (.aload_n 0, 1) := by decide +kernel
theorem dL_law_567 : decode cL_law 567 = .ok (.iload_n 3, 1) := by decide +kernel
theorem dL_law_568 : decode cL_law 568 = .ok (.iconst 1, 1) := by decide +kernel
theorem dL_law_569 : decode cL_law 569 = .ok (.iadd, 1) := by decide +kernel
theorem dL_law_570 : decode cL_law 570 = .ok (.iaload, 1) := by decide +kernel
theorem dL_law_571 : decode cL_law 571 = .ok (.aload_n 0, 1) := by decide +kernel
theorem dL_law_572 : decode cL_law 572 = .ok (.iload_n 3, 1) := by decide +kernel
theorem dL_law_573 : decode cL_law 573 = .ok (.iconst 2, 1) := by decide +kernel
theorem dL_law_574 : decode cL_law 574 = .ok (.iadd, 1) := by decide +kernel
theorem dL_law_575 : decode cL_law 575 = .ok (.iaload, 1) := by decide +kernel
theorem dL_law_576 : decode cL_law 576 = .ok (.invokevirtual 87, 3) := by decide +kernel
theorem dL_law_579 : decode cL_law 579 = .ok (.if_icmp .eq 276, 3) := by decide +kernel
theorem dL_law_582 : decode cL_law 582 = .ok (.iconst 0, 1) := by decide +kernel
theorem dL_law_583 : decode cL_law 583 = .ok (.ireturn, 1) := by decide +kernel
theorem dL_law_584 : decode cL_law 584 = .ok (.aload_n 1, 1) := by decide +kernel
theorem dL_law_585 : decode cL_law 585 = .ok (.aload_n 0, 1) := by decide +kernel
theorem dL_law_586 : decode cL_law 586 = .ok (.iload_n 3, 1) := by decide +kernel
theorem dL_law_587 : decode cL_law 587 = .ok (.iconst 1, 1) := by decide +kernel
theorem dL_law_588 : decode cL_law 588 = .ok (.iadd, 1) := by decide +kernel
theorem dL_law_589 : decode cL_law 589 = .ok (.iaload, 1) := by decide +kernel
theorem dL_law_590 : decode cL_law 590 = .ok (.aload_n 0, 1) := by decide +kernel
theorem dL_law_591 : decode cL_law 591 = .ok (.iload_n 3, 1) := by decide +kernel
theorem dL_law_592 : decode cL_law 592 = .ok (.iconst 2, 1) := by decide +kernel
theorem dL_law_593 : decode cL_law 593 = .ok (.iadd, 1) := by decide +kernel
theorem dL_law_594 : decode cL_law 594 = .ok (.iaload, 1) := by decide +kernel
theorem dL_law_595 : decode cL_law 595 = .ok (.aload_n 0, 1) := by decide +kernel
theorem dL_law_596 : decode cL_law 596 = .ok (.iload_n 3, 1) := by decide +kernel
theorem dL_law_597 : decode cL_law 597 = .ok (.iconst 3, 1) := by decide +kernel
theorem dL_law_598 : decode cL_law 598 = .ok (.iadd, 1) := by decide +kernel
theorem dL_law_599 : decode cL_law 599 = .ok (.iaload, 1) := by decide +kernel
theorem dL_law_600 : decode cL_law 600 = .ok (.invokevirtual 88, 3) := by decide +kernel
theorem dL_law_603 : decode cL_law 603 = .ok (.aload_n 2, 1) := by decide +kernel
theorem dL_law_604 : decode cL_law 604 = .ok (.aload_n 0, 1) := by decide +kernel
theorem dL_law_605 : decode cL_law 605 = .ok (.iload_n 3, 1) := by decide +kernel
theorem dL_law_606 : decode cL_law 606 = .ok (.iconst 1, 1) := by decide +kernel
theorem dL_law_607 : decode cL_law 607 = .ok (.iadd, 1) := by decide +kernel
theorem dL_law_608 : decode cL_law 608 = .ok (.iaload, 1) := by decide +kernel
theorem dL_law_609 : decode cL_law 609 = .ok (.aload_n 0, 1) := by decide +kernel
theorem dL_law_610 : decode cL_law 610 = .ok (.iload_n 3, 1) := by decide +kernel
theorem dL_law_611 : decode cL_law 611 = .ok (.iconst 2, 1) := by decide +kernel
theorem dL_law_612 : decode cL_law 612 = .ok (.iadd, 1) := by decide +kernel
theorem dL_law_613 : decode cL_law 613 = .ok (.iaload, 1) := by decide +kernel
theorem dL_law_614 : decode cL_law 614 = .ok (.aload_n 0, 1) := by decide +kernel
theorem dL_law_615 : decode cL_law 615 = .ok (.iload_n 3, 1) := by decide +kernel
theorem dL_law_616 : decode cL_law 616 = .ok (.iconst 3, 1) := by decide +kernel
theorem dL_law_617 : decode cL_law 617 = .ok (.iadd, 1) := by decide +kernel
theorem dL_law_618 : decode cL_law 618 = .ok (.iaload, 1) := by decide +kernel
theorem dL_law_619 : decode cL_law 619 = .ok (.invokevirtual 92, 3) := by decide +kernel
theorem dL_law_622 : decode cL_law 622 = .ok (.if_icmp .eq 233, 3) := by decide +kernel
theorem dL_law_625 : decode cL_law 625 = .ok (.iconst 0, 1) := by decide +kernel
theorem dL_law_626 : decode cL_law 626 = .ok (.ireturn, 1) := by decide +kernel
theorem dL_law_627 : decode cL_law 627 = .ok (.aload_n 1, 1) := by decide +kernel
theorem dL_law_628 : decode cL_law 628 = .ok (.aload_n 0, 1) := by decide +kernel
theorem dL_law_629 : decode cL_law 629 = .ok (.iload_n 3, 1) := by decide +kernel
theorem dL_law_630 : decode cL_law 630 = .ok (.iconst 1, 1) := by decide +kernel
theorem dL_law_631 : decode cL_law 631 = .ok (.iadd, 1) := by decide +kernel
theorem dL_law_632 : decode cL_law 632 = .ok (.iaload, 1) := by decide +kernel
theorem dL_law_633 : decode cL_law 633 = .ok (.aload_n 0, 1) := by decide +kernel
theorem dL_law_634 : decode cL_law 634 = .ok (.iload_n 3, 1) := by decide +kernel
theorem dL_law_635 : decode cL_law 635 = .ok (.iconst 2, 1) := by decide +kernel
theorem dL_law_636 : decode cL_law 636 = .ok (.iadd, 1) := by decide +kernel
theorem dL_law_637 : decode cL_law 637 = .ok (.iaload, 1) := by decide +kernel
theorem dL_law_638 : decode cL_law 638 = .ok (.aload_n 0, 1) := by decide +kernel
theorem dL_law_639 : decode cL_law 639 = .ok (.iload_n 3, 1) := by decide +kernel
theorem dL_law_640 : decode cL_law 640 = .ok (.iconst 3, 1) := by decide +kernel
theorem dL_law_641 : decode cL_law 641 = .ok (.iadd, 1) := by decide +kernel
theorem dL_law_642 : decode cL_law 642 = .ok (.iaload, 1) := by decide +kernel
theorem dL_law_643 : decode cL_law 643 = .ok (.invokevirtual 93, 3) := by decide +kernel
theorem dL_law_646 : decode cL_law 646 = .ok (.aload_n 2, 1) := by decide +kernel
theorem dL_law_647 : decode cL_law 647 = .ok (.aload_n 0, 1) := by decide +kernel
theorem dL_law_648 : decode cL_law 648 = .ok (.iload_n 3, 1) := by decide +kernel
theorem dL_law_649 : decode cL_law 649 = .ok (.iconst 1, 1) := by decide +kernel
theorem dL_law_650 : decode cL_law 650 = .ok (.iadd, 1) := by decide +kernel
theorem dL_law_651 : decode cL_law 651 = .ok (.iaload, 1) := by decide +kernel
theorem dL_law_652 : decode cL_law 652 = .ok (.aload_n 0, 1) := by decide +kernel
theorem dL_law_653 : decode cL_law 653 = .ok (.iload_n 3, 1) := by decide +kernel
theorem dL_law_654 : decode cL_law 654 = .ok (.iconst 2, 1) := by decide +kernel
theorem dL_law_655 : decode cL_law 655 = .ok (.iadd, 1) := by decide +kernel
theorem dL_law_656 : decode cL_law 656 = .ok (.iaload, 1) := by decide +kernel
theorem dL_law_657 : decode cL_law 657 = .ok (.aload_n 0, 1) := by decide +kernel
theorem dL_law_658 : decode cL_law 658 = .ok (.iload_n 3, 1) := by decide +kernel
theorem dL_law_659 : decode cL_law 659 = .ok (.iconst 3, 1) := by decide +kernel
theorem dL_law_660 : decode cL_law 660 = .ok (.iadd, 1) := by decide +kernel
theorem dL_law_661 : decode cL_law 661 = .ok (.iaload, 1) := by decide +kernel
theorem dL_law_662 : decode cL_law 662 = .ok (.invokevirtual 96, 3) := by decide +kernel
theorem dL_law_665 : decode cL_law 665 = .ok (.if_icmp .eq 190, 3) := by decide +kernel
theorem dL_law_668 : decode cL_law 668 = .ok (.iconst 0, 1) := by decide +kernel
theorem dL_law_669 : decode cL_law 669 = .ok (.ireturn, 1) := by decide +kernel
theorem dL_law_670 : decode cL_law 670 = .ok (.aload_n 1, 1) := by decide +kernel
theorem dL_law_671 : decode cL_law 671 = .ok (.invokevirtual 97, 3) := by decide +kernel
theorem dL_law_674 : decode cL_law 674 = .ok (.aload_n 2, 1) := by decide +kernel
theorem dL_law_675 : decode cL_law 675 = .ok (.invokevirtual 100, 3) := by decide +kernel
theorem dL_law_678 : decode cL_law 678 = .ok (.if_icmp .eq 177, 3) := by decide +kernel
theorem dL_law_681 : decode cL_law 681 = .ok (.iconst 0, 1) := by decide +kernel
theorem dL_law_682 : decode cL_law 682 = .ok (.ireturn, 1) := by decide +kernel
theorem dL_law_683 : decode cL_law 683 = .ok (.aload_n 1, 1) := by decide +kernel
theorem dL_law_684 : decode cL_law 684 = .ok (.aload_n 0, 1) := by decide +kernel
theorem dL_law_685 : decode cL_law 685 = .ok (.iload_n 3, 1) := by decide +kernel
theorem dL_law_686 : decode cL_law 686 = .ok (.iconst 1, 1) := by decide +kernel
theorem dL_law_687 : decode cL_law 687 = .ok (.iadd, 1) := by decide +kernel
theorem dL_law_688 : decode cL_law 688 = .ok (.iaload, 1) := by decide +kernel
theorem dL_law_689 : decode cL_law 689 = .ok (.aload_n 0, 1) := by decide +kernel
theorem dL_law_690 : decode cL_law 690 = .ok (.iload_n 3, 1) := by decide +kernel
theorem dL_law_691 : decode cL_law 691 = .ok (.iconst 2, 1) := by decide +kernel
theorem dL_law_692 : decode cL_law 692 = .ok (.iadd, 1) := by decide +kernel
theorem dL_law_693 : decode cL_law 693 = .ok (.iaload, 1) := by decide +kernel
theorem dL_law_694 : decode cL_law 694 = .ok (.invokevirtual 101, 3) := by decide +kernel
theorem dL_law_697 : decode cL_law 697 = .ok (.aload_n 2, 1) := by decide +kernel
theorem dL_law_698 : decode cL_law 698 = .ok (.aload_n 0, 1) := by decide +kernel
theorem dL_law_699 : decode cL_law 699 = .ok (.iload_n 3, 1) := by decide +kernel
theorem dL_law_700 : decode cL_law 700 = .ok (.iconst 1, 1) := by decide +kernel
theorem dL_law_701 : decode cL_law 701 = .ok (.iadd, 1) := by decide +kernel
theorem dL_law_702 : decode cL_law 702 = .ok (.iaload, 1) := by decide +kernel
theorem dL_law_703 : decode cL_law 703 = .ok (.aload_n 0, 1) := by decide +kernel
theorem dL_law_704 : decode cL_law 704 = .ok (.iload_n 3, 1) := by decide +kernel
theorem dL_law_705 : decode cL_law 705 = .ok (.iconst 2, 1) := by decide +kernel
theorem dL_law_706 : decode cL_law 706 = .ok (.iadd, 1) := by decide +kernel
theorem dL_law_707 : decode cL_law 707 = .ok (.iaload, 1) := by decide +kernel
theorem dL_law_708 : decode cL_law 708 = .ok (.invokevirtual 104, 3) := by decide +kernel
theorem dL_law_711 : decode cL_law 711 = .ok (.if_icmp .eq 144, 3) := by decide +kernel
theorem dL_law_714 : decode cL_law 714 = .ok (.iconst 0, 1) := by decide +kernel
theorem dL_law_715 : decode cL_law 715 = .ok (.ireturn, 1) := by decide +kernel
theorem dL_law_716 : decode cL_law 716 = .ok (.aload_n 1, 1) := by decide +kernel
theorem dL_law_717 : decode cL_law 717 = .ok (.aload_n 0, 1) := by decide +kernel
theorem dL_law_718 : decode cL_law 718 = .ok (.iload_n 3, 1) := by decide +kernel
theorem dL_law_719 : decode cL_law 719 = .ok (.iconst 1, 1) := by decide +kernel
theorem dL_law_720 : decode cL_law 720 = .ok (.iadd, 1) := by decide +kernel
theorem dL_law_721 : decode cL_law 721 = .ok (.iaload, 1) := by decide +kernel
theorem dL_law_722 : decode cL_law 722 = .ok (.invokevirtual 105, 3) := by decide +kernel
theorem dL_law_725 : decode cL_law 725 = .ok (.aload_n 2, 1) := by decide +kernel
theorem dL_law_726 : decode cL_law 726 = .ok (.aload_n 0, 1) := by decide +kernel
