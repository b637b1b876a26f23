theorem dX8_isle_129 : decode cX8_isle 129 = .ok (.iload_n 1, 1) := by decide +kernel
theorem dX8_isle_130 : decode cX8_isle 130 = .ok (.iaload, 1) := by decide +kernel
theorem dX8_isle_131 : decode cX8_isle 131 = .ok (.ireturn, 1) := by decide +kernel
theorem dX8_isle_132 : decode cX8_isle 132 = .ok (.aload_n 3, 1) := by decide +kernel
theorem dX8_isle_133 : decode cX8_isle 133 = .ok (.getfield 164, 3) := by decide +kernel
theorem dX8_isle_136 : decode cX8_isle 136 = .ok (.iload_n 1, 1) := by decide +kernel
theorem dX8_isle_137 : decode cX8_isle 137 = .ok (.iaload, 1) := by decide +kernel
theorem dX8_isle_138 : decode cX8_isle 138 = .ok (.ireturn, 1) := by decide +kernel
theorem dX8_isle_139 : decode cX8_isle 139 = .ok (.aload_n 3, 1) := by decide +kernel
theorem dX8_isle_140 : decode cX8_isle 140 = .ok (.getfield 167, 3) := by decide +kernel
theorem dX8_isle_143 : decode cX8_isle 143 = .ok (.iload_n 1, 1) := by decide +kernel
theorem dX8_isle_144 : decode cX8_isle 144 = .ok (.iaload, 1) := by decide +kernel
theorem dX8_isle_145 : decode cX8_isle 145 = .ok (.ireturn, 1) := by decide +kernel
theorem dX8_isle_146 : decode cX8_isle 146 = .ok (.aload_n 3, 1) := by decide +kernel
theorem dX8_isle_147 : decode cX8_isle 147 = .ok (.getfield 170, 3) := by decide +kernel
theorem dX8_isle_150 : decode cX8_isle 150 = .ok (.iload_n 1, 1) := by decide +kernel
theorem dX8_isle_151 : decode cX8_isle 151 = .ok (.iaload, 1) := by decide +kernel
theorem dX8_isle_152 : decode cX8_isle 152 = .ok (.ireturn, 1) := by decide +kernel
theorem dX8_isle_153 : decode cX8_isle 153 = .ok (.aload_n 3, 1) := by decide +kernel
theorem dX8_isle_154 : decode cX8_isle 154 = .ok (.getfield 173, 3) := by decide +kernel
theorem dX8_isle_157 : decode cX8_isle 157 = .ok (.iload_n 1, 1) := by decide +kernel
theorem dX8_isle_158 : decode cX8_isle 158 = .ok (.iaload, 1) := by decide +kernel
theorem dX8_isle_159 : decode cX8_isle 159 = .ok (.ireturn, 1) := by decide +kernel
theorem dX8_isle_160 : decode cX8_isle 160 = .ok (.aload_n 3, 1) := by decide +kernel
theorem dX8_isle_161 : decode cX8_isle 161 = .ok (.getfield 176, 3) := by decide +kernel
theorem dX8_isle_164 : decode cX8_isle 164 = .ok (.iload_n 1, 1) := by decide +kernel
theorem dX8_isle_165 : decode cX8_isle 165 = .ok (.iaload, 1) := by decide +kernel
theorem dX8_isle_166 : decode cX8_isle 166 = .ok (.ireturn, 1) := by decide +kernel
theorem dX8_isle_167 : decode cX8_isle 167 = .ok (.aload_n 3, 1) := by decide +kernel
theorem dX8_isle_168 : decode cX8_isle 168 = .ok (.getfield 179, 3) := by decide +kernel
theorem dX8_isle_171 : decode cX8_isle 171 = .ok (.iload_n 1, 1) := by decide +kernel
theorem dX8_isle_172 : decode cX8_isle 172 = .ok (.iaload, 1) := by decide +kernel
theorem dX8_isle_173 : decode cX8_isle 173 = .ok (.ireturn, 1) := by decide +kernel
theorem dX8_isle_174 : decode cX8_isle 174 = .ok (.aload_n 3, 1) := by decide +kernel
theorem dX8_isle_175 : decode cX8_isle 175 = .ok (.iload_n 1, 1) := by decide +kernel
theorem dX8_isle_176 : decode cX8_isle 176 = .ok (.invokevirtual 182, 3) := by decide +kernel
theorem dX8_isle_179 : decode cX8_isle 179 = .ok (.ireturn, 1) := by decide +kernel
theorem dX8_isle_180 : decode cX8_isle 180 = .ok (.aload_n 3, 1) := by decide +kernel
theorem dX8_isle_181 : decode cX8_isle 181 = .ok (.iload_n 1, 1) := by decide +kernel
theorem dX8_isle_182 : decode cX8_isle 182 = .ok (.invokevirtual 186, 3) := by decide +kernel
theorem dX8_isle_185 : decode cX8_isle 185 = .ok (.ifCond .eq 7, 3) := by decide +kernel
theorem dX8_isle_188 : decode cX8_isle 188 = .ok (.iconst 1, 1) := by decide +kernel
theorem dX8_isle_189 : decode cX8_isle 189 = .ok (.goto 4, 3) := by decide +kernel
theorem dX8_isle_192 : decode cX8_isle 192 = .ok (.iconst 0, 1) := by decide +kernel
theorem dX8_isle_193 : decode cX8_isle 193 = .ok (.ireturn, 1) := by decide +kernel
theorem dX8_isle_194 : decode cX8_isle 194 = .ok (.new 141, 3) := by decide +kernel
theorem dX8_isle_197 : decode cX8_isle 197 = .ok (.dup, 1) := by decide +kernel
theorem dX8_isle_198 : decode cX8_isle 198 = .ok (.ldc 190, 2) := by decide +kernel
theorem dX8_isle_200 : decode cX8_isle 200 = .ok (.invokespecial 145, 3) := by decide +kernel
theorem dX8_isle_203 : decode cX8_isle 203 = .ok (.athrow, 1) := by decide +kernel
theorem dX8_wind_0 : decode cX8_wind 0 = .ok (.iload_n 1, 1) := by decide +kernel
theorem dX8_wind_1 : decode cX8_wind 1 = .ok (.invokestatic 192, 3) := by decide +kernel
theorem dX8_wind_4 : decode cX8_wind 4 = .ok (.iload_n 2, 1) := by decide +kernel
theorem dX8_wind_5 : decode cX8_wind 5 = .ok (.iconst 2, 1) := by decide +kernel
theorem dX8_wind_6 : decode cX8_wind 6 = .ok (.invokestatic 195, 3) := by decide +kernel
theorem dX8_wind_9 : decode cX8_wind 9 = .ok (.iload_n 2, 1) := by decide +kernel
theorem dX8_wind_10 : decode cX8_wind 10 = .ok (.ifCond .ne 14, 3) := by decide +kernel
theorem dX8_wind_13 : decode cX8_wind 13 = .ok (.aload_n 0, 1) := by decide +kernel
theorem dX8_wind_14 : decode cX8_wind 14 = .ok (.getfield 30, 3) := by decide +kernel
theorem dX8_wind_17 : decode cX8_wind 17 = .ok (.iload_n 1, 1) := by decide +kernel
theorem dX8_wind_18 : decode cX8_wind 18 = .ok (.invokevirtual 199, 3) := by decide +kernel
theorem dX8_wind_21 : decode cX8_wind 21 = .ok (.goto 11, 3) := by decide +kernel
theorem dX8_wind_24 : decode cX8_wind 24 = .ok (.aload_n 0, 1) := by decide +kernel
theorem dX8_wind_25 : decode cX8_wind 25 = .ok (.getfield 30, 3) := by decide +kernel
theorem dX8_wind_28 : decode cX8_wind 28 = .ok (.iload_n 1, 1) := by decide +kernel
theorem dX8_wind_29 : decode cX8_wind 29 = .ok (.invokevirtual 202, 3) := by decide +kernel
theorem dX8_wind_32 : decode cX8_wind 32 = .ok (.ireturn, 1) := by decide +kernel
theorem dX8_where_0 : decode cX8_where 0 = .ok (.aload_n 0, 1) := by decide +kernel
theorem dX8_where_1 : decode cX8_where 1 = .ok (.iload_n 1, 1) := by decide +kernel
theorem dX8_where_2 : decode cX8_where 2 = .ok (.invokevirtual 146, 3) := by decide +kernel
theorem dX8_where_5 : decode cX8_where 5 = .ok (.iload_n 2, 1) := by decide +kernel
theorem dX8_where_6 : decode cX8_where 6 = .ok (.invokestatic 192, 3) := by decide +kernel
theorem dX8_where_9 : decode cX8_where 9 = .ok (.iload_n 3, 1) := by decide +kernel
theorem dX8_where_10 : decode cX8_where 10 = .ok (.iconst 5, 1) := by decide +kernel
theorem dX8_where_11 : decode cX8_where 11 = .ok (.invokestatic 195, 3) := by decide +kernel
theorem dX8_where_14 : decode cX8_where 14 = .ok (.aload_n 0, 1) := by decide +kernel
theorem dX8_where_15 : decode cX8_where 15 = .ok (.getfield 61, 3) := by decide +kernel
theorem dX8_where_18 : decode cX8_where 18 = .ok (.aload_n 0, 1) := by decide +kernel
theorem dX8_where_19 : decode cX8_where 19 = .ok (.getfield 30, 3) := by decide +kernel
theorem dX8_where_22 : decode cX8_where 22 = .ok (.aload_n 0, 1) := by decide +kernel
theorem dX8_where_23 : decode cX8_where 23 = .ok (.getfield 40, 3) := by decide +kernel
theorem dX8_where_26 : decode cX8_where 26 = .ok (.getfield 116, 3) := by decide +kernel
theorem dX8_where_29 : decode cX8_where 29 = .ok (.iload_n 1, 1) := by decide +kernel
theorem dX8_where_30 : decode cX8_where 30 = .ok (.iload_n 1, 1) := by decide +kernel
theorem dX8_where_31 : decode cX8_where 31 = .ok (.iload_n 2, 1) := by decide +kernel
theorem dX8_where_32 : decode cX8_where 32 = .ok (.iconst 0, 1) := by decide +kernel
theorem dX8_where_33 : decode cX8_where 33 = .ok (.invokevirtual 205, 3) := by decide +kernel
theorem dX8_where_36 : decode cX8_where 36 = .ok (.iload_n 3, 1) := by decide +kernel
theorem dX8_where_37 : decode cX8_where 37 = .ok (.tableswitch 71 0 3 #[31, 41, 51, 61], 31) := by decide +kernel
theorem dX8_where_68 : decode cX8_where 68 = .ok (.aload_n 0, 1) := by decide +kernel
theorem dX8_where_69 : decode cX8_where 69 = .ok (.getfield 61, 3) := by decide +kernel
theorem dX8_where_72 : decode cX8_where 72 = .ok (.getfield 209, 3) := by decide +kernel
theorem dX8_where_75 : decode cX8_where 75 = .ok (.iload_n 1, 1) := by decide +kernel
theorem dX8_where_76 : decode cX8_where 76 = .ok (.iaload, 1) := by decide +kernel
theorem dX8_where_77 : decode cX8_where 77 = .ok (.ireturn, 1) := by decide +kernel
theorem dX8_where_78 : decode cX8_where 78 = .ok (.aload_n 0, 1) := by decide +kernel
theorem dX8_where_79 : decode cX8_where 79 = .ok (.getfield 61, 3) := by decide +kernel
theorem dX8_where_82 : decode cX8_where 82 = .ok (.getfield 212, 3) := by decide +kernel
theorem dX8_where_85 : decode cX8_where 85 = .ok (.iload_n 1, 1) := by decide +kernel
theorem dX8_where_86 : decode cX8_where 86 = .ok (.iaload, 1) := by decide +kernel
theorem dX8_where_87 : decode cX8_where 87 = .ok (.ireturn, 1) := by decide +kernel
theorem dX8_where_88 : decode cX8_where 88 = .ok (.aload_n 0, 1) := by decide +kernel
theorem dX8_where_89 : decode cX8_where 89 = .ok (.getfield 61, 3) := by decide +kernel
theorem dX8_where_92 : decode cX8_where 92 = .ok (.getfield 215, 3) := by decide +kernel
theorem dX8_where_95 : decode cX8_where 95 = .ok (.iload_n 1, 1) := by decide +kernel
theorem dX8_where_96 : decode cX8_where 96 = .ok (.iaload, 1) := by decide +kernel
theorem dX8_where_97 : decode cX8_where 97 = .ok (.ireturn, 1) := by decide +kernel
theorem dX8_where_98 : decode cX8_where 98 = .ok (.aload_n 0, 1) := by decide +kernel
theorem dX8_where_99 : decode cX8_where 99 = .ok (.getfield 61, 3) := by decide +kernel
theorem dX8_where_102 : decode cX8_where 102 = .ok (.getfield 218, 3) := by decide +kernel
theorem dX8_where_105 : decode cX8_where 105 = .ok (.iload_n 1, 1) := by decide +kernel
theorem dX8_where_106 : decode cX8_where 106 = .ok (.iaload, 1) := by decide +kernel
theorem dX8_where_107 : decode cX8_where 107 = .ok (.ireturn, 1) := by decide +kernel
theorem dX8_where_108 : decode cX8_where 108 = .ok (.iload_n 2, 1) := by decide +kernel
theorem dX8_where_109 : decode cX8_where 109 = .ok (.invokestatic 221, 3) := by decide +kernel
theorem dX8_where_112 : decode cX8_where 112 = .ok (.ifCond .eq 18, 3) := by decide +kernel
theorem dX8_where_115 : decode cX8_where 115 = .ok (.aload_n 0, 1) := by decide +kernel
theorem dX8_where_116 : decode cX8_where 116 = .ok (.getfield 40, 3) := by decide +kernel
theorem dX8_where_119 : decode cX8_where 119 = .ok (.getfield 116, 3) := by decide +kernel
theorem dX8_where_122 : decode cX8_where 122 = .ok (.getfield 170, 3) := by decide +kernel
theorem dX8_where_125 : decode cX8_where 125 = .ok (.iload_n 1, 1) := by decide +kernel
theorem dX8_where_126 : decode cX8_where 126 = .ok (.iaload, 1) := by decide +kernel
theorem dX8_where_127 : decode cX8_where 127 = .ok (.goto 14, 3) := by decide +kernel
theorem dX8_where_130 : decode cX8_where 130 = .ok (.aload_n 0, 1) := by decide +kernel
theorem dX8_where_131 : decode cX8_where 131 = .ok (.getfield 40, 3) := by decide +kernel
theorem dX8_where_134 : decode cX8_where 134 = .ok (.getfield 116, 3) := by decide +kernel
theorem dX8_where_137 : decode cX8_where 137 = .ok (.iload_n 1, 1) := by decide +kernel
theorem dX8_where_138 : decode cX8_where 138 = .ok (.invokevirtual 224, 3) := by decide +kernel
theorem dX8_where_141 : decode cX8_where 141 = .ok (.ireturn, 1) := by decide +kernel
theorem dX8_isAtChurch_0 : decode cX8_isAtChurch 0 = .ok (.iload_n 0, 1) := by decide +kernel
theorem dX8_isAtChurch_1 : decode cX8_isAtChurch 1 = .ok (.bipush 24, 2) := by decide +kernel
theorem dX8_isAtChurch_3 : decode cX8_isAtChurch 3 = .ok (.irem, 1) := by decide +kernel
theorem dX8_isAtChurch_4 : decode cX8_isAtChurch 4 = .ok (.istore_n 1, 1) := by decide +kernel
theorem dX8_isAtChurch_5 : decode cX8_isAtChurch 5 = .ok (.iload_n 0, 1) := by decide +kernel
theorem dX8_isAtChurch_6 : decode cX8_isAtChurch 6 = .ok (.bipush 24, 2) := by decide +kernel
theorem dX8_isAtChurch_8 : decode cX8_isAtChurch 8 = .ok (.idiv, 1) := by decide +kernel
theorem dX8_isAtChurch_9 : decode cX8_isAtChurch 9 = .ok (.bipush 6, 2) := by decide +kernel
theorem dX8_isAtChurch_11 : decode cX8_isAtChurch 11 = .ok (.if_icmp .ne 19, 3) := by decide +kernel
theorem dX8_isAtChurch_14 : decode cX8_isAtChurch 14 = .ok (.iload_n 1, 1) := by decide +kernel
theorem dX8_isAtChurch_15 : decode cX8_isAtChurch 15 = .ok (.bipush 10, 2) := by decide +kernel
theorem dX8_isAtChurch_17 : decode cX8_isAtChurch 17 = .ok (.if_icmp .eq 9, 3) := by decide +kernel
theorem dX8_isAtChurch_20 : decode cX8_isAtChurch 20 = .ok (.iload_n 1, 1) := by decide +kernel
theorem dX8_isAtChurch_21 : decode cX8_isAtChurch 21 = .ok (.bipush 11, 2) := by decide +kernel
theorem dX8_isAtChurch_23 : decode cX8_isAtChurch 23 = .ok (.if_icmp .ne 7, 3) := by decide +kernel
theorem dX8_isAtChurch_26 : decode cX8_isAtChurch 26 = .ok (.iconst 1, 1) := by decide +kernel
theorem dX8_isAtChurch_27 : decode cX8_isAtChurch 27 = .ok (.goto 4, 3) := by decide +kernel
theorem dX8_isAtChurch_30 : decode cX8_isAtChurch 30 = .ok (.iconst 0, 1) := by decide +kernel
theorem dX8_isAtChurch_31 : decode cX8_isAtChurch 31 = .ok (.ireturn, 1) := by decide +kernel
theorem dX8_between_0 : decode cX8_between 0 = .ok (.aload_n 0, 1) := by decide +kernel
theorem dX8_between_1 : decode cX8_between 1 = .ok (.iload_n 1, 1) := by decide +kernel
theorem dX8_between_2 : decode cX8_between 2 = .ok (.invokevirtual 146, 3) := by decide +kernel
theorem dX8_between_5 : decode cX8_between 5 = .ok (.aload_n 0, 1) := by decide +kernel
theorem dX8_between_6 : decode cX8_between 6 = .ok (.iload_n 2, 1) := by decide +kernel
theorem dX8_between_7 : decode cX8_between 7 = .ok (.invokevirtual 146, 3) := by decide +kernel
theorem dX8_between_10 : decode cX8_between 10 = .ok (.iload_n 3, 1) := by decide +kernel
theorem dX8_between_11 : decode cX8_between 11 = .ok (.invokestatic 192, 3) := by decide +kernel
theorem dX8_between_14 : decode cX8_between 14 = .ok (.iload 4, 2) := by decide +kernel
theorem dX8_between_16 : decode cX8_between 16 = .ok (.iconst 4, 1) := by decide +kernel
theorem dX8_between_17 : decode cX8_between 17 = .ok (.invokestatic 195, 3) := by decide +kernel
theorem dX8_between_20 : decode cX8_between 20 = .ok (.iload_n 1, 1) := by decide +kernel
theorem dX8_between_21 : decode cX8_between 21 = .ok (.iload_n 2, 1) := by decide +kernel
theorem dX8_between_22 : decode cX8_between 22 = .ok (.invokestatic 227, 3) := by decide +kernel
theorem dX8_between_25 : decode cX8_between 25 = .ok (.aload_n 0, 1) := by decide +kernel
theorem dX8_between_26 : decode cX8_between 26 = .ok (.getfield 61, 3) := by decide +kernel
theorem dX8_between_29 : decode cX8_between 29 = .ok (.aload_n 0, 1) := by decide +kernel
theorem dX8_between_30 : decode cX8_between 30 = .ok (.getfield 30, 3) := by decide +kernel
theorem dX8_between_33 : decode cX8_between 33 = .ok (.aload_n 0, 1) := by decide +kernel
theorem dX8_between_34 : decode cX8_between 34 = .ok (.getfield 40, 3) := by decide +kernel
theorem dX8_between_37 : decode cX8_between 37 = .ok (.getfield 116, 3) := by decide +kernel
theorem dX8_between_40 : decode cX8_between 40 = .ok (.iload_n 1, 1) := by decide +kernel
theorem dX8_between_41 : decode cX8_between 41 = .ok (.iload_n 1, 1) := by decide +kernel
theorem dX8_between_42 : decode cX8_between 42 = .ok (.iload_n 3, 1) := by decide +kernel
theorem dX8_between_43 : decode cX8_between 43 = .ok (.iconst 0, 1) := by decide +kernel
theorem dX8_between_44 : decode cX8_between 44 = .ok (.invokevirtual 205, 3) := by decide +kernel
theorem dX8_between_47 : decode cX8_between 47 = .ok (.aload_n 0, 1) := by decide +kernel
theorem dX8_between_48 : decode cX8_between 48 = .ok (.getfield 61, 3) := by decide +kernel
theorem dX8_between_51 : decode cX8_between 51 = .ok (.aload_n 0, 1) := by decide +kernel
theorem dX8_between_52 : decode cX8_between 52 = .ok (.getfield 30, 3) := by decide +kernel
theorem dX8_between_55 : decode cX8_between 55 = .ok (.aload_n 0, 1) := by decide +kernel
theorem dX8_between_56 : decode cX8_between 56 = .ok (.getfield 40, 3) := by decide +kernel
theorem dX8_between_59 : decode cX8_between 59 = .ok (.getfield 116, 3) := by decide +kernel
theorem dX8_between_62 : decode cX8_between 62 = .ok (.iload_n 2, 1) := by decide +kernel
theorem dX8_between_63 : decode cX8_between 63 = .ok (.iload_n 2, 1) := by decide +kernel
theorem dX8_between_64 : decode cX8_between 64 = .ok (.iload_n 3, 1) := by decide +kernel
theorem dX8_between_65 : decode cX8_between 65 = .ok (.iconst 0, 1) := by decide +kernel
theorem dX8_between_66 : decode cX8_between 66 = .ok (.invokevirtual 205, 3) := by decide +kernel
theorem dX8_between_69 : decode cX8_between 69 = .ok (.iload 4, 2) := by decide +kernel
theorem dX8_between_71 : decode cX8_between 71 = .ok (.tableswitch 56 0 2 #[25, 36, 46], 25) := by decide +kernel
theorem dX8_between_96 : decode cX8_between 96 = .ok (.aload_n 0, 1) := by decide +kernel
theorem dX8_between_97 : decode cX8_between 97 = .ok (.getfield 61, 3) := by decide +kernel
theorem dX8_between_100 : decode cX8_between 100 = .ok (.iload_n 1, 1) := by decide +kernel
theorem dX8_between_101 : decode cX8_between 101 = .ok (.iload_n 2, 1) := by decide +kernel
theorem dX8_between_102 : decode cX8_between 102 = .ok (.iconst 0, 1) := by decide +kernel
theorem dX8_between_103 : decode cX8_between 103 = .ok (.invokevirtual 230, 3) := by decide +kernel
theorem dX8_between_106 : decode cX8_between 106 = .ok (.ireturn, 1) := by decide +kernel
theorem dX8_between_107 : decode cX8_between 107 = .ok (.aload_n 0, 1) := by decide +kernel
theorem dX8_between_108 : decode cX8_between 108 = .ok (.getfield 61, 3) := by decide +kernel
theorem dX8_between_111 : decode cX8_between 111 = .ok (.iload_n 1, 1) := by decide +kernel
theorem dX8_between_112 : decode cX8_between 112 = .ok (.iload_n 2, 1) := by decide +kernel
theorem dX8_between_113 : decode cX8_between 113 = .ok (.invokevirtual 234, 3) := by decide +kernel
theorem dX8_between_116 : decode cX8_between 116 = .ok (.ireturn, 1) := by decide +kernel
theorem dX8_between_117 : decode cX8_between 117 = .ok (.aload_n 0, 1) := by decide +kernel
theorem dX8_between_118 : decode cX8_between 118 = .ok (.getfield 61, 3) := by decide +kernel
theorem dX8_between_121 : decode cX8_between 121 = .ok (.iload_n 1, 1) := by decide +kernel
theorem dX8_between_122 : decode cX8_between 122 = .ok (.iload_n 2, 1) := by decide +kernel
theorem dX8_between_123 : decode cX8_between 123 = .ok (.invokevirtual 238, 3) := by decide +kernel
theorem dX8_between_126 : decode cX8_between 126 = .ok (.ireturn, 1) := by decide +kernel
theorem dX8_between_127 : decode cX8_between 127 = .ok (.aload_n 0, 1) := by decide +kernel
theorem dX8_between_128 : decode cX8_between 128 = .ok (.getfield 61, 3) := by decide +kernel
theorem dX8_between_131 : decode cX8_between 131 = .ok (.iload_n 1, 1) := by decide +kernel
theorem dX8_between_132 : decode cX8_between 132 = .ok (.iload_n 2, 1) := by decide +kernel
theorem dX8_between_133 : decode cX8_between 133 = .ok (.aload_n 0, 1) := by decide +kernel
theorem dX8_between_134 : decode cX8_between 134 = .ok (.getfield 30, 3) := by decide +kernel
theorem dX8_between_137 : decode cX8_between 137 = .ok (.getfield 126, 3) := by decide +kernel
theorem dX8_between_140 : decode cX8_between 140 = .ok (.invokevirtual 241, 3) := by decide +kernel
theorem dX8_between_143 : decode cX8_between 143 = .ok (.ireturn, 1) := by decide +kernel
theorem dX8_rain_0 : decode cX8_rain 0 = .ok (.aload_n 0, 1) := by decide +kernel
theorem dX8_rain_1 : decode cX8_rain 1 = .ok (.iload_n 1, 1) := by decide +kernel
theorem dX8_rain_2 : decode cX8_rain 2 = .ok (.invokevirtual 146, 3) := by decide +kernel
theorem dX8_rain_5 : decode cX8_rain 5 = .ok (.iload_n 2, 1) := by decide +kernel
theorem dX8_rain_6 : decode cX8_rain 6 = .ok (.invokestatic 192, 3) := by decide +kernel
theorem dX8_rain_9 : decode cX8_rain 9 = .ok (.aload_n 0, 1) := by decide +kernel
theorem dX8_rain_10 : decode cX8_rain 10 = .ok (.aload_n 0, 1) := by decide +kernel
theorem dX8_rain_11 : decode cX8_rain 11 = .ok (.getfield 40, 3) := by decide +kernel
theorem dX8_rain_14 : decode cX8_rain 14 = .ok (.getfield 116, 3) := by decide +kernel
theorem dX8_rain_17 : decode cX8_rain 17 = .ok (.iload_n 2, 1) := by decide +kernel
theorem dX8_rain_18 : decode cX8_rain 18 = .ok (.iconst 0, 1) := by decide +kernel
theorem dX8_rain_19 : decode cX8_rain 19 = .ok (.invokevirtual 244, 3) := by decide +kernel
theorem dX8_rain_22 : decode cX8_rain 22 = .ok (.aload_n 0, 1) := by decide +kernel
theorem dX8_rain_23 : decode cX8_rain 23 = .ok (.getfield 61, 3) := by decide +kernel
theorem dX8_rain_26 : decode cX8_rain 26 = .ok (.iload_n 1, 1) := by decide +kernel
theorem dX8_rain_27 : decode cX8_rain 27 = .ok (.aload_n 0, 1) := by decide +kernel
theorem dX8_rain_28 : decode cX8_rain 28 = .ok (.getfield 40, 3) := by decide +kernel
theorem dX8_rain_31 : decode cX8_rain 31 = .ok (.getfield 116, 3) := by decide +kernel
theorem dX8_rain_34 : decode cX8_rain 34 = .ok (.getfield 117, 3) := by decide +kernel
theorem dX8_rain_37 : decode cX8_rain 37 = .ok (.invokevirtual 248, 3) := by decide +kernel
theorem dX8_rain_40 : decode cX8_rain 40 = .ok (.ireturn, 1) := by decide +kernel
theorem dX8_winch_0 : decode cX8_winch 0 = .ok (.aload_n 0, 1) := by decide +kernel
theorem dX8_winch_1 : decode cX8_winch 1 = .ok (.iload_n 1, 1) := by decide +kernel
theorem dX8_winch_2 : decode cX8_winch 2 = .ok (.invokevirtual 146, 3) := by decide +kernel
theorem dX8_winch_5 : decode cX8_winch 5 = .ok (.iload_n 2, 1) := by decide +kernel
theorem dX8_winch_6 : decode cX8_winch 6 = .ok (.iconst 1, 1) := by decide +kernel
theorem dX8_winch_7 : decode cX8_winch 7 = .ok (.if_icmp .lt 9, 3) := by decide +kernel
theorem dX8_winch_10 : decode cX8_winch 10 = .ok (.iload_n 2, 1) := by decide +kernel
theorem dX8_winch_11 : decode cX8_winch 11 = .ok (.bipush 60, 2) := by decide +kernel
theorem dX8_winch_13 : decode cX8_winch 13 = .ok (.if_icmp .le 18, 3) := by decide +kernel
theorem dX8_winch_16 : decode cX8_winch 16 = .ok (.aload_n 0, 1) := by decide +kernel
theorem dX8_winch_17 : decode cX8_winch 17 = .ok (.getfield 40, 3) := by decide +kernel
theorem dX8_winch_20 : decode cX8_winch 20 = .ok (.getfield 100, 3) := by decide +kernel
theorem dX8_winch_23 : decode cX8_winch 23 = .ok (.iconst 1, 1) := by decide +kernel
theorem dX8_winch_24 : decode cX8_winch 24 = .ok (.dup2, 1) := by decide +kernel
theorem dX8_winch_25 : decode cX8_winch 25 = .ok (.iaload, 1) := by decide +kernel
theorem dX8_winch_26 : decode cX8_winch 26 = .ok (.iconst 1, 1) := by decide +kernel
theorem dX8_winch_27 : decode cX8_winch 27 = .ok (.iadd, 1) := by decide +kernel
theorem dX8_winch_28 : decode cX8_winch 28 = .ok (.iastore, 1) := by decide +kernel
theorem dX8_winch_29 : decode cX8_winch 29 = .ok (.iconst (-1), 1) := by decide +kernel
theorem dX8_winch_30 : decode cX8_winch 30 = .ok (.ireturn, 1) := by decide +kernel
theorem dX8_winch_31 : decode cX8_winch 31 = .ok (.aload_n 0, 1) := by decide +kernel
theorem dX8_winch_32 : decode cX8_winch 32 = .ok (.getfield 40, 3) := by decide +kernel
theorem dX8_winch_35 : decode cX8_winch 35 = .ok (.getfield 116, 3) := by decide +kernel
theorem dX8_winch_38 : decode cX8_winch 38 = .ok (.getfield 161, 3) := by decide +kernel
theorem dX8_winch_41 : decode cX8_winch 41 = .ok (.iload_n 1, 1) := by decide +kernel
theorem dX8_winch_42 : decode cX8_winch 42 = .ok (.iaload, 1) := by decide +kernel
theorem dX8_winch_43 : decode cX8_winch 43 = .ok (.istore_n 3, 1) := by decide +kernel
theorem dX8_winch_44 : decode cX8_winch 44 = .ok (.aload_n 0, 1) := by decide +kernel
theorem dX8_winch_45 : decode cX8_winch 45 = .ok (.getfield 40, 3) := by decide +kernel
theorem dX8_winch_48 : decode cX8_winch 48 = .ok (.getfield 116, 3) := by decide +kernel
theorem dX8_winch_51 : decode cX8_winch 51 = .ok (.getfield 161, 3) := by decide +kernel
theorem dX8_winch_54 : decode cX8_winch 54 = .ok (.iload_n 1, 1) := by decide +kernel
theorem dX8_winch_55 : decode cX8_winch 55 = .ok (.iload_n 2, 1) := by decide +kernel
theorem dX8_winch_56 : decode cX8_winch 56 = .ok (.iastore, 1) := by decide +kernel
theorem dX8_winch_57 : decode cX8_winch 57 = .ok (.aload_n 0, 1) := by decide +kernel
theorem dX8_winch_58 : decode cX8_winch 58 = .ok (.getfield 40, 3) := by decide +kernel
theorem dX8_winch_61 : decode cX8_winch 61 = .ok (.iconst 0, 1) := by decide +kernel
theorem dX8_winch_62 : decode cX8_winch 62 = .ok (.iload_n 1, 1) := by decide +kernel
theorem dX8_winch_63 : decode cX8_winch 63 = .ok (.iload_n 3, 1) := by decide +kernel
theorem dX8_winch_64 : decode cX8_winch 64 = .ok (.iconst 0, 1) := by decide +kernel
theorem dX8_winch_65 : decode cX8_winch 65 = .ok (.iconst 0, 1) := by decide +kernel
theorem dX8_winch_66 : decode cX8_winch 66 = .ok (.invokevirtual 252, 3) := by decide +kernel
theorem dX8_winch_69 : decode cX8_winch 69 = .ok (.iload_n 3, 1) := by decide +kernel
theorem dX8_winch_70 : decode cX8_winch 70 = .ok (.ireturn, 1) := by decide +kernel
theorem dX8_knot_0 : decode cX8_knot 0 = .ok (.aload_n 0, 1) := by decide +kernel
theorem dX8_knot_1 : decode cX8_knot 1 = .ok (.iload_n 1, 1) := by decide +kernel
theorem dX8_knot_2 : decode cX8_knot 2 = .ok (.invokevirtual 146, 3) := by decide +kernel
theorem dX8_knot_5 : decode cX8_knot 5 = .ok (.aload_n 0, 1) := by decide +kernel
theorem dX8_knot_6 : decode cX8_knot 6 = .ok (.getfield 40, 3) := by decide +kernel
theorem dX8_knot_9 : decode cX8_knot 9 = .ok (.getfield 116, 3) := by decide +kernel
theorem dX8_knot_12 : decode cX8_knot 12 = .ok (.getfield 179, 3) := by decide +kernel
theorem dX8_knot_15 : decode cX8_knot 15 = .ok (.iload_n 1, 1) := by decide +kernel
theorem dX8_knot_16 : decode cX8_knot 16 = .ok (.iaload, 1) := by decide +kernel
theorem dX8_knot_17 : decode cX8_knot 17 = .ok (.istore_n 3, 1) := by decide +kernel
theorem dX8_knot_18 : decode cX8_knot 18 = .ok (.iload_n 2, 1) := by decide +kernel
theorem dX8_knot_19 : decode cX8_knot 19 = .ok (.ifCond .eq 9, 3) := by decide +kernel
theorem dX8_knot_22 : decode cX8_knot 22 = .ok (.iload_n 3, 1) := by decide +kernel
theorem dX8_knot_23 : decode cX8_knot 23 = .ok (.iconst 1, 1) := by decide +kernel
theorem dX8_knot_24 : decode cX8_knot 24 = .ok (.iadd, 1) := by decide +kernel
theorem dX8_knot_25 : decode cX8_knot 25 = .ok (.goto 6, 3) := by decide +kernel
theorem dX8_knot_28 : decode cX8_knot 28 = .ok (.iload_n 3, 1) := by decide +kernel
theorem dX8_knot_29 : decode cX8_knot 29 = .ok (.iconst 1, 1) := by decide +kernel
theorem dX8_knot_30 : decode cX8_knot 30 = .ok (.isub, 1) := by decide +kernel
theorem dX8_knot_31 : decode cX8_knot 31 = .ok (.istore 4, 2) := by decide +kernel
theorem dX8_knot_33 : decode cX8_knot 33 = .ok (.iload 4, 2) := by decide +kernel
theorem dX8_knot_35 : decode cX8_knot 35 = .ok (.ifCond .lt 10, 3) := by decide +kernel
theorem dX8_knot_38 : decode cX8_knot 38 = .ok (.iload 4, 2) := by decide +kernel
theorem dX8_knot_40 : decode cX8_knot 40 = .ok (.bipush 60, 2) := by decide +kernel
theorem dX8_knot_42 : decode cX8_knot 42 = .ok (.if_icmp .le 18, 3) := by decide +kernel
theorem dX8_knot_45 : decode cX8_knot 45 = .ok (.aload_n 0, 1) := by decide +kernel
theorem dX8_knot_46 : decode cX8_knot 46 = .ok (.getfield 40, 3) := by decide +kernel
theorem dX8_knot_49 : decode cX8_knot 49 = .ok (.getfield 100, 3) := by decide +kernel
theorem dX8_knot_52 : decode cX8_knot 52 = .ok (.iconst 1, 1) := by decide +kernel
theorem dX8_knot_53 : decode cX8_knot 53 = .ok (.dup2, 1) := by decide +kernel
theorem dX8_knot_54 : decode cX8_knot 54 = .ok (.iaload, 1) := by decide +kernel
theorem dX8_knot_55 : decode cX8_knot 55 = .ok (.iconst 1, 1) := by decide +kernel
theorem dX8_knot_56 : decode cX8_knot 56 = .ok (.iadd, 1) := by decide +kernel
theorem dX8_knot_57 : decode cX8_knot 57 = .ok (.iastore, 1) := by decide +kernel
theorem dX8_knot_58 : decode cX8_knot 58 = .ok (.iconst (-1), 1) := by decide +kernel
theorem dX8_knot_59 : decode cX8_knot 59 = .ok (.ireturn, 1) := by decide +kernel
theorem dX8_knot_60 : decode cX8_knot 60 = .ok (.aload_n 0, 1) := by decide +kernel
theorem dX8_knot_61 : decode cX8_knot 61 = .ok (.getfield 40, 3) := by decide +kernel
theorem dX8_knot_64 : decode cX8_knot 64 = .ok (.getfield 116, 3) := by decide +kernel
theorem dX8_knot_67 : decode cX8_knot 67 = .ok (.getfield 179, 3) := by decide +kernel
theorem dX8_knot_70 : decode cX8_knot 70 = .ok (.iload_n 1, 1) := by decide +kernel
theorem dX8_knot_71 : decode cX8_knot 71 = .ok (.iload 4, 2) := by decide +kernel
theorem dX8_knot_73 : decode cX8_knot 73 = .ok (.iastore, 1) := by decide +kernel
theorem dX8_knot_74 : decode cX8_knot 74 = .ok (.aload_n 0, 1) := by decide +kernel
theorem dX8_knot_75 : decode cX8_knot 75 = .ok (.getfield 40, 3) := by decide +kernel
theorem dX8_knot_78 : decode cX8_knot 78 = .ok (.iconst 1, 1) := by decide +kernel
theorem dX8_knot_79 : decode cX8_knot 79 = .ok (.iload_n 1, 1) := by decide +kernel
theorem dX8_knot_80 : decode cX8_knot 80 = .ok (.iload_n 3, 1) := by decide +kernel
theorem dX8_knot_81 : decode cX8_knot 81 = .ok (.iconst 0, 1) := by decide +kernel
theorem dX8_knot_82 : decode cX8_knot 82 = .ok (.iconst 0, 1) := by decide +kernel
theorem dX8_knot_83 : decode cX8_knot 83 = .ok (.invokevirtual 252, 3) := by decide +kernel
theorem dX8_knot_86 : decode cX8_knot 86 = .ok (.iload 4, 2) := by decide +kernel
theorem dX8_knot_88 : decode cX8_knot 88 = .ok (.ireturn, 1) := by decide +kernel
theorem dX8_load_0 : decode cX8_load 0 = .ok (.aload_n 0, 1) := by decide +kernel
theorem dX8_load_1 : decode cX8_load 1 = .ok (.iload_n 1, 1) := by decide +kernel
theorem dX8_load_2 : decode cX8_load 2 = .ok (.invokevirtual 146, 3) := by decide +kernel
theorem dX8_load_5 : decode cX8_load 5 = .ok (.iload_n 2, 1) := by decide +kernel
theorem dX8_load_6 : decode cX8_load 6 = .ok (.ifCond .lt 9, 3) := by decide +kernel
theorem dX8_load_9 : decode cX8_load 9 = .ok (.iload_n 2, 1) := by decide +kernel
theorem dX8_load_10 : decode cX8_load 10 = .ok (.bipush 60, 2) := by decide +kernel
theorem dX8_load_12 : decode cX8_load 12 = .ok (.if_icmp .le 18, 3) := by decide +kernel
theorem dX8_load_15 : decode cX8_load 15 = .ok (.aload_n 0, 1) := by decide +kernel
theorem dX8_load_16 : decode cX8_load 16 = .ok (.getfield 40, 3) := by decide +kernel
theorem dX8_load_19 : decode cX8_load 19 = .ok (.getfield 100, 3) := by decide +kernel
theorem dX8_load_22 : decode cX8_load 22 = .ok (.iconst 1, 1) := by decide +kernel
theorem dX8_load_23 : decode cX8_load 23 = .ok (.dup2, 1) := by decide +kernel
theorem dX8_load_24 : decode cX8_load 24 = .ok (.iaload, 1) := by decide +kernel
theorem dX8_load_25 : decode cX8_load 25 = .ok (.iconst 1, 1) := by decide +kernel
theorem dX8_load_26 : decode cX8_load 26 = .ok (.iadd, 1) := by decide +kernel
theorem dX8_load_27 : decode cX8_load 27 = .ok (.iastore, 1) := by decide +kernel
theorem dX8_load_28 : decode cX8_load 28 = .ok (.iconst (-1), 1) := by decide +kernel
theorem dX8_load_29 : decode cX8_load 29 = .ok (.ireturn, 1) := by decide +kernel
theorem dX8_load_30 : decode cX8_load 30 = .ok (.aload_n 0, 1) := by decide +kernel
theorem dX8_load_31 : decode cX8_load 31 = .ok (.getfield 40, 3) := by decide +kernel
theorem dX8_load_34 : decode cX8_load 34 = .ok (.getfield 116, 3) := by decide +kernel
theorem dX8_load_37 : decode cX8_load 37 = .ok (.getfield 173, 3) := by decide +kernel
theorem dX8_load_40 : decode cX8_load 40 = .ok (.iload_n 1, 1) := by decide +kernel
theorem dX8_load_41 : decode cX8_load 41 = .ok (.iaload, 1) := by decide +kernel
theorem dX8_load_42 : decode cX8_load 42 = .ok (.istore_n 3, 1) := by decide +kernel
theorem dX8_load_43 : decode cX8_load 43 = .ok (.aload_n 0, 1) := by decide +kernel
theorem dX8_load_44 : decode cX8_load 44 = .ok (.getfield 40, 3) := by decide +kernel
theorem dX8_load_47 : decode cX8_load 47 = .ok (.getfield 116, 3) := by decide +kernel
theorem dX8_load_50 : decode cX8_load 50 = .ok (.getfield 173, 3) := by decide +kernel
theorem dX8_load_53 : decode cX8_load 53 = .ok (.iload_n 1, 1) := by decide +kernel
theorem dX8_load_54 : decode cX8_load 54 = .ok (.iload_n 2, 1) := by decide +kernel
theorem dX8_load_55 : decode cX8_load 55 = .ok (.iastore, 1) := by decide +kernel
theorem dX8_load_56 : decode cX8_load 56 = .ok (.aload_n 0, 1) := by decide +kernel
theorem dX8_load_57 : decode cX8_load 57 = .ok (.getfield 40, 3) := by decide +kernel
theorem dX8_load_60 : decode cX8_load 60 = .ok (.iconst 2, 1) := by decide +kernel
theorem dX8_load_61 : decode cX8_load 61 = .ok (.iload_n 1, 1) := by decide +kernel
theorem dX8_load_62 : decode cX8_load 62 = .ok (.iload_n 3, 1) := by decide +kernel
theorem dX8_load_63 : decode cX8_load 63 = .ok (.iconst 0, 1) := by decide +kernel
theorem dX8_load_64 : decode cX8_load 64 = .ok (.iconst 0, 1) := by decide +kernel
theorem dX8_load_65 : decode cX8_load 65 = .ok (.invokevirtual 252, 3) := by decide +kernel
theorem dX8_load_68 : decode cX8_load 68 = .ok (.iload_n 3, 1) := by decide +kernel
theorem dX8_load_69 : decode cX8_load 69 = .ok (.ireturn, 1) := by decide +kernel
theorem dX8_goat_0 : decode cX8_goat 0 = .ok (.aload_n 0, 1) := by decide +kernel
theorem dX8_goat_1 : decode cX8_goat 1 = .ok (.iload_n 1, 1) := by decide +kernel
theorem dX8_goat_2 : decode cX8_goat 2 = .ok (.invokevirtual 146, 3) := by decide +kernel
theorem dX8_goat_5 : decode cX8_goat 5 = .ok (.aload_n 0, 1) := by decide +kernel
theorem dX8_goat_6 : decode cX8_goat 6 = .ok (.iload_n 2, 1) := by decide +kernel
theorem dX8_goat_7 : decode cX8_goat 7 = .ok (.invokevirtual 146, 3) := by decide +kernel
theorem dX8_goat_10 : decode cX8_goat 10 = .ok (.iload_n 3, 1) := by decide +kernel
theorem dX8_goat_11 : decode cX8_goat 11 = .ok (.invokestatic 192, 3) := by decide +kernel
theorem dX8_goat_14 : decode cX8_goat 14 = .ok (.aload_n 0, 1) := by decide +kernel
theorem dX8_goat_15 : decode cX8_goat 15 = .ok (.iload_n 1, 1) := by decide +kernel
theorem dX8_goat_16 : decode cX8_goat 16 = .ok (.iload_n 2, 1) := by decide +kernel
theorem dX8_goat_17 : decode cX8_goat 17 = .ok (.iload_n 3, 1) := by decide +kernel
theorem dX8_goat_18 : decode cX8_goat 18 = .ok (.invokevirtual 256, 3) := by decide +kernel
theorem dX8_goat_21 : decode cX8_goat 21 = .ok (.ifCond .ne 18, 3) := by decide +kernel
theorem dX8_goat_24 : decode cX8_goat 24 = .ok (.aload_n 0, 1) := by decide +kernel
theorem dX8_goat_25 : decode cX8_goat 25 = .ok (.getfield 40, 3) := by decide +kernel
theorem dX8_goat_28 : decode cX8_goat 28 = .ok (.getfield 100, 3) := by decide +kernel
theorem dX8_goat_31 : decode cX8_goat 31 = .ok (.iconst 1, 1) := by decide +kernel
theorem dX8_goat_32 : decode cX8_goat 32 = .ok (.dup2, 1) := by decide +kernel
theorem dX8_goat_33 : decode cX8_goat 33 = .ok (.iaload, 1) := by decide +kernel
theorem dX8_goat_34 : decode cX8_goat 34 = .ok (.iconst 1, 1) := by decide +kernel
theorem dX8_goat_35 : decode cX8_goat 35 = .ok (.iadd, 1) := by decide +kernel
theorem dX8_goat_36 : decode cX8_goat 36 = .ok (.iastore, 1) := by decide +kernel
theorem dX8_goat_37 : decode cX8_goat 37 = .ok (.iconst 0, 1) := by decide +kernel
theorem dX8_goat_38 : decode cX8_goat 38 = .ok (.ireturn, 1) := by decide +kernel
theorem dX8_goat_39 : decode cX8_goat 39 = .ok (.aload_n 0, 1) := by decide +kernel
theorem dX8_goat_40 : decode cX8_goat 40 = .ok (.getfield 40, 3) := by decide +kernel
theorem dX8_goat_43 : decode cX8_goat 43 = .ok (.getfield 116, 3) := by decide +kernel
theorem dX8_goat_46 : decode cX8_goat 46 = .ok (.getfield 176, 3) := by decide +kernel
theorem dX8_goat_49 : decode cX8_goat 49 = .ok (.iload_n 1, 1) := by decide +kernel
theorem dX8_goat_50 : decode cX8_goat 50 = .ok (.dup2, 1) := by decide +kernel
theorem dX8_goat_51 : decode cX8_goat 51 = .ok (.iaload, 1) := by decide +kernel
theorem dX8_goat_52 : decode cX8_goat 52 = .ok (.iconst 1, 1) := by decide +kernel
theorem dX8_goat_53 : decode cX8_goat 53 = .ok (.isub, 1) := by decide +kernel
theorem dX8_goat_54 : decode cX8_goat 54 = .ok (.iastore, 1) := by decide +kernel
theorem dX8_goat_55 : decode cX8_goat 55 = .ok (.aload_n 0, 1) := by decide +kernel
theorem dX8_goat_56 : decode cX8_goat 56 = .ok (.getfield 40, 3) := by decide +kernel
theorem dX8_goat_59 : decode cX8_goat 59 = .ok (.getfield 116, 3) := by decide +kernel
theorem dX8_goat_62 : decode cX8_goat 62 = .ok (.getfield 176, 3) := by decide +kernel
theorem dX8_goat_65 : decode cX8_goat 65 = .ok (.iload_n 2, 1) := by decide +kernel
theorem dX8_goat_66 : decode cX8_goat 66 = .ok (.dup2, 1) := by decide +kernel
theorem dX8_goat_67 : decode cX8_goat 67 = .ok (.iaload, 1) := by decide +kernel
theorem dX8_goat_68 : decode cX8_goat 68 = .ok (.iconst 1, 1) := by decide +kernel
theorem dX8_goat_69 : decode cX8_goat 69 = .ok (.iadd, 1) := by decide +kernel
theorem dX8_goat_70 : decode cX8_goat 70 = .ok (.iastore, 1) := by decide +kernel
theorem dX8_goat_71 : decode cX8_goat 71 = .ok (.aload_n 0, 1) := by decide +kernel
theorem dX8_goat_72 : decode cX8_goat 72 = .ok (.getfield 40, 3) := by decide +kernel
theorem dX8_goat_75 : decode cX8_goat 75 = .ok (.iconst 3, 1) := by decide +kernel
theorem dX8_goat_76 : decode cX8_goat 76 = .ok (.iload_n 1, 1) := by decide +kernel
theorem dX8_goat_77 : decode cX8_goat 77 = .ok (.iload_n 2, 1) := by decide +kernel
theorem dX8_goat_78 : decode cX8_goat 78 = .ok (.iconst 0, 1) := by decide +kernel
theorem dX8_goat_79 : decode cX8_goat 79 = .ok (.iconst 0, 1) := by decide +kernel
theorem dX8_goat_80 : decode cX8_goat 80 = .ok (.invokevirtual 252, 3) := by decide +kernel
theorem dX8_goat_83 : decode cX8_goat 83 = .ok (.iconst 1, 1) := by decide +kernel
theorem dX8_goat_84 : decode cX8_goat 84 = .ok (.ireturn, 1) := by decide +kernel
theorem dX8_canThrowGoat_0 : decode cX8_canThrowGoat 0 = .ok (.iload_n 1, 1) := by decide +kernel
theorem dX8_canThrowGoat_1 : decode cX8_canThrowGoat 1 = .ok (.iload_n 2, 1) := by decide +kernel
theorem dX8_canThrowGoat_2 : decode cX8_canThrowGoat 2 = .ok (.if_icmp .eq 36, 3) := by decide +kernel
theorem dX8_canThrowGoat_5 : decode cX8_canThrowGoat 5 = .ok (.aload_n 0, 1) := by decide +kernel
theorem dX8_canThrowGoat_6 : decode cX8_canThrowGoat 6 = .ok (.getfield 40, 3) := by decide +kernel
theorem dX8_canThrowGoat_9 : decode cX8_canThrowGoat 9 = .ok (.getfield 116, 3) := by decide +kernel
theorem dX8_canThrowGoat_12 : decode cX8_canThrowGoat 12 = .ok (.getfield 176, 3) := by decide +kernel
theorem dX8_canThrowGoat_15 : decode cX8_canThrowGoat 15 = .ok (.iload_n 1, 1) := by decide +kernel
theorem dX8_canThrowGoat_16 : decode cX8_canThrowGoat 16 = .ok (.iaload, 1) := by decide +kernel
theorem dX8_canThrowGoat_17 : decode cX8_canThrowGoat 17 = .ok (.iconst 1, 1) := by decide +kernel
theorem dX8_canThrowGoat_18 : decode cX8_canThrowGoat 18 = .ok (.if_icmp .lt 20, 3) := by decide +kernel
theorem dX8_canThrowGoat_21 : decode cX8_canThrowGoat 21 = .ok (.aload_n 0, 1) := by decide +kernel
theorem dX8_canThrowGoat_22 : decode cX8_canThrowGoat 22 = .ok (.getfield 40, 3) := by decide +kernel
theorem dX8_canThrowGoat_25 : decode cX8_canThrowGoat 25 = .ok (.getfield 116, 3) := by decide +kernel
theorem dX8_canThrowGoat_28 : decode cX8_canThrowGoat 28 = .ok (.getfield 176, 3) := by decide +kernel
theorem dX8_canThrowGoat_31 : decode cX8_canThrowGoat 31 = .ok (.iload_n 2, 1) := by decide +kernel
theorem dX8_canThrowGoat_32 : decode cX8_canThrowGoat 32 = .ok (.iaload, 1) := by decide +kernel
theorem dX8_canThrowGoat_33 : decode cX8_canThrowGoat 33 = .ok (.bipush 9, 2) := by decide +kernel
theorem dX8_canThrowGoat_35 : decode cX8_canThrowGoat 35 = .ok (.if_icmp .lt 5, 3) := by decide +kernel
theorem dX8_canThrowGoat_38 : decode cX8_canThrowGoat 38 = .ok (.iconst 0, 1) := by decide +kernel
theorem dX8_canThrowGoat_39 : decode cX8_canThrowGoat 39 = .ok (.ireturn, 1) := by decide +kernel
theorem dX8_canThrowGoat_40 : decode cX8_canThrowGoat 40 = .ok (.aload_n 0, 1) := by decide +kernel
theorem dX8_canThrowGoat_41 : decode cX8_canThrowGoat 41 = .ok (.getfield 61, 3) := by decide +kernel
theorem dX8_canThrowGoat_44 : decode cX8_canThrowGoat 44 = .ok (.aload_n 0, 1) := by decide +kernel
theorem dX8_canThrowGoat_45 : decode cX8_canThrowGoat 45 = .ok (.getfield 30, 3) := by decide +kernel
theorem dX8_canThrowGoat_48 : decode cX8_canThrowGoat 48 = .ok (.aload_n 0, 1) := by decide +kernel
theorem dX8_canThrowGoat_49 : decode cX8_canThrowGoat 49 = .ok (.getfield 40, 3) := by decide +kernel
theorem dX8_canThrowGoat_52 : decode cX8_canThrowGoat 52 = .ok (.getfield 116, 3) := by decide +kernel
theorem dX8_canThrowGoat_55 : decode cX8_canThrowGoat 55 = .ok (.iload_n 1, 1) := by decide +kernel
theorem dX8_canThrowGoat_56 : decode cX8_canThrowGoat 56 = .ok (.iload_n 1, 1) := by decide +kernel
theorem dX8_canThrowGoat_57 : decode cX8_canThrowGoat 57 = .ok (.iload_n 3, 1) := by decide +kernel
theorem dX8_canThrowGoat_58 : decode cX8_canThrowGoat 58 = .ok (.iconst 0, 1) := by decide +kernel
theorem dX8_canThrowGoat_59 : decode cX8_canThrowGoat 59 = .ok (.invokevirtual 205, 3) := by decide +kernel
theorem dX8_canThrowGoat_62 : decode cX8_canThrowGoat 62 = .ok (.aload_n 0, 1) := by decide +kernel
theorem dX8_canThrowGoat_63 : decode cX8_canThrowGoat 63 = .ok (.getfield 61, 3) := by decide +kernel
theorem dX8_canThrowGoat_66 : decode cX8_canThrowGoat 66 = .ok (.aload_n 0, 1) := by decide +kernel
theorem dX8_canThrowGoat_67 : decode cX8_canThrowGoat 67 = .ok (.getfield 30, 3) := by decide +kernel
theorem dX8_canThrowGoat_70 : decode cX8_canThrowGoat 70 = .ok (.aload_n 0, 1) := by decide +kernel
theorem dX8_canThrowGoat_71 : decode cX8_canThrowGoat 71 = .ok (.getfield 40, 3) := by decide +kernel
theorem dX8_canThrowGoat_74 : decode cX8_canThrowGoat 74 = .ok (.getfield 116, 3) := by decide +kernel
theorem dX8_canThrowGoat_77 : decode cX8_canThrowGoat 77 = .ok (.iload_n 2, 1) := by decide +kernel
theorem dX8_canThrowGoat_78 : decode cX8_canThrowGoat 78 = .ok (.iload_n 2, 1) := by decide +kernel
theorem dX8_canThrowGoat_79 : decode cX8_canThrowGoat 79 = .ok (.iload_n 3, 1) := by decide +kernel
theorem dX8_canThrowGoat_80 : decode cX8_canThrowGoat 80 = .ok (.iconst 0, 1) := by decide +kernel
theorem dX8_canThrowGoat_81 : decode cX8_canThrowGoat 81 = .ok (.invokevirtual 205, 3) := by decide +kernel
theorem dX8_canThrowGoat_84 : decode cX8_canThrowGoat 84 = .ok (.aload_n 0, 1) := by decide +kernel
theorem dX8_canThrowGoat_85 : decode cX8_canThrowGoat 85 = .ok (.getfield 61, 3) := by decide +kernel
theorem dX8_canThrowGoat_88 : decode cX8_canThrowGoat 88 = .ok (.iload_n 1, 1) := by decide +kernel
theorem dX8_canThrowGoat_89 : decode cX8_canThrowGoat 89 = .ok (.iload_n 2, 1) := by decide +kernel
theorem dX8_canThrowGoat_90 : decode cX8_canThrowGoat 90 = .ok (.aload_n 0, 1) := by decide +kernel
theorem dX8_canThrowGoat_91 : decode cX8_canThrowGoat 91 = .ok (.getfield 30, 3) := by decide +kernel
theorem dX8_canThrowGoat_94 : decode cX8_canThrowGoat 94 = .ok (.getfield 126, 3) := by decide +kernel
theorem dX8_canThrowGoat_97 : decode cX8_canThrowGoat 97 = .ok (.invokevirtual 241, 3) := by decide +kernel
theorem dX8_canThrowGoat_100 : decode cX8_canThrowGoat 100 = .ok (.ireturn, 1) := by decide +kernel
theorem dX8_walk_0 : decode cX8_walk 0 = .ok (.aload_n 0, 1) := by decide +kernel
theorem dX8_walk_1 : decode cX8_walk 1 = .ok (.iload_n 1, 1) := by decide +kernel
theorem dX8_walk_2 : decode cX8_walk 2 = .ok (.invokevirtual 146, 3) := by decide +kernel
theorem dX8_walk_5 : decode cX8_walk 5 = .ok (.aload_n 0, 1) := by decide +kernel
theorem dX8_walk_6 : decode cX8_walk 6 = .ok (.iload_n 1, 1) := by decide +kernel
theorem dX8_walk_7 : decode cX8_walk 7 = .ok (.iload_n 2, 1) := by decide +kernel
theorem dX8_walk_8 : decode cX8_walk 8 = .ok (.iload_n 3, 1) := by decide +kernel
theorem dX8_walk_9 : decode cX8_walk 9 = .ok (.iload 4, 2) := by decide +kernel
theorem dX8_walk_11 : decode cX8_walk 11 = .ok (.invokevirtual 259, 3) := by decide +kernel
theorem dX8_walk_14 : decode cX8_walk 14 = .ok (.ifCond .ne 18, 3) := by decide +kernel
theorem dX8_walk_17 : decode cX8_walk 17 = .ok (.aload_n 0, 1) := by decide +kernel
theorem dX8_walk_18 : decode cX8_walk 18 = .ok (.getfield 40, 3) := by decide +kernel
theorem dX8_walk_21 : decode cX8_walk 21 = .ok (.getfield 100, 3) := by decide +kernel
theorem dX8_walk_24 : decode cX8_walk 24 = .ok (.iconst 1, 1) := by decide +kernel
theorem dX8_walk_25 : decode cX8_walk 25 = .ok (.dup2, 1) := by decide +kernel
theorem dX8_walk_26 : decode cX8_walk 26 = .ok (.iaload, 1) := by decide +kernel
theorem dX8_walk_27 : decode cX8_walk 27 = .ok (.iconst 1, 1) := by decide +kernel
theorem dX8_walk_28 : decode cX8_walk 28 = .ok (.iadd, 1) := by decide +kernel
theorem dX8_walk_29 : decode cX8_walk 29 = .ok (.iastore, 1) := by decide +kernel
theorem dX8_walk_30 : decode cX8_walk 30 = .ok (.iconst (-1), 1) := by decide +kernel
theorem dX8_walk_31 : decode cX8_walk 31 = .ok (.ireturn, 1) := by decide +kernel
theorem dX8_walk_32 : decode cX8_walk 32 = .ok (.aload_n 0, 1) := by decide +kernel
theorem dX8_walk_33 : decode cX8_walk 33 = .ok (.getfield 40, 3) := by decide +kernel
theorem dX8_walk_36 : decode cX8_walk 36 = .ok (.getfield 116, 3) := by decide +kernel
theorem dX8_walk_39 : decode cX8_walk 39 = .ok (.getfield 149, 3) := by decide +kernel
theorem dX8_walk_42 : decode cX8_walk 42 = .ok (.iload_n 1, 1) := by decide +kernel
theorem dX8_walk_43 : decode cX8_walk 43 = .ok (.iconst 4, 1) := by decide +kernel
theorem dX8_walk_44 : decode cX8_walk 44 = .ok (.imul, 1) := by decide +kernel
theorem dX8_walk_45 : decode cX8_walk 45 = .ok (.iload_n 2, 1) := by decide +kernel
theorem dX8_walk_46 : decode cX8_walk 46 = .ok (.iadd, 1) := by decide +kernel
theorem dX8_walk_47 : decode cX8_walk 47 = .ok (.dup2, 1) := by decide +kernel
theorem dX8_walk_48 : decode cX8_walk 48 = .ok (.iaload, 1) := by decide +kernel
theorem dX8_walk_49 : decode cX8_walk 49 = .ok (.iload 4, 2) := by decide +kernel
theorem dX8_walk_51 : decode cX8_walk 51 = .ok (.isub, 1) := by decide +kernel
theorem dX8_walk_52 : decode cX8_walk 52 = .ok (.iastore, 1) := by decide +kernel
theorem dX8_walk_53 : decode cX8_walk 53 = .ok (.aload_n 0, 1) := by decide +kernel
theorem dX8_walk_54 : decode cX8_walk 54 = .ok (.getfield 40, 3) := by decide +kernel
theorem dX8_walk_57 : decode cX8_walk 57 = .ok (.getfield 116, 3) := by decide +kernel
theorem dX8_walk_60 : decode cX8_walk 60 = .ok (.getfield 149, 3) := by decide +kernel
theorem dX8_walk_63 : decode cX8_walk 63 = .ok (.iload_n 1, 1) := by decide +kernel
theorem dX8_walk_64 : decode cX8_walk 64 = .ok (.iconst 4, 1) := by decide +kernel
theorem dX8_walk_65 : decode cX8_walk 65 = .ok (.imul, 1) := by decide +kernel
theorem dX8_walk_66 : decode cX8_walk 66 = .ok (.iload_n 3, 1) := by decide +kernel
theorem dX8_walk_67 : decode cX8_walk 67 = .ok (.iadd, 1) := by decide +kernel
theorem dX8_walk_68 : decode cX8_walk 68 = .ok (.dup2, 1) := by decide +kernel
theorem dX8_walk_69 : decode cX8_walk 69 = .ok (.iaload, 1) := by decide +kernel
theorem dX8_walk_70 : decode cX8_walk 70 = .ok (.iload 4, 2) := by decide +kernel
theorem dX8_walk_72 : decode cX8_walk 72 = .ok (.iadd, 1) := by decide +kernel
theorem dX8_walk_73 : decode cX8_walk 73 = .ok (.iastore, 1) := by decide +kernel
theorem dX8_walk_74 : decode cX8_walk 74 = .ok (.aload_n 0, 1) := by decide +kernel
theorem dX8_walk_75 : decode cX8_walk 75 = .ok (.getfield 40, 3) := by decide +kernel
theorem dX8_walk_78 : decode cX8_walk 78 = .ok (.iconst 4, 1) := by decide +kernel
theorem dX8_walk_79 : decode cX8_walk 79 = .ok (.iload_n 1, 1) := by decide +kernel
theorem dX8_walk_80 : decode cX8_walk 80 = .ok (.iload_n 2, 1) := by decide +kernel
theorem dX8_walk_81 : decode cX8_walk 81 = .ok (.iload_n 3, 1) := by decide +kernel
theorem dX8_walk_82 : decode cX8_walk 82 = .ok (.iload 4, 2) := by decide +kernel
theorem dX8_walk_84 : decode cX8_walk 84 = .ok (.invokevirtual 252, 3) := by decide +kernel
theorem dX8_walk_87 : decode cX8_walk 87 = .ok (.aload_n 0, 1) := by decide +kernel
theorem dX8_walk_88 : decode cX8_walk 88 = .ok (.getfield 40, 3) := by decide +kernel
theorem dX8_walk_91 : decode cX8_walk 91 = .ok (.getfield 116, 3) := by decide +kernel
theorem dX8_walk_94 : decode cX8_walk 94 = .ok (.getfield 149, 3) := by decide +kernel
theorem dX8_walk_97 : decode cX8_walk 97 = .ok (.iload_n 1, 1) := by decide +kernel
theorem dX8_walk_98 : decode cX8_walk 98 = .ok (.iconst 4, 1) := by decide +kernel
theorem dX8_walk_99 : decode cX8_walk 99 = .ok (.imul, 1) := by decide +kernel
theorem dX8_walk_100 : decode cX8_walk 100 = .ok (.iload_n 3, 1) := by decide +kernel
theorem dX8_walk_101 : decode cX8_walk 101 = .ok (.iadd, 1) := by decide +kernel
theorem dX8_walk_102 : decode cX8_walk 102 = .ok (.iaload, 1) := by decide +kernel
theorem dX8_walk_103 : decode cX8_walk 103 = .ok (.ireturn, 1) := by decide +kernel
theorem dX8_canWalk_0 : decode cX8_canWalk 0 = .ok (.iload_n 2, 1) := by decide +kernel
theorem dX8_canWalk_1 : decode cX8_canWalk 1 = .ok (.ifCond .lt 22, 3) := by decide +kernel
theorem dX8_canWalk_4 : decode cX8_canWalk 4 = .ok (.iload_n 2, 1) := by decide +kernel
theorem dX8_canWalk_5 : decode cX8_canWalk 5 = .ok (.iconst 4, 1) := by decide +kernel
theorem dX8_canWalk_6 : decode cX8_canWalk 6 = .ok (.if_icmp .ge 17, 3) := by decide +kernel
theorem dX8_canWalk_9 : decode cX8_canWalk 9 = .ok (.iload_n 3, 1) := by decide +kernel
theorem dX8_canWalk_10 : decode cX8_canWalk 10 = .ok (.ifCond .lt 13, 3) := by decide +kernel
theorem dX8_canWalk_13 : decode cX8_canWalk 13 = .ok (.iload_n 3, 1) := by decide +kernel
theorem dX8_canWalk_14 : decode cX8_canWalk 14 = .ok (.iconst 4, 1) := by decide +kernel
theorem dX8_canWalk_15 : decode cX8_canWalk 15 = .ok (.if_icmp .ge 8, 3) := by decide +kernel
theorem dX8_canWalk_18 : decode cX8_canWalk 18 = .ok (.iload_n 2, 1) := by decide +kernel
theorem dX8_canWalk_19 : decode cX8_canWalk 19 = .ok (.iload_n 3, 1) := by decide +kernel
theorem dX8_canWalk_20 : decode cX8_canWalk 20 = .ok (.if_icmp .ne 5, 3) := by decide +kernel
theorem dX8_canWalk_23 : decode cX8_canWalk 23 = .ok (.iconst 0, 1) := by decide +kernel
theorem dX8_canWalk_24 : decode cX8_canWalk 24 = .ok (.ireturn, 1) := by decide +kernel
theorem dX8_canWalk_25 : decode cX8_canWalk 25 = .ok (.iload 4, 2) := by decide +kernel
theorem dX8_canWalk_27 : decode cX8_canWalk 27 = .ok (.iconst 1, 1) := by decide +kernel
theorem dX8_canWalk_28 : decode cX8_canWalk 28 = .ok (.if_icmp .lt 28, 3) := by decide +kernel
theorem dX8_canWalk_31 : decode cX8_canWalk 31 = .ok (.iload 4, 2) := by decide +kernel
theorem dX8_canWalk_33 : decode cX8_canWalk 33 = .ok (.aload_n 0, 1) := by decide +kernel
theorem dX8_canWalk_34 : decode cX8_canWalk 34 = .ok (.getfield 40, 3) := by decide +kernel
theorem dX8_canWalk_37 : decode cX8_canWalk 37 = .ok (.getfield 116, 3) := by decide +kernel
theorem dX8_canWalk_40 : decode cX8_canWalk 40 = .ok (.getfield 149, 3) := by decide +kernel
theorem dX8_canWalk_43 : decode cX8_canWalk 43 = .ok (.iload_n 1, 1) := by decide +kernel
theorem dX8_canWalk_44 : decode cX8_canWalk 44 = .ok (.iconst 4, 1) := by decide +kernel
theorem dX8_canWalk_45 : decode cX8_canWalk 45 = .ok (.imul, 1) := by decide +kernel
theorem dX8_canWalk_46 : decode cX8_canWalk 46 = .ok (.iload_n 2, 1) := by decide +kernel
theorem dX8_canWalk_47 : decode cX8_canWalk 47 = .ok (.iadd, 1) := by decide +kernel
theorem dX8_canWalk_48 : decode cX8_canWalk 48 = .ok (.iaload, 1) := by decide +kernel
theorem dX8_canWalk_49 : decode cX8_canWalk 49 = .ok (.if_icmp .gt 7, 3) := by decide +kernel
theorem dX8_canWalk_52 : decode cX8_canWalk 52 = .ok (.iconst 1, 1) := by decide +kernel
theorem dX8_canWalk_53 : decode cX8_canWalk 53 = .ok (.goto 4, 3) := by decide +kernel
theorem dX8_canWalk_56 : decode cX8_canWalk 56 = .ok (.iconst 0, 1) := by decide +kernel
theorem dX8_canWalk_57 : decode cX8_canWalk 57 = .ok (.ireturn, 1) := by decide +kernel
theorem dX8_undo_0 : decode cX8_undo 0 = .ok (.aload_n 0, 1) := by decide +kernel
theorem dX8_undo_1 : decode cX8_undo 1 = .ok (.getfield 40, 3) := by decide +kernel
theorem dX8_undo_4 : decode cX8_undo 4 = .ok (.getfield 132, 3) := by decide +kernel
theorem dX8_undo_7 : decode cX8_undo 7 = .ok (.ifCond .ne 5, 3) := by decide +kernel
theorem dX8_undo_10 : decode cX8_undo 10 = .ok (.iconst (-1), 1) := by decide +kernel
theorem dX8_undo_11 : decode cX8_undo 11 = .ok (.ireturn, 1) := by decide +kernel
theorem dX8_undo_12 : decode cX8_undo 12 = .ok (.aload_n 0, 1) := by decide +kernel
theorem dX8_undo_13 : decode cX8_undo 13 = .ok (.getfield 40, 3) := by decide +kernel
theorem dX8_undo_16 : decode cX8_undo 16 = .ok (.invokevirtual 263, 3) := by decide +kernel
theorem dX8_undo_19 : decode cX8_undo 19 = .ok (.aload_n 0, 1) := by decide +kernel
theorem dX8_undo_20 : decode cX8_undo 20 = .ok (.getfield 40, 3) := by decide +kernel
theorem dX8_undo_23 : decode cX8_undo 23 = .ok (.getfield 132, 3) := by decide +kernel
theorem dX8_undo_26 : decode cX8_undo 26 = .ok (.ireturn, 1) := by decide +kernel
theorem dX8_knock_0 : decode cX8_knock 0 = .ok (.iload_n 3, 1) := by decide +kernel
theorem dX8_knock_1 : decode cX8_knock 1 = .ok (.iconst 2, 1) := by decide +kernel
theorem dX8_knock_2 : decode cX8_knock 2 = .ok (.invokestatic 195, 3) := by decide +kernel
theorem dX8_knock_5 : decode cX8_knock 5 = .ok (.iload_n 1, 1) := by decide +kernel
theorem dX8_knock_6 : decode cX8_knock 6 = .ok (.iload_n 2, 1) := by decide +kernel
theorem dX8_knock_7 : decode cX8_knock 7 = .ok (.sipush 168, 3) := by decide +kernel
theorem dX8_knock_10 : decode cX8_knock 10 = .ok (.invokestatic 266, 3) := by decide +kernel
theorem dX8_knock_13 : decode cX8_knock 13 = .ok (.iload_n 1, 1) := by decide +kernel
theorem dX8_knock_14 : decode cX8_knock 14 = .ok (.istore 4, 2) := by decide +kernel
theorem dX8_knock_16 : decode cX8_knock 16 = .ok (.iload 4, 2) := by decide +kernel
theorem dX8_knock_18 : decode cX8_knock 18 = .ok (.iload_n 2, 1) := by decide +kernel
theorem dX8_knock_19 : decode cX8_knock 19 = .ok (.if_icmp .gt 60, 3) := by decide +kernel
theorem dX8_knock_22 : decode cX8_knock 22 = .ok (.aload_n 0, 1) := by decide +kernel
theorem dX8_knock_23 : decode cX8_knock 23 = .ok (.aload_n 0, 1) := by decide +kernel
theorem dX8_knock_24 : decode cX8_knock 24 = .ok (.getfield 40, 3) := by decide +kernel
theorem dX8_knock_27 : decode cX8_knock 27 = .ok (.getfield 116, 3) := by decide +kernel
theorem dX8_knock_30 : decode cX8_knock 30 = .ok (.iload 4, 2) := by decide +kernel
theorem dX8_knock_32 : decode cX8_knock 32 = .ok (.iconst 0, 1) := by decide +kernel
theorem dX8_knock_33 : decode cX8_knock 33 = .ok (.invokevirtual 244, 3) := by decide +kernel
theorem dX8_knock_36 : decode cX8_knock 36 = .ok (.aload_n 0, 1) := by decide +kernel
theorem dX8_knock_37 : decode cX8_knock 37 = .ok (.getfield 61, 3) := by decide +kernel
theorem dX8_knock_40 : decode cX8_knock 40 = .ok (.aload_n 0, 1) := by decide +kernel
theorem dX8_knock_41 : decode cX8_knock 41 = .ok (.getfield 40, 3) := by decide +kernel
theorem dX8_knock_44 : decode cX8_knock 44 = .ok (.getfield 116, 3) := by decide +kernel
theorem dX8_knock_47 : decode cX8_knock 47 = .ok (.getfield 117, 3) := by decide +kernel
theorem dX8_knock_50 : decode cX8_knock 50 = .ok (.invokevirtual 270, 3) := by decide +kernel
theorem dX8_knock_53 : decode cX8_knock 53 = .ok (.istore 5, 2) := by decide +kernel
theorem dX8_knock_55 : decode cX8_knock 55 = .ok (.iload 5, 2) := by decide +kernel
theorem dX8_knock_57 : decode cX8_knock 57 = .ok (.iconst (-1), 1) := by decide +kernel
theorem dX8_knock_58 : decode cX8_knock 58 = .ok (.if_icmp .eq 15, 3) := by decide +kernel
theorem dX8_knock_61 : decode cX8_knock 61 = .ok (.iload_n 3, 1) := by decide +kernel
theorem dX8_knock_62 : decode cX8_knock 62 = .ok (.ifCond .ne 8, 3) := by decide +kernel
theorem dX8_knock_65 : decode cX8_knock 65 = .ok (.iload 4, 2) := by decide +kernel
theorem dX8_knock_67 : decode cX8_knock 67 = .ok (.goto 5, 3) := by decide +kernel
theorem dX8_knock_70 : decode cX8_knock 70 = .ok (.iload 5, 2) := by decide +kernel
theorem dX8_knock_72 : decode cX8_knock 72 = .ok (.ireturn, 1) := by decide +kernel
theorem dX8_knock_73 : decode cX8_knock 73 = .ok (.iinc 4 1, 3) := by decide +kernel
theorem dX8_knock_76 : decode cX8_knock 76 = .ok (.goto (-60), 3) := by decide +kernel
theorem dX8_knock_79 : decode cX8_knock 79 = .ok (.iconst (-1), 1) := by decide +kernel
theorem dX8_knock_80 : decode cX8_knock 80 = .ok (.ireturn, 1) := by decide +kernel
theorem dX8_shade_0 : decode cX8_shade 0 = .ok (.aload_n 0, 1) := by decide +kernel
theorem dX8_shade_1 : decode cX8_shade 1 = .ok (.iload_n 1, 1) := by decide +kernel
theorem dX8_shade_2 : decode cX8_shade 2 = .ok (.invokevirtual 146, 3) := by decide +kernel
theorem dX8_shade_5 : decode cX8_shade 5 = .ok (.iload_n 2, 1) := by decide +kernel
theorem dX8_shade_6 : decode cX8_shade 6 = .ok (.iload_n 3, 1) := by decide +kernel
theorem dX8_shade_7 : decode cX8_shade 7 = .ok (.sipush 168, 3) := by decide +kernel
theorem dX8_shade_10 : decode cX8_shade 10 = .ok (.invokestatic 266, 3) := by decide +kernel
theorem dX8_shade_13 : decode cX8_shade 13 = .ok (.iconst 0, 1) := by decide +kernel
theorem dX8_shade_14 : decode cX8_shade 14 = .ok (.istore 4, 2) := by decide +kernel
theorem dX8_shade_16 : decode cX8_shade 16 = .ok (.iload_n 2, 1) := by decide +kernel
theorem dX8_shade_17 : decode cX8_shade 17 = .ok (.istore 5, 2) := by decide +kernel
theorem dX8_shade_19 : decode cX8_shade 19 = .ok (.iload 5, 2) := by decide +kernel
theorem dX8_shade_21 : decode cX8_shade 21 = .ok (.iload_n 3, 1) := by decide +kernel
theorem dX8_shade_22 : decode cX8_shade 22 = .ok (.if_icmp .gt 48, 3) := by decide +kernel
theorem dX8_shade_25 : decode cX8_shade 25 = .ok (.aload_n 0, 1) := by decide +kernel
theorem dX8_shade_26 : decode cX8_shade 26 = .ok (.aload_n 0, 1) := by decide +kernel
theorem dX8_shade_27 : decode cX8_shade 27 = .ok (.getfield 40, 3) := by decide +kernel
theorem dX8_shade_30 : decode cX8_shade 30 = .ok (.getfield 116, 3) := by decide +kernel
theorem dX8_shade_33 : decode cX8_shade 33 = .ok (.iload 5, 2) := by decide +kernel
theorem dX8_shade_35 : decode cX8_shade 35 = .ok (.iconst 0, 1) := by decide +kernel
theorem dX8_shade_36 : decode cX8_shade 36 = .ok (.invokevirtual 244, 3) := by decide +kernel
theorem dX8_shade_39 : decode cX8_shade 39 = .ok (.aload_n 0, 1) := by decide +kernel
theorem dX8_shade_40 : decode cX8_shade 40 = .ok (.getfield 61, 3) := by decide +kernel
theorem dX8_shade_43 : decode cX8_shade 43 = .ok (.iload_n 1, 1) := by decide +kernel
theorem dX8_shade_44 : decode cX8_shade 44 = .ok (.aload_n 0, 1) := by decide +kernel
theorem dX8_shade_45 : decode cX8_shade 45 = .ok (.getfield 40, 3) := by decide +kernel
theorem dX8_shade_48 : decode cX8_shade 48 = .ok (.getfield 116, 3) := by decide +kernel
theorem dX8_shade_51 : decode cX8_shade 51 = .ok (.getfield 117, 3) := by decide +kernel
theorem dX8_shade_54 : decode cX8_shade 54 = .ok (.invokevirtual 248, 3) := by decide +kernel
theorem dX8_shade_57 : decode cX8_shade 57 = .ok (.iconst (-1), 1) := by decide +kernel
theorem dX8_shade_58 : decode cX8_shade 58 = .ok (.if_icmp .eq 6, 3) := by decide +kernel
theorem dX8_shade_61 : decode cX8_shade 61 = .ok (.iinc 4 1, 3) := by decide +kernel
theorem dX8_shade_64 : decode cX8_shade 64 = .ok (.iinc 5 1, 3) := by decide +kernel
theorem dX8_shade_67 : decode cX8_shade 67 = .ok (.goto (-48), 3) := by decide +kernel
theorem dX8_shade_70 : decode cX8_shade 70 = .ok (.iload 4, 2) := by decide +kernel
theorem dX8_shade_72 : decode cX8_shade 72 = .ok (.ireturn, 1) := by decide +kernel
theorem dX8_wet_0 : decode cX8_wet 0 = .ok (.aload_n 0, 1) := by decide +kernel
theorem dX8_wet_1 : decode cX8_wet 1 = .ok (.iload_n 1, 1) := by decide +kernel
theorem dX8_wet_2 : decode cX8_wet 2 = .ok (.invokevirtual 146, 3) := by decide +kernel
theorem dX8_wet_5 : decode cX8_wet 5 = .ok (.iload_n 2, 1) := by decide +kernel
theorem dX8_wet_6 : decode cX8_wet 6 = .ok (.iload_n 3, 1) := by decide +kernel
theorem dX8_wet_7 : decode cX8_wet 7 = .ok (.sipush 168, 3) := by decide +kernel
theorem dX8_wet_10 : decode cX8_wet 10 = .ok (.invokestatic 266, 3) := by decide +kernel
theorem dX8_wet_13 : decode cX8_wet 13 = .ok (.aload_n 0, 1) := by decide +kernel
theorem dX8_wet_14 : decode cX8_wet 14 = .ok (.iconst 0, 1) := by decide +kernel
theorem dX8_wet_15 : decode cX8_wet 15 = .ok (.invokevirtual 273, 3) := by decide +kernel
theorem dX8_wet_18 : decode cX8_wet 18 = .ok (.iload_n 2, 1) := by decide +kernel
theorem dX8_wet_19 : decode cX8_wet 19 = .ok (.istore 4, 2) := by decide +kernel
theorem dX8_wet_21 : decode cX8_wet 21 = .ok (.iload 4, 2) := by decide +kernel
theorem dX8_wet_23 : decode cX8_wet 23 = .ok (.iload_n 3, 1) := by decide +kernel
theorem dX8_wet_24 : decode cX8_wet 24 = .ok (.if_icmp .gt 60, 3) := by decide +kernel
theorem dX8_wet_27 : decode cX8_wet 27 = .ok (.aload_n 0, 1) := by decide +kernel
theorem dX8_wet_28 : decode cX8_wet 28 = .ok (.aload_n 0, 1) := by decide +kernel
theorem dX8_wet_29 : decode cX8_wet 29 = .ok (.getfield 40, 3) := by decide +kernel
theorem dX8_wet_32 : decode cX8_wet 32 = .ok (.getfield 116, 3) := by decide +kernel
theorem dX8_wet_35 : decode cX8_wet 35 = .ok (.iload 4, 2) := by decide +kernel
theorem dX8_wet_37 : decode cX8_wet 37 = .ok (.iconst 0, 1) := by decide +kernel
theorem dX8_wet_38 : decode cX8_wet 38 = .ok (.invokevirtual 244, 3) := by decide +kernel
theorem dX8_wet_41 : decode cX8_wet 41 = .ok (.aload_n 0, 1) := by decide +kernel
theorem dX8_wet_42 : decode cX8_wet 42 = .ok (.getfield 61, 3) := by decide +kernel
theorem dX8_wet_45 : decode cX8_wet 45 = .ok (.iload_n 1, 1) := by decide +kernel
theorem dX8_wet_46 : decode cX8_wet 46 = .ok (.aload_n 0, 1) := by decide +kernel
theorem dX8_wet_47 : decode cX8_wet 47 = .ok (.getfield 40, 3) := by decide +kernel
theorem dX8_wet_50 : decode cX8_wet 50 = .ok (.getfield 116, 3) := by decide +kernel
theorem dX8_wet_53 : decode cX8_wet 53 = .ok (.getfield 117, 3) := by decide +kernel
theorem dX8_wet_56 : decode cX8_wet 56 = .ok (.invokevirtual 248, 3) := by decide +kernel
theorem dX8_wet_59 : decode cX8_wet 59 = .ok (.istore 5, 2) := by decide +kernel
theorem dX8_wet_61 : decode cX8_wet 61 = .ok (.iload 5, 2) := by decide +kernel
theorem dX8_wet_63 : decode cX8_wet 63 = .ok (.iconst (-1), 1) := by decide +kernel
theorem dX8_wet_64 : decode cX8_wet 64 = .ok (.if_icmp .eq 14, 3) := by decide +kernel
theorem dX8_wet_67 : decode cX8_wet 67 = .ok (.aload_n 0, 1) := by decide +kernel
theorem dX8_wet_68 : decode cX8_wet 68 = .ok (.getfield 72, 3) := by decide +kernel
theorem dX8_wet_71 : decode cX8_wet 71 = .ok (.iload 5, 2) := by decide +kernel
theorem dX8_wet_73 : decode cX8_wet 73 = .ok (.dup2, 1) := by decide +kernel
theorem dX8_wet_74 : decode cX8_wet 74 = .ok (.iaload, 1) := by decide +kernel
theorem dX8_wet_75 : decode cX8_wet 75 = .ok (.iconst 1, 1) := by decide +kernel
theorem dX8_wet_76 : decode cX8_wet 76 = .ok (.iadd, 1) := by decide +kernel
theorem dX8_wet_77 : decode cX8_wet 77 = .ok (.iastore, 1) := by decide +kernel
theorem dX8_wet_78 : decode cX8_wet 78 = .ok (.iinc 4 1, 3) := by decide +kernel
theorem dX8_wet_81 : decode cX8_wet 81 = .ok (.goto (-60), 3) := by decide +kernel
theorem dX8_wet_84 : decode cX8_wet 84 = .ok (.aload_n 0, 1) := by decide +kernel
theorem dX8_wet_85 : decode cX8_wet 85 = .ok (.invokevirtual 276, 3) := by decide +kernel
theorem dX8_wet_88 : decode cX8_wet 88 = .ok (.ireturn, 1) := by decide +kernel
theorem dX8_clearTally_0 : decode cX8_clearTally 0 = .ok (.iconst 0, 1) := by decide +kernel
theorem dX8_clearTally_1 : decode cX8_clearTally 1 = .ok (.istore_n 2, 1) := by decide +kernel
theorem dX8_clearTally_2 : decode cX8_clearTally 2 = .ok (.iload_n 2, 1) := by decide +kernel
theorem dX8_clearTally_3 : decode cX8_clearTally 3 = .ok (.bipush 6, 2) := by decide +kernel
theorem dX8_clearTally_5 : decode cX8_clearTally 5 = .ok (.if_icmp .ge 16, 3) := by decide +kernel
theorem dX8_clearTally_8 : decode cX8_clearTally 8 = .ok (.aload_n 0, 1) := by decide +kernel
theorem dX8_clearTally_9 : decode cX8_clearTally 9 = .ok (.getfield 72, 3) := by decide +kernel
theorem dX8_clearTally_12 : decode cX8_clearTally 12 = .ok (.iload_n 2, 1) := by decide +kernel
theorem dX8_clearTally_13 : decode cX8_clearTally 13 = .ok (.iload_n 1, 1) := by decide +kernel
theorem dX8_clearTally_14 : decode cX8_clearTally 14 = .ok (.iastore, 1) := by decide +kernel
theorem dX8_clearTally_15 : decode cX8_clearTally 15 = .ok (.iinc 2 1, 3) := by decide +kernel
theorem dX8_clearTally_18 : decode cX8_clearTally 18 = .ok (.goto (-16), 3) := by decide +kernel
theorem dX8_clearTally_21 : decode cX8_clearTally 21 = .ok (.return_, 1) := by decide +kernel
theorem dX8_mostInTally_0 : decode cX8_mostInTally 0 = .ok (.iconst 0, 1) := by decide +kernel
theorem dX8_mostInTally_1 : decode cX8_mostInTally 1 = .ok (.istore_n 1, 1) := by decide +kernel
theorem dX8_mostInTally_2 : decode cX8_mostInTally 2 = .ok (.iconst (-1), 1) := by decide +kernel
theorem dX8_mostInTally_3 : decode cX8_mostInTally 3 = .ok (.istore_n 2, 1) := by decide +kernel
theorem dX8_mostInTally_4 : decode cX8_mostInTally 4 = .ok (.iconst 0, 1) := by decide +kernel
theorem dX8_mostInTally_5 : decode cX8_mostInTally 5 = .ok (.istore_n 3, 1) := by decide +kernel
theorem dX8_mostInTally_6 : decode cX8_mostInTally 6 = .ok (.iload_n 3, 1) := by decide +kernel
theorem dX8_mostInTally_7 : decode cX8_mostInTally 7 = .ok (.bipush 6, 2) := by decide +kernel
theorem dX8_mostInTally_9 : decode cX8_mostInTally 9 = .ok (.if_icmp .ge 28, 3) := by decide +kernel
theorem dX8_mostInTally_12 : decode cX8_mostInTally 12 = .ok (.aload_n 0, 1) := by decide +kernel
theorem dX8_mostInTally_13 : decode cX8_mostInTally 13 = .ok (.getfield 72, 3) := by decide +kernel
theorem dX8_mostInTally_16 : decode cX8_mostInTally 16 = .ok (.iload_n 3, 1) := by decide +kernel
theorem dX8_mostInTally_17 : decode cX8_mostInTally 17 = .ok (.iaload, 1) := by decide +kernel
theorem dX8_mostInTally_18 : decode cX8_mostInTally 18 = .ok (.iload_n 1, 1) := by decide +kernel
theorem dX8_mostInTally_19 : decode cX8_mostInTally 19 = .ok (.if_icmp .le 12, 3) := by decide +kernel
theorem dX8_mostInTally_22 : decode cX8_mostInTally 22 = .ok (.aload_n 0, 1) := by decide +kernel
theorem dX8_mostInTally_23 : decode cX8_mostInTally 23 = .ok (.getfield 72, 3) := by decide +kernel
theorem dX8_mostInTally_26 : decode cX8_mostInTally 26 = .ok (.iload_n 3, 1) := by decide +kernel
theorem dX8_mostInTally_27 : decode cX8_mostInTally 27 = .ok (.iaload, 1) := by decide +kernel
theorem dX8_mostInTally_28 : decode cX8_mostInTally 28 = .ok (.istore_n 1, 1) := by decide +kernel
theorem dX8_mostInTally_29 : decode cX8_mostInTally 29 = .ok (.iload_n 3, 1) := by decide +kernel
theorem dX8_mostInTally_30 : decode cX8_mostInTally 30 = .ok (.istore_n 2, 1) := by decide +kernel
theorem dX8_mostInTally_31 : decode cX8_mostInTally 31 = .ok (.iinc 3 1, 3) := by decide +kernel
theorem dX8_mostInTally_34 : decode cX8_mostInTally 34 = .ok (.goto (-28), 3) := by decide +kernel
theorem dX8_mostInTally_37 : decode cX8_mostInTally 37 = .ok (.iload_n 2, 1) := by decide +kernel
theorem dX8_mostInTally_38 : decode cX8_mostInTally 38 = .ok (.ireturn, 1) := by decide +kernel
theorem dX8_winds_0 : decode cX8_winds 0 = .ok (.aload_n 0, 1) := by decide +kernel
theorem dX8_winds_1 : decode cX8_winds 1 = .ok (.iload_n 1, 1) := by decide +kernel
theorem dX8_winds_2 : decode cX8_winds 2 = .ok (.invokevirtual 146, 3) := by decide +kernel
theorem dX8_winds_5 : decode cX8_winds 5 = .ok (.aload_n 0, 1) := by decide +kernel
theorem dX8_winds_6 : decode cX8_winds 6 = .ok (.iload_n 2, 1) := by decide +kernel
theorem dX8_winds_7 : decode cX8_winds 7 = .ok (.invokevirtual 146, 3) := by decide +kernel
theorem dX8_winds_10 : decode cX8_winds 10 = .ok (.iload_n 3, 1) := by decide +kernel
theorem dX8_winds_11 : decode cX8_winds 11 = .ok (.iload 4, 2) := by decide +kernel
theorem dX8_winds_13 : decode cX8_winds 13 = .ok (.sipush 168, 3) := by decide +kernel
theorem dX8_winds_16 : decode cX8_winds 16 = .ok (.invokestatic 266, 3) := by decide +kernel
theorem dX8_winds_19 : decode cX8_winds 19 = .ok (.iload_n 1, 1) := by decide +kernel
theorem dX8_winds_20 : decode cX8_winds 20 = .ok (.iload_n 2, 1) := by decide +kernel
theorem dX8_winds_21 : decode cX8_winds 21 = .ok (.invokestatic 227, 3) := by decide +kernel
theorem dX8_winds_24 : decode cX8_winds 24 = .ok (.iconst 0, 1) := by decide +kernel
theorem dX8_winds_25 : decode cX8_winds 25 = .ok (.istore 5, 2) := by decide +kernel
theorem dX8_winds_27 : decode cX8_winds 27 = .ok (.iconst 0, 1) := by decide +kernel
theorem dX8_winds_28 : decode cX8_winds 28 = .ok (.istore 6, 2) := by decide +kernel
theorem dX8_winds_30 : decode cX8_winds 30 = .ok (.iload_n 3, 1) := by decide +kernel
theorem dX8_winds_31 : decode cX8_winds 31 = .ok (.istore 7, 2) := by decide +kernel
theorem dX8_winds_33 : decode cX8_winds 33 = .ok (.iload 7, 2) := by decide +kernel
theorem dX8_winds_35 : decode cX8_winds 35 = .ok (.iload 4, 2) := by decide +kernel
theorem dX8_winds_37 : decode cX8_winds 37 = .ok (.if_icmp .gt 136, 3) := by decide +kernel
theorem dX8_winds_40 : decode cX8_winds 40 = .ok (.aload_n 0, 1) := by decide +kernel
theorem dX8_winds_41 : decode cX8_winds 41 = .ok (.getfield 61, 3) := by decide +kernel
theorem dX8_winds_44 : decode cX8_winds 44 = .ok (.aload_n 0, 1) := by decide +kernel
theorem dX8_winds_45 : decode cX8_winds 45 = .ok (.getfield 30, 3) := by decide +kernel
theorem dX8_winds_48 : decode cX8_winds 48 = .ok (.aload_n 0, 1) := by decide +kernel
theorem dX8_winds_49 : decode cX8_winds 49 = .ok (.getfield 40, 3) := by decide +kernel
theorem dX8_winds_52 : decode cX8_winds 52 = .ok (.getfield 116, 3) := by decide +kernel
theorem dX8_winds_55 : decode cX8_winds 55 = .ok (.iload_n 1, 1) := by decide +kernel
theorem dX8_winds_56 : decode cX8_winds 56 = .ok (.iload_n 1, 1) := by decide +kernel
theorem dX8_winds_57 : decode cX8_winds 57 = .ok (.iload 7, 2) := by decide +kernel
theorem dX8_winds_59 : decode cX8_winds 59 = .ok (.iconst 0, 1) := by decide +kernel
theorem dX8_winds_60 : decode cX8_winds 60 = .ok (.invokevirtual 205, 3) := by decide +kernel
theorem dX8_winds_63 : decode cX8_winds 63 = .ok (.aload_n 0, 1) := by decide +kernel
theorem dX8_winds_64 : decode cX8_winds 64 = .ok (.getfield 61, 3) := by decide +kernel
theorem dX8_winds_67 : decode cX8_winds 67 = .ok (.aload_n 0, 1) := by decide +kernel
theorem dX8_winds_68 : decode cX8_winds 68 = .ok (.getfield 30, 3) := by decide +kernel
theorem dX8_winds_71 : decode cX8_winds 71 = .ok (.aload_n 0, 1) := by decide +kernel
theorem dX8_winds_72 : decode cX8_winds 72 = .ok (.getfield 40, 3) := by decide +kernel
theorem dX8_winds_75 : decode cX8_winds 75 = .ok (.getfield 116, 3) := by decide +kernel
theorem dX8_winds_78 : decode cX8_winds 78 = .ok (.iload_n 2, 1) := by decide +kernel
theorem dX8_winds_79 : decode cX8_winds 79 = .ok (.iload_n 2, 1) := by decide +kernel
theorem dX8_winds_80 : decode cX8_winds 80 = .ok (.iload 7, 2) := by decide +kernel
theorem dX8_winds_82 : decode cX8_winds 82 = .ok (.iconst 0, 1) := by decide +kernel
theorem dX8_winds_83 : decode cX8_winds 83 = .ok (.invokevirtual 205, 3) := by decide +kernel
theorem dX8_winds_86 : decode cX8_winds 86 = .ok (.aload_n 0, 1) := by decide +kernel
theorem dX8_winds_87 : decode cX8_winds 87 = .ok (.getfield 61, 3) := by decide +kernel
theorem dX8_winds_90 : decode cX8_winds 90 = .ok (.getfield 209, 3) := by decide +kernel
theorem dX8_winds_93 : decode cX8_winds 93 = .ok (.iload_n 2, 1) := by decide +kernel
theorem dX8_winds_94 : decode cX8_winds 94 = .ok (.iaload, 1) := by decide +kernel
theorem dX8_winds_95 : decode cX8_winds 95 = .ok (.aload_n 0, 1) := by decide +kernel
theorem dX8_winds_96 : decode cX8_winds 96 = .ok (.getfield 61, 3) := by decide +kernel
theorem dX8_winds_99 : decode cX8_winds 99 = .ok (.getfield 209, 3) := by decide +kernel
theorem dX8_winds_102 : decode cX8_winds 102 = .ok (.iload_n 1, 1) := by decide +kernel
theorem dX8_winds_103 : decode cX8_winds 103 = .ok (.iaload, 1) := by decide +kernel
theorem dX8_winds_104 : decode cX8_winds 104 = .ok (.if_icmp .ge 7, 3) := by decide +kernel
theorem dX8_winds_107 : decode cX8_winds 107 = .ok (.iconst 1, 1) := by decide +kernel
theorem dX8_winds_108 : decode cX8_winds 108 = .ok (.goto 4, 3) := by decide +kernel
theorem dX8_winds_111 : decode cX8_winds 111 = .ok (.iconst 0, 1) := by decide +kernel
theorem dX8_winds_112 : decode cX8_winds 112 = .ok (.istore 8, 2) := by decide +kernel
theorem dX8_winds_114 : decode cX8_winds 114 = .ok (.iload 7, 2) := by decide +kernel
theorem dX8_winds_116 : decode cX8_winds 116 = .ok (.iload_n 3, 1) := by decide +kernel
theorem dX8_winds_117 : decode cX8_winds 117 = .ok (.if_icmp .le 46, 3) := by decide +kernel
theorem dX8_winds_120 : decode cX8_winds 120 = .ok (.iload 8, 2) := by decide +kernel
theorem dX8_winds_122 : decode cX8_winds 122 = .ok (.iload 6, 2) := by decide +kernel
theorem dX8_winds_124 : decode cX8_winds 124 = .ok (.if_icmp .eq 39, 3) := by decide +kernel
theorem dX8_winds_127 : decode cX8_winds 127 = .ok (.aload_n 0, 1) := by decide +kernel
theorem dX8_winds_128 : decode cX8_winds 128 = .ok (.getfield 61, 3) := by decide +kernel
theorem dX8_winds_131 : decode cX8_winds 131 = .ok (.getfield 212, 3) := by decide +kernel
theorem dX8_winds_134 : decode cX8_winds 134 = .ok (.iload_n 2, 1) := by decide +kernel
theorem dX8_winds_135 : decode cX8_winds 135 = .ok (.iaload, 1) := by decide +kernel
theorem dX8_winds_136 : decode cX8_winds 136 = .ok (.aload_n 0, 1) := by decide +kernel
theorem dX8_winds_137 : decode cX8_winds 137 = .ok (.getfield 61, 3) := by decide +kernel
theorem dX8_winds_140 : decode cX8_winds 140 = .ok (.getfield 212, 3) := by decide +kernel
theorem dX8_winds_143 : decode cX8_winds 143 = .ok (.iload_n 1, 1) := by decide +kernel
theorem dX8_winds_144 : decode cX8_winds 144 = .ok (.iaload, 1) := by decide +kernel
theorem dX8_winds_145 : decode cX8_winds 145 = .ok (.if_icmp .le 18, 3) := by decide +kernel
theorem dX8_winds_148 : decode cX8_winds 148 = .ok (.iload 5, 2) := by decide +kernel
theorem dX8_winds_150 : decode cX8_winds 150 = .ok (.iload 6, 2) := by decide +kernel
theorem dX8_winds_152 : decode cX8_winds 152 = .ok (.ifCond .eq 7, 3) := by decide +kernel
theorem dX8_winds_155 : decode cX8_winds 155 = .ok (.iconst (-1), 1) := by decide +kernel
theorem dX8_winds_156 : decode cX8_winds 156 = .ok (.goto 4, 3) := by decide +kernel
theorem dX8_winds_159 : decode cX8_winds 159 = .ok (.iconst 1, 1) := by decide +kernel
theorem dX8_winds_160 : decode cX8_winds 160 = .ok (.iadd, 1) := by decide +kernel
theorem dX8_winds_161 : decode cX8_winds 161 = .ok (.istore 5, 2) := by decide +kernel
theorem dX8_winds_163 : decode cX8_winds 163 = .ok (.iload 8, 2) := by decide +kernel
theorem dX8_winds_165 : decode cX8_winds 165 = .ok (.istore 6, 2) := by decide +kernel
theorem dX8_winds_167 : decode cX8_winds 167 = .ok (.iinc 7 1, 3) := by decide +kernel
theorem dX8_winds_170 : decode cX8_winds 170 = .ok (.goto (-137), 3) := by decide +kernel
theorem dX8_winds_173 : decode cX8_winds 173 = .ok (.iload 5, 2) := by decide +kernel
theorem dX8_winds_175 : decode cX8_winds 175 = .ok (.ireturn, 1) := by decide +kernel
theorem dX8_least_0 : decode cX8_least 0 = .ok (.iload_n 1, 1) := by decide +kernel
theorem dX8_least_1 : decode cX8_least 1 = .ok (.iload_n 2, 1) := by decide +kernel
theorem dX8_least_2 : decode cX8_least 2 = .ok (.bipush 24, 2) := by decide +kernel
theorem dX8_least_4 : decode cX8_least 4 = .ok (.invokestatic 266, 3) := by decide +kernel
theorem dX8_least_7 : decode cX8_least 7 = .ok (.iload_n 3, 1) := by decide +kernel
theorem dX8_least_8 : decode cX8_least 8 = .ok (.ifCond .lt 8, 3) := by decide +kernel
theorem dX8_least_11 : decode cX8_least 11 = .ok (.iload_n 3, 1) := by decide +kernel
theorem dX8_least_12 : decode cX8_least 12 = .ok (.iconst 4, 1) := by decide +kernel
theorem dX8_least_13 : decode cX8_least 13 = .ok (.if_icmp .le 14, 3) := by decide +kernel
theorem dX8_least_16 : decode cX8_least 16 = .ok (.new 86, 3) := by decide +kernel
theorem dX8_least_19 : decode cX8_least 19 = .ok (.dup, 1) := by decide +kernel
theorem dX8_least_20 : decode cX8_least 20 = .ok (.ldc_w 280, 3) := by decide +kernel
theorem dX8_least_23 : decode cX8_least 23 = .ok (.invokespecial 90, 3) := by decide +kernel
theorem dX8_least_26 : decode cX8_least 26 = .ok (.athrow, 1) := by decide +kernel
theorem dX8_least_27 : decode cX8_least 27 = .ok (.aload_n 0, 1) := by decide +kernel
theorem dX8_least_28 : decode cX8_least 28 = .ok (.getfield 40, 3) := by decide +kernel
theorem dX8_least_31 : decode cX8_least 31 = .ok (.getfield 116, 3) := by decide +kernel
theorem dX8_least_34 : decode cX8_least 34 = .ok (.getfield 117, 3) := by decide +kernel
theorem dX8_least_37 : decode cX8_least 37 = .ok (.iconst 4, 1) := by decide +kernel
theorem dX8_least_38 : decode cX8_least 38 = .ok (.if_icmp .le 6, 3) := by decide +kernel
theorem dX8_least_41 : decode cX8_least 41 = .ok (.bipush (-2), 2) := by decide +kernel
theorem dX8_least_43 : decode cX8_least 43 = .ok (.ireturn, 1) := by decide +kernel
theorem dX8_least_44 : decode cX8_least 44 = .ok (.aload_n 0, 1) := by decide +kernel
theorem dX8_least_45 : decode cX8_least 45 = .ok (.getfield 54, 3) := by decide +kernel
theorem dX8_least_48 : decode cX8_least 48 = .ok (.aload_n 0, 1) := by decide +kernel
theorem dX8_least_49 : decode cX8_least 49 = .ok (.getfield 40, 3) := by decide +kernel
theorem dX8_least_52 : decode cX8_least 52 = .ok (.getfield 116, 3) := by decide +kernel
theorem dX8_least_55 : decode cX8_least 55 = .ok (.invokevirtual 282, 3) := by decide +kernel
theorem dX8_least_58 : decode cX8_least 58 = .ok (.aload_n 0, 1) := by decide +kernel
theorem dX8_least_59 : decode cX8_least 59 = .ok (.getfield 68, 3) := by decide +kernel
theorem dX8_least_62 : decode cX8_least 62 = .ok (.invokevirtual 285, 3) := by decide +kernel
theorem dX8_least_65 : decode cX8_least 65 = .ok (.iload_n 1, 1) := by decide +kernel
theorem dX8_least_66 : decode cX8_least 66 = .ok (.istore 5, 2) := by decide +kernel
theorem dX8_least_68 : decode cX8_least 68 = .ok (.iload 5, 2) := by decide +kernel
theorem dX8_least_70 : decode cX8_least 70 = .ok (.iload_n 2, 1) := by decide +kernel
theorem dX8_least_71 : decode cX8_least 71 = .ok (.if_icmp .gt 63, 3) := by decide +kernel
theorem dX8_least_74 : decode cX8_least 74 = .ok (.iconst 0, 1) := by decide +kernel
theorem dX8_least_75 : decode cX8_least 75 = .ok (.istore 6, 2) := by decide +kernel
theorem dX8_least_77 : decode cX8_least 77 = .ok (.iload 6, 2) := by decide +kernel
theorem dX8_least_79 : decode cX8_least 79 = .ok (.aload_n 0, 1) := by decide +kernel
theorem dX8_least_80 : decode cX8_least 80 = .ok (.getfield 54, 3) := by decide +kernel
theorem dX8_least_83 : decode cX8_least 83 = .ok (.getfield 117, 3) := by decide +kernel
theorem dX8_least_86 : decode cX8_least 86 = .ok (.if_icmp .ge 18, 3) := by decide +kernel
theorem dX8_least_89 : decode cX8_least 89 = .ok (.aload_n 0, 1) := by decide +kernel
theorem dX8_least_90 : decode cX8_least 90 = .ok (.iload 6, 2) := by decide +kernel
theorem dX8_least_92 : decode cX8_least 92 = .ok (.iload_n 3, 1) := by decide +kernel
theorem dX8_least_93 : decode cX8_least 93 = .ok (.iload 5, 2) := by decide +kernel
theorem dX8_least_95 : decode cX8_least 95 = .ok (.invokevirtual 288, 3) := by decide +kernel
theorem dX8_least_98 : decode cX8_least 98 = .ok (.iinc 6 1, 3) := by decide +kernel
theorem dX8_least_101 : decode cX8_least 101 = .ok (.goto (-24), 3) := by decide +kernel
theorem dX8_least_104 : decode cX8_least 104 = .ok (.aload_n 0, 1) := by decide +kernel
theorem dX8_least_105 : decode cX8_least 105 = .ok (.getfield 68, 3) := by decide +kernel
theorem dX8_least_108 : decode cX8_least 108 = .ok (.aload_n 0, 1) := by decide +kernel
theorem dX8_least_109 : decode cX8_least 109 = .ok (.getfield 61, 3) := by decide +kernel
theorem dX8_least_112 : decode cX8_least 112 = .ok (.aload_n 0, 1) := by decide +kernel
theorem dX8_least_113 : decode cX8_least 113 = .ok (.getfield 54, 3) := by decide +kernel
theorem dX8_least_116 : decode cX8_least 116 = .ok (.getfield 117, 3) := by decide +kernel
theorem dX8_least_119 : decode cX8_least 119 = .ok (.iload 4, 2) := by decide +kernel
theorem dX8_least_121 : decode cX8_least 121 = .ok (.iload 5, 2) := by decide +kernel
theorem dX8_least_123 : decode cX8_least 123 = .ok (.iload_n 1, 1) := by decide +kernel
theorem dX8_least_124 : decode cX8_least 124 = .ok (.isub, 1) := by decide +kernel
theorem dX8_least_125 : decode cX8_least 125 = .ok (.invokevirtual 291, 3) := by decide +kernel
theorem dX8_least_128 : decode cX8_least 128 = .ok (.iinc 5 1, 3) := by decide +kernel
theorem dX8_least_131 : decode cX8_least 131 = .ok (.goto (-63), 3) := by decide +kernel
theorem dX8_least_134 : decode cX8_least 134 = .ok (.aload_n 0, 1) := by decide +kernel
theorem dX8_least_135 : decode cX8_least 135 = .ok (.getfield 68, 3) := by decide +kernel
theorem dX8_least_138 : decode cX8_least 138 = .ok (.aload_n 0, 1) := by decide +kernel
theorem dX8_least_139 : decode cX8_least 139 = .ok (.getfield 40, 3) := by decide +kernel
theorem dX8_least_142 : decode cX8_least 142 = .ok (.getfield 116, 3) := by decide +kernel
theorem dX8_least_145 : decode cX8_least 145 = .ok (.iload_n 3, 1) := by decide +kernel
theorem dX8_least_146 : decode cX8_least 146 = .ok (.iload 4, 2) := by decide +kernel
theorem dX8_least_148 : decode cX8_least 148 = .ok (.ifCond .eq 13, 3) := by decide +kernel
theorem dX8_least_151 : decode cX8_least 151 = .ok (.aload_n 0, 1) := by decide +kernel
theorem dX8_least_152 : decode cX8_least 152 = .ok (.getfield 30, 3) := by decide +kernel
theorem dX8_least_155 : decode cX8_least 155 = .ok (.getfield 129, 3) := by decide +kernel
theorem dX8_least_158 : decode cX8_least 158 = .ok (.goto 4, 3) := by decide +kernel
theorem dX8_least_161 : decode cX8_least 161 = .ok (.iconst 0, 1) := by decide +kernel
theorem dX8_least_162 : decode cX8_least 162 = .ok (.invokevirtual 295, 3) := by decide +kernel
theorem dX8_least_165 : decode cX8_least 165 = .ok (.ireturn, 1) := by decide +kernel
theorem dX8_putRopes_0 : decode cX8_putRopes 0 = .ok (.aload_n 0, 1) := by decide +kernel
theorem dX8_putRopes_1 : decode cX8_putRopes 1 = .ok (.getfield 40, 3) := by decide +kernel
theorem dX8_putRopes_4 : decode cX8_putRopes 4 = .ok (.getfield 116, 3) := by decide +kernel
theorem dX8_putRopes_7 : decode cX8_putRopes 7 = .ok (.getfield 161, 3) := by decide +kernel
theorem dX8_putRopes_10 : decode cX8_putRopes 10 = .ok (.iload_n 1, 1) := by decide +kernel
theorem dX8_putRopes_11 : decode cX8_putRopes 11 = .ok (.iaload, 1) := by decide +kernel
theorem dX8_putRopes_12 : decode cX8_putRopes 12 = .ok (.istore 4, 2) := by decide +kernel
theorem dX8_putRopes_14 : decode cX8_putRopes 14 = .ok (.iload_n 2, 1) := by decide +kernel
theorem dX8_putRopes_15 : decode cX8_putRopes 15 = .ok (.ineg, 1) := by decide +kernel
theorem dX8_putRopes_16 : decode cX8_putRopes 16 = .ok (.istore 5, 2) := by decide +kernel
theorem dX8_putRopes_18 : decode cX8_putRopes 18 = .ok (.iload 5, 2) := by decide +kernel
theorem dX8_putRopes_20 : decode cX8_putRopes 20 = .ok (.iload_n 2, 1) := by decide +kernel
theorem dX8_putRopes_21 : decode cX8_putRopes 21 = .ok (.if_icmp .gt 47, 3) := by decide +kernel
theorem dX8_putRopes_24 : decode cX8_putRopes 24 = .ok (.aload_n 0, 1) := by decide +kernel
theorem dX8_putRopes_25 : decode cX8_putRopes 25 = .ok (.getfield 54, 3) := by decide +kernel
theorem dX8_putRopes_28 : decode cX8_putRopes 28 = .ok (.getfield 161, 3) := by decide +kernel
theorem dX8_putRopes_31 : decode cX8_putRopes 31 = .ok (.iload_n 1, 1) := by decide +kernel
theorem dX8_putRopes_32 : decode cX8_putRopes 32 = .ok (.iload 4, 2) := by decide +kernel
theorem dX8_putRopes_34 : decode cX8_putRopes 34 = .ok (.iload 5, 2) := by decide +kernel
theorem dX8_putRopes_36 : decode cX8_putRopes 36 = .ok (.iadd, 1) := by decide +kernel
theorem dX8_putRopes_37 : decode cX8_putRopes 37 = .ok (.iastore, 1) := by decide +kernel
theorem dX8_putRopes_38 : decode cX8_putRopes 38 = .ok (.aload_n 0, 1) := by decide +kernel
theorem dX8_putRopes_39 : decode cX8_putRopes 39 = .ok (.getfield 61, 3) := by decide +kernel
theorem dX8_putRopes_42 : decode cX8_putRopes 42 = .ok (.aload_n 0, 1) := by decide +kernel
theorem dX8_putRopes_43 : decode cX8_putRopes 43 = .ok (.getfield 30, 3) := by decide +kernel
theorem dX8_putRopes_46 : decode cX8_putRopes 46 = .ok (.aload_n 0, 1) := by decide +kernel
theorem dX8_putRopes_47 : decode cX8_putRopes 47 = .ok (.getfield 54, 3) := by decide +kernel
theorem dX8_putRopes_50 : decode cX8_putRopes 50 = .ok (.iload_n 1, 1) := by decide +kernel
theorem dX8_putRopes_51 : decode cX8_putRopes 51 = .ok (.iload_n 1, 1) := by decide +kernel
theorem dX8_putRopes_52 : decode cX8_putRopes 52 = .ok (.iload 5, 2) := by decide +kernel
theorem dX8_putRopes_54 : decode cX8_putRopes 54 = .ok (.invokestatic 299, 3) := by decide +kernel
theorem dX8_putRopes_57 : decode cX8_putRopes 57 = .ok (.iload_n 3, 1) := by decide +kernel
theorem dX8_putRopes_58 : decode cX8_putRopes 58 = .ok (.iconst 0, 1) := by decide +kernel
theorem dX8_putRopes_59 : decode cX8_putRopes 59 = .ok (.invokevirtual 205, 3) := by decide +kernel
theorem dX8_putRopes_62 : decode cX8_putRopes 62 = .ok (.iinc 5 1, 3) := by decide +kernel
theorem dX8_putRopes_65 : decode cX8_putRopes 65 = .ok (.goto (-47), 3) := by decide +kernel
theorem dX8_putRopes_68 : decode cX8_putRopes 68 = .ok (.aload_n 0, 1) := by decide +kernel
theorem dX8_putRopes_69 : decode cX8_putRopes 69 = .ok (.getfield 54, 3) := by decide +kernel
theorem dX8_putRopes_72 : decode cX8_putRopes 72 = .ok (.getfield 161, 3) := by decide +kernel
theorem dX8_putRopes_75 : decode cX8_putRopes 75 = .ok (.iload_n 1, 1) := by decide +kernel
theorem dX8_putRopes_76 : decode cX8_putRopes 76 = .ok (.iload 4, 2) := by decide +kernel
theorem dX8_putRopes_78 : decode cX8_putRopes 78 = .ok (.iastore, 1) := by decide +kernel
theorem dX8_putRopes_79 : decode cX8_putRopes 79 = .ok (.return_, 1) := by decide +kernel
theorem dX8_rope_0 : decode cX8_rope 0 = .ok (.aload_n 0, 1) := by decide +kernel
theorem dX8_rope_1 : decode cX8_rope 1 = .ok (.iload_n 1, 1) := by decide +kernel
theorem dX8_rope_2 : decode cX8_rope 2 = .ok (.invokevirtual 146, 3) := by decide +kernel
theorem dX8_rope_5 : decode cX8_rope 5 = .ok (.aload_n 0, 1) := by decide +kernel
theorem dX8_rope_6 : decode cX8_rope 6 = .ok (.getfield 68, 3) := by decide +kernel
theorem dX8_rope_9 : decode cX8_rope 9 = .ok (.getfield 302, 3) := by decide +kernel
theorem dX8_rope_12 : decode cX8_rope 12 = .ok (.ifCond .eq 8, 3) := by decide +kernel
theorem dX8_rope_15 : decode cX8_rope 15 = .ok (.iload_n 1, 1) := by decide +kernel
theorem dX8_rope_16 : decode cX8_rope 16 = .ok (.iconst 4, 1) := by decide +kernel
theorem dX8_rope_17 : decode cX8_rope 17 = .ok (.if_icmp .lt 14, 3) := by decide +kernel
theorem dX8_rope_20 : decode cX8_rope 20 = .ok (.new 141, 3) := by decide +kernel
theorem dX8_rope_23 : decode cX8_rope 23 = .ok (.dup, 1) := by decide +kernel
theorem dX8_rope_24 : decode cX8_rope 24 = .ok (.ldc_w 305, 3) := by decide +kernel
theorem dX8_rope_27 : decode cX8_rope 27 = .ok (.invokespecial 145, 3) := by decide +kernel
theorem dX8_rope_30 : decode cX8_rope 30 = .ok (.athrow, 1) := by decide +kernel
theorem dX8_rope_31 : decode cX8_rope 31 = .ok (.aload_n 0, 1) := by decide +kernel
theorem dX8_rope_32 : decode cX8_rope 32 = .ok (.getfield 68, 3) := by decide +kernel
theorem dX8_rope_35 : decode cX8_rope 35 = .ok (.getfield 307, 3) := by decide +kernel
theorem dX8_rope_38 : decode cX8_rope 38 = .ok (.iload_n 1, 1) := by decide +kernel
theorem dX8_rope_39 : decode cX8_rope 39 = .ok (.iaload, 1) := by decide +kernel
theorem dX8_rope_40 : decode cX8_rope 40 = .ok (.ireturn, 1) := by decide +kernel
theorem dX8_way_0 : decode cX8_way 0 = .ok (.aload_n 0, 1) := by decide +kernel
theorem dX8_way_1 : decode cX8_way 1 = .ok (.iload_n 1, 1) := by decide +kernel
theorem dX8_way_2 : decode cX8_way 2 = .ok (.invokevirtual 146, 3) := by decide +kernel
theorem dX8_way_5 : decode cX8_way 5 = .ok (.aload_n 0, 1) := by decide +kernel
theorem dX8_way_6 : decode cX8_way 6 = .ok (.iload_n 2, 1) := by decide +kernel
theorem dX8_way_7 : decode cX8_way 7 = .ok (.invokevirtual 146, 3) := by decide +kernel
theorem dX8_way_10 : decode cX8_way 10 = .ok (.iload_n 3, 1) := by decide +kernel
theorem dX8_way_11 : decode cX8_way 11 = .ok (.invokestatic 192, 3) := by decide +kernel
theorem dX8_way_14 : decode cX8_way 14 = .ok (.iload 4, 2) := by decide +kernel
theorem dX8_way_16 : decode cX8_way 16 = .ok (.iconst 2, 1) := by decide +kernel
theorem dX8_way_17 : decode cX8_way 17 = .ok (.invokestatic 195, 3) := by decide +kernel
theorem dX8_way_20 : decode cX8_way 20 = .ok (.aload_n 0, 1) := by decide +kernel
theorem dX8_way_21 : decode cX8_way 21 = .ok (.iconst (-1), 1) := by decide +kernel
theorem dX8_way_22 : decode cX8_way 22 = .ok (.invokevirtual 273, 3) := by decide +kernel
theorem dX8_way_25 : decode cX8_way 25 = .ok (.aload_n 0, 1) := by decide +kernel
theorem dX8_way_26 : decode cX8_way 26 = .ok (.getfield 72, 3) := by decide +kernel
theorem dX8_way_29 : decode cX8_way 29 = .ok (.iload_n 1, 1) := by decide +kernel
theorem dX8_way_30 : decode cX8_way 30 = .ok (.iconst 0, 1) := by decide +kernel
theorem dX8_way_31 : decode cX8_way 31 = .ok (.iastore, 1) := by decide +kernel
theorem dX8_way_32 : decode cX8_way 32 = .ok (.iload_n 3, 1) := by decide +kernel
theorem dX8_way_33 : decode cX8_way 33 = .ok (.istore 5, 2) := by decide +kernel
theorem dX8_way_35 : decode cX8_way 35 = .ok (.iload 5, 2) := by decide +kernel
theorem dX8_way_37 : decode cX8_way 37 = .ok (.sipush 168, 3) := by decide +kernel
theorem dX8_way_40 : decode cX8_way 40 = .ok (.if_icmp .ge 74, 3) := by decide +kernel
theorem dX8_way_43 : decode cX8_way 43 = .ok (.aload_n 0, 1) := by decide +kernel
theorem dX8_way_44 : decode cX8_way 44 = .ok (.getfield 72, 3) := by decide +kernel
theorem dX8_way_47 : decode cX8_way 47 = .ok (.iload_n 2, 1) := by decide +kernel
theorem dX8_way_48 : decode cX8_way 48 = .ok (.iaload, 1) := by decide +kernel
theorem dX8_way_49 : decode cX8_way 49 = .ok (.iconst (-1), 1) := by decide +kernel
theorem dX8_way_50 : decode cX8_way 50 = .ok (.if_icmp .ne 31, 3) := by decide +kernel
theorem dX8_way_53 : decode cX8_way 53 = .ok (.aload_n 0, 1) := by decide +kernel
theorem dX8_way_54 : decode cX8_way 54 = .ok (.aload_n 0, 1) := by decide +kernel
theorem dX8_way_55 : decode cX8_way 55 = .ok (.getfield 40, 3) := by decide +kernel
theorem dX8_way_58 : decode cX8_way 58 = .ok (.getfield 116, 3) := by decide +kernel
theorem dX8_way_61 : decode cX8_way 61 = .ok (.iload 5, 2) := by decide +kernel
theorem dX8_way_63 : decode cX8_way 63 = .ok (.iconst 0, 1) := by decide +kernel
theorem dX8_way_64 : decode cX8_way 64 = .ok (.invokevirtual 244, 3) := by decide +kernel
theorem dX8_way_67 : decode cX8_way 67 = .ok (.aload_n 0, 1) := by decide +kernel
theorem dX8_way_68 : decode cX8_way 68 = .ok (.aload_n 0, 1) := by decide +kernel
theorem dX8_way_69 : decode cX8_way 69 = .ok (.getfield 40, 3) := by decide +kernel
theorem dX8_way_72 : decode cX8_way 72 = .ok (.getfield 116, 3) := by decide +kernel
theorem dX8_way_75 : decode cX8_way 75 = .ok (.getfield 117, 3) := by decide +kernel
theorem dX8_way_78 : decode cX8_way 78 = .ok (.invokevirtual 310, 3) := by decide +kernel
theorem dX8_way_81 : decode cX8_way 81 = .ok (.aload_n 0, 1) := by decide +kernel
theorem dX8_way_82 : decode cX8_way 82 = .ok (.getfield 72, 3) := by decide +kernel
theorem dX8_way_85 : decode cX8_way 85 = .ok (.iload_n 2, 1) := by decide +kernel
theorem dX8_way_86 : decode cX8_way 86 = .ok (.iaload, 1) := by decide +kernel
theorem dX8_way_87 : decode cX8_way 87 = .ok (.iconst (-1), 1) := by decide +kernel
theorem dX8_way_88 : decode cX8_way 88 = .ok (.if_icmp .eq 20, 3) := by decide +kernel
theorem dX8_way_91 : decode cX8_way 91 = .ok (.iload 4, 2) := by decide +kernel
theorem dX8_way_93 : decode cX8_way 93 = .ok (.ifCond .ne 8, 3) := by decide +kernel
theorem dX8_way_96 : decode cX8_way 96 = .ok (.iload 5, 2) := by decide +kernel
theorem dX8_way_98 : decode cX8_way 98 = .ok (.goto 9, 3) := by decide +kernel
theorem dX8_way_101 : decode cX8_way 101 = .ok (.aload_n 0, 1) := by decide +kernel
theorem dX8_way_102 : decode cX8_way 102 = .ok (.getfield 72, 3) := by decide +kernel
theorem dX8_way_105 : decode cX8_way 105 = .ok (.iload_n 2, 1) := by decide +kernel
theorem dX8_way_106 : decode cX8_way 106 = .ok (.iaload, 1) := by decide +kernel
theorem dX8_way_107 : decode cX8_way 107 = .ok (.ireturn, 1) := by decide +kernel
theorem dX8_way_108 : decode cX8_way 108 = .ok (.iinc 5 1, 3) := by decide +kernel
theorem dX8_way_111 : decode cX8_way 111 = .ok (.goto (-76), 3) := by decide +kernel
theorem dX8_way_114 : decode cX8_way 114 = .ok (.iconst (-1), 1) := by decide +kernel
theorem dX8_way_115 : decode cX8_way 115 = .ok (.ireturn, 1) := by decide +kernel
theorem dX8_goOverBridges_0 : decode cX8_goOverBridges 0 = .ok (.iconst 1, 1) := by decide +kernel
theorem dX8_goOverBridges_1 : decode cX8_goOverBridges 1 = .ok (.istore_n 2, 1) := by decide +kernel
theorem dX8_goOverBridges_2 : decode cX8_goOverBridges 2 = .ok (.iload_n 2, 1) := by decide +kernel
theorem dX8_goOverBridges_3 : decode cX8_goOverBridges 3 = .ok (.iload_n 1, 1) := by decide +kernel
theorem dX8_goOverBridges_4 : decode cX8_goOverBridges 4 = .ok (.if_icmp .ge 82, 3) := by decide +kernel
theorem dX8_goOverBridges_7 : decode cX8_goOverBridges 7 = .ok (.iconst 0, 1) := by decide +kernel
theorem dX8_goOverBridges_8 : decode cX8_goOverBridges 8 = .ok (.istore_n 3, 1) := by decide +kernel
theorem dX8_goOverBridges_9 : decode cX8_goOverBridges 9 = .ok (.iload_n 3, 1) := by decide +kernel
theorem dX8_goOverBridges_10 : decode cX8_goOverBridges 10 = .ok (.iload_n 1, 1) := by decide +kernel
theorem dX8_goOverBridges_11 : decode cX8_goOverBridges 11 = .ok (.if_icmp .ge 69, 3) := by decide +kernel
theorem dX8_goOverBridges_14 : decode cX8_goOverBridges 14 = .ok (.iconst 0, 1) := by decide +kernel
theorem dX8_goOverBridges_15 : decode cX8_goOverBridges 15 = .ok (.istore 4, 2) := by decide +kernel
theorem dX8_goOverBridges_17 : decode cX8_goOverBridges 17 = .ok (.iload 4, 2) := by decide +kernel
theorem dX8_goOverBridges_19 : decode cX8_goOverBridges 19 = .ok (.iload_n 1, 1) := by decide +kernel
theorem dX8_goOverBridges_20 : decode cX8_goOverBridges 20 = .ok (.if_icmp .ge 54, 3) := by decide +kernel
theorem dX8_goOverBridges_23 : decode cX8_goOverBridges 23 = .ok (.aload_n 0, 1) := by decide +kernel
theorem dX8_goOverBridges_24 : decode cX8_goOverBridges 24 = .ok (.iload_n 3, 1) := by decide +kernel
theorem dX8_goOverBridges_25 : decode cX8_goOverBridges 25 = .ok (.iload 4, 2) := by decide +kernel
theorem dX8_goOverBridges_27 : decode cX8_goOverBridges 27 = .ok (.invokevirtual 313, 3) := by decide +kernel
theorem dX8_goOverBridges_30 : decode cX8_goOverBridges 30 = .ok (.ifCond .eq 38, 3) := by decide +kernel
theorem dX8_goOverBridges_33 : decode cX8_goOverBridges 33 = .ok (.aload_n 0, 1) := by decide +kernel
theorem dX8_goOverBridges_34 : decode cX8_goOverBridges 34 = .ok (.getfield 61, 3) := by decide +kernel
theorem dX8_goOverBridges_37 : decode cX8_goOverBridges 37 = .ok (.iload_n 3, 1) := by decide +kernel
theorem dX8_goOverBridges_38 : decode cX8_goOverBridges 38 = .ok (.iload 4, 2) := by decide +kernel
theorem dX8_goOverBridges_40 : decode cX8_goOverBridges 40 = .ok (.aload_n 0, 1) := by decide +kernel
theorem dX8_goOverBridges_41 : decode cX8_goOverBridges 41 = .ok (.getfield 30, 3) := by decide +kernel
theorem dX8_goOverBridges_44 : decode cX8_goOverBridges 44 = .ok (.getfield 126, 3) := by decide +kernel
theorem dX8_goOverBridges_47 : decode cX8_goOverBridges 47 = .ok (.invokevirtual 241, 3) := by decide +kernel
theorem dX8_goOverBridges_50 : decode cX8_goOverBridges 50 = .ok (.ifCond .eq 18, 3) := by decide +kernel
theorem dX8_goOverBridges_53 : decode cX8_goOverBridges 53 = .ok (.aload_n 0, 1) := by decide +kernel
theorem dX8_goOverBridges_54 : decode cX8_goOverBridges 54 = .ok (.getfield 72, 3) := by decide +kernel
theorem dX8_goOverBridges_57 : decode cX8_goOverBridges 57 = .ok (.iload 4, 2) := by decide +kernel
theorem dX8_goOverBridges_59 : decode cX8_goOverBridges 59 = .ok (.aload_n 0, 1) := by decide +kernel
theorem dX8_goOverBridges_60 : decode cX8_goOverBridges 60 = .ok (.getfield 72, 3) := by decide +kernel
theorem dX8_goOverBridges_63 : decode cX8_goOverBridges 63 = .ok (.iload_n 3, 1) := by decide +kernel
theorem dX8_goOverBridges_64 : decode cX8_goOverBridges 64 = .ok (.iaload, 1) := by decide +kernel
theorem dX8_goOverBridges_65 : decode cX8_goOverBridges 65 = .ok (.iconst 1, 1) := by decide +kernel
theorem dX8_goOverBridges_66 : decode cX8_goOverBridges 66 = .ok (.iadd, 1) := by decide +kernel
theorem dX8_goOverBridges_67 : decode cX8_goOverBridges 67 = .ok (.iastore, 1) := by decide +kernel
theorem dX8_goOverBridges_68 : decode cX8_goOverBridges 68 = .ok (.iinc 4 1, 3) := by decide +kernel
theorem dX8_goOverBridges_71 : decode cX8_goOverBridges 71 = .ok (.goto (-54), 3) := by decide +kernel
theorem dX8_goOverBridges_74 : decode cX8_goOverBridges 74 = .ok (.iinc 3 1, 3) := by decide +kernel
theorem dX8_goOverBridges_77 : decode cX8_goOverBridges 77 = .ok (.goto (-68), 3) := by decide +kernel
theorem dX8_goOverBridges_80 : decode cX8_goOverBridges 80 = .ok (.iinc 2 1, 3) := by decide +kernel
theorem dX8_goOverBridges_83 : decode cX8_goOverBridges 83 = .ok (.goto (-81), 3) := by decide +kernel
theorem dX8_goOverBridges_86 : decode cX8_goOverBridges 86 = .ok (.return_, 1) := by decide +kernel
theorem dX8_isNearer_0 : decode cX8_isNearer 0 = .ok (.aload_n 0, 1) := by decide +kernel
theorem dX8_isNearer_1 : decode cX8_isNearer 1 = .ok (.getfield 72, 3) := by decide +kernel
theorem dX8_isNearer_4 : decode cX8_isNearer 4 = .ok (.iload_n 1, 1) := by decide +kernel
theorem dX8_isNearer_5 : decode cX8_isNearer 5 = .ok (.iaload, 1) := by decide +kernel
theorem dX8_isNearer_6 : decode cX8_isNearer 6 = .ok (.iconst (-1), 1) := by decide +kernel
theorem dX8_isNearer_7 : decode cX8_isNearer 7 = .ok (.if_icmp .eq 34, 3) := by decide +kernel
theorem dX8_isNearer_10 : decode cX8_isNearer 10 = .ok (.aload_n 0, 1) := by decide +kernel
theorem dX8_isNearer_11 : decode cX8_isNearer 11 = .ok (.getfield 72, 3) := by decide +kernel
theorem dX8_isNearer_14 : decode cX8_isNearer 14 = .ok (.iload_n 2, 1) := by decide +kernel
theorem dX8_isNearer_15 : decode cX8_isNearer 15 = .ok (.iaload, 1) := by decide +kernel
theorem dX8_isNearer_16 : decode cX8_isNearer 16 = .ok (.iconst (-1), 1) := by decide +kernel
theorem dX8_isNearer_17 : decode cX8_isNearer 17 = .ok (.if_icmp .eq 20, 3) := by decide +kernel
theorem dX8_isNearer_20 : decode cX8_isNearer 20 = .ok (.aload_n 0, 1) := by decide +kernel
theorem dX8_isNearer_21 : decode cX8_isNearer 21 = .ok (.getfield 72, 3) := by decide +kernel
theorem dX8_isNearer_24 : decode cX8_isNearer 24 = .ok (.iload_n 1, 1) := by decide +kernel
theorem dX8_isNearer_25 : decode cX8_isNearer 25 = .ok (.iaload, 1) := by decide +kernel
theorem dX8_isNearer_26 : decode cX8_isNearer 26 = .ok (.iconst 1, 1) := by decide +kernel
theorem dX8_isNearer_27 : decode cX8_isNearer 27 = .ok (.iadd, 1) := by decide +kernel
theorem dX8_isNearer_28 : decode cX8_isNearer 28 = .ok (.aload_n 0, 1) := by decide +kernel
theorem dX8_isNearer_29 : decode cX8_isNearer 29 = .ok (.getfield 72, 3) := by decide +kernel
theorem dX8_isNearer_32 : decode cX8_isNearer 32 = .ok (.iload_n 2, 1) := by decide +kernel
theorem dX8_isNearer_33 : decode cX8_isNearer 33 = .ok (.iaload, 1) := by decide +kernel
theorem dX8_isNearer_34 : decode cX8_isNearer 34 = .ok (.if_icmp .ge 7, 3) := by decide +kernel
theorem dX8_isNearer_37 : decode cX8_isNearer 37 = .ok (.iconst 1, 1) := by decide +kernel
theorem dX8_isNearer_38 : decode cX8_isNearer 38 = .ok (.goto 4, 3) := by decide +kernel
theorem dX8_isNearer_41 : decode cX8_isNearer 41 = .ok (.iconst 0, 1) := by decide +kernel
theorem dX8_isNearer_42 : decode cX8_isNearer 42 = .ok (.ireturn, 1) := by decide +kernel
theorem dX8_cross_0 : decode cX8_cross 0 = .ok (.aload_n 0, 1) := by decide +kernel
theorem dX8_cross_1 : decode cX8_cross 1 = .ok (.getfield 40, 3) := by decide +kernel
theorem dX8_cross_4 : decode cX8_cross 4 = .ok (.getfield 135, 3) := by decide +kernel
theorem dX8_cross_7 : decode cX8_cross 7 = .ok (.bipush 40, 2) := by decide +kernel
theorem dX8_cross_9 : decode cX8_cross 9 = .ok (.if_icmp .ge 23, 3) := by decide +kernel
theorem dX8_cross_12 : decode cX8_cross 12 = .ok (.iload_n 1, 1) := by decide +kernel
theorem dX8_cross_13 : decode cX8_cross 13 = .ok (.ifCond .lt 19, 3) := by decide +kernel
theorem dX8_cross_16 : decode cX8_cross 16 = .ok (.iload_n 1, 1) := by decide +kernel
theorem dX8_cross_17 : decode cX8_cross 17 = .ok (.aload_n 0, 1) := by decide +kernel
theorem dX8_cross_18 : decode cX8_cross 18 = .ok (.getfield 40, 3) := by decide +kernel
theorem dX8_cross_21 : decode cX8_cross 21 = .ok (.getfield 116, 3) := by decide +kernel
theorem dX8_cross_24 : decode cX8_cross 24 = .ok (.getfield 117, 3) := by decide +kernel
theorem dX8_cross_27 : decode cX8_cross 27 = .ok (.iconst 2, 1) := by decide +kernel
theorem dX8_cross_28 : decode cX8_cross 28 = .ok (.isub, 1) := by decide +kernel
theorem dX8_cross_29 : decode cX8_cross 29 = .ok (.if_icmp .le 18, 3) := by decide +kernel
theorem dX8_cross_32 : decode cX8_cross 32 = .ok (.aload_n 0, 1) := by decide +kernel
theorem dX8_cross_33 : decode cX8_cross 33 = .ok (.getfield 40, 3) := by decide +kernel
theorem dX8_cross_36 : decode cX8_cross 36 = .ok (.getfield 100, 3) := by decide +kernel
theorem dX8_cross_39 : decode cX8_cross 39 = .ok (.iconst 2, 1) := by decide +kernel
theorem dX8_cross_40 : decode cX8_cross 40 = .ok (.dup2, 1) := by decide +kernel
theorem dX8_cross_41 : decode cX8_cross 41 = .ok (.iaload, 1) := by decide +kernel
theorem dX8_cross_42 : decode cX8_cross 42 = .ok (.iconst 1, 1) := by decide +kernel
theorem dX8_cross_43 : decode cX8_cross 43 = .ok (.iadd, 1) := by decide +kernel
theorem dX8_cross_44 : decode cX8_cross 44 = .ok (.iastore, 1) := by decide +kernel
theorem dX8_cross_45 : decode cX8_cross 45 = .ok (.iconst (-1), 1) := by decide +kernel
theorem dX8_cross_46 : decode cX8_cross 46 = .ok (.ireturn, 1) := by decide +kernel
theorem dX8_cross_47 : decode cX8_cross 47 = .ok (.aload_n 0, 1) := by decide +kernel
theorem dX8_cross_48 : decode cX8_cross 48 = .ok (.getfield 40, 3) := by decide +kernel
theorem dX8_cross_51 : decode cX8_cross 51 = .ok (.getfield 316, 3) := by decide +kernel
theorem dX8_cross_54 : decode cX8_cross 54 = .ok (.aload_n 0, 1) := by decide +kernel
theorem dX8_cross_55 : decode cX8_cross 55 = .ok (.getfield 40, 3) := by decide +kernel
theorem dX8_cross_58 : decode cX8_cross 58 = .ok (.getfield 135, 3) := by decide +kernel
theorem dX8_cross_61 : decode cX8_cross 61 = .ok (.iload_n 2, 1) := by decide +kernel
theorem dX8_cross_62 : decode cX8_cross 62 = .ok (.ifCond .eq 10, 3) := by decide +kernel
theorem dX8_cross_65 : decode cX8_cross 65 = .ok (.iload_n 1, 1) := by decide +kernel
theorem dX8_cross_66 : decode cX8_cross 66 = .ok (.bipush 10, 2) := by decide +kernel
theorem dX8_cross_68 : decode cX8_cross 68 = .ok (.iadd, 1) := by decide +kernel
theorem dX8_cross_69 : decode cX8_cross 69 = .ok (.goto 4, 3) := by decide +kernel
theorem dX8_cross_72 : decode cX8_cross 72 = .ok (.iload_n 1, 1) := by decide +kernel
theorem dX8_cross_73 : decode cX8_cross 73 = .ok (.iastore, 1) := by decide +kernel
theorem dX8_cross_74 : decode cX8_cross 74 = .ok (.aload_n 0, 1) := by decide +kernel
theorem dX8_cross_75 : decode cX8_cross 75 = .ok (.getfield 40, 3) := by decide +kernel
theorem dX8_cross_78 : decode cX8_cross 78 = .ok (.dup, 1) := by decide +kernel
theorem dX8_cross_79 : decode cX8_cross 79 = .ok (.getfield 135, 3) := by decide +kernel
theorem dX8_cross_82 : decode cX8_cross 82 = .ok (.iconst 1, 1) := by decide +kernel
theorem dX8_cross_83 : decode cX8_cross 83 = .ok (.iadd, 1) := by decide +kernel
theorem dX8_cross_84 : decode cX8_cross 84 = .ok (.putfield 135, 3) := by decide +kernel
theorem dX8_cross_87 : decode cX8_cross 87 = .ok (.aload_n 0, 1) := by decide +kernel
theorem dX8_cross_88 : decode cX8_cross 88 = .ok (.getfield 40, 3) := by decide +kernel
theorem dX8_cross_91 : decode cX8_cross 91 = .ok (.getfield 135, 3) := by decide +kernel
theorem dX8_cross_94 : decode cX8_cross 94 = .ok (.ireturn, 1) := by decide +kernel
theorem dX8_uncross_0 : decode cX8_uncross 0 = .ok (.aload_n 0, 1) := by decide +kernel
theorem dX8_uncross_1 : decode cX8_uncross 1 = .ok (.getfield 40, 3) := by decide +kernel
theorem dX8_uncross_4 : decode cX8_uncross 4 = .ok (.getfield 135, 3) := by decide +kernel
theorem dX8_uncross_7 : decode cX8_uncross 7 = .ok (.ifCond .ne 5, 3) := by decide +kernel
theorem dX8_uncross_10 : decode cX8_uncross 10 = .ok (.iconst (-1), 1) := by decide +kernel
theorem dX8_uncross_11 : decode cX8_uncross 11 = .ok (.ireturn, 1) := by decide +kernel
theorem dX8_uncross_12 : decode cX8_uncross 12 = .ok (.aload_n 0, 1) := by decide +kernel
theorem dX8_uncross_13 : decode cX8_uncross 13 = .ok (.getfield 40, 3) := by decide +kernel
theorem dX8_uncross_16 : decode cX8_uncross 16 = .ok (.dup, 1) := by decide +kernel
theorem dX8_uncross_17 : decode cX8_uncross 17 = .ok (.getfield 135, 3) := by decide +kernel
theorem dX8_uncross_20 : decode cX8_uncross 20 = .ok (.iconst 1, 1) := by decide +kernel
theorem dX8_uncross_21 : decode cX8_uncross 21 = .ok (.isub, 1) := by decide +kernel
theorem dX8_uncross_22 : decode cX8_uncross 22 = .ok (.putfield 135, 3) := by decide +kernel
theorem dX8_uncross_25 : decode cX8_uncross 25 = .ok (.aload_n 0, 1) := by decide +kernel
theorem dX8_uncross_26 : decode cX8_uncross 26 = .ok (.getfield 40, 3) := by decide +kernel
theorem dX8_uncross_29 : decode cX8_uncross 29 = .ok (.getfield 135, 3) := by decide +kernel
theorem dX8_uncross_32 : decode cX8_uncross 32 = .ok (.ireturn, 1) := by decide +kernel
theorem dX8_freed_0 : decode cX8_freed 0 = .ok (.aload_n 0, 1) := by decide +kernel
theorem dX8_freed_1 : decode cX8_freed 1 = .ok (.invokevirtual 319, 3) := by decide +kernel
theorem dX8_freed_4 : decode cX8_freed 4 = .ok (.istore_n 2, 1) := by decide +kernel
theorem dX8_freed_5 : decode cX8_freed 5 = .ok (.iload_n 1, 1) := by decide +kernel
theorem dX8_freed_6 : decode cX8_freed 6 = .ok (.iconst (-1), 1) := by decide +kernel
theorem dX8_freed_7 : decode cX8_freed 7 = .ok (.if_icmp .ne 5, 3) := by decide +kernel
theorem dX8_freed_10 : decode cX8_freed 10 = .ok (.iload_n 2, 1) := by decide +kernel
theorem dX8_freed_11 : decode cX8_freed 11 = .ok (.ireturn, 1) := by decide +kernel
theorem dX8_freed_12 : decode cX8_freed 12 = .ok (.iload_n 1, 1) := by decide +kernel
theorem dX8_freed_13 : decode cX8_freed 13 = .ok (.ifCond .lt 8, 3) := by decide +kernel
theorem dX8_freed_16 : decode cX8_freed 16 = .ok (.iload_n 1, 1) := by decide +kernel
theorem dX8_freed_17 : decode cX8_freed 17 = .ok (.iload_n 2, 1) := by decide +kernel
theorem dX8_freed_18 : decode cX8_freed 18 = .ok (.if_icmp .lt 14, 3) := by decide +kernel
theorem dX8_freed_21 : decode cX8_freed 21 = .ok (.new 141, 3) := by decide +kernel
theorem dX8_freed_24 : decode cX8_freed 24 = .ok (.dup, 1) := by decide +kernel
theorem dX8_freed_25 : decode cX8_freed 25 = .ok (.ldc_w 322, 3) := by decide +kernel
theorem dX8_freed_28 : decode cX8_freed 28 = .ok (.invokespecial 145, 3) := by decide +kernel
theorem dX8_freed_31 : decode cX8_freed 31 = .ok (.athrow, 1) := by decide +kernel
theorem dX8_freed_32 : decode cX8_freed 32 = .ok (.aload_n 0, 1) := by decide +kernel
theorem dX8_freed_33 : decode cX8_freed 33 = .ok (.getfield 79, 3) := by decide +kernel
theorem dX8_freed_36 : decode cX8_freed 36 = .ok (.iload_n 1, 1) := by decide +kernel
theorem dX8_freed_37 : decode cX8_freed 37 = .ok (.iaload, 1) := by decide +kernel
theorem dX8_freed_38 : decode cX8_freed 38 = .ok (.ireturn, 1) := by decide +kernel
theorem dX8_freeCrossings_0 : decode cX8_freeCrossings 0 = .ok (.iconst 0, 1) := by decide +kernel
theorem dX8_freeCrossings_1 : decode cX8_freeCrossings 1 = .ok (.istore_n 1, 1) := by decide +kernel
theorem dX8_freeCrossings_2 : decode cX8_freeCrossings 2 = .ok (.iconst 0, 1) := by decide +kernel
theorem dX8_freeCrossings_3 : decode cX8_freeCrossings 3 = .ok (.istore_n 2, 1) := by decide +kernel
theorem dX8_freeCrossings_4 : decode cX8_freeCrossings 4 = .ok (.iload_n 2, 1) := by decide +kernel
theorem dX8_freeCrossings_5 : decode cX8_freeCrossings 5 = .ok (.aload_n 0, 1) := by decide +kernel
theorem dX8_freeCrossings_6 : decode cX8_freeCrossings 6 = .ok (.getfield 40, 3) := by decide +kernel
theorem dX8_freeCrossings_9 : decode cX8_freeCrossings 9 = .ok (.getfield 135, 3) := by decide +kernel
theorem dX8_freeCrossings_12 : decode cX8_freeCrossings 12 = .ok (.if_icmp .ge 57, 3) := by decide +kernel
theorem dX8_freeCrossings_15 : decode cX8_freeCrossings 15 = .ok (.aload_n 0, 1) := by decide +kernel
theorem dX8_freeCrossings_16 : decode cX8_freeCrossings 16 = .ok (.getfield 40, 3) := by decide +kernel
theorem dX8_freeCrossings_19 : decode cX8_freeCrossings 19 = .ok (.getfield 316, 3) := by decide +kernel
theorem dX8_freeCrossings_22 : decode cX8_freeCrossings 22 = .ok (.iload_n 2, 1) := by decide +kernel
theorem dX8_freeCrossings_23 : decode cX8_freeCrossings 23 = .ok (.iaload, 1) := by decide +kernel
theorem dX8_freeCrossings_24 : decode cX8_freeCrossings 24 = .ok (.istore_n 3, 1) := by decide +kernel
theorem dX8_freeCrossings_25 : decode cX8_freeCrossings 25 = .ok (.iload_n 1, 1) := by decide +kernel
theorem dX8_freeCrossings_26 : decode cX8_freeCrossings 26 = .ok (.ifCond .le 27, 3) := by decide +kernel
theorem dX8_freeCrossings_29 : decode cX8_freeCrossings 29 = .ok (.aload_n 0, 1) := by decide +kernel
theorem dX8_freeCrossings_30 : decode cX8_freeCrossings 30 = .ok (.getfield 79, 3) := by decide +kernel
theorem dX8_freeCrossings_33 : decode cX8_freeCrossings 33 = .ok (.iload_n 1, 1) := by decide +kernel
theorem dX8_freeCrossings_34 : decode cX8_freeCrossings 34 = .ok (.iconst 1, 1) := by decide +kernel
theorem dX8_freeCrossings_35 : decode cX8_freeCrossings 35 = .ok (.isub, 1) := by decide +kernel
theorem dX8_freeCrossings_36 : decode cX8_freeCrossings 36 = .ok (.iaload, 1) := by decide +kernel
theorem dX8_freeCrossings_37 : decode cX8_freeCrossings 37 = .ok (.iload_n 3, 1) := by decide +kernel
theorem dX8_freeCrossings_38 : decode cX8_freeCrossings 38 = .ok (.isub, 1) := by decide +kernel
theorem dX8_freeCrossings_39 : decode cX8_freeCrossings 39 = .ok (.invokestatic 324, 3) := by decide +kernel
theorem dX8_freeCrossings_42 : decode cX8_freeCrossings 42 = .ok (.bipush 10, 2) := by decide +kernel
theorem dX8_freeCrossings_44 : decode cX8_freeCrossings 44 = .ok (.if_icmp .ne 9, 3) := by decide +kernel
theorem dX8_freeCrossings_47 : decode cX8_freeCrossings 47 = .ok (.iinc 1 (-1), 3) := by decide +kernel
theorem dX8_freeCrossings_50 : decode cX8_freeCrossings 50 = .ok (.goto 13, 3) := by decide +kernel
theorem dX8_freeCrossings_53 : decode cX8_freeCrossings 53 = .ok (.aload_n 0, 1) := by decide +kernel
theorem dX8_freeCrossings_54 : decode cX8_freeCrossings 54 = .ok (.getfield 79, 3) := by decide +kernel
theorem dX8_freeCrossings_57 : decode cX8_freeCrossings 57 = .ok (.iload_n 1, 1) := by decide +kernel
theorem dX8_freeCrossings_58 : decode cX8_freeCrossings 58 = .ok (.iload_n 3, 1) := by decide +kernel
theorem dX8_freeCrossings_59 : decode cX8_freeCrossings 59 = .ok (.iastore, 1) := by decide +kernel
theorem dX8_freeCrossings_60 : decode cX8_freeCrossings 60 = .ok (.iinc 1 1, 3) := by decide +kernel
theorem dX8_freeCrossings_63 : decode cX8_freeCrossings 63 = .ok (.iinc 2 1, 3) := by decide +kernel
theorem dX8_freeCrossings_66 : decode cX8_freeCrossings 66 = .ok (.goto (-62), 3) := by decide +kernel
theorem dX8_freeCrossings_69 : decode cX8_freeCrossings 69 = .ok (.iload_n 1, 1) := by decide +kernel
theorem dX8_freeCrossings_70 : decode cX8_freeCrossings 70 = .ok (.ireturn, 1) := by decide +kernel
theorem dX8_tangle_0 : decode cX8_tangle 0 = .ok (.aload_n 0, 1) := by decide +kernel
theorem dX8_tangle_1 : decode cX8_tangle 1 = .ok (.iload_n 1, 1) := by decide +kernel
theorem dX8_tangle_2 : decode cX8_tangle 2 = .ok (.invokevirtual 146, 3) := by decide +kernel
theorem dX8_tangle_5 : decode cX8_tangle 5 = .ok (.iload_n 2, 1) := by decide +kernel
theorem dX8_tangle_6 : decode cX8_tangle 6 = .ok (.iconst 2, 1) := by decide +kernel
theorem dX8_tangle_7 : decode cX8_tangle 7 = .ok (.invokestatic 195, 3) := by decide +kernel
theorem dX8_tangle_10 : decode cX8_tangle 10 = .ok (.iload_n 2, 1) := by decide +kernel
theorem dX8_tangle_11 : decode cX8_tangle 11 = .ok (.ifCond .ne 9, 3) := by decide +kernel
theorem dX8_tangle_14 : decode cX8_tangle 14 = .ok (.aload_n 0, 1) := by decide +kernel
theorem dX8_tangle_15 : decode cX8_tangle 15 = .ok (.iload_n 1, 1) := by decide +kernel
theorem dX8_tangle_16 : decode cX8_tangle 16 = .ok (.invokevirtual 329, 3) := by decide +kernel
theorem dX8_tangle_19 : decode cX8_tangle 19 = .ok (.ireturn, 1) := by decide +kernel
theorem dX8_tangle_20 : decode cX8_tangle 20 = .ok (.iconst 0, 1) := by decide +kernel
theorem dX8_tangle_21 : decode cX8_tangle 21 = .ok (.istore_n 3, 1) := by decide +kernel
theorem dX8_tangle_22 : decode cX8_tangle 22 = .ok (.iload_n 3, 1) := by decide +kernel
theorem dX8_tangle_23 : decode cX8_tangle 23 = .ok (.aload_n 0, 1) := by decide +kernel
theorem dX8_tangle_24 : decode cX8_tangle 24 = .ok (.getfield 40, 3) := by decide +kernel
theorem dX8_tangle_27 : decode cX8_tangle 27 = .ok (.getfield 116, 3) := by decide +kernel
theorem dX8_tangle_30 : decode cX8_tangle 30 = .ok (.getfield 117, 3) := by decide +kernel
theorem dX8_tangle_33 : decode cX8_tangle 33 = .ok (.if_icmp .ge 20, 3) := by decide +kernel
theorem dX8_tangle_36 : decode cX8_tangle 36 = .ok (.aload_n 0, 1) := by decide +kernel
theorem dX8_tangle_37 : decode cX8_tangle 37 = .ok (.iload_n 3, 1) := by decide +kernel
theorem dX8_tangle_38 : decode cX8_tangle 38 = .ok (.invokevirtual 329, 3) := by decide +kernel
theorem dX8_tangle_41 : decode cX8_tangle 41 = .ok (.iload_n 3, 1) := by decide +kernel
theorem dX8_tangle_42 : decode cX8_tangle 42 = .ok (.if_icmp .eq 5, 3) := by decide +kernel
theorem dX8_tangle_45 : decode cX8_tangle 45 = .ok (.iconst 0, 1) := by decide +kernel
theorem dX8_tangle_46 : decode cX8_tangle 46 = .ok (.ireturn, 1) := by decide +kernel
theorem dX8_tangle_47 : decode cX8_tangle 47 = .ok (.iinc 3 1, 3) := by decide +kernel
theorem dX8_tangle_50 : decode cX8_tangle 50 = .ok (.goto (-28), 3) := by decide +kernel
theorem dX8_tangle_53 : decode cX8_tangle 53 = .ok (.aload_n 0, 1) := by decide +kernel
theorem dX8_tangle_54 : decode cX8_tangle 54 = .ok (.invokevirtual 319, 3) := by decide +kernel
theorem dX8_tangle_57 : decode cX8_tangle 57 = .ok (.ireturn, 1) := by decide +kernel
theorem dX8_placeBehindCrossings_0 : decode cX8_placeBehindCrossings 0 = .ok (.iload_n 1, 1) := by decide +kernel
theorem dX8_placeBehindCrossings_1 : decode cX8_placeBehindCrossings 1 = .ok (.istore_n 2, 1) := by decide +kernel
theorem dX8_placeBehindCrossings_2 : decode cX8_placeBehindCrossings 2 = .ok (.iconst 0, 1) := by decide +kernel
theorem dX8_placeBehindCrossings_3 : decode cX8_placeBehindCrossings 3 = .ok (.istore_n 3, 1) := by decide +kernel
theorem dX8_placeBehindCrossings_4 : decode cX8_placeBehindCrossings 4 = .ok (.iload_n 3, 1) := by decide +kernel
theorem dX8_placeBehindCrossings_5 : decode cX8_placeBehindCrossings 5 = .ok (.aload_n 0, 1) := by decide +kernel
theorem dX8_placeBehindCrossings_6 : decode cX8_placeBehindCrossings 6 = .ok (.getfield 40, 3) := by decide +kernel
theorem dX8_placeBehindCrossings_9 : decode cX8_placeBehindCrossings 9 = .ok (.getfield 135, 3) := by decide +kernel
theorem dX8_placeBehindCrossings_12 : decode cX8_placeBehindCrossings 12 = .ok (.if_icmp .ge 48, 3) := by decide +kernel
theorem dX8_placeBehindCrossings_15 : decode cX8_placeBehindCrossings 15 = .ok (.aload_n 0, 1) := by decide +kernel
theorem dX8_placeBehindCrossings_16 : decode cX8_placeBehindCrossings 16 = .ok (.getfield 40, 3) := by decide +kernel
theorem dX8_placeBehindCrossings_19 : decode cX8_placeBehindCrossings 19 = .ok (.getfield 316, 3) := by decide +kernel
theorem dX8_placeBehindCrossings_22 : decode cX8_placeBehindCrossings 22 = .ok (.iload_n 3, 1) := by decide +kernel
theorem dX8_placeBehindCrossings_23 : decode cX8_placeBehindCrossings 23 = .ok (.iaload, 1) := by decide +kernel
theorem dX8_placeBehindCrossings_24 : decode cX8_placeBehindCrossings 24 = .ok (.bipush 10, 2) := by decide +kernel
theorem dX8_placeBehindCrossings_26 : decode cX8_placeBehindCrossings 26 = .ok (.irem, 1) := by decide +kernel
theorem dX8_placeBehindCrossings_27 : decode cX8_placeBehindCrossings 27 = .ok (.istore 4, 2) := by decide +kernel
theorem dX8_placeBehindCrossings_29 : decode cX8_placeBehindCrossings 29 = .ok (.iload_n 2, 1) := by decide +kernel
theorem dX8_placeBehindCrossings_30 : decode cX8_placeBehindCrossings 30 = .ok (.iload 4, 2) := by decide +kernel
theorem dX8_placeBehindCrossings_32 : decode cX8_placeBehindCrossings 32 = .ok (.if_icmp .ne 11, 3) := by decide +kernel
theorem dX8_placeBehindCrossings_35 : decode cX8_placeBehindCrossings 35 = .ok (.iload 4, 2) := by decide +kernel
theorem dX8_placeBehindCrossings_37 : decode cX8_placeBehindCrossings 37 = .ok (.iconst 1, 1) := by decide +kernel
theorem dX8_placeBehindCrossings_38 : decode cX8_placeBehindCrossings 38 = .ok (.iadd, 1) := by decide +kernel
theorem dX8_placeBehindCrossings_39 : decode cX8_placeBehindCrossings 39 = .ok (.istore_n 2, 1) := by decide +kernel
theorem dX8_placeBehindCrossings_40 : decode cX8_placeBehindCrossings 40 = .ok (.goto 14, 3) := by decide +kernel
theorem dX8_placeBehindCrossings_43 : decode cX8_placeBehindCrossings 43 = .ok (.iload_n 2, 1) := by decide +kernel
theorem dX8_placeBehindCrossings_44 : decode cX8_placeBehindCrossings 44 = .ok (.iload 4, 2) := by decide +kernel
theorem dX8_placeBehindCrossings_46 : decode cX8_placeBehindCrossings 46 = .ok (.iconst 1, 1) := by decide +kernel
theorem dX8_placeBehindCrossings_47 : decode cX8_placeBehindCrossings 47 = .ok (.iadd, 1) := by decide +kernel
theorem dX8_placeBehindCrossings_48 : decode cX8_placeBehindCrossings 48 = .ok (.if_icmp .ne 6, 3) := by decide +kernel
theorem dX8_placeBehindCrossings_51 : decode cX8_placeBehindCrossings 51 = .ok (.iload 4, 2) := by decide +kernel
theorem dX8_placeBehindCrossings_53 : decode cX8_placeBehindCrossings 53 = .ok (.istore_n 2, 1) := by decide +kernel
theorem dX8_placeBehindCrossings_54 : decode cX8_placeBehindCrossings 54 = .ok (.iinc 3 1, 3) := by decide +kernel
theorem dX8_placeBehindCrossings_57 : decode cX8_placeBehindCrossings 57 = .ok (.goto (-53), 3) := by decide +kernel
theorem dX8_placeBehindCrossings_60 : decode cX8_placeBehindCrossings 60 = .ok (.iload_n 2, 1) := by decide +kernel
theorem dX8_placeBehindCrossings_61 : decode cX8_placeBehindCrossings 61 = .ok (.ireturn, 1) := by decide +kernel
theorem dX8_see_0 : decode cX8_see 0 = .ok (.aload_n 0, 1) := by decide +kernel
theorem dX8_see_1 : decode cX8_see 1 = .ok (.iload_n 1, 1) := by decide +kernel
theorem dX8_see_2 : decode cX8_see 2 = .ok (.invokevirtual 146, 3) := by decide +kernel
theorem dX8_see_5 : decode cX8_see 5 = .ok (.iload_n 2, 1) := by decide +kernel
theorem dX8_see_6 : decode cX8_see 6 = .ok (.invokestatic 192, 3) := by decide +kernel
theorem dX8_see_9 : decode cX8_see 9 = .ok (.aload_n 0, 1) := by decide +kernel
theorem dX8_see_10 : decode cX8_see 10 = .ok (.getfield 40, 3) := by decide +kernel
theorem dX8_see_13 : decode cX8_see 13 = .ok (.getfield 138, 3) := by decide +kernel
theorem dX8_see_16 : decode cX8_see 16 = .ok (.bipush 12, 2) := by decide +kernel
theorem dX8_see_18 : decode cX8_see 18 = .ok (.if_icmp .ge 13, 3) := by decide +kernel
theorem dX8_see_21 : decode cX8_see 21 = .ok (.iload_n 3, 1) := by decide +kernel
theorem dX8_see_22 : decode cX8_see 22 = .ok (.ifCond .lt 9, 3) := by decide +kernel
theorem dX8_see_25 : decode cX8_see 25 = .ok (.iload_n 3, 1) := by decide +kernel
theorem dX8_see_26 : decode cX8_see 26 = .ok (.bipush 60, 2) := by decide +kernel
theorem dX8_see_28 : decode cX8_see 28 = .ok (.if_icmp .le 18, 3) := by decide +kernel
theorem dX8_see_31 : decode cX8_see 31 = .ok (.aload_n 0, 1) := by decide +kernel
theorem dX8_see_32 : decode cX8_see 32 = .ok (.getfield 40, 3) := by decide +kernel
theorem dX8_see_35 : decode cX8_see 35 = .ok (.getfield 100, 3) := by decide +kernel
theorem dX8_see_38 : decode cX8_see 38 = .ok (.iconst 2, 1) := by decide +kernel
theorem dX8_see_39 : decode cX8_see 39 = .ok (.dup2, 1) := by decide +kernel
theorem dX8_see_40 : decode cX8_see 40 = .ok (.iaload, 1) := by decide +kernel
theorem dX8_see_41 : decode cX8_see 41 = .ok (.iconst 1, 1) := by decide +kernel
theorem dX8_see_42 : decode cX8_see 42 = .ok (.iadd, 1) := by decide +kernel
theorem dX8_see_43 : decode cX8_see 43 = .ok (.iastore, 1) := by decide +kernel
theorem dX8_see_44 : decode cX8_see 44 = .ok (.iconst (-1), 1) := by decide +kernel
theorem dX8_see_45 : decode cX8_see 45 = .ok (.ireturn, 1) := by decide +kernel
theorem dX8_see_46 : decode cX8_see 46 = .ok (.aload_n 0, 1) := by decide +kernel
theorem dX8_see_47 : decode cX8_see 47 = .ok (.getfield 40, 3) := by decide +kernel
theorem dX8_see_50 : decode cX8_see 50 = .ok (.getfield 138, 3) := by decide +kernel
theorem dX8_see_53 : decode cX8_see 53 = .ok (.iconst 3, 1) := by decide +kernel
theorem dX8_see_54 : decode cX8_see 54 = .ok (.imul, 1) := by decide +kernel
theorem dX8_see_55 : decode cX8_see 55 = .ok (.istore 4, 2) := by decide +kernel
theorem dX8_see_57 : decode cX8_see 57 = .ok (.aload_n 0, 1) := by decide +kernel
theorem dX8_see_58 : decode cX8_see 58 = .ok (.getfield 40, 3) := by decide +kernel
theorem dX8_see_61 : decode cX8_see 61 = .ok (.getfield 332, 3) := by decide +kernel
theorem dX8_see_64 : decode cX8_see 64 = .ok (.iload 4, 2) := by decide +kernel
theorem dX8_see_66 : decode cX8_see 66 = .ok (.iload_n 1, 1) := by decide +kernel
theorem dX8_see_67 : decode cX8_see 67 = .ok (.iastore, 1) := by decide +kernel
theorem dX8_see_68 : decode cX8_see 68 = .ok (.aload_n 0, 1) := by decide +kernel
theorem dX8_see_69 : decode cX8_see 69 = .ok (.getfield 40, 3) := by decide +kernel
theorem dX8_see_72 : decode cX8_see 72 = .ok (.getfield 332, 3) := by decide +kernel
theorem dX8_see_75 : decode cX8_see 75 = .ok (.iload 4, 2) := by decide +kernel
theorem dX8_see_77 : decode cX8_see 77 = .ok (.iconst 1, 1) := by decide +kernel
theorem dX8_see_78 : decode cX8_see 78 = .ok (.iadd, 1) := by decide +kernel
theorem dX8_see_79 : decode cX8_see 79 = .ok (.iload_n 2, 1) := by decide +kernel
theorem dX8_see_80 : decode cX8_see 80 = .ok (.iastore, 1) := by decide +kernel
theorem dX8_see_81 : decode cX8_see 81 = .ok (.aload_n 0, 1) := by decide +kernel
theorem dX8_see_82 : decode cX8_see 82 = .ok (.getfield 40, 3) := by decide +kernel
theorem dX8_see_85 : decode cX8_see 85 = .ok (.getfield 332, 3) := by decide +kernel
theorem dX8_see_88 : decode cX8_see 88 = .ok (.iload 4, 2) := by decide +kernel
theorem dX8_see_90 : decode cX8_see 90 = .ok (.iconst 2, 1) := by decide +kernel
theorem dX8_see_91 : decode cX8_see 91 = .ok (.iadd, 1) := by decide +kernel
theorem dX8_see_92 : decode cX8_see 92 = .ok (.iload_n 3, 1) := by decide +kernel
theorem dX8_see_93 : decode cX8_see 93 = .ok (.iastore, 1) := by decide +kernel
theorem dX8_see_94 : decode cX8_see 94 = .ok (.aload_n 0, 1) := by decide +kernel
theorem dX8_see_95 : decode cX8_see 95 = .ok (.getfield 40, 3) := by decide +kernel
theorem dX8_see_98 : decode cX8_see 98 = .ok (.dup, 1) := by decide +kernel
theorem dX8_see_99 : decode cX8_see 99 = .ok (.getfield 138, 3) := by decide +kernel
theorem dX8_see_102 : decode cX8_see 102 = .ok (.iconst 1, 1) := by decide +kernel
theorem dX8_see_103 : decode cX8_see 103 = .ok (.iadd, 1) := by decide +kernel
theorem dX8_see_104 : decode cX8_see 104 = .ok (.putfield 138, 3) := by decide +kernel
theorem dX8_see_107 : decode cX8_see 107 = .ok (.aload_n 0, 1) := by decide +kernel
theorem dX8_see_108 : decode cX8_see 108 = .ok (.getfield 40, 3) := by decide +kernel
theorem dX8_see_111 : decode cX8_see 111 = .ok (.getfield 138, 3) := by decide +kernel
theorem dX8_see_114 : decode cX8_see 114 = .ok (.ireturn, 1) := by decide +kernel
theorem dX8_fits_0 : decode cX8_fits 0 = .ok (.iload_n 1, 1) := by decide +kernel
theorem dX8_fits_1 : decode cX8_fits 1 = .ok (.iconst 2, 1) := by decide +kernel
theorem dX8_fits_2 : decode cX8_fits 2 = .ok (.invokestatic 195, 3) := by decide +kernel
theorem dX8_fits_5 : decode cX8_fits 5 = .ok (.aload_n 0, 1) := by decide +kernel
theorem dX8_fits_6 : decode cX8_fits 6 = .ok (.getfield 54, 3) := by decide +kernel
theorem dX8_fits_9 : decode cX8_fits 9 = .ok (.aload_n 0, 1) := by decide +kernel
theorem dX8_fits_10 : decode cX8_fits 10 = .ok (.getfield 40, 3) := by decide +kernel
theorem dX8_fits_13 : decode cX8_fits 13 = .ok (.getfield 116, 3) := by decide +kernel
theorem dX8_fits_16 : decode cX8_fits 16 = .ok (.invokevirtual 282, 3) := by decide +kernel
theorem dX8_fits_19 : decode cX8_fits 19 = .ok (.iconst 0, 1) := by decide +kernel
theorem dX8_fits_20 : decode cX8_fits 20 = .ok (.istore_n 2, 1) := by decide +kernel
theorem dX8_fits_21 : decode cX8_fits 21 = .ok (.iconst (-1), 1) := by decide +kernel
theorem dX8_fits_22 : decode cX8_fits 22 = .ok (.istore_n 3, 1) := by decide +kernel
theorem dX8_fits_23 : decode cX8_fits 23 = .ok (.iconst 0, 1) := by decide +kernel
theorem dX8_fits_24 : decode cX8_fits 24 = .ok (.istore 4, 2) := by decide +kernel
theorem dX8_fits_26 : decode cX8_fits 26 = .ok (.iload 4, 2) := by decide +kernel
theorem dX8_fits_28 : decode cX8_fits 28 = .ok (.aload_n 0, 1) := by decide +kernel
theorem dX8_fits_29 : decode cX8_fits 29 = .ok (.getfield 54, 3) := by decide +kernel
theorem dX8_fits_32 : decode cX8_fits 32 = .ok (.getfield 117, 3) := by decide +kernel
theorem dX8_fits_35 : decode cX8_fits 35 = .ok (.if_icmp .ge 104, 3) := by decide +kernel
theorem dX8_fits_38 : decode cX8_fits 38 = .ok (.aload_n 0, 1) := by decide +kernel
theorem dX8_fits_39 : decode cX8_fits 39 = .ok (.getfield 40, 3) := by decide +kernel
theorem dX8_fits_42 : decode cX8_fits 42 = .ok (.getfield 116, 3) := by decide +kernel
theorem dX8_fits_45 : decode cX8_fits 45 = .ok (.getfield 161, 3) := by decide +kernel
theorem dX8_fits_48 : decode cX8_fits 48 = .ok (.iload 4, 2) := by decide +kernel
theorem dX8_fits_50 : decode cX8_fits 50 = .ok (.iaload, 1) := by decide +kernel
theorem dX8_fits_51 : decode cX8_fits 51 = .ok (.istore 5, 2) := by decide +kernel
theorem dX8_fits_53 : decode cX8_fits 53 = .ok (.iconst 1, 1) := by decide +kernel
theorem dX8_fits_54 : decode cX8_fits 54 = .ok (.istore 6, 2) := by decide +kernel
theorem dX8_fits_56 : decode cX8_fits 56 = .ok (.iload 6, 2) := by decide +kernel
theorem dX8_fits_58 : decode cX8_fits 58 = .ok (.bipush 9, 2) := by decide +kernel
theorem dX8_fits_60 : decode cX8_fits 60 = .ok (.if_icmp .gt 61, 3) := by decide +kernel
theorem dX8_fits_63 : decode cX8_fits 63 = .ok (.iload 5, 2) := by decide +kernel
theorem dX8_fits_65 : decode cX8_fits 65 = .ok (.iload 6, 2) := by decide +kernel
theorem dX8_fits_67 : decode cX8_fits 67 = .ok (.iadd, 1) := by decide +kernel
theorem dX8_fits_68 : decode cX8_fits 68 = .ok (.bipush 60, 2) := by decide +kernel
theorem dX8_fits_70 : decode cX8_fits 70 = .ok (.if_icmp .gt 51, 3) := by decide +kernel
theorem dX8_fits_73 : decode cX8_fits 73 = .ok (.aload_n 0, 1) := by decide +kernel
theorem dX8_fits_74 : decode cX8_fits 74 = .ok (.getfield 54, 3) := by decide +kernel
theorem dX8_fits_77 : decode cX8_fits 77 = .ok (.getfield 161, 3) := by decide +kernel
theorem dX8_fits_80 : decode cX8_fits 80 = .ok (.iload 4, 2) := by decide +kernel
theorem dX8_fits_82 : decode cX8_fits 82 = .ok (.iload 5, 2) := by decide +kernel
theorem dX8_fits_84 : decode cX8_fits 84 = .ok (.iload 6, 2) := by decide +kernel
theorem dX8_fits_86 : decode cX8_fits 86 = .ok (.iadd, 1) := by decide +kernel
theorem dX8_fits_87 : decode cX8_fits 87 = .ok (.iastore, 1) := by decide +kernel
theorem dX8_fits_88 : decode cX8_fits 88 = .ok (.aload_n 0, 1) := by decide +kernel
theorem dX8_fits_89 : decode cX8_fits 89 = .ok (.invokevirtual 335, 3) := by decide +kernel
theorem dX8_fits_92 : decode cX8_fits 92 = .ok (.ifCond .eq 23, 3) := by decide +kernel
theorem dX8_fits_95 : decode cX8_fits 95 = .ok (.iload_n 2, 1) := by decide +kernel
theorem dX8_fits_96 : decode cX8_fits 96 = .ok (.ifCond .ne 14, 3) := by decide +kernel
theorem dX8_fits_99 : decode cX8_fits 99 = .ok (.bipush 10, 2) := by decide +kernel
theorem dX8_fits_101 : decode cX8_fits 101 = .ok (.iload 4, 2) := by decide +kernel
theorem dX8_fits_103 : decode cX8_fits 103 = .ok (.imul, 1) := by decide +kernel
theorem dX8_fits_104 : decode cX8_fits 104 = .ok (.iload 6, 2) := by decide +kernel
theorem dX8_fits_106 : decode cX8_fits 106 = .ok (.iadd, 1) := by decide +kernel
theorem dX8_fits_107 : decode cX8_fits 107 = .ok (.goto 4, 3) := by decide +kernel
theorem dX8_fits_110 : decode cX8_fits 110 = .ok (.iload_n 3, 1) := by decide +kernel
theorem dX8_fits_111 : decode cX8_fits 111 = .ok (.istore_n 3, 1) := by decide +kernel
theorem dX8_fits_112 : decode cX8_fits 112 = .ok (.iinc 2 1, 3) := by decide +kernel
theorem dX8_fits_115 : decode cX8_fits 115 = .ok (.iinc 6 1, 3) := by decide +kernel
theorem dX8_fits_118 : decode cX8_fits 118 = .ok (.goto (-62), 3) := by decide +kernel
theorem dX8_fits_121 : decode cX8_fits 121 = .ok (.aload_n 0, 1) := by decide +kernel
theorem dX8_fits_122 : decode cX8_fits 122 = .ok (.getfield 54, 3) := by decide +kernel
theorem dX8_fits_125 : decode cX8_fits 125 = .ok (.getfield 161, 3) := by decide +kernel
theorem dX8_fits_128 : decode cX8_fits 128 = .ok (.iload 4, 2) := by decide +kernel
theorem dX8_fits_130 : decode cX8_fits 130 = .ok (.iload 5, 2) := by decide +kernel
theorem dX8_fits_132 : decode cX8_fits 132 = .ok (.iastore, 1) := by decide +kernel
theorem dX8_fits_133 : decode cX8_fits 133 = .ok (.iinc 4 1, 3) := by decide +kernel
theorem dX8_fits_136 : decode cX8_fits 136 = .ok (.goto (-110), 3) := by decide +kernel
theorem dX8_fits_139 : decode cX8_fits 139 = .ok (.iload_n 1, 1) := by decide +kernel
theorem dX8_fits_140 : decode cX8_fits 140 = .ok (.ifCond .ne 7, 3) := by decide +kernel
theorem dX8_fits_143 : decode cX8_fits 143 = .ok (.iload_n 2, 1) := by decide +kernel
theorem dX8_fits_144 : decode cX8_fits 144 = .ok (.goto 4, 3) := by decide +kernel
theorem dX8_fits_147 : decode cX8_fits 147 = .ok (.iload_n 3, 1) := by decide +kernel
theorem dX8_fits_148 : decode cX8_fits 148 = .ok (.ireturn, 1) := by decide +kernel
theorem dX8_isAllSeenSo_0 : decode cX8_isAllSeenSo 0 = .ok (.iconst 0, 1) := by decide +kernel
theorem dX8_isAllSeenSo_1 : decode cX8_isAllSeenSo 1 = .ok (.istore_n 1, 1) := by decide +kernel
theorem dX8_isAllSeenSo_2 : decode cX8_isAllSeenSo 2 = .ok (.iload_n 1, 1) := by decide +kernel
theorem dX8_isAllSeenSo_3 : decode cX8_isAllSeenSo 3 = .ok (.aload_n 0, 1) := by decide +kernel
theorem dX8_isAllSeenSo_4 : decode cX8_isAllSeenSo 4 = .ok (.getfield 40, 3) := by decide +kernel
theorem dX8_isAllSeenSo_7 : decode cX8_isAllSeenSo 7 = .ok (.getfield 138, 3) := by decide +kernel
theorem dX8_isAllSeenSo_10 : decode cX8_isAllSeenSo 10 = .ok (.if_icmp .ge 53, 3) := by decide +kernel
theorem dX8_isAllSeenSo_13 : decode cX8_isAllSeenSo 13 = .ok (.iload_n 1, 1) := by decide +kernel
theorem dX8_isAllSeenSo_14 : decode cX8_isAllSeenSo 14 = .ok (.iconst 3, 1) := by decide +kernel
theorem dX8_isAllSeenSo_15 : decode cX8_isAllSeenSo 15 = .ok (.imul, 1) := by decide +kernel
theorem dX8_isAllSeenSo_16 : decode cX8_isAllSeenSo 16 = .ok (.istore_n 2, 1) := by decide +kernel
theorem dX8_isAllSeenSo_17 : decode cX8_isAllSeenSo 17 = .ok (.aload_n 0, 1) := by decide +kernel
theorem dX8_isAllSeenSo_18 : decode cX8_isAllSeenSo 18 = .ok (.aload_n 0, 1) := by decide +kernel
theorem dX8_isAllSeenSo_19 : decode cX8_isAllSeenSo 19 = .ok (.getfield 40, 3) := by decide +kernel
theorem dX8_isAllSeenSo_22 : decode cX8_isAllSeenSo 22 = .ok (.getfield 332, 3) := by decide +kernel
theorem dX8_isAllSeenSo_25 : decode cX8_isAllSeenSo 25 = .ok (.iload_n 2, 1) := by decide +kernel
theorem dX8_isAllSeenSo_26 : decode cX8_isAllSeenSo 26 = .ok (.iaload, 1) := by decide +kernel
theorem dX8_isAllSeenSo_27 : decode cX8_isAllSeenSo 27 = .ok (.aload_n 0, 1) := by decide +kernel
theorem dX8_isAllSeenSo_28 : decode cX8_isAllSeenSo 28 = .ok (.getfield 40, 3) := by decide +kernel
theorem dX8_isAllSeenSo_31 : decode cX8_isAllSeenSo 31 = .ok (.getfield 332, 3) := by decide +kernel
theorem dX8_isAllSeenSo_34 : decode cX8_isAllSeenSo 34 = .ok (.iload_n 2, 1) := by decide +kernel
theorem dX8_isAllSeenSo_35 : decode cX8_isAllSeenSo 35 = .ok (.iconst 1, 1) := by decide +kernel
theorem dX8_isAllSeenSo_36 : decode cX8_isAllSeenSo 36 = .ok (.iadd, 1) := by decide +kernel
theorem dX8_isAllSeenSo_37 : decode cX8_isAllSeenSo 37 = .ok (.iaload, 1) := by decide +kernel
theorem dX8_isAllSeenSo_38 : decode cX8_isAllSeenSo 38 = .ok (.invokevirtual 339, 3) := by decide +kernel
theorem dX8_isAllSeenSo_41 : decode cX8_isAllSeenSo 41 = .ok (.aload_n 0, 1) := by decide +kernel
theorem dX8_isAllSeenSo_42 : decode cX8_isAllSeenSo 42 = .ok (.getfield 40, 3) := by decide +kernel
theorem dX8_isAllSeenSo_45 : decode cX8_isAllSeenSo 45 = .ok (.getfield 332, 3) := by decide +kernel
theorem dX8_isAllSeenSo_48 : decode cX8_isAllSeenSo 48 = .ok (.iload_n 2, 1) := by decide +kernel
theorem dX8_isAllSeenSo_49 : decode cX8_isAllSeenSo 49 = .ok (.iconst 2, 1) := by decide +kernel
theorem dX8_isAllSeenSo_50 : decode cX8_isAllSeenSo 50 = .ok (.iadd, 1) := by decide +kernel
theorem dX8_isAllSeenSo_51 : decode cX8_isAllSeenSo 51 = .ok (.iaload, 1) := by decide +kernel
theorem dX8_isAllSeenSo_52 : decode cX8_isAllSeenSo 52 = .ok (.if_icmp .eq 5, 3) := by decide +kernel
theorem dX8_isAllSeenSo_55 : decode cX8_isAllSeenSo 55 = .ok (.iconst 0, 1) := by decide +kernel
theorem dX8_isAllSeenSo_56 : decode cX8_isAllSeenSo 56 = .ok (.ireturn, 1) := by decide +kernel
theorem dX8_isAllSeenSo_57 : decode cX8_isAllSeenSo 57 = .ok (.iinc 1 1, 3) := by decide +kernel
theorem dX8_isAllSeenSo_60 : decode cX8_isAllSeenSo 60 = .ok (.goto (-58), 3) := by decide +kernel
theorem dX8_isAllSeenSo_63 : decode cX8_isAllSeenSo 63 = .ok (.iconst 1, 1) := by decide +kernel
theorem dX8_isAllSeenSo_64 : decode cX8_isAllSeenSo 64 = .ok (.ireturn, 1) := by decide +kernel
theorem dX8_highOnTrial_0 : decode cX8_highOnTrial 0 = .ok (.aload_n 0, 1) := by decide +kernel
theorem dX8_highOnTrial_1 : decode cX8_highOnTrial 1 = .ok (.getfield 54, 3) := by decide +kernel
theorem dX8_highOnTrial_4 : decode cX8_highOnTrial 4 = .ok (.iload_n 1, 1) := by decide +kernel
theorem dX8_highOnTrial_5 : decode cX8_highOnTrial 5 = .ok (.invokevirtual 342, 3) := by decide +kernel
theorem dX8_highOnTrial_8 : decode cX8_highOnTrial 8 = .ok (.ifCond .ne 5, 3) := by decide +kernel
theorem dX8_highOnTrial_11 : decode cX8_highOnTrial 11 = .ok (.iconst (-1), 1) := by decide +kernel
theorem dX8_highOnTrial_12 : decode cX8_highOnTrial 12 = .ok (.ireturn, 1) := by decide +kernel
theorem dX8_highOnTrial_13 : decode cX8_highOnTrial 13 = .ok (.aload_n 0, 1) := by decide +kernel
theorem dX8_highOnTrial_14 : decode cX8_highOnTrial 14 = .ok (.getfield 61, 3) := by decide +kernel
theorem dX8_highOnTrial_17 : decode cX8_highOnTrial 17 = .ok (.aload_n 0, 1) := by decide +kernel
theorem dX8_highOnTrial_18 : decode cX8_highOnTrial 18 = .ok (.getfield 30, 3) := by decide +kernel
theorem dX8_highOnTrial_21 : decode cX8_highOnTrial 21 = .ok (.aload_n 0, 1) := by decide +kernel
theorem dX8_highOnTrial_22 : decode cX8_highOnTrial 22 = .ok (.getfield 54, 3) := by decide +kernel
theorem dX8_highOnTrial_25 : decode cX8_highOnTrial 25 = .ok (.iload_n 1, 1) := by decide +kernel
theorem dX8_highOnTrial_26 : decode cX8_highOnTrial 26 = .ok (.iload_n 1, 1) := by decide +kernel
theorem dX8_highOnTrial_27 : decode cX8_highOnTrial 27 = .ok (.iload_n 2, 1) := by decide +kernel
theorem dX8_highOnTrial_28 : decode cX8_highOnTrial 28 = .ok (.iconst 0, 1) := by decide +kernel
theorem dX8_highOnTrial_29 : decode cX8_highOnTrial 29 = .ok (.invokevirtual 205, 3) := by decide +kernel
theorem dX8_highOnTrial_32 : decode cX8_highOnTrial 32 = .ok (.aload_n 0, 1) := by decide +kernel
theorem dX8_highOnTrial_33 : decode cX8_highOnTrial 33 = .ok (.getfield 61, 3) := by decide +kernel
theorem dX8_highOnTrial_36 : decode cX8_highOnTrial 36 = .ok (.getfield 215, 3) := by decide +kernel
theorem dX8_highOnTrial_39 : decode cX8_highOnTrial 39 = .ok (.iload_n 1, 1) := by decide +kernel
theorem dX8_highOnTrial_40 : decode cX8_highOnTrial 40 = .ok (.iaload, 1) := by decide +kernel
theorem dX8_highOnTrial_41 : decode cX8_highOnTrial 41 = .ok (.ireturn, 1) := by decide +kernel
theorem dX8_weighed_0 : decode cX8_weighed 0 = .ok (.aload_n 0, 1) := by decide +kernel
theorem dX8_weighed_1 : decode cX8_weighed 1 = .ok (.iload_n 1, 1) := by decide +kernel
theorem dX8_weighed_2 : decode cX8_weighed 2 = .ok (.invokevirtual 146, 3) := by decide +kernel
theorem dX8_weighed_5 : decode cX8_weighed 5 = .ok (.iload_n 2, 1) := by decide +kernel
theorem dX8_weighed_6 : decode cX8_weighed 6 = .ok (.invokestatic 192, 3) := by decide +kernel
theorem dX8_weighed_9 : decode cX8_weighed 9 = .ok (.iload 4, 2) := by decide +kernel
theorem dX8_weighed_11 : decode cX8_weighed 11 = .ok (.iconst 2, 1) := by decide +kernel
theorem dX8_weighed_12 : decode cX8_weighed 12 = .ok (.invokestatic 195, 3) := by decide +kernel
theorem dX8_weighed_15 : decode cX8_weighed 15 = .ok (.aload_n 0, 1) := by decide +kernel
theorem dX8_weighed_16 : decode cX8_weighed 16 = .ok (.getfield 54, 3) := by decide +kernel
theorem dX8_weighed_19 : decode cX8_weighed 19 = .ok (.aload_n 0, 1) := by decide +kernel
theorem dX8_weighed_20 : decode cX8_weighed 20 = .ok (.getfield 40, 3) := by decide +kernel
theorem dX8_weighed_23 : decode cX8_weighed 23 = .ok (.getfield 116, 3) := by decide +kernel
theorem dX8_weighed_26 : decode cX8_weighed 26 = .ok (.invokevirtual 282, 3) := by decide +kernel
theorem dX8_weighed_29 : decode cX8_weighed 29 = .ok (.iconst 0, 1) := by decide +kernel
theorem dX8_weighed_30 : decode cX8_weighed 30 = .ok (.istore 5, 2) := by decide +kernel
theorem dX8_weighed_32 : decode cX8_weighed 32 = .ok (.iconst (-1), 1) := by decide +kernel
theorem dX8_weighed_33 : decode cX8_weighed 33 = .ok (.istore 6, 2) := by decide +kernel
theorem dX8_weighed_35 : decode cX8_weighed 35 = .ok (.iconst 0, 1) := by decide +kernel
theorem dX8_weighed_36 : decode cX8_weighed 36 = .ok (.istore 7, 2) := by decide +kernel
theorem dX8_weighed_38 : decode cX8_weighed 38 = .ok (.iload 7, 2) := by decide +kernel
theorem dX8_weighed_40 : decode cX8_weighed 40 = .ok (.bipush 60, 2) := by decide +kernel
theorem dX8_weighed_42 : decode cX8_weighed 42 = .ok (.if_icmp .gt 47, 3) := by decide +kernel
theorem dX8_weighed_45 : decode cX8_weighed 45 = .ok (.aload_n 0, 1) := by decide +kernel
theorem dX8_weighed_46 : decode cX8_weighed 46 = .ok (.getfield 54, 3) := by decide +kernel
theorem dX8_weighed_49 : decode cX8_weighed 49 = .ok (.getfield 173, 3) := by decide +kernel
theorem dX8_weighed_52 : decode cX8_weighed 52 = .ok (.iload_n 1, 1) := by decide +kernel
theorem dX8_weighed_53 : decode cX8_weighed 53 = .ok (.iload 7, 2) := by decide +kernel
theorem dX8_weighed_55 : decode cX8_weighed 55 = .ok (.iastore, 1) := by decide +kernel
theorem dX8_weighed_56 : decode cX8_weighed 56 = .ok (.aload_n 0, 1) := by decide +kernel
theorem dX8_weighed_57 : decode cX8_weighed 57 = .ok (.iload_n 1, 1) := by decide +kernel
theorem dX8_weighed_58 : decode cX8_weighed 58 = .ok (.iload_n 2, 1) := by decide +kernel
theorem dX8_weighed_59 : decode cX8_weighed 59 = .ok (.invokevirtual 339, 3) := by decide +kernel
theorem dX8_weighed_62 : decode cX8_weighed 62 = .ok (.iload_n 3, 1) := by decide +kernel
theorem dX8_weighed_63 : decode cX8_weighed 63 = .ok (.if_icmp .ne 20, 3) := by decide +kernel
theorem dX8_weighed_66 : decode cX8_weighed 66 = .ok (.iload 5, 2) := by decide +kernel
theorem dX8_weighed_68 : decode cX8_weighed 68 = .ok (.ifCond .ne 8, 3) := by decide +kernel
theorem dX8_weighed_71 : decode cX8_weighed 71 = .ok (.iload 7, 2) := by decide +kernel
theorem dX8_weighed_73 : decode cX8_weighed 73 = .ok (.goto 5, 3) := by decide +kernel
theorem dX8_weighed_76 : decode cX8_weighed 76 = .ok (.iload 6, 2) := by decide +kernel
theorem dX8_weighed_78 : decode cX8_weighed 78 = .ok (.istore 6, 2) := by decide +kernel
theorem dX8_weighed_80 : decode cX8_weighed 80 = .ok (.iinc 5 1, 3) := by decide +kernel
theorem dX8_weighed_83 : decode cX8_weighed 83 = .ok (.iinc 7 1, 3) := by decide +kernel
theorem dX8_weighed_86 : decode cX8_weighed 86 = .ok (.goto (-48), 3) := by decide +kernel
theorem dX8_weighed_89 : decode cX8_weighed 89 = .ok (.iload 4, 2) := by decide +kernel
theorem dX8_weighed_91 : decode cX8_weighed 91 = .ok (.ifCond .ne 8, 3) := by decide +kernel
theorem dX8_weighed_94 : decode cX8_weighed 94 = .ok (.iload 5, 2) := by decide +kernel
theorem dX8_weighed_96 : decode cX8_weighed 96 = .ok (.goto 5, 3) := by decide +kernel
theorem dX8_weighed_99 : decode cX8_weighed 99 = .ok (.iload 6, 2) := by decide +kernel
theorem dX8_weighed_101 : decode cX8_weighed 101 = .ok (.ireturn, 1) := by decide +kernel
theorem dX8_gust_0 : decode cX8_gust 0 = .ok (.iload_n 1, 1) := by decide +kernel
theorem dX8_gust_1 : decode cX8_gust 1 = .ok (.invokestatic 192, 3) := by decide +kernel
theorem dX8_gust_4 : decode cX8_gust 4 = .ok (.iload_n 2, 1) := by decide +kernel
theorem dX8_gust_5 : decode cX8_gust 5 = .ok (.iconst 2, 1) := by decide +kernel
theorem dX8_gust_6 : decode cX8_gust 6 = .ok (.invokestatic 195, 3) := by decide +kernel
theorem dX8_gust_9 : decode cX8_gust 9 = .ok (.aload_n 0, 1) := by decide +kernel
theorem dX8_gust_10 : decode cX8_gust 10 = .ok (.iload_n 1, 1) := by decide +kernel
theorem dX8_gust_11 : decode cX8_gust 11 = .ok (.invokevirtual 345, 3) := by decide +kernel
theorem dX8_gust_14 : decode cX8_gust 14 = .ok (.i2l, 1) := by decide +kernel
theorem dX8_gust_15 : decode cX8_gust 15 = .ok (.aload_n 0, 1) := by decide +kernel
theorem dX8_gust_16 : decode cX8_gust 16 = .ok (.getfield 30, 3) := by decide +kernel
theorem dX8_gust_19 : decode cX8_gust 19 = .ok (.invokevirtual 348, 3) := by decide +kernel
theorem dX8_gust_22 : decode cX8_gust 22 = .ok (.i2l, 1) := by decide +kernel
theorem dX8_gust_23 : decode cX8_gust 23 = .ok (.iload_n 2, 1) := by decide +kernel
theorem dX8_gust_24 : decode cX8_gust 24 = .ok (.invokestatic 351, 3) := by decide +kernel
theorem dX8_gust_27 : decode cX8_gust 27 = .ok (.l2i, 1) := by decide +kernel
theorem dX8_gust_28 : decode cX8_gust 28 = .ok (.ireturn, 1) := by decide +kernel
theorem dX8_calm_0 : decode cX8_calm 0 = .ok (.iload_n 3, 1) := by decide +kernel
theorem dX8_calm_1 : decode cX8_calm 1 = .ok (.iconst 2, 1) := by decide +kernel
theorem dX8_calm_2 : decode cX8_calm 2 = .ok (.invokestatic 195, 3) := by decide +kernel
theorem dX8_calm_5 : decode cX8_calm 5 = .ok (.iload_n 1, 1) := by decide +kernel
theorem dX8_calm_6 : decode cX8_calm 6 = .ok (.iload_n 2, 1) := by decide +kernel
theorem dX8_calm_7 : decode cX8_calm 7 = .ok (.bipush 8, 2) := by decide +kernel
theorem dX8_calm_9 : decode cX8_calm 9 = .ok (.invokestatic 266, 3) := by decide +kernel
theorem dX8_calm_12 : decode cX8_calm 12 = .ok (.lconst 1, 1) := by decide +kernel
theorem dX8_calm_13 : decode cX8_calm 13 = .ok (.lstore 4, 2) := by decide +kernel
theorem dX8_calm_15 : decode cX8_calm 15 = .ok (.lconst 1, 1) := by decide +kernel
theorem dX8_calm_16 : decode cX8_calm 16 = .ok (.lstore 6, 2) := by decide +kernel
theorem dX8_calm_18 : decode cX8_calm 18 = .ok (.iload_n 1, 1) := by decide +kernel
theorem dX8_calm_19 : decode cX8_calm 19 = .ok (.istore 8, 2) := by decide +kernel
theorem dX8_calm_21 : decode cX8_calm 21 = .ok (.iload 8, 2) := by decide +kernel
theorem dX8_calm_23 : decode cX8_calm 23 = .ok (.iload_n 2, 1) := by decide +kernel
theorem dX8_calm_24 : decode cX8_calm 24 = .ok (.if_icmp .gt 41, 3) := by decide +kernel
theorem dX8_calm_27 : decode cX8_calm 27 = .ok (.aload_n 0, 1) := by decide +kernel
theorem dX8_calm_28 : decode cX8_calm 28 = .ok (.getfield 30, 3) := by decide +kernel
theorem dX8_calm_31 : decode cX8_calm 31 = .ok (.invokevirtual 348, 3) := by decide +kernel
theorem dX8_calm_34 : decode cX8_calm 34 = .ok (.istore 9, 2) := by decide +kernel
theorem dX8_calm_36 : decode cX8_calm 36 = .ok (.lload 4, 2) := by decide +kernel
theorem dX8_calm_38 : decode cX8_calm 38 = .ok (.iload 9, 2) := by decide +kernel
theorem dX8_calm_40 : decode cX8_calm 40 = .ok (.aload_n 0, 1) := by decide +kernel
theorem dX8_calm_41 : decode cX8_calm 41 = .ok (.iload 8, 2) := by decide +kernel
theorem dX8_calm_43 : decode cX8_calm 43 = .ok (.invokevirtual 345, 3) := by decide +kernel
theorem dX8_calm_46 : decode cX8_calm 46 = .ok (.isub, 1) := by decide +kernel
theorem dX8_calm_47 : decode cX8_calm 47 = .ok (.i2l, 1) := by decide +kernel
theorem dX8_calm_48 : decode cX8_calm 48 = .ok (.lmul, 1) := by decide +kernel
theorem dX8_calm_49 : decode cX8_calm 49 = .ok (.lstore 4, 2) := by decide +kernel
theorem dX8_calm_51 : decode cX8_calm 51 = .ok (.lload 6, 2) := by decide +kernel
theorem dX8_calm_53 : decode cX8_calm 53 = .ok (.iload 9, 2) := by decide +kernel
theorem dX8_calm_55 : decode cX8_calm 55 = .ok (.i2l, 1) := by decide +kernel
theorem dX8_calm_56 : decode cX8_calm 56 = .ok (.lmul, 1) := by decide +kernel
theorem dX8_calm_57 : decode cX8_calm 57 = .ok (.lstore 6, 2) := by decide +kernel
theorem dX8_calm_59 : decode cX8_calm 59 = .ok (.iinc 8 1, 3) := by decide +kernel
theorem dX8_calm_62 : decode cX8_calm 62 = .ok (.goto (-41), 3) := by decide +kernel
theorem dX8_calm_65 : decode cX8_calm 65 = .ok (.lload 4, 2) := by decide +kernel
theorem dX8_calm_67 : decode cX8_calm 67 = .ok (.lload 6, 2) := by decide +kernel
theorem dX8_calm_69 : decode cX8_calm 69 = .ok (.iload_n 3, 1) := by decide +kernel
theorem dX8_calm_70 : decode cX8_calm 70 = .ok (.invokestatic 351, 3) := by decide +kernel
theorem dX8_calm_73 : decode cX8_calm 73 = .ok (.lreturn, 1) := by decide +kernel
theorem dX8_knockingWeight_0 : decode cX8_knockingWeight 0 = .ok (.iconst 0, 1) := by decide +kernel
theorem dX8_knockingWeight_1 : decode cX8_knockingWeight 1 = .ok (.istore_n 2, 1) := by decide +kernel
theorem dX8_knockingWeight_2 : decode cX8_knockingWeight 2 = .ok (.iconst 0, 1) := by decide +kernel
theorem dX8_knockingWeight_3 : decode cX8_knockingWeight 3 = .ok (.istore_n 3, 1) := by decide +kernel
theorem dX8_knockingWeight_4 : decode cX8_knockingWeight 4 = .ok (.iload_n 3, 1) := by decide +kernel
theorem dX8_knockingWeight_5 : decode cX8_knockingWeight 5 = .ok (.iconst 4, 1) := by decide +kernel
theorem dX8_knockingWeight_6 : decode cX8_knockingWeight 6 = .ok (.if_icmp .ge 67, 3) := by decide +kernel
theorem dX8_knockingWeight_9 : decode cX8_knockingWeight 9 = .ok (.aload_n 0, 1) := by decide +kernel
theorem dX8_knockingWeight_10 : decode cX8_knockingWeight 10 = .ok (.getfield 30, 3) := by decide +kernel
theorem dX8_knockingWeight_13 : decode cX8_knockingWeight 13 = .ok (.getfield 113, 3) := by decide +kernel
theorem dX8_knockingWeight_16 : decode cX8_knockingWeight 16 = .ok (.iload_n 3, 1) := by decide +kernel
theorem dX8_knockingWeight_17 : decode cX8_knockingWeight 17 = .ok (.iaload, 1) := by decide +kernel
theorem dX8_knockingWeight_18 : decode cX8_knockingWeight 18 = .ok (.ifCond .le 49, 3) := by decide +kernel
theorem dX8_knockingWeight_21 : decode cX8_knockingWeight 21 = .ok (.aload_n 0, 1) := by decide +kernel
theorem dX8_knockingWeight_22 : decode cX8_knockingWeight 22 = .ok (.aload_n 0, 1) := by decide +kernel
theorem dX8_knockingWeight_23 : decode cX8_knockingWeight 23 = .ok (.getfield 40, 3) := by decide +kernel
theorem dX8_knockingWeight_26 : decode cX8_knockingWeight 26 = .ok (.getfield 116, 3) := by decide +kernel
theorem dX8_knockingWeight_29 : decode cX8_knockingWeight 29 = .ok (.iload_n 1, 1) := by decide +kernel
theorem dX8_knockingWeight_30 : decode cX8_knockingWeight 30 = .ok (.iload_n 3, 1) := by decide +kernel
theorem dX8_knockingWeight_31 : decode cX8_knockingWeight 31 = .ok (.invokevirtual 244, 3) := by decide +kernel
theorem dX8_knockingWeight_34 : decode cX8_knockingWeight 34 = .ok (.aload_n 0, 1) := by decide +kernel
theorem dX8_knockingWeight_35 : decode cX8_knockingWeight 35 = .ok (.getfield 61, 3) := by decide +kernel
theorem dX8_knockingWeight_38 : decode cX8_knockingWeight 38 = .ok (.aload_n 0, 1) := by decide +kernel
theorem dX8_knockingWeight_39 : decode cX8_knockingWeight 39 = .ok (.getfield 40, 3) := by decide +kernel
theorem dX8_knockingWeight_42 : decode cX8_knockingWeight 42 = .ok (.getfield 116, 3) := by decide +kernel
theorem dX8_knockingWeight_45 : decode cX8_knockingWeight 45 = .ok (.getfield 117, 3) := by decide +kernel
theorem dX8_knockingWeight_48 : decode cX8_knockingWeight 48 = .ok (.invokevirtual 270, 3) := by decide +kernel
theorem dX8_knockingWeight_51 : decode cX8_knockingWeight 51 = .ok (.iconst (-1), 1) := by decide +kernel
theorem dX8_knockingWeight_52 : decode cX8_knockingWeight 52 = .ok (.if_icmp .eq 15, 3) := by decide +kernel
theorem dX8_knockingWeight_55 : decode cX8_knockingWeight 55 = .ok (.iload_n 2, 1) := by decide +kernel
theorem dX8_knockingWeight_56 : decode cX8_knockingWeight 56 = .ok (.aload_n 0, 1) := by decide +kernel
theorem dX8_knockingWeight_57 : decode cX8_knockingWeight 57 = .ok (.getfield 30, 3) := by decide +kernel
theorem dX8_knockingWeight_60 : decode cX8_knockingWeight 60 = .ok (.getfield 113, 3) := by decide +kernel
theorem dX8_knockingWeight_63 : decode cX8_knockingWeight 63 = .ok (.iload_n 3, 1) := by decide +kernel
theorem dX8_knockingWeight_64 : decode cX8_knockingWeight 64 = .ok (.iaload, 1) := by decide +kernel
theorem dX8_knockingWeight_65 : decode cX8_knockingWeight 65 = .ok (.iadd, 1) := by decide +kernel
theorem dX8_knockingWeight_66 : decode cX8_knockingWeight 66 = .ok (.istore_n 2, 1) := by decide +kernel
theorem dX8_knockingWeight_67 : decode cX8_knockingWeight 67 = .ok (.iinc 3 1, 3) := by decide +kernel
theorem dX8_knockingWeight_70 : decode cX8_knockingWeight 70 = .ok (.goto (-66), 3) := by decide +kernel
theorem dX8_knockingWeight_73 : decode cX8_knockingWeight 73 = .ok (.iload_n 2, 1) := by decide +kernel
theorem dX8_knockingWeight_74 : decode cX8_knockingWeight 74 = .ok (.ireturn, 1) := by decide +kernel
theorem dX8_inLowestTerms_0 : decode cX8_inLowestTerms 0 = .ok (.lload_n 0, 1) := by decide +kernel
theorem dX8_inLowestTerms_1 : decode cX8_inLowestTerms 1 = .ok (.lstore 5, 2) := by decide +kernel
theorem dX8_inLowestTerms_3 : decode cX8_inLowestTerms 3 = .ok (.lload_n 2, 1) := by decide +kernel
theorem dX8_inLowestTerms_4 : decode cX8_inLowestTerms 4 = .ok (.lstore 7, 2) := by decide +kernel
theorem dX8_inLowestTerms_6 : decode cX8_inLowestTerms 6 = .ok (.iconst 0, 1) := by decide +kernel
theorem dX8_inLowestTerms_7 : decode cX8_inLowestTerms 7 = .ok (.istore 9, 2) := by decide +kernel
theorem dX8_inLowestTerms_9 : decode cX8_inLowestTerms 9 = .ok (.iload 9, 2) := by decide +kernel
theorem dX8_inLowestTerms_11 : decode cX8_inLowestTerms 11 = .ok (.sipush 1000, 3) := by decide +kernel
theorem dX8_inLowestTerms_14 : decode cX8_inLowestTerms 14 = .ok (.if_icmp .ge 31, 3) := by decide +kernel
theorem dX8_inLowestTerms_17 : decode cX8_inLowestTerms 17 = .ok (.lload 7, 2) := by decide +kernel
theorem dX8_inLowestTerms_19 : decode cX8_inLowestTerms 19 = .ok (.lconst 0, 1) := by decide +kernel
theorem dX8_inLowestTerms_20 : decode cX8_inLowestTerms 20 = .ok (.lcmp, 1) := by decide +kernel
theorem dX8_inLowestTerms_21 : decode cX8_inLowestTerms 21 = .ok (.ifCond .eq 24, 3) := by decide +kernel
theorem dX8_inLowestTerms_24 : decode cX8_inLowestTerms 24 = .ok (.lload 5, 2) := by decide +kernel
theorem dX8_inLowestTerms_26 : decode cX8_inLowestTerms 26 = .ok (.lload 7, 2) := by decide +kernel
theorem dX8_inLowestTerms_28 : decode cX8_inLowestTerms 28 = .ok (.lrem, 1) := by decide +kernel
theorem dX8_inLowestTerms_29 : decode cX8_inLowestTerms 29 = .ok (.lstore 10, 2) := by decide +kernel
theorem dX8_inLowestTerms_31 : decode cX8_inLowestTerms 31 = .ok (.lload 7, 2) := by decide +kernel
theorem dX8_inLowestTerms_33 : decode cX8_inLowestTerms 33 = .ok (.lstore 5, 2) := by decide +kernel
theorem dX8_inLowestTerms_35 : decode cX8_inLowestTerms 35 = .ok (.lload 10, 2) := by decide +kernel
theorem dX8_inLowestTerms_37 : decode cX8_inLowestTerms 37 = .ok (.lstore 7, 2) := by decide +kernel
theorem dX8_inLowestTerms_39 : decode cX8_inLowestTerms 39 = .ok (.iinc 9 1, 3) := by decide +kernel
theorem dX8_inLowestTerms_42 : decode cX8_inLowestTerms 42 = .ok (.goto (-33), 3) := by decide +kernel
theorem dX8_inLowestTerms_45 : decode cX8_inLowestTerms 45 = .ok (.lload 5, 2) := by decide +kernel
theorem dX8_inLowestTerms_47 : decode cX8_inLowestTerms 47 = .ok (.lconst 0, 1) := by decide +kernel
theorem dX8_inLowestTerms_48 : decode cX8_inLowestTerms 48 = .ok (.lcmp, 1) := by decide +kernel
theorem dX8_inLowestTerms_49 : decode cX8_inLowestTerms 49 = .ok (.ifCond .ne 5, 3) := by decide +kernel
theorem dX8_inLowestTerms_52 : decode cX8_inLowestTerms 52 = .ok (.lconst 0, 1) := by decide +kernel
theorem dX8_inLowestTerms_53 : decode cX8_inLowestTerms 53 = .ok (.lreturn, 1) := by decide +kernel
theorem dX8_inLowestTerms_54 : decode cX8_inLowestTerms 54 = .ok (.iload 4, 2) := by decide +kernel
theorem dX8_inLowestTerms_56 : decode cX8_inLowestTerms 56 = .ok (.ifCond .ne 7, 3) := by decide +kernel
theorem dX8_inLowestTerms_59 : decode cX8_inLowestTerms 59 = .ok (.lload_n 0, 1) := by decide +kernel
theorem dX8_inLowestTerms_60 : decode cX8_inLowestTerms 60 = .ok (.goto 4, 3) := by decide +kernel
theorem dX8_inLowestTerms_63 : decode cX8_inLowestTerms 63 = .ok (.lload_n 2, 1) := by decide +kernel
theorem dX8_inLowestTerms_64 : decode cX8_inLowestTerms 64 = .ok (.lload 5, 2) := by decide +kernel
theorem dX8_inLowestTerms_66 : decode cX8_inLowestTerms 66 = .ok (.ldiv, 1) := by decide +kernel
theorem dX8_inLowestTerms_67 : decode cX8_inLowestTerms 67 = .ok (.lreturn, 1) := by decide +kernel
theorem dX8_view_0 : decode cX8_view 0 = .ok (.aload_n 0, 1) := by decide +kernel
theorem dX8_view_1 : decode cX8_view 1 = .ok (.iload_n 1, 1) := by decide +kernel
theorem dX8_view_2 : decode cX8_view 2 = .ok (.invokevirtual 146, 3) := by decide +kernel
theorem dX8_view_5 : decode cX8_view 5 = .ok (.iload_n 2, 1) := by decide +kernel
theorem dX8_view_6 : decode cX8_view 6 = .ok (.invokestatic 192, 3) := by decide +kernel
theorem dX8_view_9 : decode cX8_view 9 = .ok (.iload_n 3, 1) := by decide +kernel
theorem dX8_view_10 : decode cX8_view 10 = .ok (.iconst 3, 1) := by decide +kernel
theorem dX8_view_11 : decode cX8_view 11 = .ok (.invokestatic 195, 3) := by decide +kernel
theorem dX8_view_14 : decode cX8_view 14 = .ok (.aload_n 0, 1) := by decide +kernel
theorem dX8_view_15 : decode cX8_view 15 = .ok (.aload_n 0, 1) := by decide +kernel
theorem dX8_view_16 : decode cX8_view 16 = .ok (.getfield 40, 3) := by decide +kernel
theorem dX8_view_19 : decode cX8_view 19 = .ok (.getfield 116, 3) := by decide +kernel
theorem dX8_view_22 : decode cX8_view 22 = .ok (.iload_n 2, 1) := by decide +kernel
theorem dX8_view_23 : decode cX8_view 23 = .ok (.iconst 0, 1) := by decide +kernel
theorem dX8_view_24 : decode cX8_view 24 = .ok (.invokevirtual 244, 3) := by decide +kernel
theorem dX8_view_27 : decode cX8_view 27 = .ok (.aload_n 0, 1) := by decide +kernel
theorem dX8_view_28 : decode cX8_view 28 = .ok (.getfield 61, 3) := by decide +kernel
theorem dX8_view_31 : decode cX8_view 31 = .ok (.iload_n 1, 1) := by decide +kernel
theorem dX8_view_32 : decode cX8_view 32 = .ok (.aload_n 0, 1) := by decide +kernel
theorem dX8_view_33 : decode cX8_view 33 = .ok (.getfield 40, 3) := by decide +kernel
theorem dX8_view_36 : decode cX8_view 36 = .ok (.getfield 116, 3) := by decide +kernel
theorem dX8_view_39 : decode cX8_view 39 = .ok (.getfield 117, 3) := by decide +kernel
theorem dX8_view_42 : decode cX8_view 42 = .ok (.invokevirtual 355, 3) := by decide +kernel
theorem dX8_view_45 : decode cX8_view 45 = .ok (.istore 4, 2) := by decide +kernel
theorem dX8_view_47 : decode cX8_view 47 = .ok (.iload_n 3, 1) := by decide +kernel
theorem dX8_view_48 : decode cX8_view 48 = .ok (.ifCond .ne 6, 3) := by decide +kernel
theorem dX8_view_51 : decode cX8_view 51 = .ok (.iload 4, 2) := by decide +kernel
theorem dX8_view_53 : decode cX8_view 53 = .ok (.ireturn, 1) := by decide +kernel
theorem dX8_view_54 : decode cX8_view 54 = .ok (.aload_n 0, 1) := by decide +kernel
theorem dX8_view_55 : decode cX8_view 55 = .ok (.getfield 54, 3) := by decide +kernel
theorem dX8_view_58 : decode cX8_view 58 = .ok (.aload_n 0, 1) := by decide +kernel
theorem dX8_view_59 : decode cX8_view 59 = .ok (.getfield 40, 3) := by decide +kernel
theorem dX8_view_62 : decode cX8_view 62 = .ok (.getfield 116, 3) := by decide +kernel
theorem dX8_view_65 : decode cX8_view 65 = .ok (.invokevirtual 282, 3) := by decide +kernel
theorem dX8_view_68 : decode cX8_view 68 = .ok (.iconst 0, 1) := by decide +kernel
theorem dX8_view_69 : decode cX8_view 69 = .ok (.istore 5, 2) := by decide +kernel
theorem dX8_view_71 : decode cX8_view 71 = .ok (.aload_n 0, 1) := by decide +kernel
theorem dX8_view_72 : decode cX8_view 72 = .ok (.getfield 40, 3) := by decide +kernel
theorem dX8_view_75 : decode cX8_view 75 = .ok (.getfield 116, 3) := by decide +kernel
theorem dX8_view_78 : decode cX8_view 78 = .ok (.getfield 161, 3) := by decide +kernel
theorem dX8_view_81 : decode cX8_view 81 = .ok (.iload_n 1, 1) := by decide +kernel
theorem dX8_view_82 : decode cX8_view 82 = .ok (.iaload, 1) := by decide +kernel
theorem dX8_view_83 : decode cX8_view 83 = .ok (.istore 6, 2) := by decide +kernel
theorem dX8_view_85 : decode cX8_view 85 = .ok (.iconst 1, 1) := by decide +kernel
theorem dX8_view_86 : decode cX8_view 86 = .ok (.istore 7, 2) := by decide +kernel
theorem dX8_view_88 : decode cX8_view 88 = .ok (.iload 7, 2) := by decide +kernel
theorem dX8_view_90 : decode cX8_view 90 = .ok (.bipush 60, 2) := by decide +kernel
theorem dX8_view_92 : decode cX8_view 92 = .ok (.iload 6, 2) := by decide +kernel
theorem dX8_view_94 : decode cX8_view 94 = .ok (.isub, 1) := by decide +kernel
theorem dX8_view_95 : decode cX8_view 95 = .ok (.if_icmp .gt 74, 3) := by decide +kernel
theorem dX8_view_98 : decode cX8_view 98 = .ok (.aload_n 0, 1) := by decide +kernel
theorem dX8_view_99 : decode cX8_view 99 = .ok (.getfield 54, 3) := by decide +kernel
theorem dX8_view_102 : decode cX8_view 102 = .ok (.getfield 161, 3) := by decide +kernel
theorem dX8_view_105 : decode cX8_view 105 = .ok (.iload_n 1, 1) := by decide +kernel
theorem dX8_view_106 : decode cX8_view 106 = .ok (.iload 6, 2) := by decide +kernel
theorem dX8_view_108 : decode cX8_view 108 = .ok (.iload 7, 2) := by decide +kernel
theorem dX8_view_110 : decode cX8_view 110 = .ok (.iadd, 1) := by decide +kernel
theorem dX8_view_111 : decode cX8_view 111 = .ok (.iastore, 1) := by decide +kernel
theorem dX8_view_112 : decode cX8_view 112 = .ok (.aload_n 0, 1) := by decide +kernel
theorem dX8_view_113 : decode cX8_view 113 = .ok (.getfield 61, 3) := by decide +kernel
theorem dX8_view_116 : decode cX8_view 116 = .ok (.aload_n 0, 1) := by decide +kernel
theorem dX8_view_117 : decode cX8_view 117 = .ok (.getfield 30, 3) := by decide +kernel
theorem dX8_view_120 : decode cX8_view 120 = .ok (.aload_n 0, 1) := by decide +kernel
theorem dX8_view_121 : decode cX8_view 121 = .ok (.getfield 54, 3) := by decide +kernel
theorem dX8_view_124 : decode cX8_view 124 = .ok (.iload_n 1, 1) := by decide +kernel
theorem dX8_view_125 : decode cX8_view 125 = .ok (.iload_n 1, 1) := by decide +kernel
theorem dX8_view_126 : decode cX8_view 126 = .ok (.iload_n 2, 1) := by decide +kernel
theorem dX8_view_127 : decode cX8_view 127 = .ok (.iconst 0, 1) := by decide +kernel
theorem dX8_view_128 : decode cX8_view 128 = .ok (.invokevirtual 205, 3) := by decide +kernel
theorem dX8_view_131 : decode cX8_view 131 = .ok (.aload_n 0, 1) := by decide +kernel
theorem dX8_view_132 : decode cX8_view 132 = .ok (.getfield 61, 3) := by decide +kernel
theorem dX8_view_135 : decode cX8_view 135 = .ok (.iload_n 1, 1) := by decide +kernel
theorem dX8_view_136 : decode cX8_view 136 = .ok (.aload_n 0, 1) := by decide +kernel
theorem dX8_view_137 : decode cX8_view 137 = .ok (.getfield 54, 3) := by decide +kernel
theorem dX8_view_140 : decode cX8_view 140 = .ok (.getfield 117, 3) := by decide +kernel
theorem dX8_view_143 : decode cX8_view 143 = .ok (.invokevirtual 355, 3) := by decide +kernel
theorem dX8_view_146 : decode cX8_view 146 = .ok (.istore 8, 2) := by decide +kernel
theorem dX8_view_148 : decode cX8_view 148 = .ok (.iload 8, 2) := by decide +kernel
theorem dX8_view_150 : decode cX8_view 150 = .ok (.iload 4, 2) := by decide +kernel
theorem dX8_view_152 : decode cX8_view 152 = .ok (.if_icmp .le 11, 3) := by decide +kernel
theorem dX8_view_155 : decode cX8_view 155 = .ok (.iload 8, 2) := by decide +kernel
theorem dX8_view_157 : decode cX8_view 157 = .ok (.istore 4, 2) := by decide +kernel
theorem dX8_view_159 : decode cX8_view 159 = .ok (.iload 7, 2) := by decide +kernel
theorem dX8_view_161 : decode cX8_view 161 = .ok (.istore 5, 2) := by decide +kernel
theorem dX8_view_163 : decode cX8_view 163 = .ok (.iinc 7 1, 3) := by decide +kernel
theorem dX8_view_166 : decode cX8_view 166 = .ok (.goto (-78), 3) := by decide +kernel
theorem dX8_view_169 : decode cX8_view 169 = .ok (.iload_n 3, 1) := by decide +kernel
theorem dX8_view_170 : decode cX8_view 170 = .ok (.iconst 1, 1) := by decide +kernel
theorem dX8_view_171 : decode cX8_view 171 = .ok (.if_icmp .ne 8, 3) := by decide +kernel
theorem dX8_view_174 : decode cX8_view 174 = .ok (.iload 5, 2) := by decide +kernel
theorem dX8_view_176 : decode cX8_view 176 = .ok (.goto 5, 3) := by decide +kernel
theorem dX8_view_179 : decode cX8_view 179 = .ok (.iload 4, 2) := by decide +kernel
theorem dX8_view_181 : decode cX8_view 181 = .ok (.ireturn, 1) := by decide +kernel
theorem dX8_debt_0 : decode cX8_debt 0 = .ok (.aload_n 0, 1) := by decide +kernel
theorem dX8_debt_1 : decode cX8_debt 1 = .ok (.iload_n 1, 1) := by decide +kernel
theorem dX8_debt_2 : decode cX8_debt 2 = .ok (.invokevirtual 146, 3) := by decide +kernel
theorem dX8_debt_5 : decode cX8_debt 5 = .ok (.aload_n 0, 1) := by decide +kernel
theorem dX8_debt_6 : decode cX8_debt 6 = .ok (.iload_n 2, 1) := by decide +kernel
theorem dX8_debt_7 : decode cX8_debt 7 = .ok (.invokevirtual 146, 3) := by decide +kernel
theorem dX8_debt_10 : decode cX8_debt 10 = .ok (.iload_n 3, 1) := by decide +kernel
theorem dX8_debt_11 : decode cX8_debt 11 = .ok (.iload 4, 2) := by decide +kernel
theorem dX8_debt_13 : decode cX8_debt 13 = .ok (.sipush 168, 3) := by decide +kernel
theorem dX8_debt_16 : decode cX8_debt 16 = .ok (.invokestatic 266, 3) := by decide +kernel
theorem dX8_debt_19 : decode cX8_debt 19 = .ok (.iload_n 1, 1) := by decide +kernel
theorem dX8_debt_20 : decode cX8_debt 20 = .ok (.iload_n 2, 1) := by decide +kernel
theorem dX8_debt_21 : decode cX8_debt 21 = .ok (.invokestatic 227, 3) := by decide +kernel
theorem dX8_debt_24 : decode cX8_debt 24 = .ok (.aload_n 0, 1) := by decide +kernel
theorem dX8_debt_25 : decode cX8_debt 25 = .ok (.iload_n 3, 1) := by decide +kernel
theorem dX8_debt_26 : decode cX8_debt 26 = .ok (.iload 4, 2) := by decide +kernel
theorem dX8_debt_28 : decode cX8_debt 28 = .ok (.invokevirtual 358, 3) := by decide +kernel
theorem dX8_debt_31 : decode cX8_debt 31 = .ok (.aload_n 0, 1) := by decide +kernel
theorem dX8_debt_32 : decode cX8_debt 32 = .ok (.iload_n 1, 1) := by decide +kernel
theorem dX8_debt_33 : decode cX8_debt 33 = .ok (.iload_n 2, 1) := by decide +kernel
theorem dX8_debt_34 : decode cX8_debt 34 = .ok (.invokevirtual 361, 3) := by decide +kernel
theorem dX8_debt_37 : decode cX8_debt 37 = .ok (.ireturn, 1) := by decide +kernel
theorem dX8_rich_0 : decode cX8_rich 0 = .ok (.iload_n 1, 1) := by decide +kernel
theorem dX8_rich_1 : decode cX8_rich 1 = .ok (.iload_n 2, 1) := by decide +kernel
theorem dX8_rich_2 : decode cX8_rich 2 = .ok (.sipush 168, 3) := by decide +kernel
theorem dX8_rich_5 : decode cX8_rich 5 = .ok (.invokestatic 266, 3) := by decide +kernel
theorem dX8_rich_8 : decode cX8_rich 8 = .ok (.aload_n 0, 1) := by decide +kernel
theorem dX8_rich_9 : decode cX8_rich 9 = .ok (.iload_n 1, 1) := by decide +kernel
theorem dX8_rich_10 : decode cX8_rich 10 = .ok (.iload_n 2, 1) := by decide +kernel
theorem dX8_rich_11 : decode cX8_rich 11 = .ok (.invokevirtual 358, 3) := by decide +kernel
theorem dX8_rich_14 : decode cX8_rich 14 = .ok (.aload_n 0, 1) := by decide +kernel
theorem dX8_rich_15 : decode cX8_rich 15 = .ok (.iconst 0, 1) := by decide +kernel
theorem dX8_rich_16 : decode cX8_rich 16 = .ok (.invokevirtual 273, 3) := by decide +kernel
theorem dX8_rich_19 : decode cX8_rich 19 = .ok (.iconst 0, 1) := by decide +kernel
theorem dX8_rich_20 : decode cX8_rich 20 = .ok (.istore_n 3, 1) := by decide +kernel
theorem dX8_rich_21 : decode cX8_rich 21 = .ok (.iload_n 3, 1) := by decide +kernel
theorem dX8_rich_22 : decode cX8_rich 22 = .ok (.aload_n 0, 1) := by decide +kernel
theorem dX8_rich_23 : decode cX8_rich 23 = .ok (.getfield 40, 3) := by decide +kernel
theorem dX8_rich_26 : decode cX8_rich 26 = .ok (.getfield 116, 3) := by decide +kernel
theorem dX8_rich_29 : decode cX8_rich 29 = .ok (.getfield 117, 3) := by decide +kernel
theorem dX8_rich_32 : decode cX8_rich 32 = .ok (.if_icmp .ge 50, 3) := by decide +kernel
theorem dX8_rich_35 : decode cX8_rich 35 = .ok (.iconst 0, 1) := by decide +kernel
theorem dX8_rich_36 : decode cX8_rich 36 = .ok (.istore 4, 2) := by decide +kernel
theorem dX8_rich_38 : decode cX8_rich 38 = .ok (.iload 4, 2) := by decide +kernel
theorem dX8_rich_40 : decode cX8_rich 40 = .ok (.aload_n 0, 1) := by decide +kernel
theorem dX8_rich_41 : decode cX8_rich 41 = .ok (.getfield 40, 3) := by decide +kernel
theorem dX8_rich_44 : decode cX8_rich 44 = .ok (.getfield 116, 3) := by decide +kernel
theorem dX8_rich_47 : decode cX8_rich 47 = .ok (.getfield 117, 3) := by decide +kernel
theorem dX8_rich_50 : decode cX8_rich 50 = .ok (.if_icmp .ge 26, 3) := by decide +kernel
theorem dX8_rich_53 : decode cX8_rich 53 = .ok (.aload_n 0, 1) := by decide +kernel
theorem dX8_rich_54 : decode cX8_rich 54 = .ok (.getfield 72, 3) := by decide +kernel
theorem dX8_rich_57 : decode cX8_rich 57 = .ok (.iload 4, 2) := by decide +kernel
theorem dX8_rich_59 : decode cX8_rich 59 = .ok (.dup2, 1) := by decide +kernel
theorem dX8_rich_60 : decode cX8_rich 60 = .ok (.iaload, 1) := by decide +kernel
theorem dX8_rich_61 : decode cX8_rich 61 = .ok (.aload_n 0, 1) := by decide +kernel
theorem dX8_rich_62 : decode cX8_rich 62 = .ok (.iload_n 3, 1) := by decide +kernel
theorem dX8_rich_63 : decode cX8_rich 63 = .ok (.iload 4, 2) := by decide +kernel
theorem dX8_rich_65 : decode cX8_rich 65 = .ok (.invokevirtual 361, 3) := by decide +kernel
theorem dX8_rich_68 : decode cX8_rich 68 = .ok (.iadd, 1) := by decide +kernel
theorem dX8_rich_69 : decode cX8_rich 69 = .ok (.iastore, 1) := by decide +kernel
theorem dX8_rich_70 : decode cX8_rich 70 = .ok (.iinc 4 1, 3) := by decide +kernel
theorem dX8_rich_73 : decode cX8_rich 73 = .ok (.goto (-35), 3) := by decide +kernel
theorem dX8_rich_76 : decode cX8_rich 76 = .ok (.iinc 3 1, 3) := by decide +kernel
theorem dX8_rich_79 : decode cX8_rich 79 = .ok (.goto (-58), 3) := by decide +kernel
theorem dX8_rich_82 : decode cX8_rich 82 = .ok (.aload_n 0, 1) := by decide +kernel
theorem dX8_rich_83 : decode cX8_rich 83 = .ok (.invokevirtual 276, 3) := by decide +kernel
theorem dX8_rich_86 : decode cX8_rich 86 = .ok (.ireturn, 1) := by decide +kernel
theorem dX8_sumDebts_0 : decode cX8_sumDebts 0 = .ok (.iconst 0, 1) := by decide +kernel
theorem dX8_sumDebts_1 : decode cX8_sumDebts 1 = .ok (.istore_n 3, 1) := by decide +kernel
theorem dX8_sumDebts_2 : decode cX8_sumDebts 2 = .ok (.iload_n 3, 1) := by decide +kernel
theorem dX8_sumDebts_3 : decode cX8_sumDebts 3 = .ok (.aload_n 0, 1) := by decide +kernel
theorem dX8_sumDebts_4 : decode cX8_sumDebts 4 = .ok (.getfield 76, 3) := by decide +kernel
theorem dX8_sumDebts_7 : decode cX8_sumDebts 7 = .ok (.arraylength, 1) := by decide +kernel
theorem dX8_sumDebts_8 : decode cX8_sumDebts 8 = .ok (.if_icmp .ge 16, 3) := by decide +kernel
theorem dX8_sumDebts_11 : decode cX8_sumDebts 11 = .ok (.aload_n 0, 1) := by decide +kernel
theorem dX8_sumDebts_12 : decode cX8_sumDebts 12 = .ok (.getfield 76, 3) := by decide +kernel
theorem dX8_sumDebts_15 : decode cX8_sumDebts 15 = .ok (.iload_n 3, 1) := by decide +kernel
theorem dX8_sumDebts_16 : decode cX8_sumDebts 16 = .ok (.iconst 0, 1) := by decide +kernel
theorem dX8_sumDebts_17 : decode cX8_sumDebts 17 = .ok (.iastore, 1) := by decide +kernel
theorem dX8_sumDebts_18 : decode cX8_sumDebts 18 = .ok (.iinc 3 1, 3) := by decide +kernel
theorem dX8_sumDebts_21 : decode cX8_sumDebts 21 = .ok (.goto (-19), 3) := by decide +kernel
theorem dX8_sumDebts_24 : decode cX8_sumDebts 24 = .ok (.iload_n 1, 1) := by decide +kernel
theorem dX8_sumDebts_25 : decode cX8_sumDebts 25 = .ok (.istore_n 3, 1) := by decide +kernel
theorem dX8_sumDebts_26 : decode cX8_sumDebts 26 = .ok (.iload_n 3, 1) := by decide +kernel
theorem dX8_sumDebts_27 : decode cX8_sumDebts 27 = .ok (.iload_n 2, 1) := by decide +kernel
theorem dX8_sumDebts_28 : decode cX8_sumDebts 28 = .ok (.if_icmp .gt 90, 3) := by decide +kernel
theorem dX8_sumDebts_31 : decode cX8_sumDebts 31 = .ok (.aload_n 0, 1) := by decide +kernel
theorem dX8_sumDebts_32 : decode cX8_sumDebts 32 = .ok (.aload_n 0, 1) := by decide +kernel
theorem dX8_sumDebts_33 : decode cX8_sumDebts 33 = .ok (.getfield 40, 3) := by decide +kernel
theorem dX8_sumDebts_36 : decode cX8_sumDebts 36 = .ok (.getfield 116, 3) := by decide +kernel
theorem dX8_sumDebts_39 : decode cX8_sumDebts 39 = .ok (.iload_n 3, 1) := by decide +kernel
theorem dX8_sumDebts_40 : decode cX8_sumDebts 40 = .ok (.iconst 0, 1) := by decide +kernel
theorem dX8_sumDebts_41 : decode cX8_sumDebts 41 = .ok (.invokevirtual 244, 3) := by decide +kernel
theorem dX8_sumDebts_44 : decode cX8_sumDebts 44 = .ok (.iconst 0, 1) := by decide +kernel
theorem dX8_sumDebts_45 : decode cX8_sumDebts 45 = .ok (.istore 4, 2) := by decide +kernel
theorem dX8_sumDebts_47 : decode cX8_sumDebts 47 = .ok (.iload 4, 2) := by decide +kernel
theorem dX8_sumDebts_49 : decode cX8_sumDebts 49 = .ok (.aload_n 0, 1) := by decide +kernel
theorem dX8_sumDebts_50 : decode cX8_sumDebts 50 = .ok (.getfield 40, 3) := by decide +kernel
theorem dX8_sumDebts_53 : decode cX8_sumDebts 53 = .ok (.getfield 116, 3) := by decide +kernel
theorem dX8_sumDebts_56 : decode cX8_sumDebts 56 = .ok (.getfield 117, 3) := by decide +kernel
theorem dX8_sumDebts_59 : decode cX8_sumDebts 59 = .ok (.if_icmp .ge 53, 3) := by decide +kernel
theorem dX8_sumDebts_62 : decode cX8_sumDebts 62 = .ok (.aload_n 0, 1) := by decide +kernel
theorem dX8_sumDebts_63 : decode cX8_sumDebts 63 = .ok (.getfield 61, 3) := by decide +kernel
theorem dX8_sumDebts_66 : decode cX8_sumDebts 66 = .ok (.iload 4, 2) := by decide +kernel
theorem dX8_sumDebts_68 : decode cX8_sumDebts 68 = .ok (.aload_n 0, 1) := by decide +kernel
theorem dX8_sumDebts_69 : decode cX8_sumDebts 69 = .ok (.getfield 40, 3) := by decide +kernel
theorem dX8_sumDebts_72 : decode cX8_sumDebts 72 = .ok (.getfield 116, 3) := by decide +kernel
theorem dX8_sumDebts_75 : decode cX8_sumDebts 75 = .ok (.getfield 117, 3) := by decide +kernel
theorem dX8_sumDebts_78 : decode cX8_sumDebts 78 = .ok (.invokevirtual 248, 3) := by decide +kernel
theorem dX8_sumDebts_81 : decode cX8_sumDebts 81 = .ok (.istore 5, 2) := by decide +kernel
theorem dX8_sumDebts_83 : decode cX8_sumDebts 83 = .ok (.iload 5, 2) := by decide +kernel
theorem dX8_sumDebts_85 : decode cX8_sumDebts 85 = .ok (.iconst (-1), 1) := by decide +kernel
theorem dX8_sumDebts_86 : decode cX8_sumDebts 86 = .ok (.if_icmp .eq 20, 3) := by decide +kernel
theorem dX8_sumDebts_89 : decode cX8_sumDebts 89 = .ok (.aload_n 0, 1) := by decide +kernel
theorem dX8_sumDebts_90 : decode cX8_sumDebts 90 = .ok (.getfield 76, 3) := by decide +kernel
theorem dX8_sumDebts_93 : decode cX8_sumDebts 93 = .ok (.iload 4, 2) := by decide +kernel
theorem dX8_sumDebts_95 : decode cX8_sumDebts 95 = .ok (.bipush 6, 2) := by decide +kernel
theorem dX8_sumDebts_97 : decode cX8_sumDebts 97 = .ok (.imul, 1) := by decide +kernel
theorem dX8_sumDebts_98 : decode cX8_sumDebts 98 = .ok (.iload 5, 2) := by decide +kernel
theorem dX8_sumDebts_100 : decode cX8_sumDebts 100 = .ok (.iadd, 1) := by decide +kernel
theorem dX8_sumDebts_101 : decode cX8_sumDebts 101 = .ok (.dup2, 1) := by decide +kernel
theorem dX8_sumDebts_102 : decode cX8_sumDebts 102 = .ok (.iaload, 1) := by decide +kernel
theorem dX8_sumDebts_103 : decode cX8_sumDebts 103 = .ok (.iconst 1, 1) := by decide +kernel
theorem dX8_sumDebts_104 : decode cX8_sumDebts 104 = .ok (.iadd, 1) := by decide +kernel
theorem dX8_sumDebts_105 : decode cX8_sumDebts 105 = .ok (.iastore, 1) := by decide +kernel
theorem dX8_sumDebts_106 : decode cX8_sumDebts 106 = .ok (.iinc 4 1, 3) := by decide +kernel
theorem dX8_sumDebts_109 : decode cX8_sumDebts 109 = .ok (.goto (-62), 3) := by decide +kernel
theorem dX8_sumDebts_112 : decode cX8_sumDebts 112 = .ok (.iinc 3 1, 3) := by decide +kernel
theorem dX8_sumDebts_115 : decode cX8_sumDebts 115 = .ok (.goto (-89), 3) := by decide +kernel
theorem dX8_sumDebts_118 : decode cX8_sumDebts 118 = .ok (.return_, 1) := by decide +kernel
theorem dX8_debtLeft_0 : decode cX8_debtLeft 0 = .ok (.aload_n 0, 1) := by decide +kernel
theorem dX8_debtLeft_1 : decode cX8_debtLeft 1 = .ok (.getfield 76, 3) := by decide +kernel
theorem dX8_debtLeft_4 : decode cX8_debtLeft 4 = .ok (.iload_n 1, 1) := by decide +kernel
theorem dX8_debtLeft_5 : decode cX8_debtLeft 5 = .ok (.bipush 6, 2) := by decide +kernel
theorem dX8_debtLeft_7 : decode cX8_debtLeft 7 = .ok (.imul, 1) := by decide +kernel
theorem dX8_debtLeft_8 : decode cX8_debtLeft 8 = .ok (.iload_n 2, 1) := by decide +kernel
theorem dX8_debtLeft_9 : decode cX8_debtLeft 9 = .ok (.iadd, 1) := by decide +kernel
theorem dX8_debtLeft_10 : decode cX8_debtLeft 10 = .ok (.iaload, 1) := by decide +kernel
theorem dX8_debtLeft_11 : decode cX8_debtLeft 11 = .ok (.aload_n 0, 1) := by decide +kernel
theorem dX8_debtLeft_12 : decode cX8_debtLeft 12 = .ok (.getfield 76, 3) := by decide +kernel
theorem dX8_debtLeft_15 : decode cX8_debtLeft 15 = .ok (.iload_n 2, 1) := by decide +kernel
theorem dX8_debtLeft_16 : decode cX8_debtLeft 16 = .ok (.bipush 6, 2) := by decide +kernel
theorem dX8_debtLeft_18 : decode cX8_debtLeft 18 = .ok (.imul, 1) := by decide +kernel
theorem dX8_debtLeft_19 : decode cX8_debtLeft 19 = .ok (.iload_n 1, 1) := by decide +kernel
theorem dX8_debtLeft_20 : decode cX8_debtLeft 20 = .ok (.iadd, 1) := by decide +kernel
theorem dX8_debtLeft_21 : decode cX8_debtLeft 21 = .ok (.iaload, 1) := by decide +kernel
theorem dX8_debtLeft_22 : decode cX8_debtLeft 22 = .ok (.isub, 1) := by decide +kernel
theorem dX8_debtLeft_23 : decode cX8_debtLeft 23 = .ok (.istore_n 3, 1) := by decide +kernel
theorem dX8_debtLeft_24 : decode cX8_debtLeft 24 = .ok (.iload_n 3, 1) := by decide +kernel
theorem dX8_debtLeft_25 : decode cX8_debtLeft 25 = .ok (.iconst 0, 1) := by decide +kernel
theorem dX8_debtLeft_26 : decode cX8_debtLeft 26 = .ok (.invokestatic 364, 3) := by decide +kernel
theorem dX8_debtLeft_29 : decode cX8_debtLeft 29 = .ok (.ireturn, 1) := by decide +kernel
theorem dX8_week_0 : decode cX8_week 0 = .ok (.iload_n 2, 1) := by decide +kernel
theorem dX8_week_1 : decode cX8_week 1 = .ok (.iconst (-1), 1) := by decide +kernel
theorem dX8_week_2 : decode cX8_week 2 = .ok (.if_icmp .eq 8, 3) := by decide +kernel
theorem dX8_week_5 : decode cX8_week 5 = .ok (.aload_n 0, 1) := by decide +kernel
theorem dX8_week_6 : decode cX8_week 6 = .ok (.iload_n 2, 1) := by decide +kernel
theorem dX8_week_7 : decode cX8_week 7 = .ok (.invokevirtual 146, 3) := by decide +kernel
theorem dX8_week_10 : decode cX8_week 10 = .ok (.aload_n 0, 1) := by decide +kernel
theorem dX8_week_11 : decode cX8_week 11 = .ok (.getfield 54, 3) := by decide +kernel
theorem dX8_week_14 : decode cX8_week 14 = .ok (.aload_n 0, 1) := by decide +kernel
theorem dX8_week_15 : decode cX8_week 15 = .ok (.getfield 40, 3) := by decide +kernel
theorem dX8_week_18 : decode cX8_week 18 = .ok (.getfield 116, 3) := by decide +kernel
theorem dX8_week_21 : decode cX8_week 21 = .ok (.invokevirtual 282, 3) := by decide +kernel
theorem dX8_week_24 : decode cX8_week 24 = .ok (.iload_n 1, 1) := by decide +kernel
theorem dX8_week_25 : decode cX8_week 25 = .ok (.istore_n 3, 1) := by decide +kernel
theorem dX8_week_26 : decode cX8_week 26 = .ok (.iconst 0, 1) := by decide +kernel
theorem dX8_week_27 : decode cX8_week 27 = .ok (.istore 4, 2) := by decide +kernel
theorem dX8_week_29 : decode cX8_week 29 = .ok (.iconst 0, 1) := by decide +kernel
theorem dX8_week_30 : decode cX8_week 30 = .ok (.istore 5, 2) := by decide +kernel
theorem dX8_week_32 : decode cX8_week 32 = .ok (.iload 5, 2) := by decide +kernel
theorem dX8_week_34 : decode cX8_week 34 = .ok (.bipush 7, 2) := by decide +kernel
theorem dX8_week_36 : decode cX8_week 36 = .ok (.if_icmp .ge 99, 3) := by decide +kernel
theorem dX8_week_39 : decode cX8_week 39 = .ok (.aload_n 0, 1) := by decide +kernel
theorem dX8_week_40 : decode cX8_week 40 = .ok (.getfield 54, 3) := by decide +kernel
theorem dX8_week_43 : decode cX8_week 43 = .ok (.getfield 117, 3) := by decide +kernel
theorem dX8_week_46 : decode cX8_week 46 = .ok (.ifCond .le 89, 3) := by decide +kernel
theorem dX8_week_49 : decode cX8_week 49 = .ok (.iload_n 3, 1) := by decide +kernel
theorem dX8_week_50 : decode cX8_week 50 = .ok (.invokestatic 367, 3) := by decide +kernel
theorem dX8_week_53 : decode cX8_week 53 = .ok (.istore_n 3, 1) := by decide +kernel
theorem dX8_week_54 : decode cX8_week 54 = .ok (.iload_n 3, 1) := by decide +kernel
theorem dX8_week_55 : decode cX8_week 55 = .ok (.aload_n 0, 1) := by decide +kernel
theorem dX8_week_56 : decode cX8_week 56 = .ok (.getfield 54, 3) := by decide +kernel
theorem dX8_week_59 : decode cX8_week 59 = .ok (.getfield 117, 3) := by decide +kernel
theorem dX8_week_62 : decode cX8_week 62 = .ok (.invokestatic 370, 3) := by decide +kernel
theorem dX8_week_65 : decode cX8_week 65 = .ok (.istore 6, 2) := by decide +kernel
theorem dX8_week_67 : decode cX8_week 67 = .ok (.iload_n 3, 1) := by decide +kernel
theorem dX8_week_68 : decode cX8_week 68 = .ok (.invokestatic 367, 3) := by decide +kernel
theorem dX8_week_71 : decode cX8_week 71 = .ok (.istore_n 3, 1) := by decide +kernel
theorem dX8_week_72 : decode cX8_week 72 = .ok (.aload_n 0, 1) := by decide +kernel
theorem dX8_week_73 : decode cX8_week 73 = .ok (.getfield 54, 3) := by decide +kernel
theorem dX8_week_76 : decode cX8_week 76 = .ok (.getfield 161, 3) := by decide +kernel
theorem dX8_week_79 : decode cX8_week 79 = .ok (.iload 6, 2) := by decide +kernel
theorem dX8_week_81 : decode cX8_week 81 = .ok (.iaload, 1) := by decide +kernel
theorem dX8_week_82 : decode cX8_week 82 = .ok (.iconst 1, 1) := by decide +kernel
theorem dX8_week_83 : decode cX8_week 83 = .ok (.iadd, 1) := by decide +kernel
theorem dX8_week_84 : decode cX8_week 84 = .ok (.iload_n 3, 1) := by decide +kernel
theorem dX8_week_85 : decode cX8_week 85 = .ok (.bipush 9, 2) := by decide +kernel
theorem dX8_week_87 : decode cX8_week 87 = .ok (.invokestatic 370, 3) := by decide +kernel
theorem dX8_week_90 : decode cX8_week 90 = .ok (.iadd, 1) := by decide +kernel
theorem dX8_week_91 : decode cX8_week 91 = .ok (.istore 7, 2) := by decide +kernel
theorem dX8_week_93 : decode cX8_week 93 = .ok (.aload_n 0, 1) := by decide +kernel
theorem dX8_week_94 : decode cX8_week 94 = .ok (.getfield 54, 3) := by decide +kernel
theorem dX8_week_97 : decode cX8_week 97 = .ok (.getfield 161, 3) := by decide +kernel
theorem dX8_week_100 : decode cX8_week 100 = .ok (.iload 6, 2) := by decide +kernel
theorem dX8_week_102 : decode cX8_week 102 = .ok (.iload 7, 2) := by decide +kernel
theorem dX8_week_104 : decode cX8_week 104 = .ok (.bipush 60, 2) := by decide +kernel
theorem dX8_week_106 : decode cX8_week 106 = .ok (.invokestatic 373, 3) := by decide +kernel
theorem dX8_week_109 : decode cX8_week 109 = .ok (.iastore, 1) := by decide +kernel
theorem dX8_week_110 : decode cX8_week 110 = .ok (.iload_n 2, 1) := by decide +kernel
theorem dX8_week_111 : decode cX8_week 111 = .ok (.iconst (-1), 1) := by decide +kernel
theorem dX8_week_112 : decode cX8_week 112 = .ok (.if_icmp .ne 17, 3) := by decide +kernel
theorem dX8_week_115 : decode cX8_week 115 = .ok (.iload 4, 2) := by decide +kernel
theorem dX8_week_117 : decode cX8_week 117 = .ok (.aload_n 0, 1) := by decide +kernel
theorem dX8_week_118 : decode cX8_week 118 = .ok (.iload 5, 2) := by decide +kernel
theorem dX8_week_120 : decode cX8_week 120 = .ok (.bipush 24, 2) := by decide +kernel
theorem dX8_week_122 : decode cX8_week 122 = .ok (.imul, 1) := by decide +kernel
theorem dX8_week_123 : decode cX8_week 123 = .ok (.invokevirtual 376, 3) := by decide +kernel
theorem dX8_week_126 : decode cX8_week 126 = .ok (.iadd, 1) := by decide +kernel
theorem dX8_week_127 : decode cX8_week 127 = .ok (.istore 4, 2) := by decide +kernel
theorem dX8_week_129 : decode cX8_week 129 = .ok (.iinc 5 1, 3) := by decide +kernel
theorem dX8_week_132 : decode cX8_week 132 = .ok (.goto (-100), 3) := by decide +kernel
theorem dX8_week_135 : decode cX8_week 135 = .ok (.iload_n 2, 1) := by decide +kernel
theorem dX8_week_136 : decode cX8_week 136 = .ok (.iconst (-1), 1) := by decide +kernel
theorem dX8_week_137 : decode cX8_week 137 = .ok (.if_icmp .ne 8, 3) := by decide +kernel
theorem dX8_week_140 : decode cX8_week 140 = .ok (.iload 4, 2) := by decide +kernel
theorem dX8_week_142 : decode cX8_week 142 = .ok (.goto 12, 3) := by decide +kernel
theorem dX8_week_145 : decode cX8_week 145 = .ok (.aload_n 0, 1) := by decide +kernel
theorem dX8_week_146 : decode cX8_week 146 = .ok (.getfield 54, 3) := by decide +kernel
theorem dX8_week_149 : decode cX8_week 149 = .ok (.getfield 161, 3) := by decide +kernel
theorem dX8_week_152 : decode cX8_week 152 = .ok (.iload_n 2, 1) := by decide +kernel
theorem dX8_week_153 : decode cX8_week 153 = .ok (.iaload, 1) := by decide +kernel
theorem dX8_week_154 : decode cX8_week 154 = .ok (.ireturn, 1) := by decide +kernel
theorem dX8_nextSeed_0 : decode cX8_nextSeed 0 = .ok (.iload_n 0, 1) := by decide +kernel
theorem dX8_nextSeed_1 : decode cX8_nextSeed 1 = .ok (.ldc_w 379, 3) := by decide +kernel
theorem dX8_nextSeed_4 : decode cX8_nextSeed 4 = .ok (.imul, 1) := by decide +kernel
theorem dX8_nextSeed_5 : decode cX8_nextSeed 5 = .ok (.sipush 12345, 3) := by decide +kernel
theorem dX8_nextSeed_8 : decode cX8_nextSeed 8 = .ok (.iadd, 1) := by decide +kernel
theorem dX8_nextSeed_9 : decode cX8_nextSeed 9 = .ok (.ireturn, 1) := by decide +kernel
theorem dX8_drawOf_0 : decode cX8_drawOf 0 = .ok (.iload_n 1, 1) := by decide +kernel
theorem dX8_drawOf_1 : decode cX8_drawOf 1 = .ok (.ifCond .le 16, 3) := by decide +kernel
theorem dX8_drawOf_4 : decode cX8_drawOf 4 = .ok (.iload_n 0, 1) := by decide +kernel
theorem dX8_drawOf_5 : decode cX8_drawOf 5 = .ok (.bipush 16, 2) := by decide +kernel
theorem dX8_drawOf_7 : decode cX8_drawOf 7 = .ok (.iushr, 1) := by decide +kernel
theorem dX8_drawOf_8 : decode cX8_drawOf 8 = .ok (.sipush 32767, 3) := by decide +kernel
theorem dX8_drawOf_11 : decode cX8_drawOf 11 = .ok (.iand, 1) := by decide +kernel
theorem dX8_drawOf_12 : decode cX8_drawOf 12 = .ok (.iload_n 1, 1) := by decide +kernel
theorem dX8_drawOf_13 : decode cX8_drawOf 13 = .ok (.irem, 1) := by decide +kernel
theorem dX8_drawOf_14 : decode cX8_drawOf 14 = .ok (.goto 4, 3) := by decide +kernel
theorem dX8_drawOf_17 : decode cX8_drawOf 17 = .ok (.iconst 0, 1) := by decide +kernel
theorem dX8_drawOf_18 : decode cX8_drawOf 18 = .ok (.ireturn, 1) := by decide +kernel
theorem dX8_knockingHours_0 : decode cX8_knockingHours 0 = .ok (.iconst 0, 1) := by decide +kernel
theorem dX8_knockingHours_1 : decode cX8_knockingHours 1 = .ok (.istore_n 2, 1) := by decide +kernel
theorem dX8_knockingHours_2 : decode cX8_knockingHours 2 = .ok (.iload_n 1, 1) := by decide +kernel
theorem dX8_knockingHours_3 : decode cX8_knockingHours 3 = .ok (.istore_n 3, 1) := by decide +kernel
theorem dX8_knockingHours_4 : decode cX8_knockingHours 4 = .ok (.iload_n 3, 1) := by decide +kernel
theorem dX8_knockingHours_5 : decode cX8_knockingHours 5 = .ok (.iload_n 1, 1) := by decide +kernel
theorem dX8_knockingHours_6 : decode cX8_knockingHours 6 = .ok (.bipush 24, 2) := by decide +kernel
theorem dX8_knockingHours_8 : decode cX8_knockingHours 8 = .ok (.iadd, 1) := by decide +kernel
theorem dX8_knockingHours_9 : decode cX8_knockingHours 9 = .ok (.if_icmp .ge 40, 3) := by decide +kernel
theorem dX8_knockingHours_12 : decode cX8_knockingHours 12 = .ok (.aload_n 0, 1) := by decide +kernel
theorem dX8_knockingHours_13 : decode cX8_knockingHours 13 = .ok (.aload_n 0, 1) := by decide +kernel
theorem dX8_knockingHours_14 : decode cX8_knockingHours 14 = .ok (.getfield 54, 3) := by decide +kernel
theorem dX8_knockingHours_17 : decode cX8_knockingHours 17 = .ok (.iload_n 3, 1) := by decide +kernel
theorem dX8_knockingHours_18 : decode cX8_knockingHours 18 = .ok (.iconst 0, 1) := by decide +kernel
theorem dX8_knockingHours_19 : decode cX8_knockingHours 19 = .ok (.invokevirtual 244, 3) := by decide +kernel
theorem dX8_knockingHours_22 : decode cX8_knockingHours 22 = .ok (.aload_n 0, 1) := by decide +kernel
theorem dX8_knockingHours_23 : decode cX8_knockingHours 23 = .ok (.getfield 61, 3) := by decide +kernel
theorem dX8_knockingHours_26 : decode cX8_knockingHours 26 = .ok (.aload_n 0, 1) := by decide +kernel
theorem dX8_knockingHours_27 : decode cX8_knockingHours 27 = .ok (.getfield 54, 3) := by decide +kernel
theorem dX8_knockingHours_30 : decode cX8_knockingHours 30 = .ok (.getfield 117, 3) := by decide +kernel
theorem dX8_knockingHours_33 : decode cX8_knockingHours 33 = .ok (.invokevirtual 270, 3) := by decide +kernel
theorem dX8_knockingHours_36 : decode cX8_knockingHours 36 = .ok (.iconst (-1), 1) := by decide +kernel
theorem dX8_knockingHours_37 : decode cX8_knockingHours 37 = .ok (.if_icmp .eq 6, 3) := by decide +kernel
theorem dX8_knockingHours_40 : decode cX8_knockingHours 40 = .ok (.iinc 2 1, 3) := by decide +kernel
theorem dX8_knockingHours_43 : decode cX8_knockingHours 43 = .ok (.iinc 3 1, 3) := by decide +kernel
theorem dX8_knockingHours_46 : decode cX8_knockingHours 46 = .ok (.goto (-42), 3) := by decide +kernel
theorem dX8_knockingHours_49 : decode cX8_knockingHours 49 = .ok (.iload_n 2, 1) := by decide +kernel
theorem dX8_knockingHours_50 : decode cX8_knockingHours 50 = .ok (.ireturn, 1) := by decide +kernel
theorem dX8_image_0 : decode cX8_image 0 = .ok (.aload_n 0, 1) := by decide +kernel
theorem dX8_image_1 : decode cX8_image 1 = .ok (.getfield 44, 3) := by decide +kernel
theorem dX8_image_4 : decode cX8_image 4 = .ok (.aload_n 0, 1) := by decide +kernel
theorem dX8_image_5 : decode cX8_image 5 = .ok (.getfield 40, 3) := by decide +kernel
theorem dX8_image_8 : decode cX8_image 8 = .ok (.invokevirtual 380, 3) := by decide +kernel
theorem dX8_image_11 : decode cX8_image 11 = .ok (.aload_n 0, 1) := by decide +kernel
theorem dX8_image_12 : decode cX8_image 12 = .ok (.iconst 1, 1) := by decide +kernel
theorem dX8_image_13 : decode cX8_image 13 = .ok (.putfield 47, 3) := by decide +kernel
theorem dX8_image_16 : decode cX8_image 16 = .ok (.return_, 1) := by decide +kernel
theorem dX8_restore_0 : decode cX8_restore 0 = .ok (.aload_n 0, 1) := by decide +kernel
theorem dX8_restore_1 : decode cX8_restore 1 = .ok (.getfield 47, 3) := by decide +kernel
theorem dX8_restore_4 : decode cX8_restore 4 = .ok (.ifCond .ne 5, 3) := by decide +kernel
theorem dX8_restore_7 : decode cX8_restore 7 = .ok (.iconst 0, 1) := by decide +kernel
theorem dX8_restore_8 : decode cX8_restore 8 = .ok (.ireturn, 1) := by decide +kernel
theorem dX8_restore_9 : decode cX8_restore 9 = .ok (.aload_n 0, 1) := by decide +kernel
theorem dX8_restore_10 : decode cX8_restore 10 = .ok (.getfield 40, 3) := by decide +kernel
theorem dX8_restore_13 : decode cX8_restore 13 = .ok (.aload_n 0, 1) := by decide +kernel
theorem dX8_restore_14 : decode cX8_restore 14 = .ok (.getfield 44, 3) := by decide +kernel
theorem dX8_restore_17 : decode cX8_restore 17 = .ok (.invokevirtual 380, 3) := by decide +kernel
theorem dX8_restore_20 : decode cX8_restore 20 = .ok (.iconst 1, 1) := by decide +kernel
theorem dX8_restore_21 : decode cX8_restore 21 = .ok (.ireturn, 1) := by decide +kernel
theorem dX8_blow_0 : decode cX8_blow 0 = .ok (.iconst 0, 1) := by decide +kernel
theorem dX8_blow_1 : decode cX8_blow 1 = .ok (.istore 4, 2) := by decide +kernel
theorem dX8_blow_3 : decode cX8_blow 3 = .ok (.iload 4, 2) := by decide +kernel
theorem dX8_blow_5 : decode cX8_blow 5 = .ok (.aload_n 1, 1) := by decide +kernel
theorem dX8_blow_6 : decode cX8_blow 6 = .ok (.getfield 117, 3) := by decide +kernel
theorem dX8_blow_9 : decode cX8_blow 9 = .ok (.if_icmp .ge 27, 3) := by decide +kernel
theorem dX8_blow_12 : decode cX8_blow 12 = .ok (.aload_n 0, 1) := by decide +kernel
theorem dX8_blow_13 : decode cX8_blow 13 = .ok (.getfield 61, 3) := by decide +kernel
theorem dX8_blow_16 : decode cX8_blow 16 = .ok (.aload_n 0, 1) := by decide +kernel
theorem dX8_blow_17 : decode cX8_blow 17 = .ok (.getfield 30, 3) := by decide +kernel
theorem dX8_blow_20 : decode cX8_blow 20 = .ok (.aload_n 1, 1) := by decide +kernel
theorem dX8_blow_21 : decode cX8_blow 21 = .ok (.iload 4, 2) := by decide +kernel
theorem dX8_blow_23 : decode cX8_blow 23 = .ok (.iload 4, 2) := by decide +kernel
theorem dX8_blow_25 : decode cX8_blow 25 = .ok (.iload_n 2, 1) := by decide +kernel
theorem dX8_blow_26 : decode cX8_blow 26 = .ok (.iload_n 3, 1) := by decide +kernel
theorem dX8_blow_27 : decode cX8_blow 27 = .ok (.invokevirtual 205, 3) := by decide +kernel
theorem dX8_blow_30 : decode cX8_blow 30 = .ok (.iinc 4 1, 3) := by decide +kernel
theorem dX8_blow_33 : decode cX8_blow 33 = .ok (.goto (-30), 3) := by decide +kernel
theorem dX8_blow_36 : decode cX8_blow 36 = .ok (.return_, 1) := by decide +kernel
theorem dX8_needIsle_0 : decode cX8_needIsle 0 = .ok (.aload_n 0, 1) := by decide +kernel
theorem dX8_needIsle_1 : decode cX8_needIsle 1 = .ok (.getfield 40, 3) := by decide +kernel
theorem dX8_needIsle_4 : decode cX8_needIsle 4 = .ok (.getfield 116, 3) := by decide +kernel
theorem dX8_needIsle_7 : decode cX8_needIsle 7 = .ok (.iload_n 1, 1) := by decide +kernel
theorem dX8_needIsle_8 : decode cX8_needIsle 8 = .ok (.invokevirtual 342, 3) := by decide +kernel
theorem dX8_needIsle_11 : decode cX8_needIsle 11 = .ok (.ifCond .ne 14, 3) := by decide +kernel
theorem dX8_needIsle_14 : decode cX8_needIsle 14 = .ok (.new 141, 3) := by decide +kernel
theorem dX8_needIsle_17 : decode cX8_needIsle 17 = .ok (.dup, 1) := by decide +kernel
theorem dX8_needIsle_18 : decode cX8_needIsle 18 = .ok (.ldc_w 383, 3) := by decide +kernel
theorem dX8_needIsle_21 : decode cX8_needIsle 21 = .ok (.invokespecial 145, 3) := by decide +kernel
theorem dX8_needIsle_24 : decode cX8_needIsle 24 = .ok (.athrow, 1) := by decide +kernel
theorem dX8_needIsle_25 : decode cX8_needIsle 25 = .ok (.return_, 1) := by decide +kernel
theorem dX8_needHour_0 : decode cX8_needHour 0 = .ok (.iload_n 0, 1) := by decide +kernel
theorem dX8_needHour_1 : decode cX8_needHour 1 = .ok (.ifCond .lt 10, 3) := by decide +kernel
theorem dX8_needHour_4 : decode cX8_needHour 4 = .ok (.iload_n 0, 1) := by decide +kernel
theorem dX8_needHour_5 : decode cX8_needHour 5 = .ok (.sipush 168, 3) := by decide +kernel
theorem dX8_needHour_8 : decode cX8_needHour 8 = .ok (.if_icmp .lt 14, 3) := by decide +kernel
theorem dX8_needHour_11 : decode cX8_needHour 11 = .ok (.new 141, 3) := by decide +kernel
theorem dX8_needHour_14 : decode cX8_needHour 14 = .ok (.dup, 1) := by decide +kernel
theorem dX8_needHour_15 : decode cX8_needHour 15 = .ok (.ldc_w 385, 3) := by decide +kernel
theorem dX8_needHour_18 : decode cX8_needHour 18 = .ok (.invokespecial 145, 3) := by decide +kernel
theorem dX8_needHour_21 : decode cX8_needHour 21 = .ok (.athrow, 1) := by decide +kernel
theorem dX8_needHour_22 : decode cX8_needHour 22 = .ok (.return_, 1) := by decide +kernel
theorem dX8_needWhat_0 : decode cX8_needWhat 0 = .ok (.iload_n 0, 1) := by decide +kernel
theorem dX8_needWhat_1 : decode cX8_needWhat 1 = .ok (.ifCond .lt 8, 3) := by decide +kernel
theorem dX8_needWhat_4 : decode cX8_needWhat 4 = .ok (.iload_n 0, 1) := by decide +kernel
theorem dX8_needWhat_5 : decode cX8_needWhat 5 = .ok (.iload_n 1, 1) := by decide +kernel
theorem dX8_needWhat_6 : decode cX8_needWhat 6 = .ok (.if_icmp .lt 14, 3) := by decide +kernel
theorem dX8_needWhat_9 : decode cX8_needWhat 9 = .ok (.new 141, 3) := by decide +kernel
theorem dX8_needWhat_12 : decode cX8_needWhat 12 = .ok (.dup, 1) := by decide +kernel
theorem dX8_needWhat_13 : decode cX8_needWhat 13 = .ok (.ldc_w 387, 3) := by decide +kernel
theorem dX8_needWhat_16 : decode cX8_needWhat 16 = .ok (.invokespecial 145, 3) := by decide +kernel
theorem dX8_needWhat_19 : decode cX8_needWhat 19 = .ok (.athrow, 1) := by decide +kernel
theorem dX8_needWhat_20 : decode cX8_needWhat 20 = .ok (.return_, 1) := by decide +kernel
theorem dX8_needSpan_0 : decode cX8_needSpan 0 = .ok (.iload_n 0, 1) := by decide +kernel
theorem dX8_needSpan_1 : decode cX8_needSpan 1 = .ok (.ifCond .lt 22, 3) := by decide +kernel
theorem dX8_needSpan_4 : decode cX8_needSpan 4 = .ok (.iload_n 1, 1) := by decide +kernel
theorem dX8_needSpan_5 : decode cX8_needSpan 5 = .ok (.sipush 168, 3) := by decide +kernel
theorem dX8_needSpan_8 : decode cX8_needSpan 8 = .ok (.if_icmp .ge 15, 3) := by decide +kernel
theorem dX8_needSpan_11 : decode cX8_needSpan 11 = .ok (.iload_n 0, 1) := by decide +kernel
theorem dX8_needSpan_12 : decode cX8_needSpan 12 = .ok (.iload_n 1, 1) := by decide +kernel
theorem dX8_needSpan_13 : decode cX8_needSpan 13 = .ok (.if_icmp .gt 10, 3) := by decide +kernel
theorem dX8_needSpan_16 : decode cX8_needSpan 16 = .ok (.iload_n 1, 1) := by decide +kernel
theorem dX8_needSpan_17 : decode cX8_needSpan 17 = .ok (.iload_n 0, 1) := by decide +kernel
theorem dX8_needSpan_18 : decode cX8_needSpan 18 = .ok (.isub, 1) := by decide +kernel
theorem dX8_needSpan_19 : decode cX8_needSpan 19 = .ok (.iload_n 2, 1) := by decide +kernel
theorem dX8_needSpan_20 : decode cX8_needSpan 20 = .ok (.if_icmp .lt 14, 3) := by decide +kernel
theorem dX8_needSpan_23 : decode cX8_needSpan 23 = .ok (.new 86, 3) := by decide +kernel
theorem dX8_needSpan_26 : decode cX8_needSpan 26 = .ok (.dup, 1) := by decide +kernel
theorem dX8_needSpan_27 : decode cX8_needSpan 27 = .ok (.ldc_w 389, 3) := by decide +kernel
theorem dX8_needSpan_30 : decode cX8_needSpan 30 = .ok (.invokespecial 90, 3) := by decide +kernel
theorem dX8_needSpan_33 : decode cX8_needSpan 33 = .ok (.athrow, 1) := by decide +kernel
theorem dX8_needSpan_34 : decode cX8_needSpan 34 = .ok (.return_, 1) := by decide +kernel
theorem dX8_needTwo_0 : decode cX8_needTwo 0 = .ok (.iload_n 0, 1) := by decide +kernel
theorem dX8_needTwo_1 : decode cX8_needTwo 1 = .ok (.iload_n 1, 1) := by decide +kernel
theorem dX8_needTwo_2 : decode cX8_needTwo 2 = .ok (.if_icmp .ne 14, 3) := by decide +kernel
theorem dX8_needTwo_5 : decode cX8_needTwo 5 = .ok (.new 86, 3) := by decide +kernel
theorem dX8_needTwo_8 : decode cX8_needTwo 8 = .ok (.dup, 1) := by decide +kernel
theorem dX8_needTwo_9 : decode cX8_needTwo 9 = .ok (.ldc_w 391, 3) := by decide +kernel
theorem dX8_needTwo_12 : decode cX8_needTwo 12 = .ok (.invokespecial 90, 3) := by decide +kernel
theorem dX8_needTwo_15 : decode cX8_needTwo 15 = .ok (.athrow, 1) := by decide +kernel
theorem dX8_needTwo_16 : decode cX8_needTwo 16 = .ok (.return_, 1) := by decide +kernel
theorem dX9_init_0 : decode cX9_init 0 = .ok (.aload_n 0, 1) := by decide +kernel
theorem dX9_init_1 : decode cX9_init 1 = .ok (.invokespecial 1, 3) := by decide +kernel
theorem dX9_init_4 : decode cX9_init 4 = .ok (.aload_n 0, 1) := by decide +kernel
theorem dX9_init_5 : decode cX9_init 5 = .ok (.iconst 3, 1) := by decide +kernel
theorem dX9_init_6 : decode cX9_init 6 = .ok (.anewarray 7, 3) := by decide +kernel
theorem dX9_init_9 : decode cX9_init 9 = .ok (.dup, 1) := by decide +kernel
theorem dX9_init_10 : decode cX9_init 10 = .ok (.iconst 0, 1) := by decide +kernel
theorem dX9_init_11 : decode cX9_init 11 = .ok (.ldc 9, 2) := by decide +kernel
theorem dX9_init_13 : decode cX9_init 13 = .ok (.aastore, 1) := by decide +kernel
theorem dX9_init_14 : decode cX9_init 14 = .ok (.dup, 1) := by decide +kernel
theorem dX9_init_15 : decode cX9_init 15 = .ok (.iconst 1, 1) := by decide +kernel
theorem dX9_init_16 : decode cX9_init 16 = .ok (.ldc 11, 2) := by decide +kernel
theorem dX9_init_18 : decode cX9_init 18 = .ok (.aastore, 1) := by decide +kernel
theorem dX9_init_19 : decode cX9_init 19 = .ok (.dup, 1) := by decide +kernel
theorem dX9_init_20 : decode cX9_init 20 = .ok (.iconst 2, 1) := by decide +kernel
theorem dX9_init_21 : decode cX9_init 21 = .ok (.ldc 13, 2) := by decide +kernel
theorem dX9_init_23 : decode cX9_init 23 = .ok (.aastore, 1) := by decide +kernel
theorem dX9_init_24 : decode cX9_init 24 = .ok (.putfield 15, 3) := by decide +kernel
theorem dX9_init_27 : decode cX9_init 27 = .ok (.aload_n 0, 1) := by decide +kernel
theorem dX9_init_28 : decode cX9_init 28 = .ok (.iconst 4, 1) := by decide +kernel
theorem dX9_init_29 : decode cX9_init 29 = .ok (.anewarray 7, 3) := by decide +kernel
theorem dX9_init_32 : decode cX9_init 32 = .ok (.dup, 1) := by decide +kernel
theorem dX9_init_33 : decode cX9_init 33 = .ok (.iconst 0, 1) := by decide +kernel
theorem dX9_init_34 : decode cX9_init 34 = .ok (.ldc 21, 2) := by decide +kernel
theorem dX9_init_36 : decode cX9_init 36 = .ok (.aastore, 1) := by decide +kernel
theorem dX9_init_37 : decode cX9_init 37 = .ok (.dup, 1) := by decide +kernel
theorem dX9_init_38 : decode cX9_init 38 = .ok (.iconst 1, 1) := by decide +kernel
theorem dX9_init_39 : decode cX9_init 39 = .ok (.ldc 23, 2) := by decide +kernel
theorem dX9_init_41 : decode cX9_init 41 = .ok (.aastore, 1) := by decide +kernel
theorem dX9_init_42 : decode cX9_init 42 = .ok (.dup, 1) := by decide +kernel
theorem dX9_init_43 : decode cX9_init 43 = .ok (.iconst 2, 1) := by decide +kernel
theorem dX9_init_44 : decode cX9_init 44 = .ok (.ldc 25, 2) := by decide +kernel
theorem dX9_init_46 : decode cX9_init 46 = .ok (.aastore, 1) := by decide +kernel
theorem dX9_init_47 : decode cX9_init 47 = .ok (.dup, 1) := by decide +kernel
theorem dX9_init_48 : decode cX9_init 48 = .ok (.iconst 3, 1) := by decide +kernel
theorem dX9_init_49 : decode cX9_init 49 = .ok (.ldc 27, 2) := by decide +kernel
theorem dX9_init_51 : decode cX9_init 51 = .ok (.aastore, 1) := by decide +kernel
theorem dX9_init_52 : decode cX9_init 52 = .ok (.putfield 29, 3) := by decide +kernel
theorem dX9_init_55 : decode cX9_init 55 = .ok (.aload_n 0, 1) := by decide +kernel
theorem dX9_init_56 : decode cX9_init 56 = .ok (.bipush 8, 2) := by decide +kernel
theorem dX9_init_58 : decode cX9_init 58 = .ok (.anewarray 7, 3) := by decide +kernel
theorem dX9_init_61 : decode cX9_init 61 = .ok (.dup, 1) := by decide +kernel
theorem dX9_init_62 : decode cX9_init 62 = .ok (.iconst 0, 1) := by decide +kernel
theorem dX9_init_63 : decode cX9_init 63 = .ok (.ldc 32, 2) := by decide +kernel
theorem dX9_init_65 : decode cX9_init 65 = .ok (.aastore, 1) := by decide +kernel
theorem dX9_init_66 : decode cX9_init 66 = .ok (.dup, 1) := by decide +kernel
theorem dX9_init_67 : decode cX9_init 67 = .ok (.iconst 1, 1) := by decide +kernel
theorem dX9_init_68 : decode cX9_init 68 = .ok (.ldc 34, 2) := by decide +kernel
theorem dX9_init_70 : decode cX9_init 70 = .ok (.aastore, 1) := by decide +kernel
theorem dX9_init_71 : decode cX9_init 71 = .ok (.dup, 1) := by decide +kernel
theorem dX9_init_72 : decode cX9_init 72 = .ok (.iconst 2, 1) := by decide +kernel
theorem dX9_init_73 : decode cX9_init 73 = .ok (.ldc 36, 2) := by decide +kernel
theorem dX9_init_75 : decode cX9_init 75 = .ok (.aastore, 1) := by decide +kernel
theorem dX9_init_76 : decode cX9_init 76 = .ok (.dup, 1) := by decide +kernel
theorem dX9_init_77 : decode cX9_init 77 = .ok (.iconst 3, 1) := by decide +kernel
theorem dX9_init_78 : decode cX9_init 78 = .ok (.ldc 38, 2) := by decide +kernel
theorem dX9_init_80 : decode cX9_init 80 = .ok (.aastore, 1) := by decide +kernel
theorem dX9_init_81 : decode cX9_init 81 = .ok (.dup, 1) := by decide +kernel
theorem dX9_init_82 : decode cX9_init 82 = .ok (.iconst 4, 1) := by decide +kernel
theorem dX9_init_83 : decode cX9_init 83 = .ok (.ldc 40, 2) := by decide +kernel
theorem dX9_init_85 : decode cX9_init 85 = .ok (.aastore, 1) := by decide +kernel
theorem dX9_init_86 : decode cX9_init 86 = .ok (.dup, 1) := by decide +kernel
theorem dX9_init_87 : decode cX9_init 87 = .ok (.iconst 5, 1) := by decide +kernel
theorem dX9_init_88 : decode cX9_init 88 = .ok (.ldc 42, 2) := by decide +kernel
theorem dX9_init_90 : decode cX9_init 90 = .ok (.aastore, 1) := by decide +kernel
theorem dX9_init_91 : decode cX9_init 91 = .ok (.dup, 1) := by decide +kernel
theorem dX9_init_92 : decode cX9_init 92 = .ok (.bipush 6, 2) := by decide +kernel
theorem dX9_init_94 : decode cX9_init 94 = .ok (.ldc 44, 2) := by decide +kernel
theorem dX9_init_96 : decode cX9_init 96 = .ok (.aastore, 1) := by decide +kernel
theorem dX9_init_97 : decode cX9_init 97 = .ok (.dup, 1) := by decide +kernel
theorem dX9_init_98 : decode cX9_init 98 = .ok (.bipush 7, 2) := by decide +kernel
theorem dX9_init_100 : decode cX9_init 100 = .ok (.ldc 46, 2) := by decide +kernel
theorem dX9_init_102 : decode cX9_init 102 = .ok (.aastore, 1) := by decide +kernel
theorem dX9_init_103 : decode cX9_init 103 = .ok (.putfield 48, 3) := by decide +kernel
theorem dX9_init_106 : decode cX9_init 106 = .ok (.aload_n 0, 1) := by decide +kernel
theorem dX9_init_107 : decode cX9_init 107 = .ok (.bipush 20, 2) := by decide +kernel
theorem dX9_init_109 : decode cX9_init 109 = .ok (.newarray .int, 2) := by decide +kernel
theorem dX9_init_111 : decode cX9_init 111 = .ok (.dup, 1) := by decide +kernel
theorem dX9_init_112 : decode cX9_init 112 = .ok (.iconst 0, 1) := by decide +kernel
theorem dX9_init_113 : decode cX9_init 113 = .ok (.iconst 0, 1) := by decide +kernel
theorem dX9_init_114 : decode cX9_init 114 = .ok (.iastore, 1) := by decide +kernel
theorem dX9_init_115 : decode cX9_init 115 = .ok (.dup, 1) := by decide +kernel
theorem dX9_init_116 : decode cX9_init 116 = .ok (.iconst 1, 1) := by decide +kernel
theorem dX9_init_117 : decode cX9_init 117 = .ok (.iconst 0, 1) := by decide +kernel
theorem dX9_init_118 : decode cX9_init 118 = .ok (.iastore, 1) := by decide +kernel
theorem dX9_init_119 : decode cX9_init 119 = .ok (.dup, 1) := by decide +kernel
theorem dX9_init_120 : decode cX9_init 120 = .ok (.iconst 2, 1) := by decide +kernel
theorem dX9_init_121 : decode cX9_init 121 = .ok (.iconst 0, 1) := by decide +kernel
theorem dX9_init_122 : decode cX9_init 122 = .ok (.iastore, 1) := by decide +kernel
theorem dX9_init_123 : decode cX9_init 123 = .ok (.dup, 1) := by decide +kernel
theorem dX9_init_124 : decode cX9_init 124 = .ok (.iconst 3, 1) := by decide +kernel
theorem dX9_init_125 : decode cX9_init 125 = .ok (.iconst 2, 1) := by decide +kernel
theorem dX9_init_126 : decode cX9_init 126 = .ok (.iastore, 1) := by decide +kernel
theorem dX9_init_127 : decode cX9_init 127 = .ok (.dup, 1) := by decide +kernel
theorem dX9_init_128 : decode cX9_init 128 = .ok (.iconst 4, 1) := by decide +kernel
theorem dX9_init_129 : decode cX9_init 129 = .ok (.bipush 8, 2) := by decide +kernel
theorem dX9_init_131 : decode cX9_init 131 = .ok (.iastore, 1) := by decide +kernel
theorem dX9_init_132 : decode cX9_init 132 = .ok (.dup, 1) := by decide +kernel
theorem dX9_init_133 : decode cX9_init 133 = .ok (.iconst 5, 1) := by decide +kernel
theorem dX9_init_134 : decode cX9_init 134 = .ok (.iconst 1, 1) := by decide +kernel
theorem dX9_init_135 : decode cX9_init 135 = .ok (.iastore, 1) := by decide +kernel
theorem dX9_init_136 : decode cX9_init 136 = .ok (.dup, 1) := by decide +kernel
theorem dX9_init_137 : decode cX9_init 137 = .ok (.bipush 6, 2) := by decide +kernel
theorem dX9_init_139 : decode cX9_init 139 = .ok (.iconst 0, 1) := by decide +kernel
theorem dX9_init_140 : decode cX9_init 140 = .ok (.iastore, 1) := by decide +kernel
theorem dX9_init_141 : decode cX9_init 141 = .ok (.dup, 1) := by decide +kernel
theorem dX9_init_142 : decode cX9_init 142 = .ok (.bipush 7, 2) := by decide +kernel
theorem dX9_init_144 : decode cX9_init 144 = .ok (.iconst 0, 1) := by decide +kernel
theorem dX9_init_145 : decode cX9_init 145 = .ok (.iastore, 1) := by decide +kernel
theorem dX9_init_146 : decode cX9_init 146 = .ok (.dup, 1) := by decide +kernel
theorem dX9_init_147 : decode cX9_init 147 = .ok (.bipush 8, 2) := by decide +kernel
theorem dX9_init_149 : decode cX9_init 149 = .ok (.iconst 0, 1) := by decide +kernel
theorem dX9_init_150 : decode cX9_init 150 = .ok (.iastore, 1) := by decide +kernel
theorem dX9_init_151 : decode cX9_init 151 = .ok (.dup, 1) := by decide +kernel
theorem dX9_init_152 : decode cX9_init 152 = .ok (.bipush 9, 2) := by decide +kernel
theorem dX9_init_154 : decode cX9_init 154 = .ok (.iconst 0, 1) := by decide +kernel
theorem dX9_init_155 : decode cX9_init 155 = .ok (.iastore, 1) := by decide +kernel
theorem dX9_init_156 : decode cX9_init 156 = .ok (.dup, 1) := by decide +kernel
theorem dX9_init_157 : decode cX9_init 157 = .ok (.bipush 10, 2) := by decide +kernel
theorem dX9_init_159 : decode cX9_init 159 = .ok (.iconst 0, 1) := by decide +kernel
theorem dX9_init_160 : decode cX9_init 160 = .ok (.iastore, 1) := by decide +kernel
theorem dX9_init_161 : decode cX9_init 161 = .ok (.dup, 1) := by decide +kernel
theorem dX9_init_162 : decode cX9_init 162 = .ok (.bipush 11, 2) := by decide +kernel
theorem dX9_init_164 : decode cX9_init 164 = .ok (.iconst 0, 1) := by decide +kernel
theorem dX9_init_165 : decode cX9_init 165 = .ok (.iastore, 1) := by decide +kernel
theorem dX9_init_166 : decode cX9_init 166 = .ok (.dup, 1) := by decide +kernel
theorem dX9_init_167 : decode cX9_init 167 = .ok (.bipush 12, 2) := by decide +kernel
theorem dX9_init_169 : decode cX9_init 169 = .ok (.iconst 0, 1) := by decide +kernel
theorem dX9_init_170 : decode cX9_init 170 = .ok (.iastore, 1) := by decide +kernel
theorem dX9_init_171 : decode cX9_init 171 = .ok (.dup, 1) := by decide +kernel
theorem dX9_init_172 : decode cX9_init 172 = .ok (.bipush 13, 2) := by decide +kernel
theorem dX9_init_174 : decode cX9_init 174 = .ok (.iconst 2, 1) := by decide +kernel
theorem dX9_init_175 : decode cX9_init 175 = .ok (.iastore, 1) := by decide +kernel
theorem dX9_init_176 : decode cX9_init 176 = .ok (.dup, 1) := by decide +kernel
theorem dX9_init_177 : decode cX9_init 177 = .ok (.bipush 14, 2) := by decide +kernel
theorem dX9_init_179 : decode cX9_init 179 = .ok (.bipush 8, 2) := by decide +kernel
theorem dX9_init_181 : decode cX9_init 181 = .ok (.iastore, 1) := by decide +kernel
theorem dX9_init_182 : decode cX9_init 182 = .ok (.dup, 1) := by decide +kernel
theorem dX9_init_183 : decode cX9_init 183 = .ok (.bipush 15, 2) := by decide +kernel
theorem dX9_init_185 : decode cX9_init 185 = .ok (.iconst 1, 1) := by decide +kernel
theorem dX9_init_186 : decode cX9_init 186 = .ok (.iastore, 1) := by decide +kernel
theorem dX9_init_187 : decode cX9_init 187 = .ok (.dup, 1) := by decide +kernel
theorem dX9_init_188 : decode cX9_init 188 = .ok (.bipush 16, 2) := by decide +kernel
theorem dX9_init_190 : decode cX9_init 190 = .ok (.iconst 0, 1) := by decide +kernel
theorem dX9_init_191 : decode cX9_init 191 = .ok (.iastore, 1) := by decide +kernel
theorem dX9_init_192 : decode cX9_init 192 = .ok (.dup, 1) := by decide +kernel
theorem dX9_init_193 : decode cX9_init 193 = .ok (.bipush 17, 2) := by decide +kernel
theorem dX9_init_195 : decode cX9_init 195 = .ok (.iconst 0, 1) := by decide +kernel
theorem dX9_init_196 : decode cX9_init 196 = .ok (.iastore, 1) := by decide +kernel
theorem dX9_init_197 : decode cX9_init 197 = .ok (.dup, 1) := by decide +kernel
theorem dX9_init_198 : decode cX9_init 198 = .ok (.bipush 18, 2) := by decide +kernel
theorem dX9_init_200 : decode cX9_init 200 = .ok (.iconst 0, 1) := by decide +kernel
theorem dX9_init_201 : decode cX9_init 201 = .ok (.iastore, 1) := by decide +kernel
theorem dX9_init_202 : decode cX9_init 202 = .ok (.dup, 1) := by decide +kernel
theorem dX9_init_203 : decode cX9_init 203 = .ok (.bipush 19, 2) := by decide +kernel
theorem dX9_init_205 : decode cX9_init 205 = .ok (.iconst 0, 1) := by decide +kernel
theorem dX9_init_206 : decode cX9_init 206 = .ok (.iastore, 1) := by decide +kernel
theorem dX9_init_207 : decode cX9_init 207 = .ok (.putfield 51, 3) := by decide +kernel
theorem dX9_init_210 : decode cX9_init 210 = .ok (.aload_n 0, 1) := by decide +kernel
theorem dX9_init_211 : decode cX9_init 211 = .ok (.sipush 168, 3) := by decide +kernel
theorem dX9_init_214 : decode cX9_init 214 = .ok (.newarray .int, 2) := by decide +kernel
theorem dX9_init_216 : decode cX9_init 216 = .ok (.putfield 55, 3) := by decide +kernel
theorem dX9_init_219 : decode cX9_init 219 = .ok (.aload_n 0, 1) := by decide +kernel
theorem dX9_init_220 : decode cX9_init 220 = .ok (.bipush 24, 2) := by decide +kernel
theorem dX9_init_222 : decode cX9_init 222 = .ok (.newarray .int, 2) := by decide +kernel
theorem dX9_init_224 : decode cX9_init 224 = .ok (.putfield 58, 3) := by decide +kernel
theorem dX9_init_227 : decode cX9_init 227 = .ok (.aload_n 0, 1) := by decide +kernel
theorem dX9_init_228 : decode cX9_init 228 = .ok (.bipush 24, 2) := by decide +kernel
theorem dX9_init_230 : decode cX9_init 230 = .ok (.newarray .int, 2) := by decide +kernel
theorem dX9_init_232 : decode cX9_init 232 = .ok (.putfield 61, 3) := by decide +kernel
theorem dX9_init_235 : decode cX9_init 235 = .ok (.aload_n 0, 1) := by decide +kernel
theorem dX9_init_236 : decode cX9_init 236 = .ok (.bipush 24, 2) := by decide +kernel
theorem dX9_init_238 : decode cX9_init 238 = .ok (.newarray .int, 2) := by decide +kernel
theorem dX9_init_240 : decode cX9_init 240 = .ok (.putfield 64, 3) := by decide +kernel
theorem dX9_init_243 : decode cX9_init 243 = .ok (.aload_n 0, 1) := by decide +kernel
theorem dX9_init_244 : decode cX9_init 244 = .ok (.sipush 1400, 3) := by decide +kernel
theorem dX9_init_247 : decode cX9_init 247 = .ok (.newarray .int, 2) := by decide +kernel
theorem dX9_init_249 : decode cX9_init 249 = .ok (.putfield 67, 3) := by decide +kernel
theorem dX9_init_252 : decode cX9_init 252 = .ok (.aload_n 0, 1) := by decide +kernel
theorem dX9_init_253 : decode cX9_init 253 = .ok (.iconst 3, 1) := by decide +kernel
theorem dX9_init_254 : decode cX9_init 254 = .ok (.newarray .int, 2) := by decide +kernel
theorem dX9_init_256 : decode cX9_init 256 = .ok (.putfield 70, 3) := by decide +kernel
theorem dX9_init_259 : decode cX9_init 259 = .ok (.aload_n 0, 1) := by decide +kernel
theorem dX9_init_260 : decode cX9_init 260 = .ok (.sipush 700, 3) := by decide +kernel
theorem dX9_init_263 : decode cX9_init 263 = .ok (.newarray .int, 2) := by decide +kernel
theorem dX9_init_265 : decode cX9_init 265 = .ok (.putfield 73, 3) := by decide +kernel
theorem dX9_init_268 : decode cX9_init 268 = .ok (.aload_n 0, 1) := by decide +kernel
theorem dX9_init_269 : decode cX9_init 269 = .ok (.iconst (-1), 1) := by decide +kernel
theorem dX9_init_270 : decode cX9_init 270 = .ok (.putfield 76, 3) := by decide +kernel
theorem dX9_init_273 : decode cX9_init 273 = .ok (.aload_n 0, 1) := by decide +kernel
theorem dX9_init_274 : decode cX9_init 274 = .ok (.bipush 8, 2) := by decide +kernel
theorem dX9_init_276 : decode cX9_init 276 = .ok (.newarray .int, 2) := by decide +kernel
theorem dX9_init_278 : decode cX9_init 278 = .ok (.putfield 80, 3) := by decide +kernel
theorem dX9_init_281 : decode cX9_init 281 = .ok (.aload_n 0, 1) := by decide +kernel
theorem dX9_init_282 : decode cX9_init 282 = .ok (.bipush 64, 2) := by decide +kernel
theorem dX9_init_284 : decode cX9_init 284 = .ok (.newarray .int, 2) := by decide +kernel
theorem dX9_init_286 : decode cX9_init 286 = .ok (.putfield 83, 3) := by decide +kernel
theorem dX9_init_289 : decode cX9_init 289 = .ok (.aload_n 0, 1) := by decide +kernel
theorem dX9_init_290 : decode cX9_init 290 = .ok (.bipush 6, 2) := by decide +kernel
theorem dX9_init_292 : decode cX9_init 292 = .ok (.newarray .int, 2) := by decide +kernel
theorem dX9_init_294 : decode cX9_init 294 = .ok (.putfield 86, 3) := by decide +kernel
theorem dX9_init_297 : decode cX9_init 297 = .ok (.aload_n 0, 1) := by decide +kernel
theorem dX9_init_298 : decode cX9_init 298 = .ok (.bipush 6, 2) := by decide +kernel
theorem dX9_init_300 : decode cX9_init 300 = .ok (.newarray .int, 2) := by decide +kernel
theorem dX9_init_302 : decode cX9_init 302 = .ok (.putfield 89, 3) := by decide +kernel
theorem dX9_init_305 : decode cX9_init 305 = .ok (.aload_n 0, 1) := by decide +kernel
theorem dX9_init_306 : decode cX9_init 306 = .ok (.bipush 6, 2) := by decide +kernel
theorem dX9_init_308 : decode cX9_init 308 = .ok (.newarray .int, 2) := by decide +kernel
theorem dX9_init_310 : decode cX9_init 310 = .ok (.putfield 92, 3) := by decide +kernel
theorem dX9_init_313 : decode cX9_init 313 = .ok (.aload_n 0, 1) := by decide +kernel
theorem dX9_init_314 : decode cX9_init 314 = .ok (.sipush 3360, 3) := by decide +kernel
theorem dX9_init_317 : decode cX9_init 317 = .ok (.newarray .int, 2) := by decide +kernel
theorem dX9_init_319 : decode cX9_init 319 = .ok (.putfield 95, 3) := by decide +kernel
theorem dX9_init_322 : decode cX9_init 322 = .ok (.aload_n 0, 1) := by decide +kernel
theorem dX9_init_323 : decode cX9_init 323 = .ok (.bipush 6, 2) := by decide +kernel
theorem dX9_init_325 : decode cX9_init 325 = .ok (.newarray .int, 2) := by decide +kernel
theorem dX9_init_327 : decode cX9_init 327 = .ok (.putfield 98, 3) := by decide +kernel
theorem dX9_init_330 : decode cX9_init 330 = .ok (.aload_n 0, 1) := by decide +kernel
theorem dX9_init_331 : decode cX9_init 331 = .ok (.bipush 6, 2) := by decide +kernel
theorem dX9_init_333 : decode cX9_init 333 = .ok (.newarray .int, 2) := by decide +kernel
theorem dX9_init_335 : decode cX9_init 335 = .ok (.putfield 101, 3) := by decide +kernel
theorem dX9_init_338 : decode cX9_init 338 = .ok (.aload_n 0, 1) := by decide +kernel
theorem dX9_init_339 : decode cX9_init 339 = .ok (.bipush 6, 2) := by decide +kernel
theorem dX9_init_341 : decode cX9_init 341 = .ok (.newarray .int, 2) := by decide +kernel
theorem dX9_init_343 : decode cX9_init 343 = .ok (.putfield 104, 3) := by decide +kernel
theorem dX9_init_346 : decode cX9_init 346 = .ok (.aload_n 0, 1) := by decide +kernel
theorem dX9_init_347 : decode cX9_init 347 = .ok (.bipush 6, 2) := by decide +kernel
theorem dX9_init_349 : decode cX9_init 349 = .ok (.newarray .int, 2) := by decide +kernel
theorem dX9_init_351 : decode cX9_init 351 = .ok (.putfield 107, 3) := by decide +kernel
theorem dX9_init_354 : decode cX9_init 354 = .ok (.aload_n 0, 1) := by decide +kernel
theorem dX9_init_355 : decode cX9_init 355 = .ok (.bipush 6, 2) := by decide +kernel
theorem dX9_init_357 : decode cX9_init 357 = .ok (.newarray .int, 2) := by decide +kernel
theorem dX9_init_359 : decode cX9_init 359 = .ok (.putfield 110, 3) := by decide +kernel
theorem dX9_init_362 : decode cX9_init 362 = .ok (.aload_n 0, 1) := by decide +kernel
theorem dX9_init_363 : decode cX9_init 363 = .ok (.bipush 40, 2) := by decide +kernel
theorem dX9_init_365 : decode cX9_init 365 = .ok (.newarray .int, 2) := by decide +kernel
theorem dX9_init_367 : decode cX9_init 367 = .ok (.putfield 113, 3) := by decide +kernel
theorem dX9_init_370 : decode cX9_init 370 = .ok (.aload_n 0, 1) := by decide +kernel
theorem dX9_init_371 : decode cX9_init 371 = .ok (.bipush 40, 2) := by decide +kernel
theorem dX9_init_373 : decode cX9_init 373 = .ok (.newarray .int, 2) := by decide +kernel
theorem dX9_init_375 : decode cX9_init 375 = .ok (.putfield 116, 3) := by decide +kernel
theorem dX9_init_378 : decode cX9_init 378 = .ok (.aload_n 0, 1) := by decide +kernel
theorem dX9_init_379 : decode cX9_init 379 = .ok (.bipush 6, 2) := by decide +kernel
theorem dX9_init_381 : decode cX9_init 381 = .ok (.newarray .int, 2) := by decide +kernel
theorem dX9_init_383 : decode cX9_init 383 = .ok (.putfield 119, 3) := by decide +kernel
theorem dX9_init_386 : decode cX9_init 386 = .ok (.aload_n 0, 1) := by decide +kernel
theorem dX9_init_387 : decode cX9_init 387 = .ok (.bipush 12, 2) := by decide +kernel
theorem dX9_init_389 : decode cX9_init 389 = .ok (.newarray .int, 2) := by decide +kernel
theorem dX9_init_391 : decode cX9_init 391 = .ok (.putfield 122, 3) := by decide +kernel
theorem dX9_init_394 : decode cX9_init 394 = .ok (.aload_n 0, 1) := by decide +kernel
theorem dX9_init_395 : decode cX9_init 395 = .ok (.bipush 12, 2) := by decide +kernel
theorem dX9_init_397 : decode cX9_init 397 = .ok (.newarray .int, 2) := by decide +kernel
theorem dX9_init_399 : decode cX9_init 399 = .ok (.putfield 125, 3) := by decide +kernel
theorem dX9_init_402 : decode cX9_init 402 = .ok (.aload_n 0, 1) := by decide +kernel
theorem dX9_init_403 : decode cX9_init 403 = .ok (.bipush 12, 2) := by decide +kernel
theorem dX9_init_405 : decode cX9_init 405 = .ok (.newarray .int, 2) := by decide +kernel
theorem dX9_init_407 : decode cX9_init 407 = .ok (.putfield 128, 3) := by decide +kernel
theorem dX9_init_410 : decode cX9_init 410 = .ok (.aload_n 0, 1) := by decide +kernel
theorem dX9_init_411 : decode cX9_init 411 = .ok (.bipush 36, 2) := by decide +kernel
theorem dX9_init_413 : decode cX9_init 413 = .ok (.newarray .int, 2) := by decide +kernel
theorem dX9_init_415 : decode cX9_init 415 = .ok (.putfield 131, 3) := by decide +kernel
theorem dX9_init_418 : decode cX9_init 418 = .ok (.aload_n 0, 1) := by decide +kernel
theorem dX9_init_419 : decode cX9_init 419 = .ok (.sipush 168, 3) := by decide +kernel
theorem dX9_init_422 : decode cX9_init 422 = .ok (.newarray .int, 2) := by decide +kernel
theorem dX9_init_424 : decode cX9_init 424 = .ok (.putfield 134, 3) := by decide +kernel
theorem dX9_init_427 : decode cX9_init 427 = .ok (.aload_n 0, 1) := by decide +kernel
theorem dX9_init_428 : decode cX9_init 428 = .ok (.sipush 3360, 3) := by decide +kernel
theorem dX9_init_431 : decode cX9_init 431 = .ok (.newarray .int, 2) := by decide +kernel
theorem dX9_init_433 : decode cX9_init 433 = .ok (.putfield 137, 3) := by decide +kernel
theorem dX9_init_436 : decode cX9_init 436 = .ok (.aload_n 0, 1) := by decide +kernel
theorem dX9_init_437 : decode cX9_init 437 = .ok (.bipush 40, 2) := by decide +kernel
theorem dX9_init_439 : decode cX9_init 439 = .ok (.newarray .int, 2) := by decide +kernel
theorem dX9_init_441 : decode cX9_init 441 = .ok (.putfield 140, 3) := by decide +kernel
theorem dX9_init_444 : decode cX9_init 444 = .ok (.aload_n 0, 1) := by decide +kernel
theorem dX9_init_445 : decode cX9_init 445 = .ok (.bipush 12, 2) := by decide +kernel
theorem dX9_init_447 : decode cX9_init 447 = .ok (.newarray .int, 2) := by decide +kernel
theorem dX9_init_449 : decode cX9_init 449 = .ok (.putfield 143, 3) := by decide +kernel
theorem dX9_init_452 : decode cX9_init 452 = .ok (.aload_n 0, 1) := by decide +kernel
theorem dX9_init_453 : decode cX9_init 453 = .ok (.bipush 12, 2) := by decide +kernel
theorem dX9_init_455 : decode cX9_init 455 = .ok (.newarray .int, 2) := by decide +kernel
theorem dX9_init_457 : decode cX9_init 457 = .ok (.putfield 146, 3) := by decide +kernel
theorem dX9_init_460 : decode cX9_init 460 = .ok (.aload_n 0, 1) := by decide +kernel
theorem dX9_init_461 : decode cX9_init 461 = .ok (.bipush 12, 2) := by decide +kernel
theorem dX9_init_463 : decode cX9_init 463 = .ok (.newarray .int, 2) := by decide +kernel
theorem dX9_init_465 : decode cX9_init 465 = .ok (.putfield 149, 3) := by decide +kernel
theorem dX9_init_468 : decode cX9_init 468 = .ok (.aload_n 0, 1) := by decide +kernel
theorem dX9_init_469 : decode cX9_init 469 = .ok (.iconst 3, 1) := by decide +kernel
theorem dX9_init_470 : decode cX9_init 470 = .ok (.newarray .int, 2) := by decide +kernel
theorem dX9_init_472 : decode cX9_init 472 = .ok (.putfield 152, 3) := by decide +kernel
theorem dX9_init_475 : decode cX9_init 475 = .ok (.return_, 1) := by decide +kernel
theorem dX9_thrown_0 : decode cX9_thrown 0 = .ok (.aload_n 0, 1) := by decide +kernel
theorem dX9_thrown_1 : decode cX9_thrown 1 = .ok (.getfield 155, 3) := by decide +kernel
theorem dX9_thrown_4 : decode cX9_thrown 4 = .ok (.ireturn, 1) := by decide +kernel
theorem dX9_fail_0 : decode cX9_fail 0 = .ok (.aload_n 0, 1) := by decide +kernel
theorem dX9_fail_1 : decode cX9_fail 1 = .ok (.iload_n 1, 1) := by decide +kernel
theorem dX9_fail_2 : decode cX9_fail 2 = .ok (.putfield 155, 3) := by decide +kernel
theorem dX9_fail_5 : decode cX9_fail 5 = .ok (.iconst 0, 1) := by decide +kernel
theorem dX9_fail_6 : decode cX9_fail 6 = .ok (.ireturn, 1) := by decide +kernel
theorem dX9_isIn_0 : decode cX9_isIn 0 = .ok (.lload_n 0, 1) := by decide +kernel
theorem dX9_isIn_1 : decode cX9_isIn 1 = .ok (.lload_n 2, 1) := by decide +kernel
theorem dX9_isIn_2 : decode cX9_isIn 2 = .ok (.lcmp, 1) := by decide +kernel
theorem dX9_isIn_3 : decode cX9_isIn 3 = .ok (.ifCond .lt 14, 3) := by decide +kernel
theorem dX9_isIn_6 : decode cX9_isIn 6 = .ok (.lload_n 0, 1) := by decide +kernel
theorem dX9_isIn_7 : decode cX9_isIn 7 = .ok (.lload 4, 2) := by decide +kernel
theorem dX9_isIn_9 : decode cX9_isIn 9 = .ok (.lcmp, 1) := by decide +kernel
theorem dX9_isIn_10 : decode cX9_isIn 10 = .ok (.ifCond .gt 7, 3) := by decide +kernel
theorem dX9_isIn_13 : decode cX9_isIn 13 = .ok (.iconst 1, 1) := by decide +kernel
theorem dX9_isIn_14 : decode cX9_isIn 14 = .ok (.goto 4, 3) := by decide +kernel
theorem dX9_isIn_17 : decode cX9_isIn 17 = .ok (.iconst 0, 1) := by decide +kernel
theorem dX9_isIn_18 : decode cX9_isIn 18 = .ok (.ireturn, 1) := by decide +kernel
theorem dX9_isIsle_0 : decode cX9_isIsle 0 = .ok (.iload_n 1, 1) := by decide +kernel
theorem dX9_isIsle_1 : decode cX9_isIsle 1 = .ok (.i2l, 1) := by decide +kernel
theorem dX9_isIsle_2 : decode cX9_isIsle 2 = .ok (.lconst 0, 1) := by decide +kernel
theorem dX9_isIsle_3 : decode cX9_isIsle 3 = .ok (.aload_n 0, 1) := by decide +kernel
theorem dX9_isIsle_4 : decode cX9_isIsle 4 = .ok (.getfield 51, 3) := by decide +kernel
theorem dX9_isIsle_7 : decode cX9_isIsle 7 = .ok (.iconst 0, 1) := by decide +kernel
theorem dX9_isIsle_8 : decode cX9_isIsle 8 = .ok (.iaload, 1) := by decide +kernel
theorem dX9_isIsle_9 : decode cX9_isIsle 9 = .ok (.iconst 1, 1) := by decide +kernel
theorem dX9_isIsle_10 : decode cX9_isIsle 10 = .ok (.isub, 1) := by decide +kernel
theorem dX9_isIsle_11 : decode cX9_isIsle 11 = .ok (.i2l, 1) := by decide +kernel
theorem dX9_isIsle_12 : decode cX9_isIsle 12 = .ok (.invokestatic 158, 3) := by decide +kernel
theorem dX9_isIsle_15 : decode cX9_isIsle 15 = .ok (.ireturn, 1) := by decide +kernel
theorem dX9_isHour_0 : decode cX9_isHour 0 = .ok (.iload_n 0, 1) := by decide +kernel
theorem dX9_isHour_1 : decode cX9_isHour 1 = .ok (.i2l, 1) := by decide +kernel
theorem dX9_isHour_2 : decode cX9_isHour 2 = .ok (.lconst 0, 1) := by decide +kernel
theorem dX9_isHour_3 : decode cX9_isHour 3 = .ok (.ldc2_w 162, 3) := by decide +kernel
theorem dX9_isHour_6 : decode cX9_isHour 6 = .ok (.invokestatic 158, 3) := by decide +kernel
theorem dX9_isHour_9 : decode cX9_isHour 9 = .ok (.ireturn, 1) := by decide +kernel
theorem dX9_isSpan_0 : decode cX9_isSpan 0 = .ok (.iload_n 0, 1) := by decide +kernel
theorem dX9_isSpan_1 : decode cX9_isSpan 1 = .ok (.ifCond .lt 19, 3) := by decide +kernel
theorem dX9_isSpan_4 : decode cX9_isSpan 4 = .ok (.iload_n 0, 1) := by decide +kernel
theorem dX9_isSpan_5 : decode cX9_isSpan 5 = .ok (.iload_n 1, 1) := by decide +kernel
theorem dX9_isSpan_6 : decode cX9_isSpan 6 = .ok (.if_icmp .gt 14, 3) := by decide +kernel
theorem dX9_isSpan_9 : decode cX9_isSpan 9 = .ok (.iload_n 1, 1) := by decide +kernel
theorem dX9_isSpan_10 : decode cX9_isSpan 10 = .ok (.sipush 168, 3) := by decide +kernel
theorem dX9_isSpan_13 : decode cX9_isSpan 13 = .ok (.if_icmp .ge 7, 3) := by decide +kernel
theorem dX9_isSpan_16 : decode cX9_isSpan 16 = .ok (.iconst 1, 1) := by decide +kernel
theorem dX9_isSpan_17 : decode cX9_isSpan 17 = .ok (.goto 4, 3) := by decide +kernel
theorem dX9_isSpan_20 : decode cX9_isSpan 20 = .ok (.iconst 0, 1) := by decide +kernel
theorem dX9_isSpan_21 : decode cX9_isSpan 21 = .ok (.ireturn, 1) := by decide +kernel
theorem dX9_of_0 : decode cX9_of 0 = .ok (.aload_n 0, 1) := by decide +kernel
theorem dX9_of_1 : decode cX9_of 1 = .ok (.getfield 55, 3) := by decide +kernel
theorem dX9_of_4 : decode cX9_of 4 = .ok (.bipush 14, 2) := by decide +kernel
theorem dX9_of_6 : decode cX9_of 6 = .ok (.iload_n 1, 1) := by decide +kernel
theorem dX9_of_7 : decode cX9_of 7 = .ok (.imul, 1) := by decide +kernel
theorem dX9_of_8 : decode cX9_of 8 = .ok (.iload_n 2, 1) := by decide +kernel
theorem dX9_of_9 : decode cX9_of 9 = .ok (.iadd, 1) := by decide +kernel
theorem dX9_of_10 : decode cX9_of 10 = .ok (.iaload, 1) := by decide +kernel
theorem dX9_of_11 : decode cX9_of 11 = .ok (.ireturn, 1) := by decide +kernel
theorem dX9_feed_0 : decode cX9_feed 0 = .ok (.aload_n 0, 1) := by decide +kernel
theorem dX9_feed_1 : decode cX9_feed 1 = .ok (.iconst 0, 1) := by decide +kernel
theorem dX9_feed_2 : decode cX9_feed 2 = .ok (.putfield 155, 3) := by decide +kernel
theorem dX9_feed_5 : decode cX9_feed 5 = .ok (.aload_n 0, 1) := by decide +kernel
theorem dX9_feed_6 : decode cX9_feed 6 = .ok (.getfield 164, 3) := by decide +kernel
theorem dX9_feed_9 : decode cX9_feed 9 = .ok (.bipush 20, 2) := by decide +kernel
theorem dX9_feed_11 : decode cX9_feed 11 = .ok (.iadd, 1) := by decide +kernel
theorem dX9_feed_12 : decode cX9_feed 12 = .ok (.sipush 700, 3) := by decide +kernel
theorem dX9_feed_15 : decode cX9_feed 15 = .ok (.if_icmp .le 5, 3) := by decide +kernel
theorem dX9_feed_18 : decode cX9_feed 18 = .ok (.iconst (-1), 1) := by decide +kernel
theorem dX9_feed_19 : decode cX9_feed 19 = .ok (.ireturn, 1) := by decide +kernel
theorem dX9_feed_20 : decode cX9_feed 20 = .ok (.iconst 0, 1) := by decide +kernel
theorem dX9_feed_21 : decode cX9_feed 21 = .ok (.istore 6, 2) := by decide +kernel
theorem dX9_feed_23 : decode cX9_feed 23 = .ok (.iload 6, 2) := by decide +kernel
theorem dX9_feed_25 : decode cX9_feed 25 = .ok (.bipush 20, 2) := by decide +kernel
theorem dX9_feed_27 : decode cX9_feed 27 = .ok (.if_icmp .ge 93, 3) := by decide +kernel
theorem dX9_feed_30 : decode cX9_feed 30 = .ok (.iload 6, 2) := by decide +kernel
theorem dX9_feed_32 : decode cX9_feed 32 = .ok (.iconst 4, 1) := by decide +kernel
theorem dX9_feed_33 : decode cX9_feed 33 = .ok (.if_icmp .ge 7, 3) := by decide +kernel
theorem dX9_feed_36 : decode cX9_feed 36 = .ok (.iload_n 1, 1) := by decide +kernel
theorem dX9_feed_37 : decode cX9_feed 37 = .ok (.goto 39, 3) := by decide +kernel
theorem dX9_feed_40 : decode cX9_feed 40 = .ok (.iload 6, 2) := by decide +kernel
theorem dX9_feed_42 : decode cX9_feed 42 = .ok (.bipush 8, 2) := by decide +kernel
theorem dX9_feed_44 : decode cX9_feed 44 = .ok (.if_icmp .ge 7, 3) := by decide +kernel
theorem dX9_feed_47 : decode cX9_feed 47 = .ok (.iload_n 2, 1) := by decide +kernel
theorem dX9_feed_48 : decode cX9_feed 48 = .ok (.goto 28, 3) := by decide +kernel
theorem dX9_feed_51 : decode cX9_feed 51 = .ok (.iload 6, 2) := by decide +kernel
theorem dX9_feed_53 : decode cX9_feed 53 = .ok (.bipush 12, 2) := by decide +kernel
theorem dX9_feed_55 : decode cX9_feed 55 = .ok (.if_icmp .ge 7, 3) := by decide +kernel
theorem dX9_feed_58 : decode cX9_feed 58 = .ok (.iload_n 3, 1) := by decide +kernel
theorem dX9_feed_59 : decode cX9_feed 59 = .ok (.goto 17, 3) := by decide +kernel
theorem dX9_feed_62 : decode cX9_feed 62 = .ok (.iload 6, 2) := by decide +kernel
theorem dX9_feed_64 : decode cX9_feed 64 = .ok (.bipush 16, 2) := by decide +kernel
theorem dX9_feed_66 : decode cX9_feed 66 = .ok (.if_icmp .ge 8, 3) := by decide +kernel
theorem dX9_feed_69 : decode cX9_feed 69 = .ok (.iload 4, 2) := by decide +kernel
theorem dX9_feed_71 : decode cX9_feed 71 = .ok (.goto 5, 3) := by decide +kernel
theorem dX9_feed_74 : decode cX9_feed 74 = .ok (.iload 5, 2) := by decide +kernel
theorem dX9_feed_76 : decode cX9_feed 76 = .ok (.istore 7, 2) := by decide +kernel
theorem dX9_feed_78 : decode cX9_feed 78 = .ok (.aload_n 0, 1) := by decide +kernel
theorem dX9_feed_79 : decode cX9_feed 79 = .ok (.getfield 73, 3) := by decide +kernel
theorem dX9_feed_82 : decode cX9_feed 82 = .ok (.aload_n 0, 1) := by decide +kernel
theorem dX9_feed_83 : decode cX9_feed 83 = .ok (.getfield 164, 3) := by decide +kernel
theorem dX9_feed_86 : decode cX9_feed 86 = .ok (.iload 7, 2) := by decide +kernel
theorem dX9_feed_88 : decode cX9_feed 88 = .ok (.bipush 24, 2) := by decide +kernel
theorem dX9_feed_90 : decode cX9_feed 90 = .ok (.bipush 8, 2) := by decide +kernel
theorem dX9_feed_92 : decode cX9_feed 92 = .ok (.iload 6, 2) := by decide +kernel
theorem dX9_feed_94 : decode cX9_feed 94 = .ok (.iconst 4, 1) := by decide +kernel
theorem dX9_feed_95 : decode cX9_feed 95 = .ok (.irem, 1) := by decide +kernel
theorem dX9_feed_96 : decode cX9_feed 96 = .ok (.imul, 1) := by decide +kernel
theorem dX9_feed_97 : decode cX9_feed 97 = .ok (.isub, 1) := by decide +kernel
theorem dX9_feed_98 : decode cX9_feed 98 = .ok (.ishr, 1) := by decide +kernel
theorem dX9_feed_99 : decode cX9_feed 99 = .ok (.sipush 255, 3) := by decide +kernel
theorem dX9_feed_102 : decode cX9_feed 102 = .ok (.iand, 1) := by decide +kernel
theorem dX9_feed_103 : decode cX9_feed 103 = .ok (.iastore, 1) := by decide +kernel
theorem dX9_feed_104 : decode cX9_feed 104 = .ok (.aload_n 0, 1) := by decide +kernel
theorem dX9_feed_105 : decode cX9_feed 105 = .ok (.dup, 1) := by decide +kernel
theorem dX9_feed_106 : decode cX9_feed 106 = .ok (.getfield 164, 3) := by decide +kernel
theorem dX9_feed_109 : decode cX9_feed 109 = .ok (.iconst 1, 1) := by decide +kernel
theorem dX9_feed_110 : decode cX9_feed 110 = .ok (.iadd, 1) := by decide +kernel
theorem dX9_feed_111 : decode cX9_feed 111 = .ok (.putfield 164, 3) := by decide +kernel
theorem dX9_feed_114 : decode cX9_feed 114 = .ok (.iinc 6 1, 3) := by decide +kernel
theorem dX9_feed_117 : decode cX9_feed 117 = .ok (.goto (-94), 3) := by decide +kernel
theorem dX9_feed_120 : decode cX9_feed 120 = .ok (.aload_n 0, 1) := by decide +kernel
theorem dX9_feed_121 : decode cX9_feed 121 = .ok (.getfield 164, 3) := by decide +kernel
theorem dX9_feed_124 : decode cX9_feed 124 = .ok (.ireturn, 1) := by decide +kernel
theorem dX9_byteAt_0 : decode cX9_byteAt 0 = .ok (.iload_n 1, 1) := by decide +kernel
theorem dX9_byteAt_1 : decode cX9_byteAt 1 = .ok (.aload_n 0, 1) := by decide +kernel
theorem dX9_byteAt_2 : decode cX9_byteAt 2 = .ok (.getfield 167, 3) := by decide +kernel
theorem dX9_byteAt_5 : decode cX9_byteAt 5 = .ok (.if_icmp .ge 12, 3) := by decide +kernel
theorem dX9_byteAt_8 : decode cX9_byteAt 8 = .ok (.aload_n 0, 1) := by decide +kernel
theorem dX9_byteAt_9 : decode cX9_byteAt 9 = .ok (.getfield 73, 3) := by decide +kernel
theorem dX9_byteAt_12 : decode cX9_byteAt 12 = .ok (.iload_n 1, 1) := by decide +kernel
theorem dX9_byteAt_13 : decode cX9_byteAt 13 = .ok (.iaload, 1) := by decide +kernel
theorem dX9_byteAt_14 : decode cX9_byteAt 14 = .ok (.goto 4, 3) := by decide +kernel
theorem dX9_byteAt_17 : decode cX9_byteAt 17 = .ok (.iconst (-1), 1) := by decide +kernel
theorem dX9_byteAt_18 : decode cX9_byteAt 18 = .ok (.ireturn, 1) := by decide +kernel
theorem dX9_isLetter_0 : decode cX9_isLetter 0 = .ok (.iload_n 0, 1) := by decide +kernel
theorem dX9_isLetter_1 : decode cX9_isLetter 1 = .ok (.bipush 97, 2) := by decide +kernel
theorem dX9_isLetter_3 : decode cX9_isLetter 3 = .ok (.if_icmp .lt 13, 3) := by decide +kernel
theorem dX9_isLetter_6 : decode cX9_isLetter 6 = .ok (.iload_n 0, 1) := by decide +kernel
theorem dX9_isLetter_7 : decode cX9_isLetter 7 = .ok (.bipush 122, 2) := by decide +kernel
theorem dX9_isLetter_9 : decode cX9_isLetter 9 = .ok (.if_icmp .gt 7, 3) := by decide +kernel
theorem dX9_isLetter_12 : decode cX9_isLetter 12 = .ok (.iconst 1, 1) := by decide +kernel
theorem dX9_isLetter_13 : decode cX9_isLetter 13 = .ok (.goto 4, 3) := by decide +kernel
theorem dX9_isLetter_16 : decode cX9_isLetter 16 = .ok (.iconst 0, 1) := by decide +kernel
theorem dX9_isLetter_17 : decode cX9_isLetter 17 = .ok (.ireturn, 1) := by decide +kernel
theorem dX9_isDigit_0 : decode cX9_isDigit 0 = .ok (.iload_n 0, 1) := by decide +kernel
theorem dX9_isDigit_1 : decode cX9_isDigit 1 = .ok (.bipush 48, 2) := by decide +kernel
theorem dX9_isDigit_3 : decode cX9_isDigit 3 = .ok (.if_icmp .lt 13, 3) := by decide +kernel
theorem dX9_isDigit_6 : decode cX9_isDigit 6 = .ok (.iload_n 0, 1) := by decide +kernel
theorem dX9_isDigit_7 : decode cX9_isDigit 7 = .ok (.bipush 57, 2) := by decide +kernel
theorem dX9_isDigit_9 : decode cX9_isDigit 9 = .ok (.if_icmp .gt 7, 3) := by decide +kernel
theorem dX9_isDigit_12 : decode cX9_isDigit 12 = .ok (.iconst 1, 1) := by decide +kernel
theorem dX9_isDigit_13 : decode cX9_isDigit 13 = .ok (.goto 4, 3) := by decide +kernel
theorem dX9_isDigit_16 : decode cX9_isDigit 16 = .ok (.iconst 0, 1) := by decide +kernel
theorem dX9_isDigit_17 : decode cX9_isDigit 17 = .ok (.ireturn, 1) := by decide +kernel
theorem dX9_isMark_0 : decode cX9_isMark 0 = .ok (.iload_n 0, 1) := by decide +kernel
theorem dX9_isMark_1 : decode cX9_isMark 1 = .ok (.bipush 59, 2) := by decide +kernel
theorem dX9_isMark_3 : decode cX9_isMark 3 = .ok (.if_icmp .eq 51, 3) := by decide +kernel
theorem dX9_isMark_6 : decode cX9_isMark 6 = .ok (.iload_n 0, 1) := by decide +kernel
theorem dX9_isMark_7 : decode cX9_isMark 7 = .ok (.bipush 40, 2) := by decide +kernel
theorem dX9_isMark_9 : decode cX9_isMark 9 = .ok (.if_icmp .eq 45, 3) := by decide +kernel
theorem dX9_isMark_12 : decode cX9_isMark 12 = .ok (.iload_n 0, 1) := by decide +kernel
theorem dX9_isMark_13 : decode cX9_isMark 13 = .ok (.bipush 41, 2) := by decide +kernel
theorem dX9_isMark_15 : decode cX9_isMark 15 = .ok (.if_icmp .eq 39, 3) := by decide +kernel
theorem dX9_isMark_18 : decode cX9_isMark 18 = .ok (.iload_n 0, 1) := by decide +kernel
theorem dX9_isMark_19 : decode cX9_isMark 19 = .ok (.bipush 43, 2) := by decide +kernel
theorem dX9_isMark_21 : decode cX9_isMark 21 = .ok (.if_icmp .eq 33, 3) := by decide +kernel
theorem dX9_isMark_24 : decode cX9_isMark 24 = .ok (.iload_n 0, 1) := by decide +kernel
theorem dX9_isMark_25 : decode cX9_isMark 25 = .ok (.bipush 45, 2) := by decide +kernel
theorem dX9_isMark_27 : decode cX9_isMark 27 = .ok (.if_icmp .eq 27, 3) := by decide +kernel
theorem dX9_isMark_30 : decode cX9_isMark 30 = .ok (.iload_n 0, 1) := by decide +kernel
theorem dX9_isMark_31 : decode cX9_isMark 31 = .ok (.bipush 42, 2) := by decide +kernel
theorem dX9_isMark_33 : decode cX9_isMark 33 = .ok (.if_icmp .eq 21, 3) := by decide +kernel
theorem dX9_isMark_36 : decode cX9_isMark 36 = .ok (.iload_n 0, 1) := by decide +kernel
theorem dX9_isMark_37 : decode cX9_isMark 37 = .ok (.bipush 47, 2) := by decide +kernel
theorem dX9_isMark_39 : decode cX9_isMark 39 = .ok (.if_icmp .eq 15, 3) := by decide +kernel
theorem dX9_isMark_42 : decode cX9_isMark 42 = .ok (.iload_n 0, 1) := by decide +kernel
theorem dX9_isMark_43 : decode cX9_isMark 43 = .ok (.bipush 60, 2) := by decide +kernel
theorem dX9_isMark_45 : decode cX9_isMark 45 = .ok (.if_icmp .eq 9, 3) := by decide +kernel
theorem dX9_isMark_48 : decode cX9_isMark 48 = .ok (.iload_n 0, 1) := by decide +kernel
theorem dX9_isMark_49 : decode cX9_isMark 49 = .ok (.bipush 61, 2) := by decide +kernel
theorem dX9_isMark_51 : decode cX9_isMark 51 = .ok (.if_icmp .ne 7, 3) := by decide +kernel
theorem dX9_isMark_54 : decode cX9_isMark 54 = .ok (.iconst 1, 1) := by decide +kernel
theorem dX9_isMark_55 : decode cX9_isMark 55 = .ok (.goto 4, 3) := by decide +kernel
theorem dX9_isMark_58 : decode cX9_isMark 58 = .ok (.iconst 0, 1) := by decide +kernel
theorem dX9_isMark_59 : decode cX9_isMark 59 = .ok (.ireturn, 1) := by decide +kernel
theorem dX9_stepOn_0 : decode cX9_stepOn 0 = .ok (.aload_n 0, 1) := by decide +kernel
theorem dX9_stepOn_1 : decode cX9_stepOn 1 = .ok (.aload_n 0, 1) := by decide +kernel
theorem dX9_stepOn_2 : decode cX9_stepOn 2 = .ok (.getfield 169, 3) := by decide +kernel
theorem dX9_stepOn_5 : decode cX9_stepOn 5 = .ok (.invokevirtual 172, 3) := by decide +kernel
theorem dX9_stepOn_8 : decode cX9_stepOn 8 = .ok (.bipush 32, 2) := by decide +kernel
theorem dX9_stepOn_10 : decode cX9_stepOn 10 = .ok (.if_icmp .eq 16, 3) := by decide +kernel
theorem dX9_stepOn_13 : decode cX9_stepOn 13 = .ok (.aload_n 0, 1) := by decide +kernel
theorem dX9_stepOn_14 : decode cX9_stepOn 14 = .ok (.aload_n 0, 1) := by decide +kernel
theorem dX9_stepOn_15 : decode cX9_stepOn 15 = .ok (.getfield 169, 3) := by decide +kernel
theorem dX9_stepOn_18 : decode cX9_stepOn 18 = .ok (.invokevirtual 172, 3) := by decide +kernel
theorem dX9_stepOn_21 : decode cX9_stepOn 21 = .ok (.bipush 10, 2) := by decide +kernel
theorem dX9_stepOn_23 : decode cX9_stepOn 23 = .ok (.if_icmp .ne 16, 3) := by decide +kernel
theorem dX9_stepOn_26 : decode cX9_stepOn 26 = .ok (.aload_n 0, 1) := by decide +kernel
theorem dX9_stepOn_27 : decode cX9_stepOn 27 = .ok (.dup, 1) := by decide +kernel
theorem dX9_stepOn_28 : decode cX9_stepOn 28 = .ok (.getfield 169, 3) := by decide +kernel
theorem dX9_stepOn_31 : decode cX9_stepOn 31 = .ok (.iconst 1, 1) := by decide +kernel
theorem dX9_stepOn_32 : decode cX9_stepOn 32 = .ok (.iadd, 1) := by decide +kernel
theorem dX9_stepOn_33 : decode cX9_stepOn 33 = .ok (.putfield 169, 3) := by decide +kernel
theorem dX9_stepOn_36 : decode cX9_stepOn 36 = .ok (.goto (-36), 3) := by decide +kernel
theorem dX9_stepOn_39 : decode cX9_stepOn 39 = .ok (.aload_n 0, 1) := by decide +kernel
theorem dX9_stepOn_40 : decode cX9_stepOn 40 = .ok (.aload_n 0, 1) := by decide +kernel
theorem dX9_stepOn_41 : decode cX9_stepOn 41 = .ok (.getfield 169, 3) := by decide +kernel
theorem dX9_stepOn_44 : decode cX9_stepOn 44 = .ok (.putfield 176, 3) := by decide +kernel
theorem dX9_stepOn_47 : decode cX9_stepOn 47 = .ok (.aload_n 0, 1) := by decide +kernel
theorem dX9_stepOn_48 : decode cX9_stepOn 48 = .ok (.aload_n 0, 1) := by decide +kernel
theorem dX9_stepOn_49 : decode cX9_stepOn 49 = .ok (.getfield 169, 3) := by decide +kernel
theorem dX9_stepOn_52 : decode cX9_stepOn 52 = .ok (.invokevirtual 172, 3) := by decide +kernel
theorem dX9_stepOn_55 : decode cX9_stepOn 55 = .ok (.istore_n 1, 1) := by decide +kernel
theorem dX9_stepOn_56 : decode cX9_stepOn 56 = .ok (.iload_n 1, 1) := by decide +kernel
theorem dX9_stepOn_57 : decode cX9_stepOn 57 = .ok (.iconst (-1), 1) := by decide +kernel
theorem dX9_stepOn_58 : decode cX9_stepOn 58 = .ok (.if_icmp .ne 11, 3) := by decide +kernel
theorem dX9_stepOn_61 : decode cX9_stepOn 61 = .ok (.aload_n 0, 1) := by decide +kernel
theorem dX9_stepOn_62 : decode cX9_stepOn 62 = .ok (.iconst 0, 1) := by decide +kernel
theorem dX9_stepOn_63 : decode cX9_stepOn 63 = .ok (.putfield 179, 3) := by decide +kernel
theorem dX9_stepOn_66 : decode cX9_stepOn 66 = .ok (.goto 146, 3) := by decide +kernel
theorem dX9_stepOn_69 : decode cX9_stepOn 69 = .ok (.iload_n 1, 1) := by decide +kernel
theorem dX9_stepOn_70 : decode cX9_stepOn 70 = .ok (.invokestatic 182, 3) := by decide +kernel
theorem dX9_stepOn_73 : decode cX9_stepOn 73 = .ok (.ifCond .eq 38, 3) := by decide +kernel
theorem dX9_stepOn_76 : decode cX9_stepOn 76 = .ok (.aload_n 0, 1) := by decide +kernel
theorem dX9_stepOn_77 : decode cX9_stepOn 77 = .ok (.aload_n 0, 1) := by decide +kernel
theorem dX9_stepOn_78 : decode cX9_stepOn 78 = .ok (.getfield 169, 3) := by decide +kernel
theorem dX9_stepOn_81 : decode cX9_stepOn 81 = .ok (.invokevirtual 172, 3) := by decide +kernel
theorem dX9_stepOn_84 : decode cX9_stepOn 84 = .ok (.invokestatic 182, 3) := by decide +kernel
theorem dX9_stepOn_87 : decode cX9_stepOn 87 = .ok (.ifCond .eq 16, 3) := by decide +kernel
theorem dX9_stepOn_90 : decode cX9_stepOn 90 = .ok (.aload_n 0, 1) := by decide +kernel
theorem dX9_stepOn_91 : decode cX9_stepOn 91 = .ok (.dup, 1) := by decide +kernel
theorem dX9_stepOn_92 : decode cX9_stepOn 92 = .ok (.getfield 169, 3) := by decide +kernel
theorem dX9_stepOn_95 : decode cX9_stepOn 95 = .ok (.iconst 1, 1) := by decide +kernel
theorem dX9_stepOn_96 : decode cX9_stepOn 96 = .ok (.iadd, 1) := by decide +kernel
theorem dX9_stepOn_97 : decode cX9_stepOn 97 = .ok (.putfield 169, 3) := by decide +kernel
theorem dX9_stepOn_100 : decode cX9_stepOn 100 = .ok (.goto (-24), 3) := by decide +kernel
theorem dX9_stepOn_103 : decode cX9_stepOn 103 = .ok (.aload_n 0, 1) := by decide +kernel
theorem dX9_stepOn_104 : decode cX9_stepOn 104 = .ok (.iconst 1, 1) := by decide +kernel
theorem dX9_stepOn_105 : decode cX9_stepOn 105 = .ok (.putfield 179, 3) := by decide +kernel
theorem dX9_stepOn_108 : decode cX9_stepOn 108 = .ok (.goto 104, 3) := by decide +kernel
theorem dX9_stepOn_111 : decode cX9_stepOn 111 = .ok (.iload_n 1, 1) := by decide +kernel
theorem dX9_stepOn_112 : decode cX9_stepOn 112 = .ok (.invokestatic 186, 3) := by decide +kernel
theorem dX9_stepOn_115 : decode cX9_stepOn 115 = .ok (.ifCond .eq 71, 3) := by decide +kernel
theorem dX9_stepOn_118 : decode cX9_stepOn 118 = .ok (.aload_n 0, 1) := by decide +kernel
theorem dX9_stepOn_119 : decode cX9_stepOn 119 = .ok (.iconst 0, 1) := by decide +kernel
theorem dX9_stepOn_120 : decode cX9_stepOn 120 = .ok (.putfield 189, 3) := by decide +kernel
theorem dX9_stepOn_123 : decode cX9_stepOn 123 = .ok (.aload_n 0, 1) := by decide +kernel
theorem dX9_stepOn_124 : decode cX9_stepOn 124 = .ok (.aload_n 0, 1) := by decide +kernel
theorem dX9_stepOn_125 : decode cX9_stepOn 125 = .ok (.getfield 169, 3) := by decide +kernel
theorem dX9_stepOn_128 : decode cX9_stepOn 128 = .ok (.invokevirtual 172, 3) := by decide +kernel
theorem dX9_stepOn_131 : decode cX9_stepOn 131 = .ok (.invokestatic 186, 3) := by decide +kernel
theorem dX9_stepOn_134 : decode cX9_stepOn 134 = .ok (.ifCond .eq 44, 3) := by decide +kernel
theorem dX9_stepOn_137 : decode cX9_stepOn 137 = .ok (.aload_n 0, 1) := by decide +kernel
theorem dX9_stepOn_138 : decode cX9_stepOn 138 = .ok (.ldc 192, 2) := by decide +kernel
theorem dX9_stepOn_140 : decode cX9_stepOn 140 = .ok (.bipush 10, 2) := by decide +kernel
theorem dX9_stepOn_142 : decode cX9_stepOn 142 = .ok (.aload_n 0, 1) := by decide +kernel
theorem dX9_stepOn_143 : decode cX9_stepOn 143 = .ok (.getfield 189, 3) := by decide +kernel
theorem dX9_stepOn_146 : decode cX9_stepOn 146 = .ok (.imul, 1) := by decide +kernel
theorem dX9_stepOn_147 : decode cX9_stepOn 147 = .ok (.aload_n 0, 1) := by decide +kernel
theorem dX9_stepOn_148 : decode cX9_stepOn 148 = .ok (.aload_n 0, 1) := by decide +kernel
theorem dX9_stepOn_149 : decode cX9_stepOn 149 = .ok (.getfield 169, 3) := by decide +kernel
theorem dX9_stepOn_152 : decode cX9_stepOn 152 = .ok (.invokevirtual 172, 3) := by decide +kernel
theorem dX9_stepOn_155 : decode cX9_stepOn 155 = .ok (.iadd, 1) := by decide +kernel
theorem dX9_stepOn_156 : decode cX9_stepOn 156 = .ok (.bipush 48, 2) := by decide +kernel
theorem dX9_stepOn_158 : decode cX9_stepOn 158 = .ok (.isub, 1) := by decide +kernel
theorem dX9_stepOn_159 : decode cX9_stepOn 159 = .ok (.invokestatic 193, 3) := by decide +kernel
theorem dX9_stepOn_162 : decode cX9_stepOn 162 = .ok (.putfield 189, 3) := by decide +kernel
theorem dX9_stepOn_165 : decode cX9_stepOn 165 = .ok (.aload_n 0, 1) := by decide +kernel
theorem dX9_stepOn_166 : decode cX9_stepOn 166 = .ok (.dup, 1) := by decide +kernel
theorem dX9_stepOn_167 : decode cX9_stepOn 167 = .ok (.getfield 169, 3) := by decide +kernel
theorem dX9_stepOn_170 : decode cX9_stepOn 170 = .ok (.iconst 1, 1) := by decide +kernel
theorem dX9_stepOn_171 : decode cX9_stepOn 171 = .ok (.iadd, 1) := by decide +kernel
theorem dX9_stepOn_172 : decode cX9_stepOn 172 = .ok (.putfield 169, 3) := by decide +kernel
theorem dX9_stepOn_175 : decode cX9_stepOn 175 = .ok (.goto (-52), 3) := by decide +kernel
theorem dX9_stepOn_178 : decode cX9_stepOn 178 = .ok (.aload_n 0, 1) := by decide +kernel
theorem dX9_stepOn_179 : decode cX9_stepOn 179 = .ok (.iconst 2, 1) := by decide +kernel
theorem dX9_stepOn_180 : decode cX9_stepOn 180 = .ok (.putfield 179, 3) := by decide +kernel
theorem dX9_stepOn_183 : decode cX9_stepOn 183 = .ok (.goto 29, 3) := by decide +kernel
theorem dX9_stepOn_186 : decode cX9_stepOn 186 = .ok (.aload_n 0, 1) := by decide +kernel
theorem dX9_stepOn_187 : decode cX9_stepOn 187 = .ok (.dup, 1) := by decide +kernel
theorem dX9_stepOn_188 : decode cX9_stepOn 188 = .ok (.getfield 169, 3) := by decide +kernel
theorem dX9_stepOn_191 : decode cX9_stepOn 191 = .ok (.iconst 1, 1) := by decide +kernel
theorem dX9_stepOn_192 : decode cX9_stepOn 192 = .ok (.iadd, 1) := by decide +kernel
theorem dX9_stepOn_193 : decode cX9_stepOn 193 = .ok (.putfield 169, 3) := by decide +kernel
theorem dX9_stepOn_196 : decode cX9_stepOn 196 = .ok (.aload_n 0, 1) := by decide +kernel
theorem dX9_stepOn_197 : decode cX9_stepOn 197 = .ok (.iload_n 1, 1) := by decide +kernel
theorem dX9_stepOn_198 : decode cX9_stepOn 198 = .ok (.invokestatic 199, 3) := by decide +kernel
theorem dX9_stepOn_201 : decode cX9_stepOn 201 = .ok (.ifCond .eq 7, 3) := by decide +kernel
theorem dX9_stepOn_204 : decode cX9_stepOn 204 = .ok (.iconst 3, 1) := by decide +kernel
theorem dX9_stepOn_205 : decode cX9_stepOn 205 = .ok (.goto 4, 3) := by decide +kernel
theorem dX9_stepOn_208 : decode cX9_stepOn 208 = .ok (.iconst 4, 1) := by decide +kernel
theorem dX9_stepOn_209 : decode cX9_stepOn 209 = .ok (.putfield 179, 3) := by decide +kernel
theorem dX9_stepOn_212 : decode cX9_stepOn 212 = .ok (.aload_n 0, 1) := by decide +kernel
theorem dX9_stepOn_213 : decode cX9_stepOn 213 = .ok (.aload_n 0, 1) := by decide +kernel
theorem dX9_stepOn_214 : decode cX9_stepOn 214 = .ok (.getfield 169, 3) := by decide +kernel
theorem dX9_stepOn_217 : decode cX9_stepOn 217 = .ok (.putfield 202, 3) := by decide +kernel
theorem dX9_stepOn_220 : decode cX9_stepOn 220 = .ok (.return_, 1) := by decide +kernel
theorem dX9_wrong_0 : decode cX9_wrong 0 = .ok (.aload_n 0, 1) := by decide +kernel
theorem dX9_wrong_1 : decode cX9_wrong 1 = .ok (.getfield 205, 3) := by decide +kernel
theorem dX9_wrong_4 : decode cX9_wrong 4 = .ok (.ifCond .eq 4, 3) := by decide +kernel
theorem dX9_wrong_7 : decode cX9_wrong 7 = .ok (.return_, 1) := by decide +kernel
theorem dX9_wrong_8 : decode cX9_wrong 8 = .ok (.aload_n 0, 1) := by decide +kernel
theorem dX9_wrong_9 : decode cX9_wrong 9 = .ok (.iload_n 1, 1) := by decide +kernel
theorem dX9_wrong_10 : decode cX9_wrong 10 = .ok (.putfield 205, 3) := by decide +kernel
theorem dX9_wrong_13 : decode cX9_wrong 13 = .ok (.aload_n 0, 1) := by decide +kernel
theorem dX9_wrong_14 : decode cX9_wrong 14 = .ok (.aload_n 0, 1) := by decide +kernel
theorem dX9_wrong_15 : decode cX9_wrong 15 = .ok (.getfield 176, 3) := by decide +kernel
theorem dX9_wrong_18 : decode cX9_wrong 18 = .ok (.putfield 208, 3) := by decide +kernel
theorem dX9_wrong_21 : decode cX9_wrong 21 = .ok (.return_, 1) := by decide +kernel
theorem dX9_is_0 : decode cX9_is 0 = .ok (.aload_n 0, 1) := by decide +kernel
theorem dX9_is_1 : decode cX9_is 1 = .ok (.getfield 205, 3) := by decide +kernel
theorem dX9_is_4 : decode cX9_is 4 = .ok (.ifCond .ne 31, 3) := by decide +kernel
theorem dX9_is_7 : decode cX9_is 7 = .ok (.aload_n 0, 1) := by decide +kernel
theorem dX9_is_8 : decode cX9_is 8 = .ok (.getfield 179, 3) := by decide +kernel
theorem dX9_is_11 : decode cX9_is 11 = .ok (.iconst 1, 1) := by decide +kernel
theorem dX9_is_12 : decode cX9_is 12 = .ok (.if_icmp .ne 23, 3) := by decide +kernel
theorem dX9_is_15 : decode cX9_is 15 = .ok (.aload_n 1, 1) := by decide +kernel
theorem dX9_is_16 : decode cX9_is 16 = .ok (.invokevirtual 211, 3) := by decide +kernel
theorem dX9_is_19 : decode cX9_is 19 = .ok (.aload_n 0, 1) := by decide +kernel
theorem dX9_is_20 : decode cX9_is 20 = .ok (.getfield 202, 3) := by decide +kernel
theorem dX9_is_23 : decode cX9_is 23 = .ok (.aload_n 0, 1) := by decide +kernel
theorem dX9_is_24 : decode cX9_is 24 = .ok (.getfield 176, 3) := by decide +kernel
theorem dX9_is_27 : decode cX9_is 27 = .ok (.isub, 1) := by decide +kernel
theorem dX9_is_28 : decode cX9_is 28 = .ok (.if_icmp .ne 7, 3) := by decide +kernel
theorem dX9_is_31 : decode cX9_is 31 = .ok (.iconst 1, 1) := by decide +kernel
theorem dX9_is_32 : decode cX9_is 32 = .ok (.goto 4, 3) := by decide +kernel
theorem dX9_is_35 : decode cX9_is 35 = .ok (.iconst 0, 1) := by decide +kernel
theorem dX9_is_36 : decode cX9_is 36 = .ok (.istore_n 2, 1) := by decide +kernel
theorem dX9_is_37 : decode cX9_is 37 = .ok (.iconst 0, 1) := by decide +kernel
theorem dX9_is_38 : decode cX9_is 38 = .ok (.istore_n 3, 1) := by decide +kernel
theorem dX9_is_39 : decode cX9_is 39 = .ok (.iload_n 2, 1) := by decide +kernel
theorem dX9_is_40 : decode cX9_is 40 = .ok (.ifCond .eq 42, 3) := by decide +kernel
theorem dX9_is_43 : decode cX9_is 43 = .ok (.iload_n 3, 1) := by decide +kernel
theorem dX9_is_44 : decode cX9_is 44 = .ok (.aload_n 1, 1) := by decide +kernel
theorem dX9_is_45 : decode cX9_is 45 = .ok (.invokevirtual 211, 3) := by decide +kernel
theorem dX9_is_48 : decode cX9_is 48 = .ok (.if_icmp .ge 34, 3) := by decide +kernel
theorem dX9_is_51 : decode cX9_is 51 = .ok (.aload_n 1, 1) := by decide +kernel
theorem dX9_is_52 : decode cX9_is 52 = .ok (.iload_n 3, 1) := by decide +kernel
theorem dX9_is_53 : decode cX9_is 53 = .ok (.invokevirtual 215, 3) := by decide +kernel
theorem dX9_is_56 : decode cX9_is 56 = .ok (.aload_n 0, 1) := by decide +kernel
theorem dX9_is_57 : decode cX9_is 57 = .ok (.getfield 73, 3) := by decide +kernel
theorem dX9_is_60 : decode cX9_is 60 = .ok (.aload_n 0, 1) := by decide +kernel
theorem dX9_is_61 : decode cX9_is 61 = .ok (.getfield 176, 3) := by decide +kernel
theorem dX9_is_64 : decode cX9_is 64 = .ok (.iload_n 3, 1) := by decide +kernel
theorem dX9_is_65 : decode cX9_is 65 = .ok (.iadd, 1) := by decide +kernel
theorem dX9_is_66 : decode cX9_is 66 = .ok (.iaload, 1) := by decide +kernel
theorem dX9_is_67 : decode cX9_is 67 = .ok (.if_icmp .ne 7, 3) := by decide +kernel
theorem dX9_is_70 : decode cX9_is 70 = .ok (.iconst 1, 1) := by decide +kernel
theorem dX9_is_71 : decode cX9_is 71 = .ok (.goto 4, 3) := by decide +kernel
theorem dX9_is_74 : decode cX9_is 74 = .ok (.iconst 0, 1) := by decide +kernel
theorem dX9_is_75 : decode cX9_is 75 = .ok (.istore_n 2, 1) := by decide +kernel
theorem dX9_is_76 : decode cX9_is 76 = .ok (.iinc 3 1, 3) := by decide +kernel
theorem dX9_is_79 : decode cX9_is 79 = .ok (.goto (-40), 3) := by decide +kernel
theorem dX9_is_82 : decode cX9_is 82 = .ok (.iload_n 2, 1) := by decide +kernel
theorem dX9_is_83 : decode cX9_is 83 = .ok (.ireturn, 1) := by decide +kernel
theorem dX9_which_0 : decode cX9_which 0 = .ok (.iconst 0, 1) := by decide +kernel
theorem dX9_which_1 : decode cX9_which 1 = .ok (.istore_n 2, 1) := by decide +kernel
theorem dX9_which_2 : decode cX9_which 2 = .ok (.iload_n 2, 1) := by decide +kernel
theorem dX9_which_3 : decode cX9_which 3 = .ok (.aload_n 1, 1) := by decide +kernel
theorem dX9_which_4 : decode cX9_which 4 = .ok (.arraylength, 1) := by decide +kernel
theorem dX9_which_5 : decode cX9_which 5 = .ok (.if_icmp .ge 21, 3) := by decide +kernel
theorem dX9_which_8 : decode cX9_which 8 = .ok (.aload_n 0, 1) := by decide +kernel
theorem dX9_which_9 : decode cX9_which 9 = .ok (.aload_n 1, 1) := by decide +kernel
theorem dX9_which_10 : decode cX9_which 10 = .ok (.iload_n 2, 1) := by decide +kernel
theorem dX9_which_11 : decode cX9_which 11 = .ok (.aaload, 1) := by decide +kernel
theorem dX9_which_12 : decode cX9_which 12 = .ok (.invokevirtual 219, 3) := by decide +kernel
theorem dX9_which_15 : decode cX9_which 15 = .ok (.ifCond .eq 5, 3) := by decide +kernel
theorem dX9_which_18 : decode cX9_which 18 = .ok (.iload_n 2, 1) := by decide +kernel
theorem dX9_which_19 : decode cX9_which 19 = .ok (.ireturn, 1) := by decide +kernel
theorem dX9_which_20 : decode cX9_which 20 = .ok (.iinc 2 1, 3) := by decide +kernel
theorem dX9_which_23 : decode cX9_which 23 = .ok (.goto (-21), 3) := by decide +kernel
theorem dX9_which_26 : decode cX9_which 26 = .ok (.iconst (-1), 1) := by decide +kernel
theorem dX9_which_27 : decode cX9_which 27 = .ok (.ireturn, 1) := by decide +kernel
theorem dX9_isMarked_0 : decode cX9_isMarked 0 = .ok (.aload_n 0, 1) := by decide +kernel
theorem dX9_isMarked_1 : decode cX9_isMarked 1 = .ok (.getfield 205, 3) := by decide +kernel
theorem dX9_isMarked_4 : decode cX9_isMarked 4 = .ok (.ifCond .ne 28, 3) := by decide +kernel
theorem dX9_isMarked_7 : decode cX9_isMarked 7 = .ok (.aload_n 0, 1) := by decide +kernel
theorem dX9_isMarked_8 : decode cX9_isMarked 8 = .ok (.getfield 179, 3) := by decide +kernel
theorem dX9_isMarked_11 : decode cX9_isMarked 11 = .ok (.iconst 3, 1) := by decide +kernel
theorem dX9_isMarked_12 : decode cX9_isMarked 12 = .ok (.if_icmp .ne 20, 3) := by decide +kernel
theorem dX9_isMarked_15 : decode cX9_isMarked 15 = .ok (.aload_n 0, 1) := by decide +kernel
theorem dX9_isMarked_16 : decode cX9_isMarked 16 = .ok (.getfield 73, 3) := by decide +kernel
theorem dX9_isMarked_19 : decode cX9_isMarked 19 = .ok (.aload_n 0, 1) := by decide +kernel
theorem dX9_isMarked_20 : decode cX9_isMarked 20 = .ok (.getfield 176, 3) := by decide +kernel
theorem dX9_isMarked_23 : decode cX9_isMarked 23 = .ok (.iaload, 1) := by decide +kernel
theorem dX9_isMarked_24 : decode cX9_isMarked 24 = .ok (.iload_n 1, 1) := by decide +kernel
theorem dX9_isMarked_25 : decode cX9_isMarked 25 = .ok (.if_icmp .ne 7, 3) := by decide +kernel
theorem dX9_isMarked_28 : decode cX9_isMarked 28 = .ok (.iconst 1, 1) := by decide +kernel
theorem dX9_isMarked_29 : decode cX9_isMarked 29 = .ok (.goto 4, 3) := by decide +kernel
theorem dX9_isMarked_32 : decode cX9_isMarked 32 = .ok (.iconst 0, 1) := by decide +kernel
theorem dX9_isMarked_33 : decode cX9_isMarked 33 = .ok (.ireturn, 1) := by decide +kernel
theorem dX9_mark_0 : decode cX9_mark 0 = .ok (.aload_n 0, 1) := by decide +kernel
theorem dX9_mark_1 : decode cX9_mark 1 = .ok (.getfield 205, 3) := by decide +kernel
theorem dX9_mark_4 : decode cX9_mark 4 = .ok (.ifCond .ne 16, 3) := by decide +kernel
theorem dX9_mark_7 : decode cX9_mark 7 = .ok (.aload_n 0, 1) := by decide +kernel
theorem dX9_mark_8 : decode cX9_mark 8 = .ok (.iload_n 1, 1) := by decide +kernel
theorem dX9_mark_9 : decode cX9_mark 9 = .ok (.invokevirtual 223, 3) := by decide +kernel
theorem dX9_mark_12 : decode cX9_mark 12 = .ok (.ifCond .ne 8, 3) := by decide +kernel
theorem dX9_mark_15 : decode cX9_mark 15 = .ok (.aload_n 0, 1) := by decide +kernel
theorem dX9_mark_16 : decode cX9_mark 16 = .ok (.iconst 1, 1) := by decide +kernel
theorem dX9_mark_17 : decode cX9_mark 17 = .ok (.invokevirtual 226, 3) := by decide +kernel
theorem dX9_mark_20 : decode cX9_mark 20 = .ok (.aload_n 0, 1) := by decide +kernel
theorem dX9_mark_21 : decode cX9_mark 21 = .ok (.getfield 205, 3) := by decide +kernel
theorem dX9_mark_24 : decode cX9_mark 24 = .ok (.ifCond .ne 7, 3) := by decide +kernel
theorem dX9_mark_27 : decode cX9_mark 27 = .ok (.aload_n 0, 1) := by decide +kernel
theorem dX9_mark_28 : decode cX9_mark 28 = .ok (.invokevirtual 230, 3) := by decide +kernel
theorem dX9_mark_31 : decode cX9_mark 31 = .ok (.return_, 1) := by decide +kernel
theorem dX9_numberNow_0 : decode cX9_numberNow 0 = .ok (.aload_n 0, 1) := by decide +kernel
theorem dX9_numberNow_1 : decode cX9_numberNow 1 = .ok (.getfield 205, 3) := by decide +kernel
theorem dX9_numberNow_4 : decode cX9_numberNow 4 = .ok (.ifCond .eq 5, 3) := by decide +kernel
theorem dX9_numberNow_7 : decode cX9_numberNow 7 = .ok (.iconst 0, 1) := by decide +kernel
theorem dX9_numberNow_8 : decode cX9_numberNow 8 = .ok (.ireturn, 1) := by decide +kernel
theorem dX9_numberNow_9 : decode cX9_numberNow 9 = .ok (.aload_n 0, 1) := by decide +kernel
theorem dX9_numberNow_10 : decode cX9_numberNow 10 = .ok (.getfield 179, 3) := by decide +kernel
theorem dX9_numberNow_13 : decode cX9_numberNow 13 = .ok (.iconst 2, 1) := by decide +kernel
theorem dX9_numberNow_14 : decode cX9_numberNow 14 = .ok (.if_icmp .eq 11, 3) := by decide +kernel
theorem dX9_numberNow_17 : decode cX9_numberNow 17 = .ok (.aload_n 0, 1) := by decide +kernel
theorem dX9_numberNow_18 : decode cX9_numberNow 18 = .ok (.iconst 1, 1) := by decide +kernel
theorem dX9_numberNow_19 : decode cX9_numberNow 19 = .ok (.invokevirtual 226, 3) := by decide +kernel
theorem dX9_numberNow_22 : decode cX9_numberNow 22 = .ok (.goto 37, 3) := by decide +kernel
theorem dX9_numberNow_25 : decode cX9_numberNow 25 = .ok (.aload_n 0, 1) := by decide +kernel
theorem dX9_numberNow_26 : decode cX9_numberNow 26 = .ok (.getfield 202, 3) := by decide +kernel
theorem dX9_numberNow_29 : decode cX9_numberNow 29 = .ok (.aload_n 0, 1) := by decide +kernel
theorem dX9_numberNow_30 : decode cX9_numberNow 30 = .ok (.getfield 176, 3) := by decide +kernel
theorem dX9_numberNow_33 : decode cX9_numberNow 33 = .ok (.isub, 1) := by decide +kernel
theorem dX9_numberNow_34 : decode cX9_numberNow 34 = .ok (.iconst 4, 1) := by decide +kernel
theorem dX9_numberNow_35 : decode cX9_numberNow 35 = .ok (.if_icmp .gt 19, 3) := by decide +kernel
theorem dX9_numberNow_38 : decode cX9_numberNow 38 = .ok (.aload_n 0, 1) := by decide +kernel
theorem dX9_numberNow_39 : decode cX9_numberNow 39 = .ok (.getfield 189, 3) := by decide +kernel
theorem dX9_numberNow_42 : decode cX9_numberNow 42 = .ok (.iload_n 1, 1) := by decide +kernel
theorem dX9_numberNow_43 : decode cX9_numberNow 43 = .ok (.if_icmp .lt 11, 3) := by decide +kernel
theorem dX9_numberNow_46 : decode cX9_numberNow 46 = .ok (.aload_n 0, 1) := by decide +kernel
theorem dX9_numberNow_47 : decode cX9_numberNow 47 = .ok (.getfield 189, 3) := by decide +kernel
theorem dX9_numberNow_50 : decode cX9_numberNow 50 = .ok (.iload_n 2, 1) := by decide +kernel
theorem dX9_numberNow_51 : decode cX9_numberNow 51 = .ok (.if_icmp .le 8, 3) := by decide +kernel
theorem dX9_numberNow_54 : decode cX9_numberNow 54 = .ok (.aload_n 0, 1) := by decide +kernel
theorem dX9_numberNow_55 : decode cX9_numberNow 55 = .ok (.iconst 2, 1) := by decide +kernel
theorem dX9_numberNow_56 : decode cX9_numberNow 56 = .ok (.invokevirtual 226, 3) := by decide +kernel
theorem dX9_numberNow_59 : decode cX9_numberNow 59 = .ok (.aload_n 0, 1) := by decide +kernel
theorem dX9_numberNow_60 : decode cX9_numberNow 60 = .ok (.getfield 205, 3) := by decide +kernel
theorem dX9_numberNow_63 : decode cX9_numberNow 63 = .ok (.ifCond .ne 10, 3) := by decide +kernel
theorem dX9_numberNow_66 : decode cX9_numberNow 66 = .ok (.aload_n 0, 1) := by decide +kernel
theorem dX9_numberNow_67 : decode cX9_numberNow 67 = .ok (.getfield 189, 3) := by decide +kernel
theorem dX9_numberNow_70 : decode cX9_numberNow 70 = .ok (.goto 4, 3) := by decide +kernel
theorem dX9_numberNow_73 : decode cX9_numberNow 73 = .ok (.iconst 0, 1) := by decide +kernel
theorem dX9_numberNow_74 : decode cX9_numberNow 74 = .ok (.ireturn, 1) := by decide +kernel
theorem dX9_readNumber_0 : decode cX9_readNumber 0 = .ok (.aload_n 0, 1) := by decide +kernel
theorem dX9_readNumber_1 : decode cX9_readNumber 1 = .ok (.iload_n 1, 1) := by decide +kernel
theorem dX9_readNumber_2 : decode cX9_readNumber 2 = .ok (.iload_n 2, 1) := by decide +kernel
theorem dX9_readNumber_3 : decode cX9_readNumber 3 = .ok (.invokevirtual 233, 3) := by decide +kernel
theorem dX9_readNumber_6 : decode cX9_readNumber 6 = .ok (.istore_n 3, 1) := by decide +kernel
theorem dX9_readNumber_7 : decode cX9_readNumber 7 = .ok (.aload_n 0, 1) := by decide +kernel
theorem dX9_readNumber_8 : decode cX9_readNumber 8 = .ok (.getfield 205, 3) := by decide +kernel
theorem dX9_readNumber_11 : decode cX9_readNumber 11 = .ok (.ifCond .ne 7, 3) := by decide +kernel
theorem dX9_readNumber_14 : decode cX9_readNumber 14 = .ok (.aload_n 0, 1) := by decide +kernel
theorem dX9_readNumber_15 : decode cX9_readNumber 15 = .ok (.invokevirtual 230, 3) := by decide +kernel
theorem dX9_readNumber_18 : decode cX9_readNumber 18 = .ok (.iload_n 3, 1) := by decide +kernel
theorem dX9_readNumber_19 : decode cX9_readNumber 19 = .ok (.ireturn, 1) := by decide +kernel
theorem dX9_readSigned_0 : decode cX9_readSigned 0 = .ok (.aload_n 0, 1) := by decide +kernel
theorem dX9_readSigned_1 : decode cX9_readSigned 1 = .ok (.bipush 45, 2) := by decide +kernel
theorem dX9_readSigned_3 : decode cX9_readSigned 3 = .ok (.invokevirtual 223, 3) := by decide +kernel
theorem dX9_readSigned_6 : decode cX9_readSigned 6 = .ok (.istore_n 2, 1) := by decide +kernel
theorem dX9_readSigned_7 : decode cX9_readSigned 7 = .ok (.iload_n 2, 1) := by decide +kernel
theorem dX9_readSigned_8 : decode cX9_readSigned 8 = .ok (.ifCond .eq 7, 3) := by decide +kernel
theorem dX9_readSigned_11 : decode cX9_readSigned 11 = .ok (.aload_n 0, 1) := by decide +kernel
theorem dX9_readSigned_12 : decode cX9_readSigned 12 = .ok (.invokevirtual 230, 3) := by decide +kernel
theorem dX9_readSigned_15 : decode cX9_readSigned 15 = .ok (.aload_n 0, 1) := by decide +kernel
theorem dX9_readSigned_16 : decode cX9_readSigned 16 = .ok (.iconst 0, 1) := by decide +kernel
theorem dX9_readSigned_17 : decode cX9_readSigned 17 = .ok (.iload_n 1, 1) := by decide +kernel
theorem dX9_readSigned_18 : decode cX9_readSigned 18 = .ok (.invokevirtual 236, 3) := by decide +kernel
theorem dX9_readSigned_21 : decode cX9_readSigned 21 = .ok (.istore_n 3, 1) := by decide +kernel
theorem dX9_readSigned_22 : decode cX9_readSigned 22 = .ok (.iload_n 2, 1) := by decide +kernel
theorem dX9_readSigned_23 : decode cX9_readSigned 23 = .ok (.ifCond .eq 8, 3) := by decide +kernel
theorem dX9_readSigned_26 : decode cX9_readSigned 26 = .ok (.iload_n 3, 1) := by decide +kernel
theorem dX9_readSigned_27 : decode cX9_readSigned 27 = .ok (.ineg, 1) := by decide +kernel
theorem dX9_readSigned_28 : decode cX9_readSigned 28 = .ok (.goto 4, 3) := by decide +kernel
theorem dX9_readSigned_31 : decode cX9_readSigned 31 = .ok (.iload_n 3, 1) := by decide +kernel
theorem dX9_readSigned_32 : decode cX9_readSigned 32 = .ok (.ireturn, 1) := by decide +kernel
theorem dX9_lay_0 : decode cX9_lay 0 = .ok (.aload_n 0, 1) := by decide +kernel
theorem dX9_lay_1 : decode cX9_lay 1 = .ok (.getfield 205, 3) := by decide +kernel
theorem dX9_lay_4 : decode cX9_lay 4 = .ok (.ifCond .eq 4, 3) := by decide +kernel
theorem dX9_lay_7 : decode cX9_lay 7 = .ok (.return_, 1) := by decide +kernel
theorem dX9_lay_8 : decode cX9_lay 8 = .ok (.aload_n 0, 1) := by decide +kernel
theorem dX9_lay_9 : decode cX9_lay 9 = .ok (.getfield 67, 3) := by decide +kernel
theorem dX9_lay_12 : decode cX9_lay 12 = .ok (.sipush 700, 3) := by decide +kernel
theorem dX9_lay_15 : decode cX9_lay 15 = .ok (.aload_n 0, 1) := by decide +kernel
theorem dX9_lay_16 : decode cX9_lay 16 = .ok (.getfield 51, 3) := by decide +kernel
theorem dX9_lay_19 : decode cX9_lay 19 = .ok (.bipush 19, 2) := by decide +kernel
theorem dX9_lay_21 : decode cX9_lay 21 = .ok (.iaload, 1) := by decide +kernel
theorem dX9_lay_22 : decode cX9_lay 22 = .ok (.iadd, 1) := by decide +kernel
theorem dX9_lay_23 : decode cX9_lay 23 = .ok (.iload_n 1, 1) := by decide +kernel
theorem dX9_lay_24 : decode cX9_lay 24 = .ok (.iastore, 1) := by decide +kernel
theorem dX9_lay_25 : decode cX9_lay 25 = .ok (.aload_n 0, 1) := by decide +kernel
theorem dX9_lay_26 : decode cX9_lay 26 = .ok (.getfield 51, 3) := by decide +kernel
theorem dX9_lay_29 : decode cX9_lay 29 = .ok (.bipush 19, 2) := by decide +kernel
theorem dX9_lay_31 : decode cX9_lay 31 = .ok (.dup2, 1) := by decide +kernel
theorem dX9_lay_32 : decode cX9_lay 32 = .ok (.iaload, 1) := by decide +kernel
theorem dX9_lay_33 : decode cX9_lay 33 = .ok (.iconst 1, 1) := by decide +kernel
theorem dX9_lay_34 : decode cX9_lay 34 = .ok (.iadd, 1) := by decide +kernel
theorem dX9_lay_35 : decode cX9_lay 35 = .ok (.iastore, 1) := by decide +kernel
theorem dX9_lay_36 : decode cX9_lay 36 = .ok (.return_, 1) := by decide +kernel
theorem dX9_readPart_0 : decode cX9_readPart 0 = .ok (.aload_n 0, 1) := by decide +kernel
theorem dX9_readPart_1 : decode cX9_readPart 1 = .ok (.getfield 205, 3) := by decide +kernel
theorem dX9_readPart_4 : decode cX9_readPart 4 = .ok (.ifCond .eq 4, 3) := by decide +kernel
theorem dX9_readPart_7 : decode cX9_readPart 7 = .ok (.return_, 1) := by decide +kernel
theorem dX9_readPart_8 : decode cX9_readPart 8 = .ok (.aload_n 0, 1) := by decide +kernel
theorem dX9_readPart_9 : decode cX9_readPart 9 = .ok (.getfield 179, 3) := by decide +kernel
theorem dX9_readPart_12 : decode cX9_readPart 12 = .ok (.iconst 2, 1) := by decide +kernel
theorem dX9_readPart_13 : decode cX9_readPart 13 = .ok (.if_icmp .ne 16, 3) := by decide +kernel
theorem dX9_readPart_16 : decode cX9_readPart 16 = .ok (.aload_n 0, 1) := by decide +kernel
theorem dX9_readPart_17 : decode cX9_readPart 17 = .ok (.aload_n 0, 1) := by decide +kernel
theorem dX9_readPart_18 : decode cX9_readPart 18 = .ok (.iconst 0, 1) := by decide +kernel
theorem dX9_readPart_19 : decode cX9_readPart 19 = .ok (.sipush 9999, 3) := by decide +kernel
theorem dX9_readPart_22 : decode cX9_readPart 22 = .ok (.invokevirtual 236, 3) := by decide +kernel
theorem dX9_readPart_25 : decode cX9_readPart 25 = .ok (.invokevirtual 239, 3) := by decide +kernel
theorem dX9_readPart_28 : decode cX9_readPart 28 = .ok (.return_, 1) := by decide +kernel
theorem dX9_readPart_29 : decode cX9_readPart 29 = .ok (.aload_n 0, 1) := by decide +kernel
theorem dX9_readPart_30 : decode cX9_readPart 30 = .ok (.getfield 179, 3) := by decide +kernel
theorem dX9_readPart_33 : decode cX9_readPart 33 = .ok (.iconst 1, 1) := by decide +kernel
theorem dX9_readPart_34 : decode cX9_readPart 34 = .ok (.if_icmp .ne 41, 3) := by decide +kernel
theorem dX9_readPart_37 : decode cX9_readPart 37 = .ok (.aload_n 0, 1) := by decide +kernel
theorem dX9_readPart_38 : decode cX9_readPart 38 = .ok (.aload_n 0, 1) := by decide +kernel
theorem dX9_readPart_39 : decode cX9_readPart 39 = .ok (.getfield 48, 3) := by decide +kernel
theorem dX9_readPart_42 : decode cX9_readPart 42 = .ok (.invokevirtual 242, 3) := by decide +kernel
theorem dX9_readPart_45 : decode cX9_readPart 45 = .ok (.istore_n 2, 1) := by decide +kernel
theorem dX9_readPart_46 : decode cX9_readPart 46 = .ok (.iload_n 2, 1) := by decide +kernel
theorem dX9_readPart_47 : decode cX9_readPart 47 = .ok (.iconst (-1), 1) := by decide +kernel
theorem dX9_readPart_48 : decode cX9_readPart 48 = .ok (.if_icmp .ne 8, 3) := by decide +kernel
theorem dX9_readPart_51 : decode cX9_readPart 51 = .ok (.aload_n 0, 1) := by decide +kernel
theorem dX9_readPart_52 : decode cX9_readPart 52 = .ok (.iconst 3, 1) := by decide +kernel
theorem dX9_readPart_53 : decode cX9_readPart 53 = .ok (.invokevirtual 226, 3) := by decide +kernel
theorem dX9_readPart_56 : decode cX9_readPart 56 = .ok (.aload_n 0, 1) := by decide +kernel
theorem dX9_readPart_57 : decode cX9_readPart 57 = .ok (.iconst (-1), 1) := by decide +kernel
theorem dX9_readPart_58 : decode cX9_readPart 58 = .ok (.iload_n 2, 1) := by decide +kernel
theorem dX9_readPart_59 : decode cX9_readPart 59 = .ok (.isub, 1) := by decide +kernel
theorem dX9_readPart_60 : decode cX9_readPart 60 = .ok (.invokevirtual 239, 3) := by decide +kernel
theorem dX9_readPart_63 : decode cX9_readPart 63 = .ok (.aload_n 0, 1) := by decide +kernel
theorem dX9_readPart_64 : decode cX9_readPart 64 = .ok (.getfield 205, 3) := by decide +kernel
theorem dX9_readPart_67 : decode cX9_readPart 67 = .ok (.ifCond .ne 7, 3) := by decide +kernel
theorem dX9_readPart_70 : decode cX9_readPart 70 = .ok (.aload_n 0, 1) := by decide +kernel
theorem dX9_readPart_71 : decode cX9_readPart 71 = .ok (.invokevirtual 230, 3) := by decide +kernel
theorem dX9_readPart_74 : decode cX9_readPart 74 = .ok (.return_, 1) := by decide +kernel
theorem dX9_readPart_75 : decode cX9_readPart 75 = .ok (.aload_n 0, 1) := by decide +kernel
theorem dX9_readPart_76 : decode cX9_readPart 76 = .ok (.bipush 40, 2) := by decide +kernel
theorem dX9_readPart_78 : decode cX9_readPart 78 = .ok (.invokevirtual 246, 3) := by decide +kernel
theorem dX9_readPart_81 : decode cX9_readPart 81 = .ok (.aload_n 0, 1) := by decide +kernel
theorem dX9_readPart_82 : decode cX9_readPart 82 = .ok (.iload_n 1, 1) := by decide +kernel
theorem dX9_readPart_83 : decode cX9_readPart 83 = .ok (.iconst 1, 1) := by decide +kernel
theorem dX9_readPart_84 : decode cX9_readPart 84 = .ok (.iadd, 1) := by decide +kernel
theorem dX9_readPart_85 : decode cX9_readPart 85 = .ok (.invokevirtual 249, 3) := by decide +kernel
theorem dX9_readPart_88 : decode cX9_readPart 88 = .ok (.aload_n 0, 1) := by decide +kernel
theorem dX9_readPart_89 : decode cX9_readPart 89 = .ok (.bipush 41, 2) := by decide +kernel
theorem dX9_readPart_91 : decode cX9_readPart 91 = .ok (.invokevirtual 246, 3) := by decide +kernel
theorem dX9_readPart_94 : decode cX9_readPart 94 = .ok (.return_, 1) := by decide +kernel
theorem dX9_readProduct_0 : decode cX9_readProduct 0 = .ok (.aload_n 0, 1) := by decide +kernel
theorem dX9_readProduct_1 : decode cX9_readProduct 1 = .ok (.iload_n 1, 1) := by decide +kernel
theorem dX9_readProduct_2 : decode cX9_readProduct 2 = .ok (.invokevirtual 252, 3) := by decide +kernel
theorem dX9_readProduct_5 : decode cX9_readProduct 5 = .ok (.aload_n 0, 1) := by decide +kernel
theorem dX9_readProduct_6 : decode cX9_readProduct 6 = .ok (.bipush 42, 2) := by decide +kernel
theorem dX9_readProduct_8 : decode cX9_readProduct 8 = .ok (.invokevirtual 223, 3) := by decide +kernel
theorem dX9_readProduct_11 : decode cX9_readProduct 11 = .ok (.ifCond .ne 12, 3) := by decide +kernel
theorem dX9_readProduct_14 : decode cX9_readProduct 14 = .ok (.aload_n 0, 1) := by decide +kernel
theorem dX9_readProduct_15 : decode cX9_readProduct 15 = .ok (.bipush 47, 2) := by decide +kernel
theorem dX9_readProduct_17 : decode cX9_readProduct 17 = .ok (.invokevirtual 223, 3) := by decide +kernel
theorem dX9_readProduct_20 : decode cX9_readProduct 20 = .ok (.ifCond .eq 37, 3) := by decide +kernel
theorem dX9_readProduct_23 : decode cX9_readProduct 23 = .ok (.aload_n 0, 1) := by decide +kernel
theorem dX9_readProduct_24 : decode cX9_readProduct 24 = .ok (.bipush 42, 2) := by decide +kernel
theorem dX9_readProduct_26 : decode cX9_readProduct 26 = .ok (.invokevirtual 223, 3) := by decide +kernel
theorem dX9_readProduct_29 : decode cX9_readProduct 29 = .ok (.ifCond .eq 8, 3) := by decide +kernel
theorem dX9_readProduct_32 : decode cX9_readProduct 32 = .ok (.bipush (-22), 2) := by decide +kernel
theorem dX9_readProduct_34 : decode cX9_readProduct 34 = .ok (.goto 5, 3) := by decide +kernel
theorem dX9_readProduct_37 : decode cX9_readProduct 37 = .ok (.bipush (-23), 2) := by decide +kernel
theorem dX9_readProduct_39 : decode cX9_readProduct 39 = .ok (.istore_n 2, 1) := by decide +kernel
theorem dX9_readProduct_40 : decode cX9_readProduct 40 = .ok (.aload_n 0, 1) := by decide +kernel
theorem dX9_readProduct_41 : decode cX9_readProduct 41 = .ok (.invokevirtual 230, 3) := by decide +kernel
theorem dX9_readProduct_44 : decode cX9_readProduct 44 = .ok (.aload_n 0, 1) := by decide +kernel
theorem dX9_readProduct_45 : decode cX9_readProduct 45 = .ok (.iload_n 1, 1) := by decide +kernel
theorem dX9_readProduct_46 : decode cX9_readProduct 46 = .ok (.invokevirtual 252, 3) := by decide +kernel
theorem dX9_readProduct_49 : decode cX9_readProduct 49 = .ok (.aload_n 0, 1) := by decide +kernel
theorem dX9_readProduct_50 : decode cX9_readProduct 50 = .ok (.iload_n 2, 1) := by decide +kernel
theorem dX9_readProduct_51 : decode cX9_readProduct 51 = .ok (.invokevirtual 239, 3) := by decide +kernel
theorem dX9_readProduct_54 : decode cX9_readProduct 54 = .ok (.goto (-49), 3) := by decide +kernel
theorem dX9_readProduct_57 : decode cX9_readProduct 57 = .ok (.return_, 1) := by decide +kernel
theorem dX9_readSum_0 : decode cX9_readSum 0 = .ok (.aload_n 0, 1) := by decide +kernel
theorem dX9_readSum_1 : decode cX9_readSum 1 = .ok (.iload_n 1, 1) := by decide +kernel
theorem dX9_readSum_2 : decode cX9_readSum 2 = .ok (.invokevirtual 255, 3) := by decide +kernel
theorem dX9_readSum_5 : decode cX9_readSum 5 = .ok (.aload_n 0, 1) := by decide +kernel
theorem dX9_readSum_6 : decode cX9_readSum 6 = .ok (.bipush 43, 2) := by decide +kernel
theorem dX9_readSum_8 : decode cX9_readSum 8 = .ok (.invokevirtual 223, 3) := by decide +kernel
theorem dX9_readSum_11 : decode cX9_readSum 11 = .ok (.ifCond .ne 12, 3) := by decide +kernel
theorem dX9_readSum_14 : decode cX9_readSum 14 = .ok (.aload_n 0, 1) := by decide +kernel
theorem dX9_readSum_15 : decode cX9_readSum 15 = .ok (.bipush 45, 2) := by decide +kernel
theorem dX9_readSum_17 : decode cX9_readSum 17 = .ok (.invokevirtual 223, 3) := by decide +kernel
theorem dX9_readSum_20 : decode cX9_readSum 20 = .ok (.ifCond .eq 37, 3) := by decide +kernel
theorem dX9_readSum_23 : decode cX9_readSum 23 = .ok (.aload_n 0, 1) := by decide +kernel
theorem dX9_readSum_24 : decode cX9_readSum 24 = .ok (.bipush 43, 2) := by decide +kernel
theorem dX9_readSum_26 : decode cX9_readSum 26 = .ok (.invokevirtual 223, 3) := by decide +kernel
theorem dX9_readSum_29 : decode cX9_readSum 29 = .ok (.ifCond .eq 8, 3) := by decide +kernel
theorem dX9_readSum_32 : decode cX9_readSum 32 = .ok (.bipush (-20), 2) := by decide +kernel
theorem dX9_readSum_34 : decode cX9_readSum 34 = .ok (.goto 5, 3) := by decide +kernel
theorem dX9_readSum_37 : decode cX9_readSum 37 = .ok (.bipush (-21), 2) := by decide +kernel
theorem dX9_readSum_39 : decode cX9_readSum 39 = .ok (.istore_n 2, 1) := by decide +kernel
theorem dX9_readSum_40 : decode cX9_readSum 40 = .ok (.aload_n 0, 1) := by decide +kernel
theorem dX9_readSum_41 : decode cX9_readSum 41 = .ok (.invokevirtual 230, 3) := by decide +kernel
theorem dX9_readSum_44 : decode cX9_readSum 44 = .ok (.aload_n 0, 1) := by decide +kernel
theorem dX9_readSum_45 : decode cX9_readSum 45 = .ok (.iload_n 1, 1) := by decide +kernel
theorem dX9_readSum_46 : decode cX9_readSum 46 = .ok (.invokevirtual 255, 3) := by decide +kernel
theorem dX9_readSum_49 : decode cX9_readSum 49 = .ok (.aload_n 0, 1) := by decide +kernel
theorem dX9_readSum_50 : decode cX9_readSum 50 = .ok (.iload_n 2, 1) := by decide +kernel
theorem dX9_readSum_51 : decode cX9_readSum 51 = .ok (.invokevirtual 239, 3) := by decide +kernel
theorem dX9_readSum_54 : decode cX9_readSum 54 = .ok (.goto (-49), 3) := by decide +kernel
theorem dX9_readSum_57 : decode cX9_readSum 57 = .ok (.return_, 1) := by decide +kernel
theorem dX9_readNot_0 : decode cX9_readNot 0 = .ok (.iconst 0, 1) := by decide +kernel
theorem dX9_readNot_1 : decode cX9_readNot 1 = .ok (.istore_n 2, 1) := by decide +kernel
theorem dX9_readNot_2 : decode cX9_readNot 2 = .ok (.aload_n 0, 1) := by decide +kernel
theorem dX9_readNot_3 : decode cX9_readNot 3 = .ok (.ldc_w 258, 3) := by decide +kernel
theorem dX9_readNot_6 : decode cX9_readNot 6 = .ok (.invokevirtual 219, 3) := by decide +kernel
theorem dX9_readNot_9 : decode cX9_readNot 9 = .ok (.ifCond .eq 31, 3) := by decide +kernel
theorem dX9_readNot_12 : decode cX9_readNot 12 = .ok (.iload_n 2, 1) := by decide +kernel
theorem dX9_readNot_13 : decode cX9_readNot 13 = .ok (.bipush 6, 2) := by decide +kernel
theorem dX9_readNot_15 : decode cX9_readNot 15 = .ok (.if_icmp .ne 8, 3) := by decide +kernel
theorem dX9_readNot_18 : decode cX9_readNot 18 = .ok (.aload_n 0, 1) := by decide +kernel
theorem dX9_readNot_19 : decode cX9_readNot 19 = .ok (.iconst 2, 1) := by decide +kernel
theorem dX9_readNot_20 : decode cX9_readNot 20 = .ok (.invokevirtual 226, 3) := by decide +kernel
theorem dX9_readNot_23 : decode cX9_readNot 23 = .ok (.iinc 2 1, 3) := by decide +kernel
theorem dX9_readNot_26 : decode cX9_readNot 26 = .ok (.aload_n 0, 1) := by decide +kernel
theorem dX9_readNot_27 : decode cX9_readNot 27 = .ok (.getfield 205, 3) := by decide +kernel
theorem dX9_readNot_30 : decode cX9_readNot 30 = .ok (.ifCond .ne (-28), 3) := by decide +kernel
theorem dX9_readNot_33 : decode cX9_readNot 33 = .ok (.aload_n 0, 1) := by decide +kernel
theorem dX9_readNot_34 : decode cX9_readNot 34 = .ok (.invokevirtual 230, 3) := by decide +kernel
theorem dX9_readNot_37 : decode cX9_readNot 37 = .ok (.goto (-35), 3) := by decide +kernel
theorem dX9_readNot_40 : decode cX9_readNot 40 = .ok (.aload_n 0, 1) := by decide +kernel
theorem dX9_readNot_41 : decode cX9_readNot 41 = .ok (.iload_n 1, 1) := by decide +kernel
theorem dX9_readNot_42 : decode cX9_readNot 42 = .ok (.invokevirtual 260, 3) := by decide +kernel
theorem dX9_readNot_45 : decode cX9_readNot 45 = .ok (.aload_n 0, 1) := by decide +kernel
theorem dX9_readNot_46 : decode cX9_readNot 46 = .ok (.bipush 60, 2) := by decide +kernel
theorem dX9_readNot_48 : decode cX9_readNot 48 = .ok (.invokevirtual 223, 3) := by decide +kernel
theorem dX9_readNot_51 : decode cX9_readNot 51 = .ok (.ifCond .ne 12, 3) := by decide +kernel
theorem dX9_readNot_54 : decode cX9_readNot 54 = .ok (.aload_n 0, 1) := by decide +kernel
theorem dX9_readNot_55 : decode cX9_readNot 55 = .ok (.bipush 61, 2) := by decide +kernel
theorem dX9_readNot_57 : decode cX9_readNot 57 = .ok (.invokevirtual 223, 3) := by decide +kernel
theorem dX9_readNot_60 : decode cX9_readNot 60 = .ok (.ifCond .eq 34, 3) := by decide +kernel
theorem dX9_readNot_63 : decode cX9_readNot 63 = .ok (.aload_n 0, 1) := by decide +kernel
theorem dX9_readNot_64 : decode cX9_readNot 64 = .ok (.bipush 60, 2) := by decide +kernel
theorem dX9_readNot_66 : decode cX9_readNot 66 = .ok (.invokevirtual 223, 3) := by decide +kernel
theorem dX9_readNot_69 : decode cX9_readNot 69 = .ok (.ifCond .eq 8, 3) := by decide +kernel
theorem dX9_readNot_72 : decode cX9_readNot 72 = .ok (.bipush (-24), 2) := by decide +kernel
theorem dX9_readNot_74 : decode cX9_readNot 74 = .ok (.goto 5, 3) := by decide +kernel
theorem dX9_readNot_77 : decode cX9_readNot 77 = .ok (.bipush (-25), 2) := by decide +kernel
theorem dX9_readNot_79 : decode cX9_readNot 79 = .ok (.istore_n 3, 1) := by decide +kernel
theorem dX9_readNot_80 : decode cX9_readNot 80 = .ok (.aload_n 0, 1) := by decide +kernel
theorem dX9_readNot_81 : decode cX9_readNot 81 = .ok (.invokevirtual 230, 3) := by decide +kernel
theorem dX9_readNot_84 : decode cX9_readNot 84 = .ok (.aload_n 0, 1) := by decide +kernel
theorem dX9_readNot_85 : decode cX9_readNot 85 = .ok (.iload_n 1, 1) := by decide +kernel
theorem dX9_readNot_86 : decode cX9_readNot 86 = .ok (.invokevirtual 260, 3) := by decide +kernel
theorem dX9_readNot_89 : decode cX9_readNot 89 = .ok (.aload_n 0, 1) := by decide +kernel
theorem dX9_readNot_90 : decode cX9_readNot 90 = .ok (.iload_n 3, 1) := by decide +kernel
theorem dX9_readNot_91 : decode cX9_readNot 91 = .ok (.invokevirtual 239, 3) := by decide +kernel
theorem dX9_readNot_94 : decode cX9_readNot 94 = .ok (.iconst 0, 1) := by decide +kernel
theorem dX9_readNot_95 : decode cX9_readNot 95 = .ok (.istore_n 3, 1) := by decide +kernel
theorem dX9_readNot_96 : decode cX9_readNot 96 = .ok (.iload_n 3, 1) := by decide +kernel
theorem dX9_readNot_97 : decode cX9_readNot 97 = .ok (.iload_n 2, 1) := by decide +kernel
theorem dX9_readNot_98 : decode cX9_readNot 98 = .ok (.if_icmp .ge 15, 3) := by decide +kernel
theorem dX9_readNot_101 : decode cX9_readNot 101 = .ok (.aload_n 0, 1) := by decide +kernel
theorem dX9_readNot_102 : decode cX9_readNot 102 = .ok (.bipush (-28), 2) := by decide +kernel
theorem dX9_readNot_104 : decode cX9_readNot 104 = .ok (.invokevirtual 239, 3) := by decide +kernel
theorem dX9_readNot_107 : decode cX9_readNot 107 = .ok (.iinc 3 1, 3) := by decide +kernel
theorem dX9_readNot_110 : decode cX9_readNot 110 = .ok (.goto (-14), 3) := by decide +kernel
theorem dX9_readNot_113 : decode cX9_readNot 113 = .ok (.return_, 1) := by decide +kernel
theorem dX9_readAnd_0 : decode cX9_readAnd 0 = .ok (.aload_n 0, 1) := by decide +kernel
theorem dX9_readAnd_1 : decode cX9_readAnd 1 = .ok (.iload_n 1, 1) := by decide +kernel
theorem dX9_readAnd_2 : decode cX9_readAnd 2 = .ok (.invokevirtual 263, 3) := by decide +kernel
theorem dX9_readAnd_5 : decode cX9_readAnd 5 = .ok (.aload_n 0, 1) := by decide +kernel
theorem dX9_readAnd_6 : decode cX9_readAnd 6 = .ok (.ldc_w 266, 3) := by decide +kernel
theorem dX9_readAnd_9 : decode cX9_readAnd 9 = .ok (.invokevirtual 219, 3) := by decide +kernel
theorem dX9_readAnd_12 : decode cX9_readAnd 12 = .ok (.ifCond .eq 21, 3) := by decide +kernel
theorem dX9_readAnd_15 : decode cX9_readAnd 15 = .ok (.aload_n 0, 1) := by decide +kernel
theorem dX9_readAnd_16 : decode cX9_readAnd 16 = .ok (.invokevirtual 230, 3) := by decide +kernel
theorem dX9_readAnd_19 : decode cX9_readAnd 19 = .ok (.aload_n 0, 1) := by decide +kernel
theorem dX9_readAnd_20 : decode cX9_readAnd 20 = .ok (.iload_n 1, 1) := by decide +kernel
theorem dX9_readAnd_21 : decode cX9_readAnd 21 = .ok (.invokevirtual 263, 3) := by decide +kernel
theorem dX9_readAnd_24 : decode cX9_readAnd 24 = .ok (.aload_n 0, 1) := by decide +kernel
theorem dX9_readAnd_25 : decode cX9_readAnd 25 = .ok (.bipush (-26), 2) := by decide +kernel
theorem dX9_readAnd_27 : decode cX9_readAnd 27 = .ok (.invokevirtual 239, 3) := by decide +kernel
theorem dX9_readAnd_30 : decode cX9_readAnd 30 = .ok (.goto (-25), 3) := by decide +kernel
theorem dX9_readAnd_33 : decode cX9_readAnd 33 = .ok (.return_, 1) := by decide +kernel
theorem dX9_readExpression_0 : decode cX9_readExpression 0 = .ok (.aload_n 0, 1) := by decide +kernel
theorem dX9_readExpression_1 : decode cX9_readExpression 1 = .ok (.getfield 205, 3) := by decide +kernel
theorem dX9_readExpression_4 : decode cX9_readExpression 4 = .ok (.ifCond .eq 4, 3) := by decide +kernel
theorem dX9_readExpression_7 : decode cX9_readExpression 7 = .ok (.return_, 1) := by decide +kernel
theorem dX9_readExpression_8 : decode cX9_readExpression 8 = .ok (.aload_n 0, 1) := by decide +kernel
theorem dX9_readExpression_9 : decode cX9_readExpression 9 = .ok (.getfield 179, 3) := by decide +kernel
theorem dX9_readExpression_12 : decode cX9_readExpression 12 = .ok (.iconst 2, 1) := by decide +kernel
theorem dX9_readExpression_13 : decode cX9_readExpression 13 = .ok (.if_icmp .eq 20, 3) := by decide +kernel
theorem dX9_readExpression_16 : decode cX9_readExpression 16 = .ok (.aload_n 0, 1) := by decide +kernel
theorem dX9_readExpression_17 : decode cX9_readExpression 17 = .ok (.getfield 179, 3) := by decide +kernel
theorem dX9_readExpression_20 : decode cX9_readExpression 20 = .ok (.iconst 1, 1) := by decide +kernel
theorem dX9_readExpression_21 : decode cX9_readExpression 21 = .ok (.if_icmp .eq 12, 3) := by decide +kernel
theorem dX9_readExpression_24 : decode cX9_readExpression 24 = .ok (.aload_n 0, 1) := by decide +kernel
theorem dX9_readExpression_25 : decode cX9_readExpression 25 = .ok (.bipush 40, 2) := by decide +kernel
theorem dX9_readExpression_27 : decode cX9_readExpression 27 = .ok (.invokevirtual 223, 3) := by decide +kernel
theorem dX9_readExpression_30 : decode cX9_readExpression 30 = .ok (.ifCond .eq 7, 3) := by decide +kernel
theorem dX9_readExpression_33 : decode cX9_readExpression 33 = .ok (.iconst 1, 1) := by decide +kernel
theorem dX9_readExpression_34 : decode cX9_readExpression 34 = .ok (.goto 4, 3) := by decide +kernel
theorem dX9_readExpression_37 : decode cX9_readExpression 37 = .ok (.iconst 0, 1) := by decide +kernel
theorem dX9_readExpression_38 : decode cX9_readExpression 38 = .ok (.istore_n 2, 1) := by decide +kernel
theorem dX9_readExpression_39 : decode cX9_readExpression 39 = .ok (.iload_n 2, 1) := by decide +kernel
theorem dX9_readExpression_40 : decode cX9_readExpression 40 = .ok (.ifCond .ne 11, 3) := by decide +kernel
theorem dX9_readExpression_43 : decode cX9_readExpression 43 = .ok (.aload_n 0, 1) := by decide +kernel
theorem dX9_readExpression_44 : decode cX9_readExpression 44 = .ok (.iconst 1, 1) := by decide +kernel
theorem dX9_readExpression_45 : decode cX9_readExpression 45 = .ok (.invokevirtual 226, 3) := by decide +kernel
theorem dX9_readExpression_48 : decode cX9_readExpression 48 = .ok (.goto 14, 3) := by decide +kernel
theorem dX9_readExpression_51 : decode cX9_readExpression 51 = .ok (.iload_n 1, 1) := by decide +kernel
