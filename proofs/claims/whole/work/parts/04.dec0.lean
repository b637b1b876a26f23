theorem dX0_init_0 : decode cX0_init 0 = .ok (.aload_n 0, 1) := by decide +kernel
theorem dX0_init_1 : decode cX0_init 1 = .ok (.invokespecial 3, 3) := by decide +kernel
theorem dX0_init_4 : decode cX0_init 4 = .ok (.aload_n 0, 1) := by decide +kernel
theorem dX0_init_5 : decode cX0_init 5 = .ok (.bipush 36, 2) := by decide +kernel
theorem dX0_init_7 : decode cX0_init 7 = .ok (.newarray .int, 2) := by decide +kernel
theorem dX0_init_9 : decode cX0_init 9 = .ok (.putfield 9, 3) := by decide +kernel
theorem dX0_init_12 : decode cX0_init 12 = .ok (.aload_n 0, 1) := by decide +kernel
theorem dX0_init_13 : decode cX0_init 13 = .ok (.bipush 36, 2) := by decide +kernel
theorem dX0_init_15 : decode cX0_init 15 = .ok (.newarray .int, 2) := by decide +kernel
theorem dX0_init_17 : decode cX0_init 17 = .ok (.putfield 15, 3) := by decide +kernel
theorem dX0_init_20 : decode cX0_init 20 = .ok (.aload_n 0, 1) := by decide +kernel
theorem dX0_init_21 : decode cX0_init 21 = .ok (.bipush 36, 2) := by decide +kernel
theorem dX0_init_23 : decode cX0_init 23 = .ok (.newarray .int, 2) := by decide +kernel
theorem dX0_init_25 : decode cX0_init 25 = .ok (.putfield 18, 3) := by decide +kernel
theorem dX0_init_28 : decode cX0_init 28 = .ok (.aload_n 0, 1) := by decide +kernel
theorem dX0_init_29 : decode cX0_init 29 = .ok (.bipush 36, 2) := by decide +kernel
theorem dX0_init_31 : decode cX0_init 31 = .ok (.newarray .int, 2) := by decide +kernel
theorem dX0_init_33 : decode cX0_init 33 = .ok (.putfield 21, 3) := by decide +kernel
theorem dX0_init_36 : decode cX0_init 36 = .ok (.aload_n 0, 1) := by decide +kernel
theorem dX0_init_37 : decode cX0_init 37 = .ok (.bipush 36, 2) := by decide +kernel
theorem dX0_init_39 : decode cX0_init 39 = .ok (.newarray .int, 2) := by decide +kernel
theorem dX0_init_41 : decode cX0_init 41 = .ok (.putfield 24, 3) := by decide +kernel
theorem dX0_init_44 : decode cX0_init 44 = .ok (.return_, 1) := by decide +kernel
theorem dX0_put_0 : decode cX0_put 0 = .ok (.aload_n 2, 1) := by decide +kernel
theorem dX0_put_1 : decode cX0_put 1 = .ok (.iload_n 3, 1) := by decide +kernel
theorem dX0_put_2 : decode cX0_put 2 = .ok (.invokevirtual 27, 3) := by decide +kernel
theorem dX0_put_5 : decode cX0_put 5 = .ok (.ifCond .eq 15, 3) := by decide +kernel
theorem dX0_put_8 : decode cX0_put 8 = .ok (.iload 4, 2) := by decide +kernel
theorem dX0_put_10 : decode cX0_put 10 = .ok (.ifCond .lt 10, 3) := by decide +kernel
theorem dX0_put_13 : decode cX0_put 13 = .ok (.iload 4, 2) := by decide +kernel
theorem dX0_put_15 : decode cX0_put 15 = .ok (.bipush 36, 2) := by decide +kernel
theorem dX0_put_17 : decode cX0_put 17 = .ok (.if_icmp .lt 4, 3) := by decide +kernel
theorem dX0_put_20 : decode cX0_put 20 = .ok (.return_, 1) := by decide +kernel
theorem dX0_put_21 : decode cX0_put 21 = .ok (.aload_n 2, 1) := by decide +kernel
theorem dX0_put_22 : decode cX0_put 22 = .ok (.iload_n 3, 1) := by decide +kernel
theorem dX0_put_23 : decode cX0_put 23 = .ok (.invokevirtual 33, 3) := by decide +kernel
theorem dX0_put_26 : decode cX0_put 26 = .ok (.istore 7, 2) := by decide +kernel
theorem dX0_put_28 : decode cX0_put 28 = .ok (.iload 7, 2) := by decide +kernel
theorem dX0_put_30 : decode cX0_put 30 = .ok (.ifCond .eq 16, 3) := by decide +kernel
theorem dX0_put_33 : decode cX0_put 33 = .ok (.aload_n 1, 1) := by decide +kernel
theorem dX0_put_34 : decode cX0_put 34 = .ok (.aload_n 2, 1) := by decide +kernel
theorem dX0_put_35 : decode cX0_put 35 = .ok (.iload_n 3, 1) := by decide +kernel
theorem dX0_put_36 : decode cX0_put 36 = .ok (.iload 5, 2) := by decide +kernel
theorem dX0_put_38 : decode cX0_put 38 = .ok (.iload 6, 2) := by decide +kernel
theorem dX0_put_40 : decode cX0_put 40 = .ok (.invokevirtual 36, 3) := by decide +kernel
theorem dX0_put_43 : decode cX0_put 43 = .ok (.goto 4, 3) := by decide +kernel
theorem dX0_put_46 : decode cX0_put 46 = .ok (.iconst 0, 1) := by decide +kernel
theorem dX0_put_47 : decode cX0_put 47 = .ok (.istore 8, 2) := by decide +kernel
theorem dX0_put_49 : decode cX0_put 49 = .ok (.iload 7, 2) := by decide +kernel
theorem dX0_put_51 : decode cX0_put 51 = .ok (.ifCond .eq 11, 3) := by decide +kernel
theorem dX0_put_54 : decode cX0_put 54 = .ok (.aload_n 2, 1) := by decide +kernel
theorem dX0_put_55 : decode cX0_put 55 = .ok (.iload_n 3, 1) := by decide +kernel
theorem dX0_put_56 : decode cX0_put 56 = .ok (.invokevirtual 42, 3) := by decide +kernel
theorem dX0_put_59 : decode cX0_put 59 = .ok (.goto 4, 3) := by decide +kernel
theorem dX0_put_62 : decode cX0_put 62 = .ok (.iconst 0, 1) := by decide +kernel
theorem dX0_put_63 : decode cX0_put 63 = .ok (.istore 9, 2) := by decide +kernel
theorem dX0_put_65 : decode cX0_put 65 = .ok (.iload 9, 2) := by decide +kernel
theorem dX0_put_67 : decode cX0_put 67 = .ok (.aload_n 1, 1) := by decide +kernel
theorem dX0_put_68 : decode cX0_put 68 = .ok (.iload 5, 2) := by decide +kernel
theorem dX0_put_70 : decode cX0_put 70 = .ok (.invokevirtual 46, 3) := by decide +kernel
theorem dX0_put_73 : decode cX0_put 73 = .ok (.imul, 1) := by decide +kernel
theorem dX0_put_74 : decode cX0_put 74 = .ok (.iload 8, 2) := by decide +kernel
theorem dX0_put_76 : decode cX0_put 76 = .ok (.imul, 1) := by decide +kernel
theorem dX0_put_77 : decode cX0_put 77 = .ok (.sipush 900, 3) := by decide +kernel
theorem dX0_put_80 : decode cX0_put 80 = .ok (.idiv, 1) := by decide +kernel
theorem dX0_put_81 : decode cX0_put 81 = .ok (.istore 10, 2) := by decide +kernel
theorem dX0_put_83 : decode cX0_put 83 = .ok (.iload 9, 2) := by decide +kernel
theorem dX0_put_85 : decode cX0_put 85 = .ok (.aload_n 1, 1) := by decide +kernel
theorem dX0_put_86 : decode cX0_put 86 = .ok (.iload 5, 2) := by decide +kernel
theorem dX0_put_88 : decode cX0_put 88 = .ok (.invokevirtual 49, 3) := by decide +kernel
theorem dX0_put_91 : decode cX0_put 91 = .ok (.imul, 1) := by decide +kernel
theorem dX0_put_92 : decode cX0_put 92 = .ok (.iload 8, 2) := by decide +kernel
theorem dX0_put_94 : decode cX0_put 94 = .ok (.imul, 1) := by decide +kernel
theorem dX0_put_95 : decode cX0_put 95 = .ok (.sipush 900, 3) := by decide +kernel
theorem dX0_put_98 : decode cX0_put 98 = .ok (.idiv, 1) := by decide +kernel
theorem dX0_put_99 : decode cX0_put 99 = .ok (.istore 11, 2) := by decide +kernel
theorem dX0_put_101 : decode cX0_put 101 = .ok (.aload_n 0, 1) := by decide +kernel
theorem dX0_put_102 : decode cX0_put 102 = .ok (.getfield 9, 3) := by decide +kernel
theorem dX0_put_105 : decode cX0_put 105 = .ok (.iload 4, 2) := by decide +kernel
theorem dX0_put_107 : decode cX0_put 107 = .ok (.aload_n 2, 1) := by decide +kernel
theorem dX0_put_108 : decode cX0_put 108 = .ok (.getfield 52, 3) := by decide +kernel
theorem dX0_put_111 : decode cX0_put 111 = .ok (.iload_n 3, 1) := by decide +kernel
theorem dX0_put_112 : decode cX0_put 112 = .ok (.iaload, 1) := by decide +kernel
theorem dX0_put_113 : decode cX0_put 113 = .ok (.iload 10, 2) := by decide +kernel
theorem dX0_put_115 : decode cX0_put 115 = .ok (.iadd, 1) := by decide +kernel
theorem dX0_put_116 : decode cX0_put 116 = .ok (.iastore, 1) := by decide +kernel
theorem dX0_put_117 : decode cX0_put 117 = .ok (.aload_n 0, 1) := by decide +kernel
theorem dX0_put_118 : decode cX0_put 118 = .ok (.getfield 15, 3) := by decide +kernel
theorem dX0_put_121 : decode cX0_put 121 = .ok (.iload 4, 2) := by decide +kernel
theorem dX0_put_123 : decode cX0_put 123 = .ok (.aload_n 2, 1) := by decide +kernel
theorem dX0_put_124 : decode cX0_put 124 = .ok (.getfield 55, 3) := by decide +kernel
theorem dX0_put_127 : decode cX0_put 127 = .ok (.iload_n 3, 1) := by decide +kernel
theorem dX0_put_128 : decode cX0_put 128 = .ok (.iaload, 1) := by decide +kernel
theorem dX0_put_129 : decode cX0_put 129 = .ok (.iload 11, 2) := by decide +kernel
theorem dX0_put_131 : decode cX0_put 131 = .ok (.iadd, 1) := by decide +kernel
theorem dX0_put_132 : decode cX0_put 132 = .ok (.iastore, 1) := by decide +kernel
theorem dX0_put_133 : decode cX0_put 133 = .ok (.aload_n 0, 1) := by decide +kernel
theorem dX0_put_134 : decode cX0_put 134 = .ok (.getfield 18, 3) := by decide +kernel
theorem dX0_put_137 : decode cX0_put 137 = .ok (.iload 4, 2) := by decide +kernel
theorem dX0_put_139 : decode cX0_put 139 = .ok (.iload 9, 2) := by decide +kernel
theorem dX0_put_141 : decode cX0_put 141 = .ok (.iload 10, 2) := by decide +kernel
theorem dX0_put_143 : decode cX0_put 143 = .ok (.invokestatic 58, 3) := by decide +kernel
theorem dX0_put_146 : decode cX0_put 146 = .ok (.iload 11, 2) := by decide +kernel
theorem dX0_put_148 : decode cX0_put 148 = .ok (.invokestatic 58, 3) := by decide +kernel
theorem dX0_put_151 : decode cX0_put 151 = .ok (.invokestatic 63, 3) := by decide +kernel
theorem dX0_put_154 : decode cX0_put 154 = .ok (.isub, 1) := by decide +kernel
theorem dX0_put_155 : decode cX0_put 155 = .ok (.iastore, 1) := by decide +kernel
theorem dX0_put_156 : decode cX0_put 156 = .ok (.aload_n 0, 1) := by decide +kernel
theorem dX0_put_157 : decode cX0_put 157 = .ok (.getfield 21, 3) := by decide +kernel
theorem dX0_put_160 : decode cX0_put 160 = .ok (.iload 4, 2) := by decide +kernel
theorem dX0_put_162 : decode cX0_put 162 = .ok (.iload 8, 2) := by decide +kernel
theorem dX0_put_164 : decode cX0_put 164 = .ok (.iastore, 1) := by decide +kernel
theorem dX0_put_165 : decode cX0_put 165 = .ok (.aload_n 0, 1) := by decide +kernel
theorem dX0_put_166 : decode cX0_put 166 = .ok (.getfield 24, 3) := by decide +kernel
theorem dX0_put_169 : decode cX0_put 169 = .ok (.iload 4, 2) := by decide +kernel
theorem dX0_put_171 : decode cX0_put 171 = .ok (.aload_n 2, 1) := by decide +kernel
theorem dX0_put_172 : decode cX0_put 172 = .ok (.getfield 67, 3) := by decide +kernel
theorem dX0_put_175 : decode cX0_put 175 = .ok (.iload_n 3, 1) := by decide +kernel
theorem dX0_put_176 : decode cX0_put 176 = .ok (.iaload, 1) := by decide +kernel
theorem dX0_put_177 : decode cX0_put 177 = .ok (.iastore, 1) := by decide +kernel
theorem dX0_put_178 : decode cX0_put 178 = .ok (.return_, 1) := by decide +kernel
theorem dX0_areOver_0 : decode cX0_areOver 0 = .ok (.aload_n 0, 1) := by decide +kernel
theorem dX0_areOver_1 : decode cX0_areOver 1 = .ok (.getfield 24, 3) := by decide +kernel
theorem dX0_areOver_4 : decode cX0_areOver 4 = .ok (.iload_n 1, 1) := by decide +kernel
theorem dX0_areOver_5 : decode cX0_areOver 5 = .ok (.iaload, 1) := by decide +kernel
theorem dX0_areOver_6 : decode cX0_areOver 6 = .ok (.aload_n 0, 1) := by decide +kernel
theorem dX0_areOver_7 : decode cX0_areOver 7 = .ok (.getfield 24, 3) := by decide +kernel
theorem dX0_areOver_10 : decode cX0_areOver 10 = .ok (.iload_n 2, 1) := by decide +kernel
theorem dX0_areOver_11 : decode cX0_areOver 11 = .ok (.iaload, 1) := by decide +kernel
theorem dX0_areOver_12 : decode cX0_areOver 12 = .ok (.iadd, 1) := by decide +kernel
theorem dX0_areOver_13 : decode cX0_areOver 13 = .ok (.iload_n 3, 1) := by decide +kernel
theorem dX0_areOver_14 : decode cX0_areOver 14 = .ok (.iadd, 1) := by decide +kernel
theorem dX0_areOver_15 : decode cX0_areOver 15 = .ok (.istore 4, 2) := by decide +kernel
theorem dX0_areOver_17 : decode cX0_areOver 17 = .ok (.aload_n 0, 1) := by decide +kernel
theorem dX0_areOver_18 : decode cX0_areOver 18 = .ok (.getfield 9, 3) := by decide +kernel
theorem dX0_areOver_21 : decode cX0_areOver 21 = .ok (.iload_n 1, 1) := by decide +kernel
theorem dX0_areOver_22 : decode cX0_areOver 22 = .ok (.iaload, 1) := by decide +kernel
theorem dX0_areOver_23 : decode cX0_areOver 23 = .ok (.aload_n 0, 1) := by decide +kernel
theorem dX0_areOver_24 : decode cX0_areOver 24 = .ok (.getfield 9, 3) := by decide +kernel
theorem dX0_areOver_27 : decode cX0_areOver 27 = .ok (.iload_n 2, 1) := by decide +kernel
theorem dX0_areOver_28 : decode cX0_areOver 28 = .ok (.iaload, 1) := by decide +kernel
theorem dX0_areOver_29 : decode cX0_areOver 29 = .ok (.isub, 1) := by decide +kernel
theorem dX0_areOver_30 : decode cX0_areOver 30 = .ok (.invokestatic 58, 3) := by decide +kernel
theorem dX0_areOver_33 : decode cX0_areOver 33 = .ok (.iload 4, 2) := by decide +kernel
theorem dX0_areOver_35 : decode cX0_areOver 35 = .ok (.if_icmp .gt 28, 3) := by decide +kernel
theorem dX0_areOver_38 : decode cX0_areOver 38 = .ok (.aload_n 0, 1) := by decide +kernel
theorem dX0_areOver_39 : decode cX0_areOver 39 = .ok (.getfield 15, 3) := by decide +kernel
theorem dX0_areOver_42 : decode cX0_areOver 42 = .ok (.iload_n 1, 1) := by decide +kernel
theorem dX0_areOver_43 : decode cX0_areOver 43 = .ok (.iaload, 1) := by decide +kernel
theorem dX0_areOver_44 : decode cX0_areOver 44 = .ok (.aload_n 0, 1) := by decide +kernel
theorem dX0_areOver_45 : decode cX0_areOver 45 = .ok (.getfield 15, 3) := by decide +kernel
theorem dX0_areOver_48 : decode cX0_areOver 48 = .ok (.iload_n 2, 1) := by decide +kernel
theorem dX0_areOver_49 : decode cX0_areOver 49 = .ok (.iaload, 1) := by decide +kernel
theorem dX0_areOver_50 : decode cX0_areOver 50 = .ok (.isub, 1) := by decide +kernel
theorem dX0_areOver_51 : decode cX0_areOver 51 = .ok (.invokestatic 58, 3) := by decide +kernel
theorem dX0_areOver_54 : decode cX0_areOver 54 = .ok (.iload 4, 2) := by decide +kernel
theorem dX0_areOver_56 : decode cX0_areOver 56 = .ok (.if_icmp .gt 7, 3) := by decide +kernel
theorem dX0_areOver_59 : decode cX0_areOver 59 = .ok (.iconst 1, 1) := by decide +kernel
theorem dX0_areOver_60 : decode cX0_areOver 60 = .ok (.goto 4, 3) := by decide +kernel
theorem dX0_areOver_63 : decode cX0_areOver 63 = .ok (.iconst 0, 1) := by decide +kernel
theorem dX0_areOver_64 : decode cX0_areOver 64 = .ok (.ireturn, 1) := by decide +kernel
theorem dX0_knocks_0 : decode cX0_knocks 0 = .ok (.aload_n 0, 1) := by decide +kernel
theorem dX0_knocks_1 : decode cX0_knocks 1 = .ok (.getfield 18, 3) := by decide +kernel
theorem dX0_knocks_4 : decode cX0_knocks 4 = .ok (.iload_n 1, 1) := by decide +kernel
theorem dX0_knocks_5 : decode cX0_knocks 5 = .ok (.iaload, 1) := by decide +kernel
theorem dX0_knocks_6 : decode cX0_knocks 6 = .ok (.aload_n 0, 1) := by decide +kernel
theorem dX0_knocks_7 : decode cX0_knocks 7 = .ok (.getfield 18, 3) := by decide +kernel
theorem dX0_knocks_10 : decode cX0_knocks 10 = .ok (.iload_n 2, 1) := by decide +kernel
theorem dX0_knocks_11 : decode cX0_knocks 11 = .ok (.iaload, 1) := by decide +kernel
theorem dX0_knocks_12 : decode cX0_knocks 12 = .ok (.isub, 1) := by decide +kernel
theorem dX0_knocks_13 : decode cX0_knocks 13 = .ok (.invokestatic 58, 3) := by decide +kernel
theorem dX0_knocks_16 : decode cX0_knocks 16 = .ok (.iconst 1, 1) := by decide +kernel
theorem dX0_knocks_17 : decode cX0_knocks 17 = .ok (.if_icmp .gt 17, 3) := by decide +kernel
theorem dX0_knocks_20 : decode cX0_knocks 20 = .ok (.aload_n 0, 1) := by decide +kernel
theorem dX0_knocks_21 : decode cX0_knocks 21 = .ok (.iload_n 1, 1) := by decide +kernel
theorem dX0_knocks_22 : decode cX0_knocks 22 = .ok (.iload_n 2, 1) := by decide +kernel
theorem dX0_knocks_23 : decode cX0_knocks 23 = .ok (.iconst 0, 1) := by decide +kernel
theorem dX0_knocks_24 : decode cX0_knocks 24 = .ok (.invokevirtual 68, 3) := by decide +kernel
theorem dX0_knocks_27 : decode cX0_knocks 27 = .ok (.ifCond .eq 7, 3) := by decide +kernel
theorem dX0_knocks_30 : decode cX0_knocks 30 = .ok (.iconst 1, 1) := by decide +kernel
theorem dX0_knocks_31 : decode cX0_knocks 31 = .ok (.goto 4, 3) := by decide +kernel
theorem dX0_knocks_34 : decode cX0_knocks 34 = .ok (.iconst 0, 1) := by decide +kernel
theorem dX0_knocks_35 : decode cX0_knocks 35 = .ok (.ireturn, 1) := by decide +kernel
theorem dX0_isShaded_0 : decode cX0_isShaded 0 = .ok (.aload_n 0, 1) := by decide +kernel
theorem dX0_isShaded_1 : decode cX0_isShaded 1 = .ok (.getfield 18, 3) := by decide +kernel
theorem dX0_isShaded_4 : decode cX0_isShaded 4 = .ok (.iload_n 2, 1) := by decide +kernel
theorem dX0_isShaded_5 : decode cX0_isShaded 5 = .ok (.iaload, 1) := by decide +kernel
theorem dX0_isShaded_6 : decode cX0_isShaded 6 = .ok (.aload_n 0, 1) := by decide +kernel
theorem dX0_isShaded_7 : decode cX0_isShaded 7 = .ok (.getfield 18, 3) := by decide +kernel
theorem dX0_isShaded_10 : decode cX0_isShaded 10 = .ok (.iload_n 1, 1) := by decide +kernel
theorem dX0_isShaded_11 : decode cX0_isShaded 11 = .ok (.iaload, 1) := by decide +kernel
theorem dX0_isShaded_12 : decode cX0_isShaded 12 = .ok (.isub, 1) := by decide +kernel
theorem dX0_isShaded_13 : decode cX0_isShaded 13 = .ok (.iconst 2, 1) := by decide +kernel
theorem dX0_isShaded_14 : decode cX0_isShaded 14 = .ok (.if_icmp .lt 17, 3) := by decide +kernel
theorem dX0_isShaded_17 : decode cX0_isShaded 17 = .ok (.aload_n 0, 1) := by decide +kernel
theorem dX0_isShaded_18 : decode cX0_isShaded 18 = .ok (.iload_n 1, 1) := by decide +kernel
theorem dX0_isShaded_19 : decode cX0_isShaded 19 = .ok (.iload_n 2, 1) := by decide +kernel
theorem dX0_isShaded_20 : decode cX0_isShaded 20 = .ok (.iconst 0, 1) := by decide +kernel
theorem dX0_isShaded_21 : decode cX0_isShaded 21 = .ok (.invokevirtual 68, 3) := by decide +kernel
theorem dX0_isShaded_24 : decode cX0_isShaded 24 = .ok (.ifCond .eq 7, 3) := by decide +kernel
theorem dX0_isShaded_27 : decode cX0_isShaded 27 = .ok (.iconst 1, 1) := by decide +kernel
theorem dX0_isShaded_28 : decode cX0_isShaded 28 = .ok (.goto 4, 3) := by decide +kernel
theorem dX0_isShaded_31 : decode cX0_isShaded 31 = .ok (.iconst 0, 1) := by decide +kernel
theorem dX0_isShaded_32 : decode cX0_isShaded 32 = .ok (.ireturn, 1) := by decide +kernel
theorem dX0_hasBridge_0 : decode cX0_hasBridge 0 = .ok (.aload_n 0, 1) := by decide +kernel
theorem dX0_hasBridge_1 : decode cX0_hasBridge 1 = .ok (.getfield 18, 3) := by decide +kernel
theorem dX0_hasBridge_4 : decode cX0_hasBridge 4 = .ok (.iload_n 1, 1) := by decide +kernel
theorem dX0_hasBridge_5 : decode cX0_hasBridge 5 = .ok (.iaload, 1) := by decide +kernel
theorem dX0_hasBridge_6 : decode cX0_hasBridge 6 = .ok (.aload_n 0, 1) := by decide +kernel
theorem dX0_hasBridge_7 : decode cX0_hasBridge 7 = .ok (.getfield 18, 3) := by decide +kernel
theorem dX0_hasBridge_10 : decode cX0_hasBridge 10 = .ok (.iload_n 2, 1) := by decide +kernel
theorem dX0_hasBridge_11 : decode cX0_hasBridge 11 = .ok (.iaload, 1) := by decide +kernel
theorem dX0_hasBridge_12 : decode cX0_hasBridge 12 = .ok (.isub, 1) := by decide +kernel
theorem dX0_hasBridge_13 : decode cX0_hasBridge 13 = .ok (.invokestatic 58, 3) := by decide +kernel
theorem dX0_hasBridge_16 : decode cX0_hasBridge 16 = .ok (.iload_n 3, 1) := by decide +kernel
theorem dX0_hasBridge_17 : decode cX0_hasBridge 17 = .ok (.if_icmp .gt 17, 3) := by decide +kernel
theorem dX0_hasBridge_20 : decode cX0_hasBridge 20 = .ok (.aload_n 0, 1) := by decide +kernel
theorem dX0_hasBridge_21 : decode cX0_hasBridge 21 = .ok (.iload_n 1, 1) := by decide +kernel
theorem dX0_hasBridge_22 : decode cX0_hasBridge 22 = .ok (.iload_n 2, 1) := by decide +kernel
theorem dX0_hasBridge_23 : decode cX0_hasBridge 23 = .ok (.iload_n 3, 1) := by decide +kernel
theorem dX0_hasBridge_24 : decode cX0_hasBridge 24 = .ok (.invokevirtual 68, 3) := by decide +kernel
theorem dX0_hasBridge_27 : decode cX0_hasBridge 27 = .ok (.ifCond .eq 7, 3) := by decide +kernel
theorem dX0_hasBridge_30 : decode cX0_hasBridge 30 = .ok (.iconst 1, 1) := by decide +kernel
theorem dX0_hasBridge_31 : decode cX0_hasBridge 31 = .ok (.goto 4, 3) := by decide +kernel
theorem dX0_hasBridge_34 : decode cX0_hasBridge 34 = .ok (.iconst 0, 1) := by decide +kernel
theorem dX0_hasBridge_35 : decode cX0_hasBridge 35 = .ok (.ireturn, 1) := by decide +kernel
theorem dX0_firstKnock_0 : decode cX0_firstKnock 0 = .ok (.iconst 0, 1) := by decide +kernel
theorem dX0_firstKnock_1 : decode cX0_firstKnock 1 = .ok (.istore_n 2, 1) := by decide +kernel
theorem dX0_firstKnock_2 : decode cX0_firstKnock 2 = .ok (.iload_n 2, 1) := by decide +kernel
theorem dX0_firstKnock_3 : decode cX0_firstKnock 3 = .ok (.iload_n 1, 1) := by decide +kernel
theorem dX0_firstKnock_4 : decode cX0_firstKnock 4 = .ok (.if_icmp .ge 40, 3) := by decide +kernel
theorem dX0_firstKnock_7 : decode cX0_firstKnock 7 = .ok (.iload_n 2, 1) := by decide +kernel
theorem dX0_firstKnock_8 : decode cX0_firstKnock 8 = .ok (.iconst 1, 1) := by decide +kernel
theorem dX0_firstKnock_9 : decode cX0_firstKnock 9 = .ok (.iadd, 1) := by decide +kernel
theorem dX0_firstKnock_10 : decode cX0_firstKnock 10 = .ok (.istore_n 3, 1) := by decide +kernel
theorem dX0_firstKnock_11 : decode cX0_firstKnock 11 = .ok (.iload_n 3, 1) := by decide +kernel
theorem dX0_firstKnock_12 : decode cX0_firstKnock 12 = .ok (.iload_n 1, 1) := by decide +kernel
theorem dX0_firstKnock_13 : decode cX0_firstKnock 13 = .ok (.if_icmp .ge 25, 3) := by decide +kernel
theorem dX0_firstKnock_16 : decode cX0_firstKnock 16 = .ok (.aload_n 0, 1) := by decide +kernel
theorem dX0_firstKnock_17 : decode cX0_firstKnock 17 = .ok (.iload_n 2, 1) := by decide +kernel
theorem dX0_firstKnock_18 : decode cX0_firstKnock 18 = .ok (.iload_n 3, 1) := by decide +kernel
theorem dX0_firstKnock_19 : decode cX0_firstKnock 19 = .ok (.invokevirtual 72, 3) := by decide +kernel
theorem dX0_firstKnock_22 : decode cX0_firstKnock 22 = .ok (.ifCond .eq 10, 3) := by decide +kernel
theorem dX0_firstKnock_25 : decode cX0_firstKnock 25 = .ok (.bipush 10, 2) := by decide +kernel
theorem dX0_firstKnock_27 : decode cX0_firstKnock 27 = .ok (.iload_n 2, 1) := by decide +kernel
theorem dX0_firstKnock_28 : decode cX0_firstKnock 28 = .ok (.imul, 1) := by decide +kernel
theorem dX0_firstKnock_29 : decode cX0_firstKnock 29 = .ok (.iload_n 3, 1) := by decide +kernel
theorem dX0_firstKnock_30 : decode cX0_firstKnock 30 = .ok (.iadd, 1) := by decide +kernel
theorem dX0_firstKnock_31 : decode cX0_firstKnock 31 = .ok (.ireturn, 1) := by decide +kernel
theorem dX0_firstKnock_32 : decode cX0_firstKnock 32 = .ok (.iinc 3 1, 3) := by decide +kernel
theorem dX0_firstKnock_35 : decode cX0_firstKnock 35 = .ok (.goto (-24), 3) := by decide +kernel
theorem dX0_firstKnock_38 : decode cX0_firstKnock 38 = .ok (.iinc 2 1, 3) := by decide +kernel
theorem dX0_firstKnock_41 : decode cX0_firstKnock 41 = .ok (.goto (-39), 3) := by decide +kernel
theorem dX0_firstKnock_44 : decode cX0_firstKnock 44 = .ok (.iconst (-1), 1) := by decide +kernel
theorem dX0_firstKnock_45 : decode cX0_firstKnock 45 = .ok (.ireturn, 1) := by decide +kernel
theorem dX0_rainFrom_0 : decode cX0_rainFrom 0 = .ok (.iconst (-1), 1) := by decide +kernel
theorem dX0_rainFrom_1 : decode cX0_rainFrom 1 = .ok (.istore_n 3, 1) := by decide +kernel
theorem dX0_rainFrom_2 : decode cX0_rainFrom 2 = .ok (.iconst 0, 1) := by decide +kernel
theorem dX0_rainFrom_3 : decode cX0_rainFrom 3 = .ok (.istore 4, 2) := by decide +kernel
theorem dX0_rainFrom_5 : decode cX0_rainFrom 5 = .ok (.iload 4, 2) := by decide +kernel
theorem dX0_rainFrom_7 : decode cX0_rainFrom 7 = .ok (.iload_n 2, 1) := by decide +kernel
theorem dX0_rainFrom_8 : decode cX0_rainFrom 8 = .ok (.if_icmp .ge 61, 3) := by decide +kernel
theorem dX0_rainFrom_11 : decode cX0_rainFrom 11 = .ok (.iload_n 3, 1) := by decide +kernel
theorem dX0_rainFrom_12 : decode cX0_rainFrom 12 = .ok (.iconst (-1), 1) := by decide +kernel
theorem dX0_rainFrom_13 : decode cX0_rainFrom 13 = .ok (.if_icmp .eq 19, 3) := by decide +kernel
theorem dX0_rainFrom_16 : decode cX0_rainFrom 16 = .ok (.aload_n 0, 1) := by decide +kernel
theorem dX0_rainFrom_17 : decode cX0_rainFrom 17 = .ok (.getfield 18, 3) := by decide +kernel
theorem dX0_rainFrom_20 : decode cX0_rainFrom 20 = .ok (.iload 4, 2) := by decide +kernel
theorem dX0_rainFrom_22 : decode cX0_rainFrom 22 = .ok (.iaload, 1) := by decide +kernel
theorem dX0_rainFrom_23 : decode cX0_rainFrom 23 = .ok (.aload_n 0, 1) := by decide +kernel
theorem dX0_rainFrom_24 : decode cX0_rainFrom 24 = .ok (.getfield 18, 3) := by decide +kernel
theorem dX0_rainFrom_27 : decode cX0_rainFrom 27 = .ok (.iload_n 3, 1) := by decide +kernel
theorem dX0_rainFrom_28 : decode cX0_rainFrom 28 = .ok (.iaload, 1) := by decide +kernel
theorem dX0_rainFrom_29 : decode cX0_rainFrom 29 = .ok (.if_icmp .ge 7, 3) := by decide +kernel
theorem dX0_rainFrom_32 : decode cX0_rainFrom 32 = .ok (.iconst 1, 1) := by decide +kernel
theorem dX0_rainFrom_33 : decode cX0_rainFrom 33 = .ok (.goto 4, 3) := by decide +kernel
theorem dX0_rainFrom_36 : decode cX0_rainFrom 36 = .ok (.iconst 0, 1) := by decide +kernel
theorem dX0_rainFrom_37 : decode cX0_rainFrom 37 = .ok (.istore 5, 2) := by decide +kernel
theorem dX0_rainFrom_39 : decode cX0_rainFrom 39 = .ok (.iload 5, 2) := by decide +kernel
theorem dX0_rainFrom_41 : decode cX0_rainFrom 41 = .ok (.ifCond .eq 22, 3) := by decide +kernel
theorem dX0_rainFrom_44 : decode cX0_rainFrom 44 = .ok (.iload 4, 2) := by decide +kernel
theorem dX0_rainFrom_46 : decode cX0_rainFrom 46 = .ok (.iload_n 1, 1) := by decide +kernel
theorem dX0_rainFrom_47 : decode cX0_rainFrom 47 = .ok (.if_icmp .eq 16, 3) := by decide +kernel
theorem dX0_rainFrom_50 : decode cX0_rainFrom 50 = .ok (.aload_n 0, 1) := by decide +kernel
theorem dX0_rainFrom_51 : decode cX0_rainFrom 51 = .ok (.iload_n 1, 1) := by decide +kernel
theorem dX0_rainFrom_52 : decode cX0_rainFrom 52 = .ok (.iload 4, 2) := by decide +kernel
theorem dX0_rainFrom_54 : decode cX0_rainFrom 54 = .ok (.invokevirtual 76, 3) := by decide +kernel
theorem dX0_rainFrom_57 : decode cX0_rainFrom 57 = .ok (.ifCond .eq 6, 3) := by decide +kernel
theorem dX0_rainFrom_60 : decode cX0_rainFrom 60 = .ok (.iload 4, 2) := by decide +kernel
theorem dX0_rainFrom_62 : decode cX0_rainFrom 62 = .ok (.istore_n 3, 1) := by decide +kernel
theorem dX0_rainFrom_63 : decode cX0_rainFrom 63 = .ok (.iinc 4 1, 3) := by decide +kernel
theorem dX0_rainFrom_66 : decode cX0_rainFrom 66 = .ok (.goto (-61), 3) := by decide +kernel
theorem dX0_rainFrom_69 : decode cX0_rainFrom 69 = .ok (.iload_n 3, 1) := by decide +kernel
theorem dX0_rainFrom_70 : decode cX0_rainFrom 70 = .ok (.ireturn, 1) := by decide +kernel
theorem dX0_lower_0 : decode cX0_lower 0 = .ok (.iconst 0, 1) := by decide +kernel
theorem dX0_lower_1 : decode cX0_lower 1 = .ok (.istore_n 3, 1) := by decide +kernel
theorem dX0_lower_2 : decode cX0_lower 2 = .ok (.iconst 0, 1) := by decide +kernel
theorem dX0_lower_3 : decode cX0_lower 3 = .ok (.istore 4, 2) := by decide +kernel
theorem dX0_lower_5 : decode cX0_lower 5 = .ok (.iload 4, 2) := by decide +kernel
theorem dX0_lower_7 : decode cX0_lower 7 = .ok (.iload_n 2, 1) := by decide +kernel
theorem dX0_lower_8 : decode cX0_lower 8 = .ok (.if_icmp .ge 28, 3) := by decide +kernel
theorem dX0_lower_11 : decode cX0_lower 11 = .ok (.aload_n 0, 1) := by decide +kernel
theorem dX0_lower_12 : decode cX0_lower 12 = .ok (.getfield 18, 3) := by decide +kernel
theorem dX0_lower_15 : decode cX0_lower 15 = .ok (.iload 4, 2) := by decide +kernel
theorem dX0_lower_17 : decode cX0_lower 17 = .ok (.iaload, 1) := by decide +kernel
theorem dX0_lower_18 : decode cX0_lower 18 = .ok (.aload_n 0, 1) := by decide +kernel
theorem dX0_lower_19 : decode cX0_lower 19 = .ok (.getfield 18, 3) := by decide +kernel
theorem dX0_lower_22 : decode cX0_lower 22 = .ok (.iload_n 1, 1) := by decide +kernel
theorem dX0_lower_23 : decode cX0_lower 23 = .ok (.iaload, 1) := by decide +kernel
theorem dX0_lower_24 : decode cX0_lower 24 = .ok (.if_icmp .ge 6, 3) := by decide +kernel
theorem dX0_lower_27 : decode cX0_lower 27 = .ok (.iinc 3 1, 3) := by decide +kernel
theorem dX0_lower_30 : decode cX0_lower 30 = .ok (.iinc 4 1, 3) := by decide +kernel
theorem dX0_lower_33 : decode cX0_lower 33 = .ok (.goto (-28), 3) := by decide +kernel
theorem dX0_lower_36 : decode cX0_lower 36 = .ok (.iload_n 3, 1) := by decide +kernel
theorem dX0_lower_37 : decode cX0_lower 37 = .ok (.ireturn, 1) := by decide +kernel
theorem dX1_init_0 : decode cX1_init 0 = .ok (.aload_n 0, 1) := by decide +kernel
theorem dX1_init_1 : decode cX1_init 1 = .ok (.invokespecial 3, 3) := by decide +kernel
theorem dX1_init_4 : decode cX1_init 4 = .ok (.aload_n 0, 1) := by decide +kernel
theorem dX1_init_5 : decode cX1_init 5 = .ok (.iconst 0, 1) := by decide +kernel
theorem dX1_init_6 : decode cX1_init 6 = .ok (.putfield 9, 3) := by decide +kernel
theorem dX1_init_9 : decode cX1_init 9 = .ok (.aload_n 0, 1) := by decide +kernel
theorem dX1_init_10 : decode cX1_init 10 = .ok (.bipush 6, 2) := by decide +kernel
theorem dX1_init_12 : decode cX1_init 12 = .ok (.newarray .int, 2) := by decide +kernel
theorem dX1_init_14 : decode cX1_init 14 = .ok (.putfield 15, 3) := by decide +kernel
theorem dX1_init_17 : decode cX1_init 17 = .ok (.aload_n 0, 1) := by decide +kernel
theorem dX1_init_18 : decode cX1_init 18 = .ok (.bipush 6, 2) := by decide +kernel
theorem dX1_init_20 : decode cX1_init 20 = .ok (.newarray .int, 2) := by decide +kernel
theorem dX1_init_22 : decode cX1_init 22 = .ok (.putfield 19, 3) := by decide +kernel
theorem dX1_init_25 : decode cX1_init 25 = .ok (.aload_n 0, 1) := by decide +kernel
theorem dX1_init_26 : decode cX1_init 26 = .ok (.bipush 6, 2) := by decide +kernel
theorem dX1_init_28 : decode cX1_init 28 = .ok (.newarray .int, 2) := by decide +kernel
theorem dX1_init_30 : decode cX1_init 30 = .ok (.putfield 22, 3) := by decide +kernel
theorem dX1_init_33 : decode cX1_init 33 = .ok (.aload_n 0, 1) := by decide +kernel
theorem dX1_init_34 : decode cX1_init 34 = .ok (.bipush 6, 2) := by decide +kernel
theorem dX1_init_36 : decode cX1_init 36 = .ok (.newarray .int, 2) := by decide +kernel
theorem dX1_init_38 : decode cX1_init 38 = .ok (.putfield 25, 3) := by decide +kernel
theorem dX1_init_41 : decode cX1_init 41 = .ok (.aload_n 0, 1) := by decide +kernel
theorem dX1_init_42 : decode cX1_init 42 = .ok (.bipush 6, 2) := by decide +kernel
theorem dX1_init_44 : decode cX1_init 44 = .ok (.newarray .int, 2) := by decide +kernel
theorem dX1_init_46 : decode cX1_init 46 = .ok (.putfield 28, 3) := by decide +kernel
theorem dX1_init_49 : decode cX1_init 49 = .ok (.aload_n 0, 1) := by decide +kernel
theorem dX1_init_50 : decode cX1_init 50 = .ok (.bipush 6, 2) := by decide +kernel
theorem dX1_init_52 : decode cX1_init 52 = .ok (.newarray .int, 2) := by decide +kernel
theorem dX1_init_54 : decode cX1_init 54 = .ok (.putfield 31, 3) := by decide +kernel
theorem dX1_init_57 : decode cX1_init 57 = .ok (.aload_n 0, 1) := by decide +kernel
theorem dX1_init_58 : decode cX1_init 58 = .ok (.bipush 6, 2) := by decide +kernel
theorem dX1_init_60 : decode cX1_init 60 = .ok (.newarray .int, 2) := by decide +kernel
theorem dX1_init_62 : decode cX1_init 62 = .ok (.putfield 34, 3) := by decide +kernel
theorem dX1_init_65 : decode cX1_init 65 = .ok (.aload_n 0, 1) := by decide +kernel
theorem dX1_init_66 : decode cX1_init 66 = .ok (.bipush 6, 2) := by decide +kernel
theorem dX1_init_68 : decode cX1_init 68 = .ok (.newarray .int, 2) := by decide +kernel
theorem dX1_init_70 : decode cX1_init 70 = .ok (.putfield 37, 3) := by decide +kernel
theorem dX1_init_73 : decode cX1_init 73 = .ok (.aload_n 0, 1) := by decide +kernel
theorem dX1_init_74 : decode cX1_init 74 = .ok (.bipush 6, 2) := by decide +kernel
theorem dX1_init_76 : decode cX1_init 76 = .ok (.newarray .int, 2) := by decide +kernel
theorem dX1_init_78 : decode cX1_init 78 = .ok (.putfield 40, 3) := by decide +kernel
theorem dX1_init_81 : decode cX1_init 81 = .ok (.aload_n 0, 1) := by decide +kernel
theorem dX1_init_82 : decode cX1_init 82 = .ok (.bipush 6, 2) := by decide +kernel
theorem dX1_init_84 : decode cX1_init 84 = .ok (.newarray .int, 2) := by decide +kernel
theorem dX1_init_86 : decode cX1_init 86 = .ok (.putfield 43, 3) := by decide +kernel
theorem dX1_init_89 : decode cX1_init 89 = .ok (.aload_n 0, 1) := by decide +kernel
theorem dX1_init_90 : decode cX1_init 90 = .ok (.bipush 24, 2) := by decide +kernel
theorem dX1_init_92 : decode cX1_init 92 = .ok (.newarray .int, 2) := by decide +kernel
theorem dX1_init_94 : decode cX1_init 94 = .ok (.putfield 46, 3) := by decide +kernel
theorem dX1_init_97 : decode cX1_init 97 = .ok (.return_, 1) := by decide +kernel
theorem dX1_has_0 : decode cX1_has 0 = .ok (.iload_n 1, 1) := by decide +kernel
theorem dX1_has_1 : decode cX1_has 1 = .ok (.ifCond .lt 21, 3) := by decide +kernel
theorem dX1_has_4 : decode cX1_has 4 = .ok (.iload_n 1, 1) := by decide +kernel
theorem dX1_has_5 : decode cX1_has 5 = .ok (.aload_n 0, 1) := by decide +kernel
theorem dX1_has_6 : decode cX1_has 6 = .ok (.getfield 9, 3) := by decide +kernel
theorem dX1_has_9 : decode cX1_has 9 = .ok (.if_icmp .ge 13, 3) := by decide +kernel
theorem dX1_has_12 : decode cX1_has 12 = .ok (.iload_n 1, 1) := by decide +kernel
theorem dX1_has_13 : decode cX1_has 13 = .ok (.bipush 6, 2) := by decide +kernel
theorem dX1_has_15 : decode cX1_has 15 = .ok (.if_icmp .ge 7, 3) := by decide +kernel
theorem dX1_has_18 : decode cX1_has 18 = .ok (.iconst 1, 1) := by decide +kernel
theorem dX1_has_19 : decode cX1_has 19 = .ok (.goto 4, 3) := by decide +kernel
theorem dX1_has_22 : decode cX1_has 22 = .ok (.iconst 0, 1) := by decide +kernel
theorem dX1_has_23 : decode cX1_has 23 = .ok (.ireturn, 1) := by decide +kernel
theorem dX1_isPost_0 : decode cX1_isPost 0 = .ok (.iconst 0, 1) := by decide +kernel
theorem dX1_isPost_1 : decode cX1_isPost 1 = .ok (.istore_n 3, 1) := by decide +kernel
theorem dX1_isPost_2 : decode cX1_isPost 2 = .ok (.iload_n 3, 1) := by decide +kernel
theorem dX1_isPost_3 : decode cX1_isPost 3 = .ok (.aload_n 0, 1) := by decide +kernel
theorem dX1_isPost_4 : decode cX1_isPost 4 = .ok (.getfield 9, 3) := by decide +kernel
theorem dX1_isPost_7 : decode cX1_isPost 7 = .ok (.if_icmp .ge 31, 3) := by decide +kernel
theorem dX1_isPost_10 : decode cX1_isPost 10 = .ok (.aload_n 0, 1) := by decide +kernel
theorem dX1_isPost_11 : decode cX1_isPost 11 = .ok (.getfield 19, 3) := by decide +kernel
theorem dX1_isPost_14 : decode cX1_isPost 14 = .ok (.iload_n 3, 1) := by decide +kernel
theorem dX1_isPost_15 : decode cX1_isPost 15 = .ok (.iaload, 1) := by decide +kernel
theorem dX1_isPost_16 : decode cX1_isPost 16 = .ok (.iload_n 1, 1) := by decide +kernel
theorem dX1_isPost_17 : decode cX1_isPost 17 = .ok (.if_icmp .ne 15, 3) := by decide +kernel
theorem dX1_isPost_20 : decode cX1_isPost 20 = .ok (.aload_n 0, 1) := by decide +kernel
theorem dX1_isPost_21 : decode cX1_isPost 21 = .ok (.getfield 22, 3) := by decide +kernel
theorem dX1_isPost_24 : decode cX1_isPost 24 = .ok (.iload_n 3, 1) := by decide +kernel
theorem dX1_isPost_25 : decode cX1_isPost 25 = .ok (.iaload, 1) := by decide +kernel
theorem dX1_isPost_26 : decode cX1_isPost 26 = .ok (.iload_n 2, 1) := by decide +kernel
theorem dX1_isPost_27 : decode cX1_isPost 27 = .ok (.if_icmp .ne 5, 3) := by decide +kernel
theorem dX1_isPost_30 : decode cX1_isPost 30 = .ok (.iconst 1, 1) := by decide +kernel
theorem dX1_isPost_31 : decode cX1_isPost 31 = .ok (.ireturn, 1) := by decide +kernel
theorem dX1_isPost_32 : decode cX1_isPost 32 = .ok (.iinc 3 1, 3) := by decide +kernel
theorem dX1_isPost_35 : decode cX1_isPost 35 = .ok (.goto (-33), 3) := by decide +kernel
theorem dX1_isPost_38 : decode cX1_isPost 38 = .ok (.iconst 0, 1) := by decide +kernel
theorem dX1_isPost_39 : decode cX1_isPost 39 = .ok (.ireturn, 1) := by decide +kernel
theorem dX1_settle_0 : decode cX1_settle 0 = .ok (.aload_n 0, 1) := by decide +kernel
theorem dX1_settle_1 : decode cX1_settle 1 = .ok (.getfield 34, 3) := by decide +kernel
theorem dX1_settle_4 : decode cX1_settle 4 = .ok (.iload_n 1, 1) := by decide +kernel
theorem dX1_settle_5 : decode cX1_settle 5 = .ok (.iload_n 2, 1) := by decide +kernel
theorem dX1_settle_6 : decode cX1_settle 6 = .ok (.iastore, 1) := by decide +kernel
theorem dX1_settle_7 : decode cX1_settle 7 = .ok (.iconst 0, 1) := by decide +kernel
theorem dX1_settle_8 : decode cX1_settle 8 = .ok (.istore_n 3, 1) := by decide +kernel
theorem dX1_settle_9 : decode cX1_settle 9 = .ok (.iload_n 3, 1) := by decide +kernel
theorem dX1_settle_10 : decode cX1_settle 10 = .ok (.iconst 4, 1) := by decide +kernel
theorem dX1_settle_11 : decode cX1_settle 11 = .ok (.if_icmp .ge 35, 3) := by decide +kernel
theorem dX1_settle_14 : decode cX1_settle 14 = .ok (.aload_n 0, 1) := by decide +kernel
theorem dX1_settle_15 : decode cX1_settle 15 = .ok (.getfield 46, 3) := by decide +kernel
theorem dX1_settle_18 : decode cX1_settle 18 = .ok (.iload_n 1, 1) := by decide +kernel
theorem dX1_settle_19 : decode cX1_settle 19 = .ok (.iconst 4, 1) := by decide +kernel
theorem dX1_settle_20 : decode cX1_settle 20 = .ok (.imul, 1) := by decide +kernel
theorem dX1_settle_21 : decode cX1_settle 21 = .ok (.iload_n 3, 1) := by decide +kernel
theorem dX1_settle_22 : decode cX1_settle 22 = .ok (.iadd, 1) := by decide +kernel
theorem dX1_settle_23 : decode cX1_settle 23 = .ok (.iload_n 2, 1) := by decide +kernel
theorem dX1_settle_24 : decode cX1_settle 24 = .ok (.iconst 4, 1) := by decide +kernel
theorem dX1_settle_25 : decode cX1_settle 25 = .ok (.idiv, 1) := by decide +kernel
theorem dX1_settle_26 : decode cX1_settle 26 = .ok (.iload_n 3, 1) := by decide +kernel
theorem dX1_settle_27 : decode cX1_settle 27 = .ok (.iload_n 2, 1) := by decide +kernel
theorem dX1_settle_28 : decode cX1_settle 28 = .ok (.iconst 4, 1) := by decide +kernel
theorem dX1_settle_29 : decode cX1_settle 29 = .ok (.irem, 1) := by decide +kernel
theorem dX1_settle_30 : decode cX1_settle 30 = .ok (.if_icmp .ge 7, 3) := by decide +kernel
theorem dX1_settle_33 : decode cX1_settle 33 = .ok (.iconst 1, 1) := by decide +kernel
theorem dX1_settle_34 : decode cX1_settle 34 = .ok (.goto 4, 3) := by decide +kernel
theorem dX1_settle_37 : decode cX1_settle 37 = .ok (.iconst 0, 1) := by decide +kernel
theorem dX1_settle_38 : decode cX1_settle 38 = .ok (.iadd, 1) := by decide +kernel
theorem dX1_settle_39 : decode cX1_settle 39 = .ok (.iastore, 1) := by decide +kernel
theorem dX1_settle_40 : decode cX1_settle 40 = .ok (.iinc 3 1, 3) := by decide +kernel
theorem dX1_settle_43 : decode cX1_settle 43 = .ok (.goto (-34), 3) := by decide +kernel
theorem dX1_settle_46 : decode cX1_settle 46 = .ok (.return_, 1) := by decide +kernel
theorem dX1_weight_0 : decode cX1_weight 0 = .ok (.aload_n 0, 1) := by decide +kernel
theorem dX1_weight_1 : decode cX1_weight 1 = .ok (.getfield 15, 3) := by decide +kernel
theorem dX1_weight_4 : decode cX1_weight 4 = .ok (.iload_n 1, 1) := by decide +kernel
theorem dX1_weight_5 : decode cX1_weight 5 = .ok (.iaload, 1) := by decide +kernel
theorem dX1_weight_6 : decode cX1_weight 6 = .ok (.iconst 1, 1) := by decide +kernel
theorem dX1_weight_7 : decode cX1_weight 7 = .ok (.if_icmp .ne 7, 3) := by decide +kernel
theorem dX1_weight_10 : decode cX1_weight 10 = .ok (.iconst 5, 1) := by decide +kernel
theorem dX1_weight_11 : decode cX1_weight 11 = .ok (.goto 4, 3) := by decide +kernel
theorem dX1_weight_14 : decode cX1_weight 14 = .ok (.iconst 0, 1) := by decide +kernel
theorem dX1_weight_15 : decode cX1_weight 15 = .ok (.istore_n 2, 1) := by decide +kernel
theorem dX1_weight_16 : decode cX1_weight 16 = .ok (.aload_n 0, 1) := by decide +kernel
theorem dX1_weight_17 : decode cX1_weight 17 = .ok (.getfield 34, 3) := by decide +kernel
theorem dX1_weight_20 : decode cX1_weight 20 = .ok (.iload_n 1, 1) := by decide +kernel
theorem dX1_weight_21 : decode cX1_weight 21 = .ok (.iaload, 1) := by decide +kernel
theorem dX1_weight_22 : decode cX1_weight 22 = .ok (.aload_n 0, 1) := by decide +kernel
theorem dX1_weight_23 : decode cX1_weight 23 = .ok (.getfield 37, 3) := by decide +kernel
theorem dX1_weight_26 : decode cX1_weight 26 = .ok (.iload_n 1, 1) := by decide +kernel
theorem dX1_weight_27 : decode cX1_weight 27 = .ok (.iaload, 1) := by decide +kernel
theorem dX1_weight_28 : decode cX1_weight 28 = .ok (.iadd, 1) := by decide +kernel
theorem dX1_weight_29 : decode cX1_weight 29 = .ok (.iconst 2, 1) := by decide +kernel
theorem dX1_weight_30 : decode cX1_weight 30 = .ok (.aload_n 0, 1) := by decide +kernel
theorem dX1_weight_31 : decode cX1_weight 31 = .ok (.getfield 40, 3) := by decide +kernel
theorem dX1_weight_34 : decode cX1_weight 34 = .ok (.iload_n 1, 1) := by decide +kernel
theorem dX1_weight_35 : decode cX1_weight 35 = .ok (.iaload, 1) := by decide +kernel
theorem dX1_weight_36 : decode cX1_weight 36 = .ok (.imul, 1) := by decide +kernel
theorem dX1_weight_37 : decode cX1_weight 37 = .ok (.iadd, 1) := by decide +kernel
theorem dX1_weight_38 : decode cX1_weight 38 = .ok (.iload_n 2, 1) := by decide +kernel
theorem dX1_weight_39 : decode cX1_weight 39 = .ok (.iadd, 1) := by decide +kernel
theorem dX1_weight_40 : decode cX1_weight 40 = .ok (.ireturn, 1) := by decide +kernel
theorem dX1_line_0 : decode cX1_line 0 = .ok (.aload_n 0, 1) := by decide +kernel
theorem dX1_line_1 : decode cX1_line 1 = .ok (.getfield 25, 3) := by decide +kernel
theorem dX1_line_4 : decode cX1_line 4 = .ok (.iload_n 1, 1) := by decide +kernel
theorem dX1_line_5 : decode cX1_line 5 = .ok (.iaload, 1) := by decide +kernel
theorem dX1_line_6 : decode cX1_line 6 = .ok (.aload_n 0, 1) := by decide +kernel
theorem dX1_line_7 : decode cX1_line 7 = .ok (.getfield 43, 3) := by decide +kernel
theorem dX1_line_10 : decode cX1_line 10 = .ok (.iload_n 1, 1) := by decide +kernel
theorem dX1_line_11 : decode cX1_line 11 = .ok (.iaload, 1) := by decide +kernel
theorem dX1_line_12 : decode cX1_line 12 = .ok (.isub, 1) := by decide +kernel
theorem dX1_line_13 : decode cX1_line 13 = .ok (.iconst 0, 1) := by decide +kernel
theorem dX1_line_14 : decode cX1_line 14 = .ok (.invokestatic 49, 3) := by decide +kernel
theorem dX1_line_17 : decode cX1_line 17 = .ok (.ireturn, 1) := by decide +kernel
theorem dX1_floats_0 : decode cX1_floats 0 = .ok (.aload_n 0, 1) := by decide +kernel
theorem dX1_floats_1 : decode cX1_floats 1 = .ok (.getfield 28, 3) := by decide +kernel
theorem dX1_floats_4 : decode cX1_floats 4 = .ok (.iload_n 1, 1) := by decide +kernel
theorem dX1_floats_5 : decode cX1_floats 5 = .ok (.iaload, 1) := by decide +kernel
theorem dX1_floats_6 : decode cX1_floats 6 = .ok (.aload_n 0, 1) := by decide +kernel
theorem dX1_floats_7 : decode cX1_floats 7 = .ok (.iload_n 1, 1) := by decide +kernel
theorem dX1_floats_8 : decode cX1_floats 8 = .ok (.invokevirtual 55, 3) := by decide +kernel
theorem dX1_floats_11 : decode cX1_floats 11 = .ok (.if_icmp .le 15, 3) := by decide +kernel
theorem dX1_floats_14 : decode cX1_floats 14 = .ok (.aload_n 0, 1) := by decide +kernel
theorem dX1_floats_15 : decode cX1_floats 15 = .ok (.iload_n 1, 1) := by decide +kernel
theorem dX1_floats_16 : decode cX1_floats 16 = .ok (.invokevirtual 59, 3) := by decide +kernel
theorem dX1_floats_19 : decode cX1_floats 19 = .ok (.ifCond .eq 7, 3) := by decide +kernel
theorem dX1_floats_22 : decode cX1_floats 22 = .ok (.iconst 1, 1) := by decide +kernel
theorem dX1_floats_23 : decode cX1_floats 23 = .ok (.goto 4, 3) := by decide +kernel
theorem dX1_floats_26 : decode cX1_floats 26 = .ok (.iconst 0, 1) := by decide +kernel
theorem dX1_floats_27 : decode cX1_floats 27 = .ok (.ireturn, 1) := by decide +kernel
theorem dX1_leaning_0 : decode cX1_leaning 0 = .ok (.iload_n 1, 1) := by decide +kernel
theorem dX1_leaning_1 : decode cX1_leaning 1 = .ok (.iconst 4, 1) := by decide +kernel
theorem dX1_leaning_2 : decode cX1_leaning 2 = .ok (.imul, 1) := by decide +kernel
theorem dX1_leaning_3 : decode cX1_leaning 3 = .ok (.istore_n 2, 1) := by decide +kernel
theorem dX1_leaning_4 : decode cX1_leaning 4 = .ok (.aload_n 0, 1) := by decide +kernel
theorem dX1_leaning_5 : decode cX1_leaning 5 = .ok (.getfield 46, 3) := by decide +kernel
theorem dX1_leaning_8 : decode cX1_leaning 8 = .ok (.iload_n 2, 1) := by decide +kernel
theorem dX1_leaning_9 : decode cX1_leaning 9 = .ok (.iaload, 1) := by decide +kernel
theorem dX1_leaning_10 : decode cX1_leaning 10 = .ok (.aload_n 0, 1) := by decide +kernel
theorem dX1_leaning_11 : decode cX1_leaning 11 = .ok (.getfield 46, 3) := by decide +kernel
theorem dX1_leaning_14 : decode cX1_leaning 14 = .ok (.iload_n 2, 1) := by decide +kernel
theorem dX1_leaning_15 : decode cX1_leaning 15 = .ok (.iconst 2, 1) := by decide +kernel
theorem dX1_leaning_16 : decode cX1_leaning 16 = .ok (.iadd, 1) := by decide +kernel
theorem dX1_leaning_17 : decode cX1_leaning 17 = .ok (.iaload, 1) := by decide +kernel
theorem dX1_leaning_18 : decode cX1_leaning 18 = .ok (.isub, 1) := by decide +kernel
theorem dX1_leaning_19 : decode cX1_leaning 19 = .ok (.invokestatic 62, 3) := by decide +kernel
theorem dX1_leaning_22 : decode cX1_leaning 22 = .ok (.istore_n 3, 1) := by decide +kernel
theorem dX1_leaning_23 : decode cX1_leaning 23 = .ok (.aload_n 0, 1) := by decide +kernel
theorem dX1_leaning_24 : decode cX1_leaning 24 = .ok (.getfield 46, 3) := by decide +kernel
theorem dX1_leaning_27 : decode cX1_leaning 27 = .ok (.iload_n 2, 1) := by decide +kernel
theorem dX1_leaning_28 : decode cX1_leaning 28 = .ok (.iconst 1, 1) := by decide +kernel
theorem dX1_leaning_29 : decode cX1_leaning 29 = .ok (.iadd, 1) := by decide +kernel
theorem dX1_leaning_30 : decode cX1_leaning 30 = .ok (.iaload, 1) := by decide +kernel
theorem dX1_leaning_31 : decode cX1_leaning 31 = .ok (.aload_n 0, 1) := by decide +kernel
theorem dX1_leaning_32 : decode cX1_leaning 32 = .ok (.getfield 46, 3) := by decide +kernel
theorem dX1_leaning_35 : decode cX1_leaning 35 = .ok (.iload_n 2, 1) := by decide +kernel
theorem dX1_leaning_36 : decode cX1_leaning 36 = .ok (.iconst 3, 1) := by decide +kernel
theorem dX1_leaning_37 : decode cX1_leaning 37 = .ok (.iadd, 1) := by decide +kernel
theorem dX1_leaning_38 : decode cX1_leaning 38 = .ok (.iaload, 1) := by decide +kernel
theorem dX1_leaning_39 : decode cX1_leaning 39 = .ok (.isub, 1) := by decide +kernel
theorem dX1_leaning_40 : decode cX1_leaning 40 = .ok (.invokestatic 62, 3) := by decide +kernel
theorem dX1_leaning_43 : decode cX1_leaning 43 = .ok (.istore 4, 2) := by decide +kernel
theorem dX1_leaning_45 : decode cX1_leaning 45 = .ok (.iload_n 3, 1) := by decide +kernel
theorem dX1_leaning_46 : decode cX1_leaning 46 = .ok (.iload 4, 2) := by decide +kernel
theorem dX1_leaning_48 : decode cX1_leaning 48 = .ok (.invokestatic 49, 3) := by decide +kernel
theorem dX1_leaning_51 : decode cX1_leaning 51 = .ok (.ireturn, 1) := by decide +kernel
theorem dX1_copyFrom_0 : decode cX1_copyFrom 0 = .ok (.aload_n 0, 1) := by decide +kernel
theorem dX1_copyFrom_1 : decode cX1_copyFrom 1 = .ok (.aload_n 1, 1) := by decide +kernel
theorem dX1_copyFrom_2 : decode cX1_copyFrom 2 = .ok (.getfield 9, 3) := by decide +kernel
theorem dX1_copyFrom_5 : decode cX1_copyFrom 5 = .ok (.putfield 9, 3) := by decide +kernel
theorem dX1_copyFrom_8 : decode cX1_copyFrom 8 = .ok (.iconst 0, 1) := by decide +kernel
theorem dX1_copyFrom_9 : decode cX1_copyFrom 9 = .ok (.istore_n 2, 1) := by decide +kernel
theorem dX1_copyFrom_10 : decode cX1_copyFrom 10 = .ok (.iload_n 2, 1) := by decide +kernel
theorem dX1_copyFrom_11 : decode cX1_copyFrom 11 = .ok (.bipush 6, 2) := by decide +kernel
theorem dX1_copyFrom_13 : decode cX1_copyFrom 13 = .ok (.if_icmp .ge 129, 3) := by decide +kernel
theorem dX1_copyFrom_16 : decode cX1_copyFrom 16 = .ok (.aload_n 0, 1) := by decide +kernel
theorem dX1_copyFrom_17 : decode cX1_copyFrom 17 = .ok (.getfield 15, 3) := by decide +kernel
theorem dX1_copyFrom_20 : decode cX1_copyFrom 20 = .ok (.iload_n 2, 1) := by decide +kernel
theorem dX1_copyFrom_21 : decode cX1_copyFrom 21 = .ok (.aload_n 1, 1) := by decide +kernel
theorem dX1_copyFrom_22 : decode cX1_copyFrom 22 = .ok (.getfield 15, 3) := by decide +kernel
theorem dX1_copyFrom_25 : decode cX1_copyFrom 25 = .ok (.iload_n 2, 1) := by decide +kernel
theorem dX1_copyFrom_26 : decode cX1_copyFrom 26 = .ok (.iaload, 1) := by decide +kernel
theorem dX1_copyFrom_27 : decode cX1_copyFrom 27 = .ok (.iastore, 1) := by decide +kernel
theorem dX1_copyFrom_28 : decode cX1_copyFrom 28 = .ok (.aload_n 0, 1) := by decide +kernel
theorem dX1_copyFrom_29 : decode cX1_copyFrom 29 = .ok (.getfield 19, 3) := by decide +kernel
theorem dX1_copyFrom_32 : decode cX1_copyFrom 32 = .ok (.iload_n 2, 1) := by decide +kernel
theorem dX1_copyFrom_33 : decode cX1_copyFrom 33 = .ok (.aload_n 1, 1) := by decide +kernel
theorem dX1_copyFrom_34 : decode cX1_copyFrom 34 = .ok (.getfield 19, 3) := by decide +kernel
theorem dX1_copyFrom_37 : decode cX1_copyFrom 37 = .ok (.iload_n 2, 1) := by decide +kernel
theorem dX1_copyFrom_38 : decode cX1_copyFrom 38 = .ok (.iaload, 1) := by decide +kernel
theorem dX1_copyFrom_39 : decode cX1_copyFrom 39 = .ok (.iastore, 1) := by decide +kernel
theorem dX1_copyFrom_40 : decode cX1_copyFrom 40 = .ok (.aload_n 0, 1) := by decide +kernel
theorem dX1_copyFrom_41 : decode cX1_copyFrom 41 = .ok (.getfield 22, 3) := by decide +kernel
theorem dX1_copyFrom_44 : decode cX1_copyFrom 44 = .ok (.iload_n 2, 1) := by decide +kernel
theorem dX1_copyFrom_45 : decode cX1_copyFrom 45 = .ok (.aload_n 1, 1) := by decide +kernel
theorem dX1_copyFrom_46 : decode cX1_copyFrom 46 = .ok (.getfield 22, 3) := by decide +kernel
theorem dX1_copyFrom_49 : decode cX1_copyFrom 49 = .ok (.iload_n 2, 1) := by decide +kernel
theorem dX1_copyFrom_50 : decode cX1_copyFrom 50 = .ok (.iaload, 1) := by decide +kernel
theorem dX1_copyFrom_51 : decode cX1_copyFrom 51 = .ok (.iastore, 1) := by decide +kernel
theorem dX1_copyFrom_52 : decode cX1_copyFrom 52 = .ok (.aload_n 0, 1) := by decide +kernel
theorem dX1_copyFrom_53 : decode cX1_copyFrom 53 = .ok (.getfield 25, 3) := by decide +kernel
theorem dX1_copyFrom_56 : decode cX1_copyFrom 56 = .ok (.iload_n 2, 1) := by decide +kernel
theorem dX1_copyFrom_57 : decode cX1_copyFrom 57 = .ok (.aload_n 1, 1) := by decide +kernel
theorem dX1_copyFrom_58 : decode cX1_copyFrom 58 = .ok (.getfield 25, 3) := by decide +kernel
theorem dX1_copyFrom_61 : decode cX1_copyFrom 61 = .ok (.iload_n 2, 1) := by decide +kernel
theorem dX1_copyFrom_62 : decode cX1_copyFrom 62 = .ok (.iaload, 1) := by decide +kernel
theorem dX1_copyFrom_63 : decode cX1_copyFrom 63 = .ok (.iastore, 1) := by decide +kernel
theorem dX1_copyFrom_64 : decode cX1_copyFrom 64 = .ok (.aload_n 0, 1) := by decide +kernel
theorem dX1_copyFrom_65 : decode cX1_copyFrom 65 = .ok (.getfield 28, 3) := by decide +kernel
theorem dX1_copyFrom_68 : decode cX1_copyFrom 68 = .ok (.iload_n 2, 1) := by decide +kernel
theorem dX1_copyFrom_69 : decode cX1_copyFrom 69 = .ok (.aload_n 1, 1) := by decide +kernel
theorem dX1_copyFrom_70 : decode cX1_copyFrom 70 = .ok (.getfield 28, 3) := by decide +kernel
theorem dX1_copyFrom_73 : decode cX1_copyFrom 73 = .ok (.iload_n 2, 1) := by decide +kernel
theorem dX1_copyFrom_74 : decode cX1_copyFrom 74 = .ok (.iaload, 1) := by decide +kernel
theorem dX1_copyFrom_75 : decode cX1_copyFrom 75 = .ok (.iastore, 1) := by decide +kernel
theorem dX1_copyFrom_76 : decode cX1_copyFrom 76 = .ok (.aload_n 0, 1) := by decide +kernel
theorem dX1_copyFrom_77 : decode cX1_copyFrom 77 = .ok (.getfield 31, 3) := by decide +kernel
theorem dX1_copyFrom_80 : decode cX1_copyFrom 80 = .ok (.iload_n 2, 1) := by decide +kernel
theorem dX1_copyFrom_81 : decode cX1_copyFrom 81 = .ok (.aload_n 1, 1) := by decide +kernel
theorem dX1_copyFrom_82 : decode cX1_copyFrom 82 = .ok (.getfield 31, 3) := by decide +kernel
theorem dX1_copyFrom_85 : decode cX1_copyFrom 85 = .ok (.iload_n 2, 1) := by decide +kernel
theorem dX1_copyFrom_86 : decode cX1_copyFrom 86 = .ok (.iaload, 1) := by decide +kernel
theorem dX1_copyFrom_87 : decode cX1_copyFrom 87 = .ok (.iastore, 1) := by decide +kernel
theorem dX1_copyFrom_88 : decode cX1_copyFrom 88 = .ok (.aload_n 0, 1) := by decide +kernel
theorem dX1_copyFrom_89 : decode cX1_copyFrom 89 = .ok (.getfield 34, 3) := by decide +kernel
theorem dX1_copyFrom_92 : decode cX1_copyFrom 92 = .ok (.iload_n 2, 1) := by decide +kernel
theorem dX1_copyFrom_93 : decode cX1_copyFrom 93 = .ok (.aload_n 1, 1) := by decide +kernel
theorem dX1_copyFrom_94 : decode cX1_copyFrom 94 = .ok (.getfield 34, 3) := by decide +kernel
theorem dX1_copyFrom_97 : decode cX1_copyFrom 97 = .ok (.iload_n 2, 1) := by decide +kernel
theorem dX1_copyFrom_98 : decode cX1_copyFrom 98 = .ok (.iaload, 1) := by decide +kernel
theorem dX1_copyFrom_99 : decode cX1_copyFrom 99 = .ok (.iastore, 1) := by decide +kernel
theorem dX1_copyFrom_100 : decode cX1_copyFrom 100 = .ok (.aload_n 0, 1) := by decide +kernel
theorem dX1_copyFrom_101 : decode cX1_copyFrom 101 = .ok (.getfield 37, 3) := by decide +kernel
theorem dX1_copyFrom_104 : decode cX1_copyFrom 104 = .ok (.iload_n 2, 1) := by decide +kernel
theorem dX1_copyFrom_105 : decode cX1_copyFrom 105 = .ok (.aload_n 1, 1) := by decide +kernel
theorem dX1_copyFrom_106 : decode cX1_copyFrom 106 = .ok (.getfield 37, 3) := by decide +kernel
theorem dX1_copyFrom_109 : decode cX1_copyFrom 109 = .ok (.iload_n 2, 1) := by decide +kernel
theorem dX1_copyFrom_110 : decode cX1_copyFrom 110 = .ok (.iaload, 1) := by decide +kernel
theorem dX1_copyFrom_111 : decode cX1_copyFrom 111 = .ok (.iastore, 1) := by decide +kernel
theorem dX1_copyFrom_112 : decode cX1_copyFrom 112 = .ok (.aload_n 0, 1) := by decide +kernel
theorem dX1_copyFrom_113 : decode cX1_copyFrom 113 = .ok (.getfield 40, 3) := by decide +kernel
theorem dX1_copyFrom_116 : decode cX1_copyFrom 116 = .ok (.iload_n 2, 1) := by decide +kernel
theorem dX1_copyFrom_117 : decode cX1_copyFrom 117 = .ok (.aload_n 1, 1) := by decide +kernel
theorem dX1_copyFrom_118 : decode cX1_copyFrom 118 = .ok (.getfield 40, 3) := by decide +kernel
theorem dX1_copyFrom_121 : decode cX1_copyFrom 121 = .ok (.iload_n 2, 1) := by decide +kernel
theorem dX1_copyFrom_122 : decode cX1_copyFrom 122 = .ok (.iaload, 1) := by decide +kernel
theorem dX1_copyFrom_123 : decode cX1_copyFrom 123 = .ok (.iastore, 1) := by decide +kernel
theorem dX1_copyFrom_124 : decode cX1_copyFrom 124 = .ok (.aload_n 0, 1) := by decide +kernel
theorem dX1_copyFrom_125 : decode cX1_copyFrom 125 = .ok (.getfield 43, 3) := by decide +kernel
theorem dX1_copyFrom_128 : decode cX1_copyFrom 128 = .ok (.iload_n 2, 1) := by decide +kernel
theorem dX1_copyFrom_129 : decode cX1_copyFrom 129 = .ok (.aload_n 1, 1) := by decide +kernel
theorem dX1_copyFrom_130 : decode cX1_copyFrom 130 = .ok (.getfield 43, 3) := by decide +kernel
theorem dX1_copyFrom_133 : decode cX1_copyFrom 133 = .ok (.iload_n 2, 1) := by decide +kernel
theorem dX1_copyFrom_134 : decode cX1_copyFrom 134 = .ok (.iaload, 1) := by decide +kernel
theorem dX1_copyFrom_135 : decode cX1_copyFrom 135 = .ok (.iastore, 1) := by decide +kernel
theorem dX1_copyFrom_136 : decode cX1_copyFrom 136 = .ok (.iinc 2 1, 3) := by decide +kernel
theorem dX1_copyFrom_139 : decode cX1_copyFrom 139 = .ok (.goto (-129), 3) := by decide +kernel
theorem dX1_copyFrom_142 : decode cX1_copyFrom 142 = .ok (.aload_n 1, 1) := by decide +kernel
theorem dX1_copyFrom_143 : decode cX1_copyFrom 143 = .ok (.getfield 46, 3) := by decide +kernel
theorem dX1_copyFrom_146 : decode cX1_copyFrom 146 = .ok (.iconst 0, 1) := by decide +kernel
theorem dX1_copyFrom_147 : decode cX1_copyFrom 147 = .ok (.aload_n 0, 1) := by decide +kernel
theorem dX1_copyFrom_148 : decode cX1_copyFrom 148 = .ok (.getfield 46, 3) := by decide +kernel
theorem dX1_copyFrom_151 : decode cX1_copyFrom 151 = .ok (.iconst 0, 1) := by decide +kernel
theorem dX1_copyFrom_152 : decode cX1_copyFrom 152 = .ok (.bipush 24, 2) := by decide +kernel
theorem dX1_copyFrom_154 : decode cX1_copyFrom 154 = .ok (.invokestatic 65, 3) := by decide +kernel
theorem dX1_copyFrom_157 : decode cX1_copyFrom 157 = .ok (.return_, 1) := by decide +kernel
theorem dX2_init_0 : decode cX2_init 0 = .ok (.aload_n 0, 1) := by decide +kernel
theorem dX2_init_1 : decode cX2_init 1 = .ok (.invokespecial 3, 3) := by decide +kernel
theorem dX2_init_4 : decode cX2_init 4 = .ok (.aload_n 0, 1) := by decide +kernel
theorem dX2_init_5 : decode cX2_init 5 = .ok (.new 9, 3) := by decide +kernel
theorem dX2_init_8 : decode cX2_init 8 = .ok (.dup, 1) := by decide +kernel
theorem dX2_init_9 : decode cX2_init 9 = .ok (.invokespecial 11, 3) := by decide +kernel
theorem dX2_init_12 : decode cX2_init 12 = .ok (.putfield 12, 3) := by decide +kernel
theorem dX2_init_15 : decode cX2_init 15 = .ok (.aload_n 0, 1) := by decide +kernel
theorem dX2_init_16 : decode cX2_init 16 = .ok (.iconst 5, 1) := by decide +kernel
theorem dX2_init_17 : decode cX2_init 17 = .ok (.newarray .boolean, 2) := by decide +kernel
theorem dX2_init_19 : decode cX2_init 19 = .ok (.putfield 18, 3) := by decide +kernel
theorem dX2_init_22 : decode cX2_init 22 = .ok (.aload_n 0, 1) := by decide +kernel
theorem dX2_init_23 : decode cX2_init 23 = .ok (.iconst 0, 1) := by decide +kernel
theorem dX2_init_24 : decode cX2_init 24 = .ok (.putfield 22, 3) := by decide +kernel
theorem dX2_init_27 : decode cX2_init 27 = .ok (.aload_n 0, 1) := by decide +kernel
theorem dX2_init_28 : decode cX2_init 28 = .ok (.iconst 0, 1) := by decide +kernel
theorem dX2_init_29 : decode cX2_init 29 = .ok (.putfield 26, 3) := by decide +kernel
theorem dX2_init_32 : decode cX2_init 32 = .ok (.aload_n 0, 1) := by decide +kernel
theorem dX2_init_33 : decode cX2_init 33 = .ok (.iconst (-1), 1) := by decide +kernel
theorem dX2_init_34 : decode cX2_init 34 = .ok (.putfield 29, 3) := by decide +kernel
theorem dX2_init_37 : decode cX2_init 37 = .ok (.return_, 1) := by decide +kernel
theorem dX2_readText_0 : decode cX2_readText 0 = .ok (.aload_n 0, 1) := by decide +kernel
theorem dX2_readText_1 : decode cX2_readText 1 = .ok (.iconst 0, 1) := by decide +kernel
theorem dX2_readText_2 : decode cX2_readText 2 = .ok (.putfield 22, 3) := by decide +kernel
theorem dX2_readText_5 : decode cX2_readText 5 = .ok (.aload_n 3, 1) := by decide +kernel
theorem dX2_readText_6 : decode cX2_readText 6 = .ok (.invokevirtual 32, 3) := by decide +kernel
theorem dX2_readText_9 : decode cX2_readText 9 = .ok (.iconst 0, 1) := by decide +kernel
theorem dX2_readText_10 : decode cX2_readText 10 = .ok (.istore 4, 2) := by decide +kernel
theorem dX2_readText_12 : decode cX2_readText 12 = .ok (.iload 4, 2) := by decide +kernel
theorem dX2_readText_14 : decode cX2_readText 14 = .ok (.iconst 5, 1) := by decide +kernel
theorem dX2_readText_15 : decode cX2_readText 15 = .ok (.if_icmp .ge 17, 3) := by decide +kernel
theorem dX2_readText_18 : decode cX2_readText 18 = .ok (.aload_n 0, 1) := by decide +kernel
theorem dX2_readText_19 : decode cX2_readText 19 = .ok (.getfield 18, 3) := by decide +kernel
theorem dX2_readText_22 : decode cX2_readText 22 = .ok (.iload 4, 2) := by decide +kernel
theorem dX2_readText_24 : decode cX2_readText 24 = .ok (.iconst 0, 1) := by decide +kernel
theorem dX2_readText_25 : decode cX2_readText 25 = .ok (.bastore, 1) := by decide +kernel
theorem dX2_readText_26 : decode cX2_readText 26 = .ok (.iinc 4 1, 3) := by decide +kernel
theorem dX2_readText_29 : decode cX2_readText 29 = .ok (.goto (-17), 3) := by decide +kernel
theorem dX2_readText_32 : decode cX2_readText 32 = .ok (.aload_n 0, 1) := by decide +kernel
theorem dX2_readText_33 : decode cX2_readText 33 = .ok (.getfield 12, 3) := by decide +kernel
theorem dX2_readText_36 : decode cX2_readText 36 = .ok (.aload_n 1, 1) := by decide +kernel
theorem dX2_readText_37 : decode cX2_readText 37 = .ok (.iload_n 2, 1) := by decide +kernel
theorem dX2_readText_38 : decode cX2_readText 38 = .ok (.invokevirtual 37, 3) := by decide +kernel
theorem dX2_readText_41 : decode cX2_readText 41 = .ok (.iconst 0, 1) := by decide +kernel
theorem dX2_readText_42 : decode cX2_readText 42 = .ok (.istore 4, 2) := by decide +kernel
theorem dX2_readText_44 : decode cX2_readText 44 = .ok (.iload 4, 2) := by decide +kernel
theorem dX2_readText_46 : decode cX2_readText 46 = .ok (.iload_n 2, 1) := by decide +kernel
theorem dX2_readText_47 : decode cX2_readText 47 = .ok (.if_icmp .gt 41, 3) := by decide +kernel
theorem dX2_readText_50 : decode cX2_readText 50 = .ok (.aload_n 0, 1) := by decide +kernel
theorem dX2_readText_51 : decode cX2_readText 51 = .ok (.getfield 22, 3) := by decide +kernel
theorem dX2_readText_54 : decode cX2_readText 54 = .ok (.ifCond .ne 34, 3) := by decide +kernel
theorem dX2_readText_57 : decode cX2_readText 57 = .ok (.aload_n 0, 1) := by decide +kernel
theorem dX2_readText_58 : decode cX2_readText 58 = .ok (.getfield 12, 3) := by decide +kernel
theorem dX2_readText_61 : decode cX2_readText 61 = .ok (.getfield 41, 3) := by decide +kernel
theorem dX2_readText_64 : decode cX2_readText 64 = .ok (.ifCond .eq 24, 3) := by decide +kernel
theorem dX2_readText_67 : decode cX2_readText 67 = .ok (.aload_n 0, 1) := by decide +kernel
theorem dX2_readText_68 : decode cX2_readText 68 = .ok (.aload_n 3, 1) := by decide +kernel
theorem dX2_readText_69 : decode cX2_readText 69 = .ok (.invokevirtual 44, 3) := by decide +kernel
theorem dX2_readText_72 : decode cX2_readText 72 = .ok (.ifCond .eq 10, 3) := by decide +kernel
theorem dX2_readText_75 : decode cX2_readText 75 = .ok (.aload_n 0, 1) := by decide +kernel
theorem dX2_readText_76 : decode cX2_readText 76 = .ok (.bipush 59, 2) := by decide +kernel
theorem dX2_readText_78 : decode cX2_readText 78 = .ok (.invokevirtual 48, 3) := by decide +kernel
theorem dX2_readText_81 : decode cX2_readText 81 = .ok (.pop, 1) := by decide +kernel
theorem dX2_readText_82 : decode cX2_readText 82 = .ok (.iinc 4 1, 3) := by decide +kernel
theorem dX2_readText_85 : decode cX2_readText 85 = .ok (.goto (-41), 3) := by decide +kernel
theorem dX2_readText_88 : decode cX2_readText 88 = .ok (.aload_n 0, 1) := by decide +kernel
theorem dX2_readText_89 : decode cX2_readText 89 = .ok (.getfield 22, 3) := by decide +kernel
theorem dX2_readText_92 : decode cX2_readText 92 = .ok (.ireturn, 1) := by decide +kernel
theorem dX2_refuse_0 : decode cX2_refuse 0 = .ok (.aload_n 0, 1) := by decide +kernel
theorem dX2_refuse_1 : decode cX2_refuse 1 = .ok (.iload_n 1, 1) := by decide +kernel
theorem dX2_refuse_2 : decode cX2_refuse 2 = .ok (.putfield 22, 3) := by decide +kernel
theorem dX2_refuse_5 : decode cX2_refuse 5 = .ok (.aload_n 0, 1) := by decide +kernel
theorem dX2_refuse_6 : decode cX2_refuse 6 = .ok (.aload_n 0, 1) := by decide +kernel
theorem dX2_refuse_7 : decode cX2_refuse 7 = .ok (.getfield 12, 3) := by decide +kernel
theorem dX2_refuse_10 : decode cX2_refuse 10 = .ok (.getfield 52, 3) := by decide +kernel
theorem dX2_refuse_13 : decode cX2_refuse 13 = .ok (.putfield 29, 3) := by decide +kernel
theorem dX2_refuse_16 : decode cX2_refuse 16 = .ok (.iconst 0, 1) := by decide +kernel
theorem dX2_refuse_17 : decode cX2_refuse 17 = .ok (.ireturn, 1) := by decide +kernel
theorem dX2_takeSign_0 : decode cX2_takeSign 0 = .ok (.aload_n 0, 1) := by decide +kernel
theorem dX2_takeSign_1 : decode cX2_takeSign 1 = .ok (.getfield 12, 3) := by decide +kernel
theorem dX2_takeSign_4 : decode cX2_takeSign 4 = .ok (.getfield 41, 3) := by decide +kernel
theorem dX2_takeSign_7 : decode cX2_takeSign 7 = .ok (.iload_n 1, 1) := by decide +kernel
theorem dX2_takeSign_8 : decode cX2_takeSign 8 = .ok (.if_icmp .eq 9, 3) := by decide +kernel
theorem dX2_takeSign_11 : decode cX2_takeSign 11 = .ok (.aload_n 0, 1) := by decide +kernel
theorem dX2_takeSign_12 : decode cX2_takeSign 12 = .ok (.iconst 1, 1) := by decide +kernel
theorem dX2_takeSign_13 : decode cX2_takeSign 13 = .ok (.invokevirtual 55, 3) := by decide +kernel
theorem dX2_takeSign_16 : decode cX2_takeSign 16 = .ok (.ireturn, 1) := by decide +kernel
theorem dX2_takeSign_17 : decode cX2_takeSign 17 = .ok (.aload_n 0, 1) := by decide +kernel
theorem dX2_takeSign_18 : decode cX2_takeSign 18 = .ok (.getfield 12, 3) := by decide +kernel
theorem dX2_takeSign_21 : decode cX2_takeSign 21 = .ok (.invokevirtual 58, 3) := by decide +kernel
theorem dX2_takeSign_24 : decode cX2_takeSign 24 = .ok (.iconst 1, 1) := by decide +kernel
theorem dX2_takeSign_25 : decode cX2_takeSign 25 = .ok (.ireturn, 1) := by decide +kernel
theorem dX2_isNumber_0 : decode cX2_isNumber 0 = .ok (.aload_n 0, 1) := by decide +kernel
theorem dX2_isNumber_1 : decode cX2_isNumber 1 = .ok (.getfield 12, 3) := by decide +kernel
theorem dX2_isNumber_4 : decode cX2_isNumber 4 = .ok (.getfield 41, 3) := by decide +kernel
theorem dX2_isNumber_7 : decode cX2_isNumber 7 = .ok (.iconst 2, 1) := by decide +kernel
theorem dX2_isNumber_8 : decode cX2_isNumber 8 = .ok (.if_icmp .eq 9, 3) := by decide +kernel
theorem dX2_isNumber_11 : decode cX2_isNumber 11 = .ok (.aload_n 0, 1) := by decide +kernel
theorem dX2_isNumber_12 : decode cX2_isNumber 12 = .ok (.iconst 1, 1) := by decide +kernel
theorem dX2_isNumber_13 : decode cX2_isNumber 13 = .ok (.invokevirtual 55, 3) := by decide +kernel
theorem dX2_isNumber_16 : decode cX2_isNumber 16 = .ok (.ireturn, 1) := by decide +kernel
theorem dX2_isNumber_17 : decode cX2_isNumber 17 = .ok (.aload_n 0, 1) := by decide +kernel
theorem dX2_isNumber_18 : decode cX2_isNumber 18 = .ok (.getfield 12, 3) := by decide +kernel
theorem dX2_isNumber_21 : decode cX2_isNumber 21 = .ok (.getfield 61, 3) := by decide +kernel
theorem dX2_isNumber_24 : decode cX2_isNumber 24 = .ok (.iload_n 1, 1) := by decide +kernel
theorem dX2_isNumber_25 : decode cX2_isNumber 25 = .ok (.if_icmp .lt 14, 3) := by decide +kernel
theorem dX2_isNumber_28 : decode cX2_isNumber 28 = .ok (.aload_n 0, 1) := by decide +kernel
theorem dX2_isNumber_29 : decode cX2_isNumber 29 = .ok (.getfield 12, 3) := by decide +kernel
theorem dX2_isNumber_32 : decode cX2_isNumber 32 = .ok (.getfield 61, 3) := by decide +kernel
theorem dX2_isNumber_35 : decode cX2_isNumber 35 = .ok (.iload_n 2, 1) := by decide +kernel
theorem dX2_isNumber_36 : decode cX2_isNumber 36 = .ok (.if_icmp .le 9, 3) := by decide +kernel
theorem dX2_isNumber_39 : decode cX2_isNumber 39 = .ok (.aload_n 0, 1) := by decide +kernel
theorem dX2_isNumber_40 : decode cX2_isNumber 40 = .ok (.iconst 2, 1) := by decide +kernel
theorem dX2_isNumber_41 : decode cX2_isNumber 41 = .ok (.invokevirtual 55, 3) := by decide +kernel
theorem dX2_isNumber_44 : decode cX2_isNumber 44 = .ok (.ireturn, 1) := by decide +kernel
theorem dX2_isNumber_45 : decode cX2_isNumber 45 = .ok (.aload_n 0, 1) := by decide +kernel
theorem dX2_isNumber_46 : decode cX2_isNumber 46 = .ok (.aload_n 0, 1) := by decide +kernel
theorem dX2_isNumber_47 : decode cX2_isNumber 47 = .ok (.getfield 12, 3) := by decide +kernel
theorem dX2_isNumber_50 : decode cX2_isNumber 50 = .ok (.getfield 61, 3) := by decide +kernel
theorem dX2_isNumber_53 : decode cX2_isNumber 53 = .ok (.putfield 26, 3) := by decide +kernel
theorem dX2_isNumber_56 : decode cX2_isNumber 56 = .ok (.iconst 1, 1) := by decide +kernel
theorem dX2_isNumber_57 : decode cX2_isNumber 57 = .ok (.ireturn, 1) := by decide +kernel
theorem dX2_takeNumber_0 : decode cX2_takeNumber 0 = .ok (.aload_n 0, 1) := by decide +kernel
theorem dX2_takeNumber_1 : decode cX2_takeNumber 1 = .ok (.iload_n 1, 1) := by decide +kernel
theorem dX2_takeNumber_2 : decode cX2_takeNumber 2 = .ok (.iload_n 2, 1) := by decide +kernel
theorem dX2_takeNumber_3 : decode cX2_takeNumber 3 = .ok (.invokevirtual 64, 3) := by decide +kernel
theorem dX2_takeNumber_6 : decode cX2_takeNumber 6 = .ok (.ifCond .ne 5, 3) := by decide +kernel
theorem dX2_takeNumber_9 : decode cX2_takeNumber 9 = .ok (.iconst 0, 1) := by decide +kernel
theorem dX2_takeNumber_10 : decode cX2_takeNumber 10 = .ok (.ireturn, 1) := by decide +kernel
theorem dX2_takeNumber_11 : decode cX2_takeNumber 11 = .ok (.aload_n 0, 1) := by decide +kernel
theorem dX2_takeNumber_12 : decode cX2_takeNumber 12 = .ok (.getfield 12, 3) := by decide +kernel
theorem dX2_takeNumber_15 : decode cX2_takeNumber 15 = .ok (.invokevirtual 58, 3) := by decide +kernel
theorem dX2_takeNumber_18 : decode cX2_takeNumber 18 = .ok (.iconst 1, 1) := by decide +kernel
theorem dX2_takeNumber_19 : decode cX2_takeNumber 19 = .ok (.ireturn, 1) := by decide +kernel
theorem dX2_takeSigned_0 : decode cX2_takeSigned 0 = .ok (.aload_n 0, 1) := by decide +kernel
theorem dX2_takeSigned_1 : decode cX2_takeSigned 1 = .ok (.getfield 12, 3) := by decide +kernel
theorem dX2_takeSigned_4 : decode cX2_takeSigned 4 = .ok (.getfield 41, 3) := by decide +kernel
theorem dX2_takeSigned_7 : decode cX2_takeSigned 7 = .ok (.bipush 45, 2) := by decide +kernel
theorem dX2_takeSigned_9 : decode cX2_takeSigned 9 = .ok (.if_icmp .ne 7, 3) := by decide +kernel
theorem dX2_takeSigned_12 : decode cX2_takeSigned 12 = .ok (.iconst 1, 1) := by decide +kernel
theorem dX2_takeSigned_13 : decode cX2_takeSigned 13 = .ok (.goto 4, 3) := by decide +kernel
theorem dX2_takeSigned_16 : decode cX2_takeSigned 16 = .ok (.iconst 0, 1) := by decide +kernel
theorem dX2_takeSigned_17 : decode cX2_takeSigned 17 = .ok (.istore_n 1, 1) := by decide +kernel
theorem dX2_takeSigned_18 : decode cX2_takeSigned 18 = .ok (.iload_n 1, 1) := by decide +kernel
theorem dX2_takeSigned_19 : decode cX2_takeSigned 19 = .ok (.ifCond .eq 10, 3) := by decide +kernel
theorem dX2_takeSigned_22 : decode cX2_takeSigned 22 = .ok (.aload_n 0, 1) := by decide +kernel
theorem dX2_takeSigned_23 : decode cX2_takeSigned 23 = .ok (.getfield 12, 3) := by decide +kernel
theorem dX2_takeSigned_26 : decode cX2_takeSigned 26 = .ok (.invokevirtual 58, 3) := by decide +kernel
theorem dX2_takeSigned_29 : decode cX2_takeSigned 29 = .ok (.aload_n 0, 1) := by decide +kernel
theorem dX2_takeSigned_30 : decode cX2_takeSigned 30 = .ok (.iconst 0, 1) := by decide +kernel
theorem dX2_takeSigned_31 : decode cX2_takeSigned 31 = .ok (.bipush 9, 2) := by decide +kernel
theorem dX2_takeSigned_33 : decode cX2_takeSigned 33 = .ok (.invokevirtual 68, 3) := by decide +kernel
theorem dX2_takeSigned_36 : decode cX2_takeSigned 36 = .ok (.ifCond .ne 5, 3) := by decide +kernel
theorem dX2_takeSigned_39 : decode cX2_takeSigned 39 = .ok (.iconst 0, 1) := by decide +kernel
theorem dX2_takeSigned_40 : decode cX2_takeSigned 40 = .ok (.ireturn, 1) := by decide +kernel
theorem dX2_takeSigned_41 : decode cX2_takeSigned 41 = .ok (.aload_n 0, 1) := by decide +kernel
theorem dX2_takeSigned_42 : decode cX2_takeSigned 42 = .ok (.iload_n 1, 1) := by decide +kernel
theorem dX2_takeSigned_43 : decode cX2_takeSigned 43 = .ok (.ifCond .eq 11, 3) := by decide +kernel
theorem dX2_takeSigned_46 : decode cX2_takeSigned 46 = .ok (.aload_n 0, 1) := by decide +kernel
theorem dX2_takeSigned_47 : decode cX2_takeSigned 47 = .ok (.getfield 26, 3) := by decide +kernel
theorem dX2_takeSigned_50 : decode cX2_takeSigned 50 = .ok (.ineg, 1) := by decide +kernel
theorem dX2_takeSigned_51 : decode cX2_takeSigned 51 = .ok (.goto 7, 3) := by decide +kernel
theorem dX2_takeSigned_54 : decode cX2_takeSigned 54 = .ok (.aload_n 0, 1) := by decide +kernel
theorem dX2_takeSigned_55 : decode cX2_takeSigned 55 = .ok (.getfield 26, 3) := by decide +kernel
theorem dX2_takeSigned_58 : decode cX2_takeSigned 58 = .ok (.putfield 26, 3) := by decide +kernel
theorem dX2_takeSigned_61 : decode cX2_takeSigned 61 = .ok (.iconst 1, 1) := by decide +kernel
theorem dX2_takeSigned_62 : decode cX2_takeSigned 62 = .ok (.ireturn, 1) := by decide +kernel
theorem dX2_readLine_0 : decode cX2_readLine 0 = .ok (.aload_n 0, 1) := by decide +kernel
theorem dX2_readLine_1 : decode cX2_readLine 1 = .ok (.getfield 12, 3) := by decide +kernel
theorem dX2_readLine_4 : decode cX2_readLine 4 = .ok (.ldc 71, 2) := by decide +kernel
theorem dX2_readLine_6 : decode cX2_readLine 6 = .ok (.invokevirtual 73, 3) := by decide +kernel
theorem dX2_readLine_9 : decode cX2_readLine 9 = .ok (.istore_n 2, 1) := by decide +kernel
theorem dX2_readLine_10 : decode cX2_readLine 10 = .ok (.iload_n 2, 1) := by decide +kernel
theorem dX2_readLine_11 : decode cX2_readLine 11 = .ok (.iconst (-1), 1) := by decide +kernel
theorem dX2_readLine_12 : decode cX2_readLine 12 = .ok (.if_icmp .ne 9, 3) := by decide +kernel
theorem dX2_readLine_15 : decode cX2_readLine 15 = .ok (.aload_n 0, 1) := by decide +kernel
theorem dX2_readLine_16 : decode cX2_readLine 16 = .ok (.iconst 1, 1) := by decide +kernel
theorem dX2_readLine_17 : decode cX2_readLine 17 = .ok (.invokevirtual 55, 3) := by decide +kernel
theorem dX2_readLine_20 : decode cX2_readLine 20 = .ok (.ireturn, 1) := by decide +kernel
theorem dX2_readLine_21 : decode cX2_readLine 21 = .ok (.iload_n 2, 1) := by decide +kernel
theorem dX2_readLine_22 : decode cX2_readLine 22 = .ok (.iconst 4, 1) := by decide +kernel
theorem dX2_readLine_23 : decode cX2_readLine 23 = .ok (.isub, 1) := by decide +kernel
theorem dX2_readLine_24 : decode cX2_readLine 24 = .ok (.istore_n 3, 1) := by decide +kernel
theorem dX2_readLine_25 : decode cX2_readLine 25 = .ok (.iload_n 3, 1) := by decide +kernel
theorem dX2_readLine_26 : decode cX2_readLine 26 = .ok (.ifCond .lt 30, 3) := by decide +kernel
theorem dX2_readLine_29 : decode cX2_readLine 29 = .ok (.iload_n 3, 1) := by decide +kernel
theorem dX2_readLine_30 : decode cX2_readLine 30 = .ok (.iconst 5, 1) := by decide +kernel
theorem dX2_readLine_31 : decode cX2_readLine 31 = .ok (.if_icmp .ge 25, 3) := by decide +kernel
theorem dX2_readLine_34 : decode cX2_readLine 34 = .ok (.aload_n 0, 1) := by decide +kernel
theorem dX2_readLine_35 : decode cX2_readLine 35 = .ok (.getfield 18, 3) := by decide +kernel
theorem dX2_readLine_38 : decode cX2_readLine 38 = .ok (.iload_n 3, 1) := by decide +kernel
theorem dX2_readLine_39 : decode cX2_readLine 39 = .ok (.baload, 1) := by decide +kernel
theorem dX2_readLine_40 : decode cX2_readLine 40 = .ok (.ifCond .eq 9, 3) := by decide +kernel
theorem dX2_readLine_43 : decode cX2_readLine 43 = .ok (.aload_n 0, 1) := by decide +kernel
theorem dX2_readLine_44 : decode cX2_readLine 44 = .ok (.iconst 5, 1) := by decide +kernel
theorem dX2_readLine_45 : decode cX2_readLine 45 = .ok (.invokevirtual 55, 3) := by decide +kernel
theorem dX2_readLine_48 : decode cX2_readLine 48 = .ok (.ireturn, 1) := by decide +kernel
theorem dX2_readLine_49 : decode cX2_readLine 49 = .ok (.aload_n 0, 1) := by decide +kernel
theorem dX2_readLine_50 : decode cX2_readLine 50 = .ok (.getfield 18, 3) := by decide +kernel
theorem dX2_readLine_53 : decode cX2_readLine 53 = .ok (.iload_n 3, 1) := by decide +kernel
theorem dX2_readLine_54 : decode cX2_readLine 54 = .ok (.iconst 1, 1) := by decide +kernel
theorem dX2_readLine_55 : decode cX2_readLine 55 = .ok (.bastore, 1) := by decide +kernel
theorem dX2_readLine_56 : decode cX2_readLine 56 = .ok (.iload_n 2, 1) := by decide +kernel
theorem dX2_readLine_57 : decode cX2_readLine 57 = .ok (.tableswitch 78 3 8 #[39, 45, 51, 57, 63, 69], 39) := by decide +kernel
theorem dX2_readLine_96 : decode cX2_readLine 96 = .ok (.aload_n 0, 1) := by decide +kernel
theorem dX2_readLine_97 : decode cX2_readLine 97 = .ok (.aload_n 1, 1) := by decide +kernel
theorem dX2_readLine_98 : decode cX2_readLine 98 = .ok (.invokevirtual 77, 3) := by decide +kernel
theorem dX2_readLine_101 : decode cX2_readLine 101 = .ok (.ireturn, 1) := by decide +kernel
theorem dX2_readLine_102 : decode cX2_readLine 102 = .ok (.aload_n 0, 1) := by decide +kernel
theorem dX2_readLine_103 : decode cX2_readLine 103 = .ok (.aload_n 1, 1) := by decide +kernel
theorem dX2_readLine_104 : decode cX2_readLine 104 = .ok (.invokevirtual 80, 3) := by decide +kernel
theorem dX2_readLine_107 : decode cX2_readLine 107 = .ok (.ireturn, 1) := by decide +kernel
theorem dX2_readLine_108 : decode cX2_readLine 108 = .ok (.aload_n 0, 1) := by decide +kernel
theorem dX2_readLine_109 : decode cX2_readLine 109 = .ok (.aload_n 1, 1) := by decide +kernel
theorem dX2_readLine_110 : decode cX2_readLine 110 = .ok (.invokevirtual 83, 3) := by decide +kernel
theorem dX2_readLine_113 : decode cX2_readLine 113 = .ok (.ireturn, 1) := by decide +kernel
theorem dX2_readLine_114 : decode cX2_readLine 114 = .ok (.aload_n 0, 1) := by decide +kernel
theorem dX2_readLine_115 : decode cX2_readLine 115 = .ok (.aload_n 1, 1) := by decide +kernel
theorem dX2_readLine_116 : decode cX2_readLine 116 = .ok (.invokevirtual 86, 3) := by decide +kernel
theorem dX2_readLine_119 : decode cX2_readLine 119 = .ok (.ireturn, 1) := by decide +kernel
theorem dX2_readLine_120 : decode cX2_readLine 120 = .ok (.aload_n 0, 1) := by decide +kernel
theorem dX2_readLine_121 : decode cX2_readLine 121 = .ok (.aload_n 1, 1) := by decide +kernel
theorem dX2_readLine_122 : decode cX2_readLine 122 = .ok (.invokevirtual 89, 3) := by decide +kernel
theorem dX2_readLine_125 : decode cX2_readLine 125 = .ok (.ireturn, 1) := by decide +kernel
theorem dX2_readLine_126 : decode cX2_readLine 126 = .ok (.aload_n 0, 1) := by decide +kernel
theorem dX2_readLine_127 : decode cX2_readLine 127 = .ok (.aload_n 1, 1) := by decide +kernel
theorem dX2_readLine_128 : decode cX2_readLine 128 = .ok (.getfield 92, 3) := by decide +kernel
theorem dX2_readLine_131 : decode cX2_readLine 131 = .ok (.invokevirtual 96, 3) := by decide +kernel
theorem dX2_readLine_134 : decode cX2_readLine 134 = .ok (.ireturn, 1) := by decide +kernel
theorem dX2_readLine_135 : decode cX2_readLine 135 = .ok (.aload_n 0, 1) := by decide +kernel
theorem dX2_readLine_136 : decode cX2_readLine 136 = .ok (.aload_n 1, 1) := by decide +kernel
theorem dX2_readLine_137 : decode cX2_readLine 137 = .ok (.getfield 100, 3) := by decide +kernel
theorem dX2_readLine_140 : decode cX2_readLine 140 = .ok (.iload_n 2, 1) := by decide +kernel
theorem dX2_readLine_141 : decode cX2_readLine 141 = .ok (.invokevirtual 104, 3) := by decide +kernel
theorem dX2_readLine_144 : decode cX2_readLine 144 = .ok (.ireturn, 1) := by decide +kernel
theorem dX2_readIsle_0 : decode cX2_readIsle 0 = .ok (.aload_n 1, 1) := by decide +kernel
theorem dX2_readIsle_1 : decode cX2_readIsle 1 = .ok (.getfield 108, 3) := by decide +kernel
theorem dX2_readIsle_4 : decode cX2_readIsle 4 = .ok (.istore_n 3, 1) := by decide +kernel
theorem dX2_readIsle_5 : decode cX2_readIsle 5 = .ok (.iload_n 3, 1) := by decide +kernel
theorem dX2_readIsle_6 : decode cX2_readIsle 6 = .ok (.bipush 6, 2) := by decide +kernel
theorem dX2_readIsle_8 : decode cX2_readIsle 8 = .ok (.if_icmp .lt 9, 3) := by decide +kernel
theorem dX2_readIsle_11 : decode cX2_readIsle 11 = .ok (.aload_n 0, 1) := by decide +kernel
theorem dX2_readIsle_12 : decode cX2_readIsle 12 = .ok (.iconst 2, 1) := by decide +kernel
theorem dX2_readIsle_13 : decode cX2_readIsle 13 = .ok (.invokevirtual 55, 3) := by decide +kernel
theorem dX2_readIsle_16 : decode cX2_readIsle 16 = .ok (.ireturn, 1) := by decide +kernel
theorem dX2_readIsle_17 : decode cX2_readIsle 17 = .ok (.aload_n 0, 1) := by decide +kernel
theorem dX2_readIsle_18 : decode cX2_readIsle 18 = .ok (.getfield 12, 3) := by decide +kernel
theorem dX2_readIsle_21 : decode cX2_readIsle 21 = .ok (.invokevirtual 58, 3) := by decide +kernel
theorem dX2_readIsle_24 : decode cX2_readIsle 24 = .ok (.aload_n 1, 1) := by decide +kernel
theorem dX2_readIsle_25 : decode cX2_readIsle 25 = .ok (.getfield 113, 3) := by decide +kernel
theorem dX2_readIsle_28 : decode cX2_readIsle 28 = .ok (.iload_n 3, 1) := by decide +kernel
theorem dX2_readIsle_29 : decode cX2_readIsle 29 = .ok (.iload_n 2, 1) := by decide +kernel
theorem dX2_readIsle_30 : decode cX2_readIsle 30 = .ok (.iastore, 1) := by decide +kernel
theorem dX2_readIsle_31 : decode cX2_readIsle 31 = .ok (.aload_n 1, 1) := by decide +kernel
theorem dX2_readIsle_32 : decode cX2_readIsle 32 = .ok (.getfield 116, 3) := by decide +kernel
theorem dX2_readIsle_35 : decode cX2_readIsle 35 = .ok (.iload_n 3, 1) := by decide +kernel
theorem dX2_readIsle_36 : decode cX2_readIsle 36 = .ok (.iconst 0, 1) := by decide +kernel
theorem dX2_readIsle_37 : decode cX2_readIsle 37 = .ok (.iastore, 1) := by decide +kernel
theorem dX2_readIsle_38 : decode cX2_readIsle 38 = .ok (.aload_n 0, 1) := by decide +kernel
theorem dX2_readIsle_39 : decode cX2_readIsle 39 = .ok (.aload_n 1, 1) := by decide +kernel
theorem dX2_readIsle_40 : decode cX2_readIsle 40 = .ok (.iload_n 3, 1) := by decide +kernel
theorem dX2_readIsle_41 : decode cX2_readIsle 41 = .ok (.invokevirtual 119, 3) := by decide +kernel
theorem dX2_readIsle_44 : decode cX2_readIsle 44 = .ok (.ifCond .eq 21, 3) := by decide +kernel
theorem dX2_readIsle_47 : decode cX2_readIsle 47 = .ok (.aload_n 0, 1) := by decide +kernel
theorem dX2_readIsle_48 : decode cX2_readIsle 48 = .ok (.aload_n 1, 1) := by decide +kernel
theorem dX2_readIsle_49 : decode cX2_readIsle 49 = .ok (.iload_n 3, 1) := by decide +kernel
theorem dX2_readIsle_50 : decode cX2_readIsle 50 = .ok (.invokevirtual 122, 3) := by decide +kernel
theorem dX2_readIsle_53 : decode cX2_readIsle 53 = .ok (.ifCond .eq 12, 3) := by decide +kernel
theorem dX2_readIsle_56 : decode cX2_readIsle 56 = .ok (.aload_n 0, 1) := by decide +kernel
theorem dX2_readIsle_57 : decode cX2_readIsle 57 = .ok (.aload_n 1, 1) := by decide +kernel
theorem dX2_readIsle_58 : decode cX2_readIsle 58 = .ok (.iload_n 3, 1) := by decide +kernel
theorem dX2_readIsle_59 : decode cX2_readIsle 59 = .ok (.invokevirtual 125, 3) := by decide +kernel
theorem dX2_readIsle_62 : decode cX2_readIsle 62 = .ok (.ifCond .ne 5, 3) := by decide +kernel
theorem dX2_readIsle_65 : decode cX2_readIsle 65 = .ok (.iconst 0, 1) := by decide +kernel
theorem dX2_readIsle_66 : decode cX2_readIsle 66 = .ok (.ireturn, 1) := by decide +kernel
theorem dX2_readIsle_67 : decode cX2_readIsle 67 = .ok (.aload_n 1, 1) := by decide +kernel
theorem dX2_readIsle_68 : decode cX2_readIsle 68 = .ok (.dup, 1) := by decide +kernel
theorem dX2_readIsle_69 : decode cX2_readIsle 69 = .ok (.getfield 108, 3) := by decide +kernel
theorem dX2_readIsle_72 : decode cX2_readIsle 72 = .ok (.iconst 1, 1) := by decide +kernel
theorem dX2_readIsle_73 : decode cX2_readIsle 73 = .ok (.iadd, 1) := by decide +kernel
theorem dX2_readIsle_74 : decode cX2_readIsle 74 = .ok (.putfield 108, 3) := by decide +kernel
theorem dX2_readIsle_77 : decode cX2_readIsle 77 = .ok (.iconst 1, 1) := by decide +kernel
theorem dX2_readIsle_78 : decode cX2_readIsle 78 = .ok (.ireturn, 1) := by decide +kernel
theorem dX2_readPost_0 : decode cX2_readPost 0 = .ok (.aload_n 0, 1) := by decide +kernel
theorem dX2_readPost_1 : decode cX2_readPost 1 = .ok (.iconst 0, 1) := by decide +kernel
theorem dX2_readPost_2 : decode cX2_readPost 2 = .ok (.bipush 60, 2) := by decide +kernel
theorem dX2_readPost_4 : decode cX2_readPost 4 = .ok (.invokevirtual 68, 3) := by decide +kernel
theorem dX2_readPost_7 : decode cX2_readPost 7 = .ok (.ifCond .ne 5, 3) := by decide +kernel
theorem dX2_readPost_10 : decode cX2_readPost 10 = .ok (.iconst 0, 1) := by decide +kernel
theorem dX2_readPost_11 : decode cX2_readPost 11 = .ok (.ireturn, 1) := by decide +kernel
theorem dX2_readPost_12 : decode cX2_readPost 12 = .ok (.aload_n 1, 1) := by decide +kernel
theorem dX2_readPost_13 : decode cX2_readPost 13 = .ok (.getfield 128, 3) := by decide +kernel
theorem dX2_readPost_16 : decode cX2_readPost 16 = .ok (.iload_n 2, 1) := by decide +kernel
theorem dX2_readPost_17 : decode cX2_readPost 17 = .ok (.aload_n 0, 1) := by decide +kernel
theorem dX2_readPost_18 : decode cX2_readPost 18 = .ok (.getfield 26, 3) := by decide +kernel
theorem dX2_readPost_21 : decode cX2_readPost 21 = .ok (.iastore, 1) := by decide +kernel
theorem dX2_readPost_22 : decode cX2_readPost 22 = .ok (.aload_n 0, 1) := by decide +kernel
theorem dX2_readPost_23 : decode cX2_readPost 23 = .ok (.iconst 0, 1) := by decide +kernel
theorem dX2_readPost_24 : decode cX2_readPost 24 = .ok (.bipush 60, 2) := by decide +kernel
theorem dX2_readPost_26 : decode cX2_readPost 26 = .ok (.invokevirtual 64, 3) := by decide +kernel
theorem dX2_readPost_29 : decode cX2_readPost 29 = .ok (.ifCond .ne 5, 3) := by decide +kernel
theorem dX2_readPost_32 : decode cX2_readPost 32 = .ok (.iconst 0, 1) := by decide +kernel
theorem dX2_readPost_33 : decode cX2_readPost 33 = .ok (.ireturn, 1) := by decide +kernel
theorem dX2_readPost_34 : decode cX2_readPost 34 = .ok (.aload_n 1, 1) := by decide +kernel
theorem dX2_readPost_35 : decode cX2_readPost 35 = .ok (.aload_n 1, 1) := by decide +kernel
theorem dX2_readPost_36 : decode cX2_readPost 36 = .ok (.getfield 128, 3) := by decide +kernel
theorem dX2_readPost_39 : decode cX2_readPost 39 = .ok (.iload_n 2, 1) := by decide +kernel
theorem dX2_readPost_40 : decode cX2_readPost 40 = .ok (.iaload, 1) := by decide +kernel
theorem dX2_readPost_41 : decode cX2_readPost 41 = .ok (.aload_n 0, 1) := by decide +kernel
theorem dX2_readPost_42 : decode cX2_readPost 42 = .ok (.getfield 26, 3) := by decide +kernel
theorem dX2_readPost_45 : decode cX2_readPost 45 = .ok (.invokevirtual 131, 3) := by decide +kernel
theorem dX2_readPost_48 : decode cX2_readPost 48 = .ok (.ifCond .eq 9, 3) := by decide +kernel
theorem dX2_readPost_51 : decode cX2_readPost 51 = .ok (.aload_n 0, 1) := by decide +kernel
theorem dX2_readPost_52 : decode cX2_readPost 52 = .ok (.iconst 4, 1) := by decide +kernel
theorem dX2_readPost_53 : decode cX2_readPost 53 = .ok (.invokevirtual 55, 3) := by decide +kernel
theorem dX2_readPost_56 : decode cX2_readPost 56 = .ok (.ireturn, 1) := by decide +kernel
theorem dX2_readPost_57 : decode cX2_readPost 57 = .ok (.aload_n 1, 1) := by decide +kernel
theorem dX2_readPost_58 : decode cX2_readPost 58 = .ok (.getfield 134, 3) := by decide +kernel
theorem dX2_readPost_61 : decode cX2_readPost 61 = .ok (.iload_n 2, 1) := by decide +kernel
theorem dX2_readPost_62 : decode cX2_readPost 62 = .ok (.aload_n 0, 1) := by decide +kernel
theorem dX2_readPost_63 : decode cX2_readPost 63 = .ok (.getfield 26, 3) := by decide +kernel
theorem dX2_readPost_66 : decode cX2_readPost 66 = .ok (.iastore, 1) := by decide +kernel
theorem dX2_readPost_67 : decode cX2_readPost 67 = .ok (.aload_n 0, 1) := by decide +kernel
theorem dX2_readPost_68 : decode cX2_readPost 68 = .ok (.getfield 12, 3) := by decide +kernel
theorem dX2_readPost_71 : decode cX2_readPost 71 = .ok (.invokevirtual 58, 3) := by decide +kernel
theorem dX2_readPost_74 : decode cX2_readPost 74 = .ok (.iconst 1, 1) := by decide +kernel
theorem dX2_readPost_75 : decode cX2_readPost 75 = .ok (.ireturn, 1) := by decide +kernel
theorem dX2_readBuild_0 : decode cX2_readBuild 0 = .ok (.aload_n 0, 1) := by decide +kernel
theorem dX2_readBuild_1 : decode cX2_readBuild 1 = .ok (.iconst 1, 1) := by decide +kernel
theorem dX2_readBuild_2 : decode cX2_readBuild 2 = .ok (.bipush 60, 2) := by decide +kernel
theorem dX2_readBuild_4 : decode cX2_readBuild 4 = .ok (.invokevirtual 68, 3) := by decide +kernel
theorem dX2_readBuild_7 : decode cX2_readBuild 7 = .ok (.ifCond .ne 5, 3) := by decide +kernel
theorem dX2_readBuild_10 : decode cX2_readBuild 10 = .ok (.iconst 0, 1) := by decide +kernel
theorem dX2_readBuild_11 : decode cX2_readBuild 11 = .ok (.ireturn, 1) := by decide +kernel
theorem dX2_readBuild_12 : decode cX2_readBuild 12 = .ok (.aload_n 1, 1) := by decide +kernel
theorem dX2_readBuild_13 : decode cX2_readBuild 13 = .ok (.getfield 137, 3) := by decide +kernel
theorem dX2_readBuild_16 : decode cX2_readBuild 16 = .ok (.iload_n 2, 1) := by decide +kernel
theorem dX2_readBuild_17 : decode cX2_readBuild 17 = .ok (.aload_n 0, 1) := by decide +kernel
theorem dX2_readBuild_18 : decode cX2_readBuild 18 = .ok (.getfield 26, 3) := by decide +kernel
theorem dX2_readBuild_21 : decode cX2_readBuild 21 = .ok (.iastore, 1) := by decide +kernel
theorem dX2_readBuild_22 : decode cX2_readBuild 22 = .ok (.aload_n 0, 1) := by decide +kernel
theorem dX2_readBuild_23 : decode cX2_readBuild 23 = .ok (.iconst 1, 1) := by decide +kernel
theorem dX2_readBuild_24 : decode cX2_readBuild 24 = .ok (.bipush 99, 2) := by decide +kernel
theorem dX2_readBuild_26 : decode cX2_readBuild 26 = .ok (.invokevirtual 68, 3) := by decide +kernel
theorem dX2_readBuild_29 : decode cX2_readBuild 29 = .ok (.ifCond .ne 5, 3) := by decide +kernel
theorem dX2_readBuild_32 : decode cX2_readBuild 32 = .ok (.iconst 0, 1) := by decide +kernel
theorem dX2_readBuild_33 : decode cX2_readBuild 33 = .ok (.ireturn, 1) := by decide +kernel
theorem dX2_readBuild_34 : decode cX2_readBuild 34 = .ok (.aload_n 1, 1) := by decide +kernel
theorem dX2_readBuild_35 : decode cX2_readBuild 35 = .ok (.getfield 140, 3) := by decide +kernel
theorem dX2_readBuild_38 : decode cX2_readBuild 38 = .ok (.iload_n 2, 1) := by decide +kernel
theorem dX2_readBuild_39 : decode cX2_readBuild 39 = .ok (.aload_n 0, 1) := by decide +kernel
theorem dX2_readBuild_40 : decode cX2_readBuild 40 = .ok (.getfield 26, 3) := by decide +kernel
theorem dX2_readBuild_43 : decode cX2_readBuild 43 = .ok (.iastore, 1) := by decide +kernel
theorem dX2_readBuild_44 : decode cX2_readBuild 44 = .ok (.aload_n 0, 1) := by decide +kernel
theorem dX2_readBuild_45 : decode cX2_readBuild 45 = .ok (.iconst 1, 1) := by decide +kernel
theorem dX2_readBuild_46 : decode cX2_readBuild 46 = .ok (.bipush 6, 2) := by decide +kernel
theorem dX2_readBuild_48 : decode cX2_readBuild 48 = .ok (.invokevirtual 68, 3) := by decide +kernel
theorem dX2_readBuild_51 : decode cX2_readBuild 51 = .ok (.ifCond .ne 5, 3) := by decide +kernel
theorem dX2_readBuild_54 : decode cX2_readBuild 54 = .ok (.iconst 0, 1) := by decide +kernel
theorem dX2_readBuild_55 : decode cX2_readBuild 55 = .ok (.ireturn, 1) := by decide +kernel
theorem dX2_readBuild_56 : decode cX2_readBuild 56 = .ok (.aload_n 1, 1) := by decide +kernel
theorem dX2_readBuild_57 : decode cX2_readBuild 57 = .ok (.getfield 143, 3) := by decide +kernel
theorem dX2_readBuild_60 : decode cX2_readBuild 60 = .ok (.iload_n 2, 1) := by decide +kernel
theorem dX2_readBuild_61 : decode cX2_readBuild 61 = .ok (.aload_n 0, 1) := by decide +kernel
theorem dX2_readBuild_62 : decode cX2_readBuild 62 = .ok (.getfield 26, 3) := by decide +kernel
theorem dX2_readBuild_65 : decode cX2_readBuild 65 = .ok (.iastore, 1) := by decide +kernel
theorem dX2_readBuild_66 : decode cX2_readBuild 66 = .ok (.iconst 1, 1) := by decide +kernel
theorem dX2_readBuild_67 : decode cX2_readBuild 67 = .ok (.ireturn, 1) := by decide +kernel
theorem dX2_readFreight_0 : decode cX2_readFreight 0 = .ok (.aload_n 0, 1) := by decide +kernel
theorem dX2_readFreight_1 : decode cX2_readFreight 1 = .ok (.iconst 0, 1) := by decide +kernel
theorem dX2_readFreight_2 : decode cX2_readFreight 2 = .ok (.bipush 20, 2) := by decide +kernel
theorem dX2_readFreight_4 : decode cX2_readFreight 4 = .ok (.invokevirtual 68, 3) := by decide +kernel
theorem dX2_readFreight_7 : decode cX2_readFreight 7 = .ok (.ifCond .ne 5, 3) := by decide +kernel
theorem dX2_readFreight_10 : decode cX2_readFreight 10 = .ok (.iconst 0, 1) := by decide +kernel
theorem dX2_readFreight_11 : decode cX2_readFreight 11 = .ok (.ireturn, 1) := by decide +kernel
theorem dX2_readFreight_12 : decode cX2_readFreight 12 = .ok (.aload_n 1, 1) := by decide +kernel
theorem dX2_readFreight_13 : decode cX2_readFreight 13 = .ok (.iload_n 2, 1) := by decide +kernel
theorem dX2_readFreight_14 : decode cX2_readFreight 14 = .ok (.aload_n 0, 1) := by decide +kernel
theorem dX2_readFreight_15 : decode cX2_readFreight 15 = .ok (.getfield 26, 3) := by decide +kernel
theorem dX2_readFreight_18 : decode cX2_readFreight 18 = .ok (.invokevirtual 146, 3) := by decide +kernel
theorem dX2_readFreight_21 : decode cX2_readFreight 21 = .ok (.aload_n 0, 1) := by decide +kernel
theorem dX2_readFreight_22 : decode cX2_readFreight 22 = .ok (.iconst 0, 1) := by decide +kernel
theorem dX2_readFreight_23 : decode cX2_readFreight 23 = .ok (.bipush 60, 2) := by decide +kernel
theorem dX2_readFreight_25 : decode cX2_readFreight 25 = .ok (.invokevirtual 68, 3) := by decide +kernel
theorem dX2_readFreight_28 : decode cX2_readFreight 28 = .ok (.ifCond .ne 5, 3) := by decide +kernel
theorem dX2_readFreight_31 : decode cX2_readFreight 31 = .ok (.iconst 0, 1) := by decide +kernel
theorem dX2_readFreight_32 : decode cX2_readFreight 32 = .ok (.ireturn, 1) := by decide +kernel
theorem dX2_readFreight_33 : decode cX2_readFreight 33 = .ok (.aload_n 1, 1) := by decide +kernel
theorem dX2_readFreight_34 : decode cX2_readFreight 34 = .ok (.getfield 150, 3) := by decide +kernel
theorem dX2_readFreight_37 : decode cX2_readFreight 37 = .ok (.iload_n 2, 1) := by decide +kernel
theorem dX2_readFreight_38 : decode cX2_readFreight 38 = .ok (.aload_n 0, 1) := by decide +kernel
theorem dX2_readFreight_39 : decode cX2_readFreight 39 = .ok (.getfield 26, 3) := by decide +kernel
theorem dX2_readFreight_42 : decode cX2_readFreight 42 = .ok (.iastore, 1) := by decide +kernel
theorem dX2_readFreight_43 : decode cX2_readFreight 43 = .ok (.aload_n 0, 1) := by decide +kernel
theorem dX2_readFreight_44 : decode cX2_readFreight 44 = .ok (.iconst 0, 1) := by decide +kernel
theorem dX2_readFreight_45 : decode cX2_readFreight 45 = .ok (.bipush 9, 2) := by decide +kernel
theorem dX2_readFreight_47 : decode cX2_readFreight 47 = .ok (.invokevirtual 68, 3) := by decide +kernel
theorem dX2_readFreight_50 : decode cX2_readFreight 50 = .ok (.ifCond .ne 5, 3) := by decide +kernel
theorem dX2_readFreight_53 : decode cX2_readFreight 53 = .ok (.iconst 0, 1) := by decide +kernel
theorem dX2_readFreight_54 : decode cX2_readFreight 54 = .ok (.ireturn, 1) := by decide +kernel
theorem dX2_readFreight_55 : decode cX2_readFreight 55 = .ok (.aload_n 1, 1) := by decide +kernel
theorem dX2_readFreight_56 : decode cX2_readFreight 56 = .ok (.getfield 153, 3) := by decide +kernel
theorem dX2_readFreight_59 : decode cX2_readFreight 59 = .ok (.iload_n 2, 1) := by decide +kernel
theorem dX2_readFreight_60 : decode cX2_readFreight 60 = .ok (.aload_n 0, 1) := by decide +kernel
theorem dX2_readFreight_61 : decode cX2_readFreight 61 = .ok (.getfield 26, 3) := by decide +kernel
theorem dX2_readFreight_64 : decode cX2_readFreight 64 = .ok (.iastore, 1) := by decide +kernel
theorem dX2_readFreight_65 : decode cX2_readFreight 65 = .ok (.iconst 1, 1) := by decide +kernel
theorem dX2_readFreight_66 : decode cX2_readFreight 66 = .ok (.ireturn, 1) := by decide +kernel
theorem dX2_readWind_0 : decode cX2_readWind 0 = .ok (.aload_n 1, 1) := by decide +kernel
theorem dX2_readWind_1 : decode cX2_readWind 1 = .ok (.getfield 156, 3) := by decide +kernel
theorem dX2_readWind_4 : decode cX2_readWind 4 = .ok (.istore_n 2, 1) := by decide +kernel
theorem dX2_readWind_5 : decode cX2_readWind 5 = .ok (.iload_n 2, 1) := by decide +kernel
theorem dX2_readWind_6 : decode cX2_readWind 6 = .ok (.bipush 12, 2) := by decide +kernel
theorem dX2_readWind_8 : decode cX2_readWind 8 = .ok (.if_icmp .lt 9, 3) := by decide +kernel
theorem dX2_readWind_11 : decode cX2_readWind 11 = .ok (.aload_n 0, 1) := by decide +kernel
theorem dX2_readWind_12 : decode cX2_readWind 12 = .ok (.iconst 2, 1) := by decide +kernel
theorem dX2_readWind_13 : decode cX2_readWind 13 = .ok (.invokevirtual 55, 3) := by decide +kernel
theorem dX2_readWind_16 : decode cX2_readWind 16 = .ok (.ireturn, 1) := by decide +kernel
theorem dX2_readWind_17 : decode cX2_readWind 17 = .ok (.aload_n 0, 1) := by decide +kernel
theorem dX2_readWind_18 : decode cX2_readWind 18 = .ok (.getfield 12, 3) := by decide +kernel
theorem dX2_readWind_21 : decode cX2_readWind 21 = .ok (.invokevirtual 58, 3) := by decide +kernel
theorem dX2_readWind_24 : decode cX2_readWind 24 = .ok (.aload_n 0, 1) := by decide +kernel
theorem dX2_readWind_25 : decode cX2_readWind 25 = .ok (.iconst 0, 1) := by decide +kernel
theorem dX2_readWind_26 : decode cX2_readWind 26 = .ok (.sipush 167, 3) := by decide +kernel
theorem dX2_readWind_29 : decode cX2_readWind 29 = .ok (.invokevirtual 64, 3) := by decide +kernel
theorem dX2_readWind_32 : decode cX2_readWind 32 = .ok (.ifCond .ne 5, 3) := by decide +kernel
theorem dX2_readWind_35 : decode cX2_readWind 35 = .ok (.iconst 0, 1) := by decide +kernel
theorem dX2_readWind_36 : decode cX2_readWind 36 = .ok (.ireturn, 1) := by decide +kernel
theorem dX2_readWind_37 : decode cX2_readWind 37 = .ok (.aload_n 1, 1) := by decide +kernel
theorem dX2_readWind_38 : decode cX2_readWind 38 = .ok (.aload_n 0, 1) := by decide +kernel
theorem dX2_readWind_39 : decode cX2_readWind 39 = .ok (.getfield 26, 3) := by decide +kernel
theorem dX2_readWind_42 : decode cX2_readWind 42 = .ok (.invokevirtual 159, 3) := by decide +kernel
theorem dX2_readWind_45 : decode cX2_readWind 45 = .ok (.ifCond .eq 9, 3) := by decide +kernel
theorem dX2_readWind_48 : decode cX2_readWind 48 = .ok (.aload_n 0, 1) := by decide +kernel
theorem dX2_readWind_49 : decode cX2_readWind 49 = .ok (.iconst 4, 1) := by decide +kernel
theorem dX2_readWind_50 : decode cX2_readWind 50 = .ok (.invokevirtual 55, 3) := by decide +kernel
theorem dX2_readWind_53 : decode cX2_readWind 53 = .ok (.ireturn, 1) := by decide +kernel
theorem dX2_readWind_54 : decode cX2_readWind 54 = .ok (.aload_n 1, 1) := by decide +kernel
theorem dX2_readWind_55 : decode cX2_readWind 55 = .ok (.getfield 162, 3) := by decide +kernel
theorem dX2_readWind_58 : decode cX2_readWind 58 = .ok (.iload_n 2, 1) := by decide +kernel
theorem dX2_readWind_59 : decode cX2_readWind 59 = .ok (.aload_n 0, 1) := by decide +kernel
theorem dX2_readWind_60 : decode cX2_readWind 60 = .ok (.getfield 26, 3) := by decide +kernel
theorem dX2_readWind_63 : decode cX2_readWind 63 = .ok (.iastore, 1) := by decide +kernel
theorem dX2_readWind_64 : decode cX2_readWind 64 = .ok (.aload_n 0, 1) := by decide +kernel
theorem dX2_readWind_65 : decode cX2_readWind 65 = .ok (.getfield 12, 3) := by decide +kernel
theorem dX2_readWind_68 : decode cX2_readWind 68 = .ok (.invokevirtual 58, 3) := by decide +kernel
theorem dX2_readWind_71 : decode cX2_readWind 71 = .ok (.aload_n 0, 1) := by decide +kernel
theorem dX2_readWind_72 : decode cX2_readWind 72 = .ok (.invokevirtual 165, 3) := by decide +kernel
theorem dX2_readWind_75 : decode cX2_readWind 75 = .ok (.ifCond .ne 5, 3) := by decide +kernel
theorem dX2_readWind_78 : decode cX2_readWind 78 = .ok (.iconst 0, 1) := by decide +kernel
theorem dX2_readWind_79 : decode cX2_readWind 79 = .ok (.ireturn, 1) := by decide +kernel
theorem dX2_readWind_80 : decode cX2_readWind 80 = .ok (.aload_n 1, 1) := by decide +kernel
theorem dX2_readWind_81 : decode cX2_readWind 81 = .ok (.getfield 169, 3) := by decide +kernel
theorem dX2_readWind_84 : decode cX2_readWind 84 = .ok (.iload_n 2, 1) := by decide +kernel
theorem dX2_readWind_85 : decode cX2_readWind 85 = .ok (.aload_n 0, 1) := by decide +kernel
theorem dX2_readWind_86 : decode cX2_readWind 86 = .ok (.getfield 26, 3) := by decide +kernel
theorem dX2_readWind_89 : decode cX2_readWind 89 = .ok (.iastore, 1) := by decide +kernel
theorem dX2_readWind_90 : decode cX2_readWind 90 = .ok (.aload_n 0, 1) := by decide +kernel
theorem dX2_readWind_91 : decode cX2_readWind 91 = .ok (.invokevirtual 165, 3) := by decide +kernel
theorem dX2_readWind_94 : decode cX2_readWind 94 = .ok (.ifCond .ne 5, 3) := by decide +kernel
theorem dX2_readWind_97 : decode cX2_readWind 97 = .ok (.iconst 0, 1) := by decide +kernel
theorem dX2_readWind_98 : decode cX2_readWind 98 = .ok (.ireturn, 1) := by decide +kernel
theorem dX2_readWind_99 : decode cX2_readWind 99 = .ok (.aload_n 1, 1) := by decide +kernel
theorem dX2_readWind_100 : decode cX2_readWind 100 = .ok (.getfield 172, 3) := by decide +kernel
theorem dX2_readWind_103 : decode cX2_readWind 103 = .ok (.iload_n 2, 1) := by decide +kernel
theorem dX2_readWind_104 : decode cX2_readWind 104 = .ok (.aload_n 0, 1) := by decide +kernel
theorem dX2_readWind_105 : decode cX2_readWind 105 = .ok (.getfield 26, 3) := by decide +kernel
theorem dX2_readWind_108 : decode cX2_readWind 108 = .ok (.iastore, 1) := by decide +kernel
theorem dX2_readWind_109 : decode cX2_readWind 109 = .ok (.aload_n 1, 1) := by decide +kernel
theorem dX2_readWind_110 : decode cX2_readWind 110 = .ok (.dup, 1) := by decide +kernel
theorem dX2_readWind_111 : decode cX2_readWind 111 = .ok (.getfield 156, 3) := by decide +kernel
theorem dX2_readWind_114 : decode cX2_readWind 114 = .ok (.iconst 1, 1) := by decide +kernel
theorem dX2_readWind_115 : decode cX2_readWind 115 = .ok (.iadd, 1) := by decide +kernel
theorem dX2_readWind_116 : decode cX2_readWind 116 = .ok (.putfield 156, 3) := by decide +kernel
theorem dX2_readWind_119 : decode cX2_readWind 119 = .ok (.iconst 1, 1) := by decide +kernel
theorem dX2_readWind_120 : decode cX2_readWind 120 = .ok (.ireturn, 1) := by decide +kernel
theorem dX2_readChurch_0 : decode cX2_readChurch 0 = .ok (.aload_n 0, 1) := by decide +kernel
theorem dX2_readChurch_1 : decode cX2_readChurch 1 = .ok (.getfield 12, 3) := by decide +kernel
theorem dX2_readChurch_4 : decode cX2_readChurch 4 = .ok (.invokevirtual 58, 3) := by decide +kernel
theorem dX2_readChurch_7 : decode cX2_readChurch 7 = .ok (.aload_n 0, 1) := by decide +kernel
theorem dX2_readChurch_8 : decode cX2_readChurch 8 = .ok (.getfield 12, 3) := by decide +kernel
theorem dX2_readChurch_11 : decode cX2_readChurch 11 = .ok (.ldc 175, 2) := by decide +kernel
theorem dX2_readChurch_13 : decode cX2_readChurch 13 = .ok (.invokevirtual 73, 3) := by decide +kernel
theorem dX2_readChurch_16 : decode cX2_readChurch 16 = .ok (.istore_n 2, 1) := by decide +kernel
theorem dX2_readChurch_17 : decode cX2_readChurch 17 = .ok (.iload_n 2, 1) := by decide +kernel
theorem dX2_readChurch_18 : decode cX2_readChurch 18 = .ok (.iconst (-1), 1) := by decide +kernel
theorem dX2_readChurch_19 : decode cX2_readChurch 19 = .ok (.if_icmp .ne 9, 3) := by decide +kernel
theorem dX2_readChurch_22 : decode cX2_readChurch 22 = .ok (.aload_n 0, 1) := by decide +kernel
theorem dX2_readChurch_23 : decode cX2_readChurch 23 = .ok (.iconst 1, 1) := by decide +kernel
theorem dX2_readChurch_24 : decode cX2_readChurch 24 = .ok (.invokevirtual 55, 3) := by decide +kernel
theorem dX2_readChurch_27 : decode cX2_readChurch 27 = .ok (.ireturn, 1) := by decide +kernel
theorem dX2_readChurch_28 : decode cX2_readChurch 28 = .ok (.aload_n 1, 1) := by decide +kernel
theorem dX2_readChurch_29 : decode cX2_readChurch 29 = .ok (.iload_n 2, 1) := by decide +kernel
theorem dX2_readChurch_30 : decode cX2_readChurch 30 = .ok (.putfield 177, 3) := by decide +kernel
theorem dX2_readChurch_33 : decode cX2_readChurch 33 = .ok (.aload_n 0, 1) := by decide +kernel
theorem dX2_readChurch_34 : decode cX2_readChurch 34 = .ok (.getfield 12, 3) := by decide +kernel
theorem dX2_readChurch_37 : decode cX2_readChurch 37 = .ok (.invokevirtual 58, 3) := by decide +kernel
theorem dX2_readChurch_40 : decode cX2_readChurch 40 = .ok (.iconst 1, 1) := by decide +kernel
theorem dX2_readChurch_41 : decode cX2_readChurch 41 = .ok (.ireturn, 1) := by decide +kernel
theorem dX2_readGusts_0 : decode cX2_readGusts 0 = .ok (.aload_n 0, 1) := by decide +kernel
theorem dX2_readGusts_1 : decode cX2_readGusts 1 = .ok (.getfield 12, 3) := by decide +kernel
theorem dX2_readGusts_4 : decode cX2_readGusts 4 = .ok (.invokevirtual 58, 3) := by decide +kernel
theorem dX2_readGusts_7 : decode cX2_readGusts 7 = .ok (.iconst 0, 1) := by decide +kernel
theorem dX2_readGusts_8 : decode cX2_readGusts 8 = .ok (.istore_n 2, 1) := by decide +kernel
theorem dX2_readGusts_9 : decode cX2_readGusts 9 = .ok (.iconst 0, 1) := by decide +kernel
theorem dX2_readGusts_10 : decode cX2_readGusts 10 = .ok (.istore_n 3, 1) := by decide +kernel
theorem dX2_readGusts_11 : decode cX2_readGusts 11 = .ok (.iload_n 3, 1) := by decide +kernel
theorem dX2_readGusts_12 : decode cX2_readGusts 12 = .ok (.iconst 4, 1) := by decide +kernel
theorem dX2_readGusts_13 : decode cX2_readGusts 13 = .ok (.if_icmp .ge 60, 3) := by decide +kernel
theorem dX2_readGusts_16 : decode cX2_readGusts 16 = .ok (.aload_n 0, 1) := by decide +kernel
theorem dX2_readGusts_17 : decode cX2_readGusts 17 = .ok (.iconst 0, 1) := by decide +kernel
theorem dX2_readGusts_18 : decode cX2_readGusts 18 = .ok (.bipush 9, 2) := by decide +kernel
theorem dX2_readGusts_20 : decode cX2_readGusts 20 = .ok (.invokevirtual 64, 3) := by decide +kernel
theorem dX2_readGusts_23 : decode cX2_readGusts 23 = .ok (.ifCond .ne 5, 3) := by decide +kernel
theorem dX2_readGusts_26 : decode cX2_readGusts 26 = .ok (.iconst 0, 1) := by decide +kernel
theorem dX2_readGusts_27 : decode cX2_readGusts 27 = .ok (.ireturn, 1) := by decide +kernel
theorem dX2_readGusts_28 : decode cX2_readGusts 28 = .ok (.iload_n 2, 1) := by decide +kernel
theorem dX2_readGusts_29 : decode cX2_readGusts 29 = .ok (.aload_n 0, 1) := by decide +kernel
theorem dX2_readGusts_30 : decode cX2_readGusts 30 = .ok (.getfield 26, 3) := by decide +kernel
theorem dX2_readGusts_33 : decode cX2_readGusts 33 = .ok (.iadd, 1) := by decide +kernel
theorem dX2_readGusts_34 : decode cX2_readGusts 34 = .ok (.istore_n 2, 1) := by decide +kernel
theorem dX2_readGusts_35 : decode cX2_readGusts 35 = .ok (.iload_n 3, 1) := by decide +kernel
theorem dX2_readGusts_36 : decode cX2_readGusts 36 = .ok (.iconst 3, 1) := by decide +kernel
theorem dX2_readGusts_37 : decode cX2_readGusts 37 = .ok (.if_icmp .ne 13, 3) := by decide +kernel
theorem dX2_readGusts_40 : decode cX2_readGusts 40 = .ok (.iload_n 2, 1) := by decide +kernel
theorem dX2_readGusts_41 : decode cX2_readGusts 41 = .ok (.ifCond .ne 9, 3) := by decide +kernel
theorem dX2_readGusts_44 : decode cX2_readGusts 44 = .ok (.aload_n 0, 1) := by decide +kernel
theorem dX2_readGusts_45 : decode cX2_readGusts 45 = .ok (.iconst 2, 1) := by decide +kernel
theorem dX2_readGusts_46 : decode cX2_readGusts 46 = .ok (.invokevirtual 55, 3) := by decide +kernel
theorem dX2_readGusts_49 : decode cX2_readGusts 49 = .ok (.ireturn, 1) := by decide +kernel
theorem dX2_readGusts_50 : decode cX2_readGusts 50 = .ok (.aload_n 1, 1) := by decide +kernel
theorem dX2_readGusts_51 : decode cX2_readGusts 51 = .ok (.getfield 180, 3) := by decide +kernel
theorem dX2_readGusts_54 : decode cX2_readGusts 54 = .ok (.iload_n 3, 1) := by decide +kernel
theorem dX2_readGusts_55 : decode cX2_readGusts 55 = .ok (.aload_n 0, 1) := by decide +kernel
theorem dX2_readGusts_56 : decode cX2_readGusts 56 = .ok (.getfield 26, 3) := by decide +kernel
theorem dX2_readGusts_59 : decode cX2_readGusts 59 = .ok (.iastore, 1) := by decide +kernel
theorem dX2_readGusts_60 : decode cX2_readGusts 60 = .ok (.aload_n 0, 1) := by decide +kernel
theorem dX2_readGusts_61 : decode cX2_readGusts 61 = .ok (.getfield 12, 3) := by decide +kernel
theorem dX2_readGusts_64 : decode cX2_readGusts 64 = .ok (.invokevirtual 58, 3) := by decide +kernel
theorem dX2_readGusts_67 : decode cX2_readGusts 67 = .ok (.iinc 3 1, 3) := by decide +kernel
theorem dX2_readGusts_70 : decode cX2_readGusts 70 = .ok (.goto (-59), 3) := by decide +kernel
theorem dX2_readGusts_73 : decode cX2_readGusts 73 = .ok (.iconst 1, 1) := by decide +kernel
theorem dX2_readGusts_74 : decode cX2_readGusts 74 = .ok (.ireturn, 1) := by decide +kernel
theorem dX2_readReach_0 : decode cX2_readReach 0 = .ok (.aload_n 0, 1) := by decide +kernel
theorem dX2_readReach_1 : decode cX2_readReach 1 = .ok (.getfield 12, 3) := by decide +kernel
theorem dX2_readReach_4 : decode cX2_readReach 4 = .ok (.invokevirtual 58, 3) := by decide +kernel
theorem dX2_readReach_7 : decode cX2_readReach 7 = .ok (.aload_n 0, 1) := by decide +kernel
theorem dX2_readReach_8 : decode cX2_readReach 8 = .ok (.iconst 0, 1) := by decide +kernel
theorem dX2_readReach_9 : decode cX2_readReach 9 = .ok (.bipush 20, 2) := by decide +kernel
theorem dX2_readReach_11 : decode cX2_readReach 11 = .ok (.invokevirtual 68, 3) := by decide +kernel
theorem dX2_readReach_14 : decode cX2_readReach 14 = .ok (.ifCond .ne 5, 3) := by decide +kernel
theorem dX2_readReach_17 : decode cX2_readReach 17 = .ok (.iconst 0, 1) := by decide +kernel
theorem dX2_readReach_18 : decode cX2_readReach 18 = .ok (.ireturn, 1) := by decide +kernel
theorem dX2_readReach_19 : decode cX2_readReach 19 = .ok (.aload_n 1, 1) := by decide +kernel
theorem dX2_readReach_20 : decode cX2_readReach 20 = .ok (.aload_n 0, 1) := by decide +kernel
theorem dX2_readReach_21 : decode cX2_readReach 21 = .ok (.getfield 26, 3) := by decide +kernel
theorem dX2_readReach_24 : decode cX2_readReach 24 = .ok (.putfield 183, 3) := by decide +kernel
theorem dX2_readReach_27 : decode cX2_readReach 27 = .ok (.iconst 1, 1) := by decide +kernel
theorem dX2_readReach_28 : decode cX2_readReach 28 = .ok (.ireturn, 1) := by decide +kernel
theorem dX2_readLight_0 : decode cX2_readLight 0 = .ok (.aload_n 0, 1) := by decide +kernel
theorem dX2_readLight_1 : decode cX2_readLight 1 = .ok (.getfield 12, 3) := by decide +kernel
theorem dX2_readLight_4 : decode cX2_readLight 4 = .ok (.invokevirtual 58, 3) := by decide +kernel
theorem dX2_readLight_7 : decode cX2_readLight 7 = .ok (.aload_n 0, 1) := by decide +kernel
theorem dX2_readLight_8 : decode cX2_readLight 8 = .ok (.iconst 0, 1) := by decide +kernel
theorem dX2_readLight_9 : decode cX2_readLight 9 = .ok (.bipush 24, 2) := by decide +kernel
theorem dX2_readLight_11 : decode cX2_readLight 11 = .ok (.invokevirtual 68, 3) := by decide +kernel
theorem dX2_readLight_14 : decode cX2_readLight 14 = .ok (.ifCond .ne 5, 3) := by decide +kernel
theorem dX2_readLight_17 : decode cX2_readLight 17 = .ok (.iconst 0, 1) := by decide +kernel
theorem dX2_readLight_18 : decode cX2_readLight 18 = .ok (.ireturn, 1) := by decide +kernel
theorem dX2_readLight_19 : decode cX2_readLight 19 = .ok (.aload_n 1, 1) := by decide +kernel
theorem dX2_readLight_20 : decode cX2_readLight 20 = .ok (.aload_n 0, 1) := by decide +kernel
theorem dX2_readLight_21 : decode cX2_readLight 21 = .ok (.getfield 26, 3) := by decide +kernel
theorem dX2_readLight_24 : decode cX2_readLight 24 = .ok (.putfield 186, 3) := by decide +kernel
theorem dX2_readLight_27 : decode cX2_readLight 27 = .ok (.iconst 1, 1) := by decide +kernel
theorem dX2_readLight_28 : decode cX2_readLight 28 = .ok (.ireturn, 1) := by decide +kernel
theorem dX2_readPush_0 : decode cX2_readPush 0 = .ok (.aload_n 0, 1) := by decide +kernel
theorem dX2_readPush_1 : decode cX2_readPush 1 = .ok (.getfield 12, 3) := by decide +kernel
theorem dX2_readPush_4 : decode cX2_readPush 4 = .ok (.invokevirtual 58, 3) := by decide +kernel
theorem dX2_readPush_7 : decode cX2_readPush 7 = .ok (.aload_n 0, 1) := by decide +kernel
theorem dX2_readPush_8 : decode cX2_readPush 8 = .ok (.aload_n 1, 1) := by decide +kernel
theorem dX2_readPush_9 : decode cX2_readPush 9 = .ok (.iconst 0, 1) := by decide +kernel
theorem dX2_readPush_10 : decode cX2_readPush 10 = .ok (.invokevirtual 189, 3) := by decide +kernel
theorem dX2_readPush_13 : decode cX2_readPush 13 = .ok (.ireturn, 1) := by decide +kernel
theorem dX2_readExpr_0 : decode cX2_readExpr 0 = .ok (.iload_n 2, 1) := by decide +kernel
theorem dX2_readExpr_1 : decode cX2_readExpr 1 = .ok (.iconst 5, 1) := by decide +kernel
theorem dX2_readExpr_2 : decode cX2_readExpr 2 = .ok (.if_icmp .le 57, 3) := by decide +kernel
theorem dX2_readExpr_5 : decode cX2_readExpr 5 = .ok (.aload_n 0, 1) := by decide +kernel
theorem dX2_readExpr_6 : decode cX2_readExpr 6 = .ok (.getfield 12, 3) := by decide +kernel
theorem dX2_readExpr_9 : decode cX2_readExpr 9 = .ok (.getfield 41, 3) := by decide +kernel
theorem dX2_readExpr_12 : decode cX2_readExpr 12 = .ok (.iconst 2, 1) := by decide +kernel
theorem dX2_readExpr_13 : decode cX2_readExpr 13 = .ok (.if_icmp .eq 26, 3) := by decide +kernel
theorem dX2_readExpr_16 : decode cX2_readExpr 16 = .ok (.aload_n 0, 1) := by decide +kernel
theorem dX2_readExpr_17 : decode cX2_readExpr 17 = .ok (.getfield 12, 3) := by decide +kernel
theorem dX2_readExpr_20 : decode cX2_readExpr 20 = .ok (.getfield 41, 3) := by decide +kernel
theorem dX2_readExpr_23 : decode cX2_readExpr 23 = .ok (.iconst 1, 1) := by decide +kernel
theorem dX2_readExpr_24 : decode cX2_readExpr 24 = .ok (.if_icmp .eq 15, 3) := by decide +kernel
theorem dX2_readExpr_27 : decode cX2_readExpr 27 = .ok (.aload_n 0, 1) := by decide +kernel
theorem dX2_readExpr_28 : decode cX2_readExpr 28 = .ok (.getfield 12, 3) := by decide +kernel
theorem dX2_readExpr_31 : decode cX2_readExpr 31 = .ok (.getfield 41, 3) := by decide +kernel
theorem dX2_readExpr_34 : decode cX2_readExpr 34 = .ok (.bipush 40, 2) := by decide +kernel
theorem dX2_readExpr_36 : decode cX2_readExpr 36 = .ok (.if_icmp .ne 7, 3) := by decide +kernel
theorem dX2_readExpr_39 : decode cX2_readExpr 39 = .ok (.iconst 1, 1) := by decide +kernel
theorem dX2_readExpr_40 : decode cX2_readExpr 40 = .ok (.goto 4, 3) := by decide +kernel
theorem dX2_readExpr_43 : decode cX2_readExpr 43 = .ok (.iconst 0, 1) := by decide +kernel
theorem dX2_readExpr_44 : decode cX2_readExpr 44 = .ok (.istore_n 3, 1) := by decide +kernel
theorem dX2_readExpr_45 : decode cX2_readExpr 45 = .ok (.aload_n 0, 1) := by decide +kernel
theorem dX2_readExpr_46 : decode cX2_readExpr 46 = .ok (.iload_n 3, 1) := by decide +kernel
theorem dX2_readExpr_47 : decode cX2_readExpr 47 = .ok (.ifCond .eq 7, 3) := by decide +kernel
theorem dX2_readExpr_50 : decode cX2_readExpr 50 = .ok (.iconst 2, 1) := by decide +kernel
theorem dX2_readExpr_51 : decode cX2_readExpr 51 = .ok (.goto 4, 3) := by decide +kernel
theorem dX2_readExpr_54 : decode cX2_readExpr 54 = .ok (.iconst 1, 1) := by decide +kernel
theorem dX2_readExpr_55 : decode cX2_readExpr 55 = .ok (.invokevirtual 55, 3) := by decide +kernel
theorem dX2_readExpr_58 : decode cX2_readExpr 58 = .ok (.ireturn, 1) := by decide +kernel
theorem dX2_readExpr_59 : decode cX2_readExpr 59 = .ok (.aload_n 0, 1) := by decide +kernel
theorem dX2_readExpr_60 : decode cX2_readExpr 60 = .ok (.aload_n 1, 1) := by decide +kernel
theorem dX2_readExpr_61 : decode cX2_readExpr 61 = .ok (.iload_n 2, 1) := by decide +kernel
theorem dX2_readExpr_62 : decode cX2_readExpr 62 = .ok (.invokevirtual 193, 3) := by decide +kernel
theorem dX2_readExpr_65 : decode cX2_readExpr 65 = .ok (.ifCond .ne 5, 3) := by decide +kernel
theorem dX2_readExpr_68 : decode cX2_readExpr 68 = .ok (.iconst 0, 1) := by decide +kernel
theorem dX2_readExpr_69 : decode cX2_readExpr 69 = .ok (.ireturn, 1) := by decide +kernel
theorem dX2_readExpr_70 : decode cX2_readExpr 70 = .ok (.iconst 0, 1) := by decide +kernel
theorem dX2_readExpr_71 : decode cX2_readExpr 71 = .ok (.istore_n 3, 1) := by decide +kernel
theorem dX2_readExpr_72 : decode cX2_readExpr 72 = .ok (.iload_n 3, 1) := by decide +kernel
theorem dX2_readExpr_73 : decode cX2_readExpr 73 = .ok (.sipush 700, 3) := by decide +kernel
theorem dX2_readExpr_76 : decode cX2_readExpr 76 = .ok (.if_icmp .ge 46, 3) := by decide +kernel
theorem dX2_readExpr_79 : decode cX2_readExpr 79 = .ok (.aload_n 0, 1) := by decide +kernel
theorem dX2_readExpr_80 : decode cX2_readExpr 80 = .ok (.getfield 12, 3) := by decide +kernel
theorem dX2_readExpr_83 : decode cX2_readExpr 83 = .ok (.ldc 196, 2) := by decide +kernel
theorem dX2_readExpr_85 : decode cX2_readExpr 85 = .ok (.invokevirtual 73, 3) := by decide +kernel
theorem dX2_readExpr_88 : decode cX2_readExpr 88 = .ok (.iconst (-1), 1) := by decide +kernel
theorem dX2_readExpr_89 : decode cX2_readExpr 89 = .ok (.if_icmp .eq 33, 3) := by decide +kernel
theorem dX2_readExpr_92 : decode cX2_readExpr 92 = .ok (.aload_n 0, 1) := by decide +kernel
theorem dX2_readExpr_93 : decode cX2_readExpr 93 = .ok (.getfield 12, 3) := by decide +kernel
theorem dX2_readExpr_96 : decode cX2_readExpr 96 = .ok (.invokevirtual 58, 3) := by decide +kernel
theorem dX2_readExpr_99 : decode cX2_readExpr 99 = .ok (.aload_n 0, 1) := by decide +kernel
theorem dX2_readExpr_100 : decode cX2_readExpr 100 = .ok (.aload_n 1, 1) := by decide +kernel
theorem dX2_readExpr_101 : decode cX2_readExpr 101 = .ok (.iload_n 2, 1) := by decide +kernel
theorem dX2_readExpr_102 : decode cX2_readExpr 102 = .ok (.invokevirtual 193, 3) := by decide +kernel
theorem dX2_readExpr_105 : decode cX2_readExpr 105 = .ok (.ifCond .ne 5, 3) := by decide +kernel
theorem dX2_readExpr_108 : decode cX2_readExpr 108 = .ok (.iconst 0, 1) := by decide +kernel
theorem dX2_readExpr_109 : decode cX2_readExpr 109 = .ok (.ireturn, 1) := by decide +kernel
theorem dX2_readExpr_110 : decode cX2_readExpr 110 = .ok (.aload_n 1, 1) := by decide +kernel
theorem dX2_readExpr_111 : decode cX2_readExpr 111 = .ok (.bipush (-102), 2) := by decide +kernel
theorem dX2_readExpr_113 : decode cX2_readExpr 113 = .ok (.invokevirtual 200, 3) := by decide +kernel
theorem dX2_readExpr_116 : decode cX2_readExpr 116 = .ok (.iinc 3 1, 3) := by decide +kernel
theorem dX2_readExpr_119 : decode cX2_readExpr 119 = .ok (.goto (-47), 3) := by decide +kernel
theorem dX2_readExpr_122 : decode cX2_readExpr 122 = .ok (.iconst 1, 1) := by decide +kernel
theorem dX2_readExpr_123 : decode cX2_readExpr 123 = .ok (.ireturn, 1) := by decide +kernel
theorem dX2_readAnd_0 : decode cX2_readAnd 0 = .ok (.aload_n 0, 1) := by decide +kernel
theorem dX2_readAnd_1 : decode cX2_readAnd 1 = .ok (.aload_n 1, 1) := by decide +kernel
theorem dX2_readAnd_2 : decode cX2_readAnd 2 = .ok (.iload_n 2, 1) := by decide +kernel
theorem dX2_readAnd_3 : decode cX2_readAnd 3 = .ok (.invokevirtual 204, 3) := by decide +kernel
theorem dX2_readAnd_6 : decode cX2_readAnd 6 = .ok (.ifCond .ne 5, 3) := by decide +kernel
theorem dX2_readAnd_9 : decode cX2_readAnd 9 = .ok (.iconst 0, 1) := by decide +kernel
theorem dX2_readAnd_10 : decode cX2_readAnd 10 = .ok (.ireturn, 1) := by decide +kernel
theorem dX2_readAnd_11 : decode cX2_readAnd 11 = .ok (.iconst 0, 1) := by decide +kernel
theorem dX2_readAnd_12 : decode cX2_readAnd 12 = .ok (.istore_n 3, 1) := by decide +kernel
theorem dX2_readAnd_13 : decode cX2_readAnd 13 = .ok (.iload_n 3, 1) := by decide +kernel
theorem dX2_readAnd_14 : decode cX2_readAnd 14 = .ok (.sipush 700, 3) := by decide +kernel
theorem dX2_readAnd_17 : decode cX2_readAnd 17 = .ok (.if_icmp .ge 46, 3) := by decide +kernel
theorem dX2_readAnd_20 : decode cX2_readAnd 20 = .ok (.aload_n 0, 1) := by decide +kernel
theorem dX2_readAnd_21 : decode cX2_readAnd 21 = .ok (.getfield 12, 3) := by decide +kernel
theorem dX2_readAnd_24 : decode cX2_readAnd 24 = .ok (.ldc 207, 2) := by decide +kernel
theorem dX2_readAnd_26 : decode cX2_readAnd 26 = .ok (.invokevirtual 73, 3) := by decide +kernel
theorem dX2_readAnd_29 : decode cX2_readAnd 29 = .ok (.iconst (-1), 1) := by decide +kernel
theorem dX2_readAnd_30 : decode cX2_readAnd 30 = .ok (.if_icmp .eq 33, 3) := by decide +kernel
theorem dX2_readAnd_33 : decode cX2_readAnd 33 = .ok (.aload_n 0, 1) := by decide +kernel
theorem dX2_readAnd_34 : decode cX2_readAnd 34 = .ok (.getfield 12, 3) := by decide +kernel
theorem dX2_readAnd_37 : decode cX2_readAnd 37 = .ok (.invokevirtual 58, 3) := by decide +kernel
theorem dX2_readAnd_40 : decode cX2_readAnd 40 = .ok (.aload_n 0, 1) := by decide +kernel
theorem dX2_readAnd_41 : decode cX2_readAnd 41 = .ok (.aload_n 1, 1) := by decide +kernel
theorem dX2_readAnd_42 : decode cX2_readAnd 42 = .ok (.iload_n 2, 1) := by decide +kernel
theorem dX2_readAnd_43 : decode cX2_readAnd 43 = .ok (.invokevirtual 204, 3) := by decide +kernel
theorem dX2_readAnd_46 : decode cX2_readAnd 46 = .ok (.ifCond .ne 5, 3) := by decide +kernel
theorem dX2_readAnd_49 : decode cX2_readAnd 49 = .ok (.iconst 0, 1) := by decide +kernel
theorem dX2_readAnd_50 : decode cX2_readAnd 50 = .ok (.ireturn, 1) := by decide +kernel
theorem dX2_readAnd_51 : decode cX2_readAnd 51 = .ok (.aload_n 1, 1) := by decide +kernel
theorem dX2_readAnd_52 : decode cX2_readAnd 52 = .ok (.bipush (-101), 2) := by decide +kernel
theorem dX2_readAnd_54 : decode cX2_readAnd 54 = .ok (.invokevirtual 200, 3) := by decide +kernel
theorem dX2_readAnd_57 : decode cX2_readAnd 57 = .ok (.iinc 3 1, 3) := by decide +kernel
theorem dX2_readAnd_60 : decode cX2_readAnd 60 = .ok (.goto (-47), 3) := by decide +kernel
theorem dX2_readAnd_63 : decode cX2_readAnd 63 = .ok (.iconst 1, 1) := by decide +kernel
theorem dX2_readAnd_64 : decode cX2_readAnd 64 = .ok (.ireturn, 1) := by decide +kernel
theorem dX2_readNot_0 : decode cX2_readNot 0 = .ok (.iconst 0, 1) := by decide +kernel
theorem dX2_readNot_1 : decode cX2_readNot 1 = .ok (.istore_n 3, 1) := by decide +kernel
theorem dX2_readNot_2 : decode cX2_readNot 2 = .ok (.iload_n 3, 1) := by decide +kernel
theorem dX2_readNot_3 : decode cX2_readNot 3 = .ok (.bipush 6, 2) := by decide +kernel
theorem dX2_readNot_5 : decode cX2_readNot 5 = .ok (.if_icmp .ge 29, 3) := by decide +kernel
theorem dX2_readNot_8 : decode cX2_readNot 8 = .ok (.aload_n 0, 1) := by decide +kernel
theorem dX2_readNot_9 : decode cX2_readNot 9 = .ok (.getfield 12, 3) := by decide +kernel
theorem dX2_readNot_12 : decode cX2_readNot 12 = .ok (.ldc 209, 2) := by decide +kernel
theorem dX2_readNot_14 : decode cX2_readNot 14 = .ok (.invokevirtual 73, 3) := by decide +kernel
theorem dX2_readNot_17 : decode cX2_readNot 17 = .ok (.iconst (-1), 1) := by decide +kernel
theorem dX2_readNot_18 : decode cX2_readNot 18 = .ok (.if_icmp .eq 16, 3) := by decide +kernel
theorem dX2_readNot_21 : decode cX2_readNot 21 = .ok (.iinc 3 1, 3) := by decide +kernel
theorem dX2_readNot_24 : decode cX2_readNot 24 = .ok (.aload_n 0, 1) := by decide +kernel
theorem dX2_readNot_25 : decode cX2_readNot 25 = .ok (.getfield 12, 3) := by decide +kernel
theorem dX2_readNot_28 : decode cX2_readNot 28 = .ok (.invokevirtual 58, 3) := by decide +kernel
theorem dX2_readNot_31 : decode cX2_readNot 31 = .ok (.goto (-29), 3) := by decide +kernel
theorem dX2_readNot_34 : decode cX2_readNot 34 = .ok (.iload_n 3, 1) := by decide +kernel
theorem dX2_readNot_35 : decode cX2_readNot 35 = .ok (.bipush 6, 2) := by decide +kernel
theorem dX2_readNot_37 : decode cX2_readNot 37 = .ok (.if_icmp .ne 22, 3) := by decide +kernel
theorem dX2_readNot_40 : decode cX2_readNot 40 = .ok (.aload_n 0, 1) := by decide +kernel
theorem dX2_readNot_41 : decode cX2_readNot 41 = .ok (.getfield 12, 3) := by decide +kernel
theorem dX2_readNot_44 : decode cX2_readNot 44 = .ok (.ldc 209, 2) := by decide +kernel
theorem dX2_readNot_46 : decode cX2_readNot 46 = .ok (.invokevirtual 73, 3) := by decide +kernel
theorem dX2_readNot_49 : decode cX2_readNot 49 = .ok (.iconst (-1), 1) := by decide +kernel
theorem dX2_readNot_50 : decode cX2_readNot 50 = .ok (.if_icmp .eq 9, 3) := by decide +kernel
theorem dX2_readNot_53 : decode cX2_readNot 53 = .ok (.aload_n 0, 1) := by decide +kernel
theorem dX2_readNot_54 : decode cX2_readNot 54 = .ok (.iconst 2, 1) := by decide +kernel
theorem dX2_readNot_55 : decode cX2_readNot 55 = .ok (.invokevirtual 55, 3) := by decide +kernel
theorem dX2_readNot_58 : decode cX2_readNot 58 = .ok (.ireturn, 1) := by decide +kernel
theorem dX2_readNot_59 : decode cX2_readNot 59 = .ok (.aload_n 0, 1) := by decide +kernel
theorem dX2_readNot_60 : decode cX2_readNot 60 = .ok (.aload_n 1, 1) := by decide +kernel
theorem dX2_readNot_61 : decode cX2_readNot 61 = .ok (.iload_n 2, 1) := by decide +kernel
theorem dX2_readNot_62 : decode cX2_readNot 62 = .ok (.invokevirtual 211, 3) := by decide +kernel
theorem dX2_readNot_65 : decode cX2_readNot 65 = .ok (.ifCond .ne 5, 3) := by decide +kernel
theorem dX2_readNot_68 : decode cX2_readNot 68 = .ok (.iconst 0, 1) := by decide +kernel
theorem dX2_readNot_69 : decode cX2_readNot 69 = .ok (.ireturn, 1) := by decide +kernel
theorem dX2_readNot_70 : decode cX2_readNot 70 = .ok (.iconst 0, 1) := by decide +kernel
theorem dX2_readNot_71 : decode cX2_readNot 71 = .ok (.istore 4, 2) := by decide +kernel
theorem dX2_readNot_73 : decode cX2_readNot 73 = .ok (.iload 4, 2) := by decide +kernel
theorem dX2_readNot_75 : decode cX2_readNot 75 = .ok (.iload_n 3, 1) := by decide +kernel
theorem dX2_readNot_76 : decode cX2_readNot 76 = .ok (.if_icmp .ge 15, 3) := by decide +kernel
theorem dX2_readNot_79 : decode cX2_readNot 79 = .ok (.aload_n 1, 1) := by decide +kernel
theorem dX2_readNot_80 : decode cX2_readNot 80 = .ok (.bipush (-100), 2) := by decide +kernel
theorem dX2_readNot_82 : decode cX2_readNot 82 = .ok (.invokevirtual 200, 3) := by decide +kernel
theorem dX2_readNot_85 : decode cX2_readNot 85 = .ok (.iinc 4 1, 3) := by decide +kernel
theorem dX2_readNot_88 : decode cX2_readNot 88 = .ok (.goto (-15), 3) := by decide +kernel
theorem dX2_readNot_91 : decode cX2_readNot 91 = .ok (.iconst 1, 1) := by decide +kernel
theorem dX2_readNot_92 : decode cX2_readNot 92 = .ok (.ireturn, 1) := by decide +kernel
theorem dX2_readTest_0 : decode cX2_readTest 0 = .ok (.aload_n 0, 1) := by decide +kernel
theorem dX2_readTest_1 : decode cX2_readTest 1 = .ok (.aload_n 1, 1) := by decide +kernel
theorem dX2_readTest_2 : decode cX2_readTest 2 = .ok (.iload_n 2, 1) := by decide +kernel
theorem dX2_readTest_3 : decode cX2_readTest 3 = .ok (.invokevirtual 214, 3) := by decide +kernel
theorem dX2_readTest_6 : decode cX2_readTest 6 = .ok (.ifCond .ne 5, 3) := by decide +kernel
theorem dX2_readTest_9 : decode cX2_readTest 9 = .ok (.iconst 0, 1) := by decide +kernel
theorem dX2_readTest_10 : decode cX2_readTest 10 = .ok (.ireturn, 1) := by decide +kernel
theorem dX2_readTest_11 : decode cX2_readTest 11 = .ok (.aload_n 0, 1) := by decide +kernel
theorem dX2_readTest_12 : decode cX2_readTest 12 = .ok (.getfield 12, 3) := by decide +kernel
theorem dX2_readTest_15 : decode cX2_readTest 15 = .ok (.getfield 41, 3) := by decide +kernel
theorem dX2_readTest_18 : decode cX2_readTest 18 = .ok (.istore_n 3, 1) := by decide +kernel
theorem dX2_readTest_19 : decode cX2_readTest 19 = .ok (.iload_n 3, 1) := by decide +kernel
theorem dX2_readTest_20 : decode cX2_readTest 20 = .ok (.bipush 60, 2) := by decide +kernel
theorem dX2_readTest_22 : decode cX2_readTest 22 = .ok (.if_icmp .eq 11, 3) := by decide +kernel
theorem dX2_readTest_25 : decode cX2_readTest 25 = .ok (.iload_n 3, 1) := by decide +kernel
theorem dX2_readTest_26 : decode cX2_readTest 26 = .ok (.bipush 61, 2) := by decide +kernel
theorem dX2_readTest_28 : decode cX2_readTest 28 = .ok (.if_icmp .eq 5, 3) := by decide +kernel
theorem dX2_readTest_31 : decode cX2_readTest 31 = .ok (.iconst 1, 1) := by decide +kernel
theorem dX2_readTest_32 : decode cX2_readTest 32 = .ok (.ireturn, 1) := by decide +kernel
theorem dX2_readTest_33 : decode cX2_readTest 33 = .ok (.aload_n 0, 1) := by decide +kernel
theorem dX2_readTest_34 : decode cX2_readTest 34 = .ok (.getfield 12, 3) := by decide +kernel
theorem dX2_readTest_37 : decode cX2_readTest 37 = .ok (.invokevirtual 58, 3) := by decide +kernel
theorem dX2_readTest_40 : decode cX2_readTest 40 = .ok (.aload_n 0, 1) := by decide +kernel
theorem dX2_readTest_41 : decode cX2_readTest 41 = .ok (.aload_n 1, 1) := by decide +kernel
theorem dX2_readTest_42 : decode cX2_readTest 42 = .ok (.iload_n 2, 1) := by decide +kernel
theorem dX2_readTest_43 : decode cX2_readTest 43 = .ok (.invokevirtual 214, 3) := by decide +kernel
theorem dX2_readTest_46 : decode cX2_readTest 46 = .ok (.ifCond .ne 5, 3) := by decide +kernel
theorem dX2_readTest_49 : decode cX2_readTest 49 = .ok (.iconst 0, 1) := by decide +kernel
theorem dX2_readTest_50 : decode cX2_readTest 50 = .ok (.ireturn, 1) := by decide +kernel
theorem dX2_readTest_51 : decode cX2_readTest 51 = .ok (.aload_n 1, 1) := by decide +kernel
theorem dX2_readTest_52 : decode cX2_readTest 52 = .ok (.iload_n 3, 1) := by decide +kernel
theorem dX2_readTest_53 : decode cX2_readTest 53 = .ok (.invokevirtual 217, 3) := by decide +kernel
theorem dX2_readTest_56 : decode cX2_readTest 56 = .ok (.iconst 1, 1) := by decide +kernel
theorem dX2_readTest_57 : decode cX2_readTest 57 = .ok (.ireturn, 1) := by decide +kernel
theorem dX2_readSum_0 : decode cX2_readSum 0 = .ok (.aload_n 0, 1) := by decide +kernel
theorem dX2_readSum_1 : decode cX2_readSum 1 = .ok (.aload_n 1, 1) := by decide +kernel
theorem dX2_readSum_2 : decode cX2_readSum 2 = .ok (.iload_n 2, 1) := by decide +kernel
theorem dX2_readSum_3 : decode cX2_readSum 3 = .ok (.invokevirtual 220, 3) := by decide +kernel
theorem dX2_readSum_6 : decode cX2_readSum 6 = .ok (.ifCond .ne 5, 3) := by decide +kernel
theorem dX2_readSum_9 : decode cX2_readSum 9 = .ok (.iconst 0, 1) := by decide +kernel
theorem dX2_readSum_10 : decode cX2_readSum 10 = .ok (.ireturn, 1) := by decide +kernel
theorem dX2_readSum_11 : decode cX2_readSum 11 = .ok (.iconst 0, 1) := by decide +kernel
theorem dX2_readSum_12 : decode cX2_readSum 12 = .ok (.istore_n 3, 1) := by decide +kernel
theorem dX2_readSum_13 : decode cX2_readSum 13 = .ok (.iload_n 3, 1) := by decide +kernel
theorem dX2_readSum_14 : decode cX2_readSum 14 = .ok (.sipush 700, 3) := by decide +kernel
theorem dX2_readSum_17 : decode cX2_readSum 17 = .ok (.if_icmp .ge 66, 3) := by decide +kernel
theorem dX2_readSum_20 : decode cX2_readSum 20 = .ok (.aload_n 0, 1) := by decide +kernel
theorem dX2_readSum_21 : decode cX2_readSum 21 = .ok (.getfield 12, 3) := by decide +kernel
theorem dX2_readSum_24 : decode cX2_readSum 24 = .ok (.getfield 41, 3) := by decide +kernel
theorem dX2_readSum_27 : decode cX2_readSum 27 = .ok (.bipush 43, 2) := by decide +kernel
theorem dX2_readSum_29 : decode cX2_readSum 29 = .ok (.if_icmp .eq 15, 3) := by decide +kernel
theorem dX2_readSum_32 : decode cX2_readSum 32 = .ok (.aload_n 0, 1) := by decide +kernel
theorem dX2_readSum_33 : decode cX2_readSum 33 = .ok (.getfield 12, 3) := by decide +kernel
theorem dX2_readSum_36 : decode cX2_readSum 36 = .ok (.getfield 41, 3) := by decide +kernel
theorem dX2_readSum_39 : decode cX2_readSum 39 = .ok (.bipush 45, 2) := by decide +kernel
theorem dX2_readSum_41 : decode cX2_readSum 41 = .ok (.if_icmp .ne 42, 3) := by decide +kernel
theorem dX2_readSum_44 : decode cX2_readSum 44 = .ok (.aload_n 0, 1) := by decide +kernel
theorem dX2_readSum_45 : decode cX2_readSum 45 = .ok (.getfield 12, 3) := by decide +kernel
theorem dX2_readSum_48 : decode cX2_readSum 48 = .ok (.getfield 41, 3) := by decide +kernel
theorem dX2_readSum_51 : decode cX2_readSum 51 = .ok (.istore 4, 2) := by decide +kernel
theorem dX2_readSum_53 : decode cX2_readSum 53 = .ok (.aload_n 0, 1) := by decide +kernel
theorem dX2_readSum_54 : decode cX2_readSum 54 = .ok (.getfield 12, 3) := by decide +kernel
theorem dX2_readSum_57 : decode cX2_readSum 57 = .ok (.invokevirtual 58, 3) := by decide +kernel
theorem dX2_readSum_60 : decode cX2_readSum 60 = .ok (.aload_n 0, 1) := by decide +kernel
theorem dX2_readSum_61 : decode cX2_readSum 61 = .ok (.aload_n 1, 1) := by decide +kernel
theorem dX2_readSum_62 : decode cX2_readSum 62 = .ok (.iload_n 2, 1) := by decide +kernel
theorem dX2_readSum_63 : decode cX2_readSum 63 = .ok (.invokevirtual 220, 3) := by decide +kernel
theorem dX2_readSum_66 : decode cX2_readSum 66 = .ok (.ifCond .ne 5, 3) := by decide +kernel
theorem dX2_readSum_69 : decode cX2_readSum 69 = .ok (.iconst 0, 1) := by decide +kernel
theorem dX2_readSum_70 : decode cX2_readSum 70 = .ok (.ireturn, 1) := by decide +kernel
theorem dX2_readSum_71 : decode cX2_readSum 71 = .ok (.aload_n 1, 1) := by decide +kernel
theorem dX2_readSum_72 : decode cX2_readSum 72 = .ok (.iload 4, 2) := by decide +kernel
theorem dX2_readSum_74 : decode cX2_readSum 74 = .ok (.invokevirtual 217, 3) := by decide +kernel
theorem dX2_readSum_77 : decode cX2_readSum 77 = .ok (.iinc 3 1, 3) := by decide +kernel
theorem dX2_readSum_80 : decode cX2_readSum 80 = .ok (.goto (-67), 3) := by decide +kernel
theorem dX2_readSum_83 : decode cX2_readSum 83 = .ok (.iconst 1, 1) := by decide +kernel
theorem dX2_readSum_84 : decode cX2_readSum 84 = .ok (.ireturn, 1) := by decide +kernel
theorem dX2_readProduct_0 : decode cX2_readProduct 0 = .ok (.aload_n 0, 1) := by decide +kernel
theorem dX2_readProduct_1 : decode cX2_readProduct 1 = .ok (.aload_n 1, 1) := by decide +kernel
theorem dX2_readProduct_2 : decode cX2_readProduct 2 = .ok (.iload_n 2, 1) := by decide +kernel
theorem dX2_readProduct_3 : decode cX2_readProduct 3 = .ok (.invokevirtual 223, 3) := by decide +kernel
theorem dX2_readProduct_6 : decode cX2_readProduct 6 = .ok (.ifCond .ne 5, 3) := by decide +kernel
theorem dX2_readProduct_9 : decode cX2_readProduct 9 = .ok (.iconst 0, 1) := by decide +kernel
theorem dX2_readProduct_10 : decode cX2_readProduct 10 = .ok (.ireturn, 1) := by decide +kernel
theorem dX2_readProduct_11 : decode cX2_readProduct 11 = .ok (.iconst 0, 1) := by decide +kernel
theorem dX2_readProduct_12 : decode cX2_readProduct 12 = .ok (.istore_n 3, 1) := by decide +kernel
theorem dX2_readProduct_13 : decode cX2_readProduct 13 = .ok (.iload_n 3, 1) := by decide +kernel
theorem dX2_readProduct_14 : decode cX2_readProduct 14 = .ok (.sipush 700, 3) := by decide +kernel
theorem dX2_readProduct_17 : decode cX2_readProduct 17 = .ok (.if_icmp .ge 66, 3) := by decide +kernel
theorem dX2_readProduct_20 : decode cX2_readProduct 20 = .ok (.aload_n 0, 1) := by decide +kernel
theorem dX2_readProduct_21 : decode cX2_readProduct 21 = .ok (.getfield 12, 3) := by decide +kernel
theorem dX2_readProduct_24 : decode cX2_readProduct 24 = .ok (.getfield 41, 3) := by decide +kernel
theorem dX2_readProduct_27 : decode cX2_readProduct 27 = .ok (.bipush 42, 2) := by decide +kernel
theorem dX2_readProduct_29 : decode cX2_readProduct 29 = .ok (.if_icmp .eq 15, 3) := by decide +kernel
theorem dX2_readProduct_32 : decode cX2_readProduct 32 = .ok (.aload_n 0, 1) := by decide +kernel
theorem dX2_readProduct_33 : decode cX2_readProduct 33 = .ok (.getfield 12, 3) := by decide +kernel
theorem dX2_readProduct_36 : decode cX2_readProduct 36 = .ok (.getfield 41, 3) := by decide +kernel
theorem dX2_readProduct_39 : decode cX2_readProduct 39 = .ok (.bipush 47, 2) := by decide +kernel
theorem dX2_readProduct_41 : decode cX2_readProduct 41 = .ok (.if_icmp .ne 42, 3) := by decide +kernel
theorem dX2_readProduct_44 : decode cX2_readProduct 44 = .ok (.aload_n 0, 1) := by decide +kernel
theorem dX2_readProduct_45 : decode cX2_readProduct 45 = .ok (.getfield 12, 3) := by decide +kernel
theorem dX2_readProduct_48 : decode cX2_readProduct 48 = .ok (.getfield 41, 3) := by decide +kernel
theorem dX2_readProduct_51 : decode cX2_readProduct 51 = .ok (.istore 4, 2) := by decide +kernel
theorem dX2_readProduct_53 : decode cX2_readProduct 53 = .ok (.aload_n 0, 1) := by decide +kernel
theorem dX2_readProduct_54 : decode cX2_readProduct 54 = .ok (.getfield 12, 3) := by decide +kernel
theorem dX2_readProduct_57 : decode cX2_readProduct 57 = .ok (.invokevirtual 58, 3) := by decide +kernel
theorem dX2_readProduct_60 : decode cX2_readProduct 60 = .ok (.aload_n 0, 1) := by decide +kernel
theorem dX2_readProduct_61 : decode cX2_readProduct 61 = .ok (.aload_n 1, 1) := by decide +kernel
theorem dX2_readProduct_62 : decode cX2_readProduct 62 = .ok (.iload_n 2, 1) := by decide +kernel
theorem dX2_readProduct_63 : decode cX2_readProduct 63 = .ok (.invokevirtual 223, 3) := by decide +kernel
theorem dX2_readProduct_66 : decode cX2_readProduct 66 = .ok (.ifCond .ne 5, 3) := by decide +kernel
theorem dX2_readProduct_69 : decode cX2_readProduct 69 = .ok (.iconst 0, 1) := by decide +kernel
theorem dX2_readProduct_70 : decode cX2_readProduct 70 = .ok (.ireturn, 1) := by decide +kernel
theorem dX2_readProduct_71 : decode cX2_readProduct 71 = .ok (.aload_n 1, 1) := by decide +kernel
theorem dX2_readProduct_72 : decode cX2_readProduct 72 = .ok (.iload 4, 2) := by decide +kernel
theorem dX2_readProduct_74 : decode cX2_readProduct 74 = .ok (.invokevirtual 217, 3) := by decide +kernel
theorem dX2_readProduct_77 : decode cX2_readProduct 77 = .ok (.iinc 3 1, 3) := by decide +kernel
theorem dX2_readProduct_80 : decode cX2_readProduct 80 = .ok (.goto (-67), 3) := by decide +kernel
theorem dX2_readProduct_83 : decode cX2_readProduct 83 = .ok (.iconst 1, 1) := by decide +kernel
theorem dX2_readProduct_84 : decode cX2_readProduct 84 = .ok (.ireturn, 1) := by decide +kernel
theorem dX2_readPart_0 : decode cX2_readPart 0 = .ok (.aload_n 0, 1) := by decide +kernel
theorem dX2_readPart_1 : decode cX2_readPart 1 = .ok (.getfield 12, 3) := by decide +kernel
theorem dX2_readPart_4 : decode cX2_readPart 4 = .ok (.getfield 41, 3) := by decide +kernel
theorem dX2_readPart_7 : decode cX2_readPart 7 = .ok (.bipush 40, 2) := by decide +kernel
theorem dX2_readPart_9 : decode cX2_readPart 9 = .ok (.if_icmp .ne 36, 3) := by decide +kernel
theorem dX2_readPart_12 : decode cX2_readPart 12 = .ok (.aload_n 0, 1) := by decide +kernel
theorem dX2_readPart_13 : decode cX2_readPart 13 = .ok (.getfield 12, 3) := by decide +kernel
theorem dX2_readPart_16 : decode cX2_readPart 16 = .ok (.invokevirtual 58, 3) := by decide +kernel
theorem dX2_readPart_19 : decode cX2_readPart 19 = .ok (.aload_n 0, 1) := by decide +kernel
theorem dX2_readPart_20 : decode cX2_readPart 20 = .ok (.aload_n 1, 1) := by decide +kernel
theorem dX2_readPart_21 : decode cX2_readPart 21 = .ok (.iload_n 2, 1) := by decide +kernel
theorem dX2_readPart_22 : decode cX2_readPart 22 = .ok (.iconst 1, 1) := by decide +kernel
theorem dX2_readPart_23 : decode cX2_readPart 23 = .ok (.iadd, 1) := by decide +kernel
theorem dX2_readPart_24 : decode cX2_readPart 24 = .ok (.invokevirtual 189, 3) := by decide +kernel
theorem dX2_readPart_27 : decode cX2_readPart 27 = .ok (.ifCond .eq 16, 3) := by decide +kernel
theorem dX2_readPart_30 : decode cX2_readPart 30 = .ok (.aload_n 0, 1) := by decide +kernel
theorem dX2_readPart_31 : decode cX2_readPart 31 = .ok (.bipush 41, 2) := by decide +kernel
theorem dX2_readPart_33 : decode cX2_readPart 33 = .ok (.invokevirtual 48, 3) := by decide +kernel
theorem dX2_readPart_36 : decode cX2_readPart 36 = .ok (.ifCond .eq 7, 3) := by decide +kernel
theorem dX2_readPart_39 : decode cX2_readPart 39 = .ok (.iconst 1, 1) := by decide +kernel
theorem dX2_readPart_40 : decode cX2_readPart 40 = .ok (.goto 4, 3) := by decide +kernel
theorem dX2_readPart_43 : decode cX2_readPart 43 = .ok (.iconst 0, 1) := by decide +kernel
theorem dX2_readPart_44 : decode cX2_readPart 44 = .ok (.ireturn, 1) := by decide +kernel
theorem dX2_readPart_45 : decode cX2_readPart 45 = .ok (.aload_n 0, 1) := by decide +kernel
theorem dX2_readPart_46 : decode cX2_readPart 46 = .ok (.getfield 12, 3) := by decide +kernel
theorem dX2_readPart_49 : decode cX2_readPart 49 = .ok (.getfield 41, 3) := by decide +kernel
theorem dX2_readPart_52 : decode cX2_readPart 52 = .ok (.iconst 1, 1) := by decide +kernel
theorem dX2_readPart_53 : decode cX2_readPart 53 = .ok (.if_icmp .ne 9, 3) := by decide +kernel
theorem dX2_readPart_56 : decode cX2_readPart 56 = .ok (.aload_n 0, 1) := by decide +kernel
theorem dX2_readPart_57 : decode cX2_readPart 57 = .ok (.aload_n 1, 1) := by decide +kernel
theorem dX2_readPart_58 : decode cX2_readPart 58 = .ok (.invokevirtual 226, 3) := by decide +kernel
theorem dX2_readPart_61 : decode cX2_readPart 61 = .ok (.ireturn, 1) := by decide +kernel
theorem dX2_readPart_62 : decode cX2_readPart 62 = .ok (.aload_n 0, 1) := by decide +kernel
theorem dX2_readPart_63 : decode cX2_readPart 63 = .ok (.iconst 0, 1) := by decide +kernel
theorem dX2_readPart_64 : decode cX2_readPart 64 = .ok (.sipush 9999, 3) := by decide +kernel
theorem dX2_readPart_67 : decode cX2_readPart 67 = .ok (.invokevirtual 68, 3) := by decide +kernel
theorem dX2_readPart_70 : decode cX2_readPart 70 = .ok (.ifCond .ne 5, 3) := by decide +kernel
theorem dX2_readPart_73 : decode cX2_readPart 73 = .ok (.iconst 0, 1) := by decide +kernel
theorem dX2_readPart_74 : decode cX2_readPart 74 = .ok (.ireturn, 1) := by decide +kernel
theorem dX2_readPart_75 : decode cX2_readPart 75 = .ok (.aload_n 1, 1) := by decide +kernel
theorem dX2_readPart_76 : decode cX2_readPart 76 = .ok (.aload_n 0, 1) := by decide +kernel
theorem dX2_readPart_77 : decode cX2_readPart 77 = .ok (.getfield 26, 3) := by decide +kernel
theorem dX2_readPart_80 : decode cX2_readPart 80 = .ok (.invokevirtual 200, 3) := by decide +kernel
theorem dX2_readPart_83 : decode cX2_readPart 83 = .ok (.iconst 1, 1) := by decide +kernel
theorem dX2_readPart_84 : decode cX2_readPart 84 = .ok (.ireturn, 1) := by decide +kernel
theorem dX2_readValue_0 : decode cX2_readValue 0 = .ok (.aload_n 0, 1) := by decide +kernel
theorem dX2_readValue_1 : decode cX2_readValue 1 = .ok (.getfield 12, 3) := by decide +kernel
theorem dX2_readValue_4 : decode cX2_readValue 4 = .ok (.ldc 229, 2) := by decide +kernel
theorem dX2_readValue_6 : decode cX2_readValue 6 = .ok (.invokevirtual 73, 3) := by decide +kernel
theorem dX2_readValue_9 : decode cX2_readValue 9 = .ok (.istore_n 2, 1) := by decide +kernel
theorem dX2_readValue_10 : decode cX2_readValue 10 = .ok (.iload_n 2, 1) := by decide +kernel
theorem dX2_readValue_11 : decode cX2_readValue 11 = .ok (.iconst (-1), 1) := by decide +kernel
theorem dX2_readValue_12 : decode cX2_readValue 12 = .ok (.if_icmp .ne 9, 3) := by decide +kernel
theorem dX2_readValue_15 : decode cX2_readValue 15 = .ok (.aload_n 0, 1) := by decide +kernel
theorem dX2_readValue_16 : decode cX2_readValue 16 = .ok (.iconst 3, 1) := by decide +kernel
theorem dX2_readValue_17 : decode cX2_readValue 17 = .ok (.invokevirtual 55, 3) := by decide +kernel
theorem dX2_readValue_20 : decode cX2_readValue 20 = .ok (.ireturn, 1) := by decide +kernel
theorem dX2_readValue_21 : decode cX2_readValue 21 = .ok (.aload_n 1, 1) := by decide +kernel
theorem dX2_readValue_22 : decode cX2_readValue 22 = .ok (.iload_n 2, 1) := by decide +kernel
theorem dX2_readValue_23 : decode cX2_readValue 23 = .ok (.invokevirtual 231, 3) := by decide +kernel
theorem dX2_readValue_26 : decode cX2_readValue 26 = .ok (.aload_n 0, 1) := by decide +kernel
theorem dX2_readValue_27 : decode cX2_readValue 27 = .ok (.getfield 12, 3) := by decide +kernel
theorem dX2_readValue_30 : decode cX2_readValue 30 = .ok (.invokevirtual 58, 3) := by decide +kernel
theorem dX2_readValue_33 : decode cX2_readValue 33 = .ok (.iconst 1, 1) := by decide +kernel
theorem dX2_readValue_34 : decode cX2_readValue 34 = .ok (.ireturn, 1) := by decide +kernel
theorem dX3_init_0 : decode cX3_init 0 = .ok (.aload_n 0, 1) := by decide +kernel
theorem dX3_init_1 : decode cX3_init 1 = .ok (.invokespecial 3, 3) := by decide +kernel
theorem dX3_init_4 : decode cX3_init 4 = .ok (.aload_n 0, 1) := by decide +kernel
theorem dX3_init_5 : decode cX3_init 5 = .ok (.sipush 700, 3) := by decide +kernel
theorem dX3_init_8 : decode cX3_init 8 = .ok (.newarray .int, 2) := by decide +kernel
theorem dX3_init_10 : decode cX3_init 10 = .ok (.putfield 9, 3) := by decide +kernel
theorem dX3_init_13 : decode cX3_init 13 = .ok (.aload_n 0, 1) := by decide +kernel
theorem dX3_init_14 : decode cX3_init 14 = .ok (.iconst 0, 1) := by decide +kernel
theorem dX3_init_15 : decode cX3_init 15 = .ok (.putfield 15, 3) := by decide +kernel
theorem dX3_init_18 : decode cX3_init 18 = .ok (.aload_n 0, 1) := by decide +kernel
theorem dX3_init_19 : decode cX3_init 19 = .ok (.bipush 40, 2) := by decide +kernel
theorem dX3_init_21 : decode cX3_init 21 = .ok (.newarray .int, 2) := by decide +kernel
theorem dX3_init_23 : decode cX3_init 23 = .ok (.putfield 19, 3) := by decide +kernel
theorem dX3_init_26 : decode cX3_init 26 = .ok (.return_, 1) := by decide +kernel
theorem dX3_add_0 : decode cX3_add 0 = .ok (.aload_n 0, 1) := by decide +kernel
theorem dX3_add_1 : decode cX3_add 1 = .ok (.getfield 15, 3) := by decide +kernel
theorem dX3_add_4 : decode cX3_add 4 = .ok (.aload_n 0, 1) := by decide +kernel
theorem dX3_add_5 : decode cX3_add 5 = .ok (.getfield 9, 3) := by decide +kernel
theorem dX3_add_8 : decode cX3_add 8 = .ok (.arraylength, 1) := by decide +kernel
theorem dX3_add_9 : decode cX3_add 9 = .ok (.if_icmp .ge 23, 3) := by decide +kernel
theorem dX3_add_12 : decode cX3_add 12 = .ok (.aload_n 0, 1) := by decide +kernel
theorem dX3_add_13 : decode cX3_add 13 = .ok (.getfield 9, 3) := by decide +kernel
theorem dX3_add_16 : decode cX3_add 16 = .ok (.aload_n 0, 1) := by decide +kernel
theorem dX3_add_17 : decode cX3_add 17 = .ok (.getfield 15, 3) := by decide +kernel
theorem dX3_add_20 : decode cX3_add 20 = .ok (.iload_n 1, 1) := by decide +kernel
theorem dX3_add_21 : decode cX3_add 21 = .ok (.iastore, 1) := by decide +kernel
theorem dX3_add_22 : decode cX3_add 22 = .ok (.aload_n 0, 1) := by decide +kernel
theorem dX3_add_23 : decode cX3_add 23 = .ok (.dup, 1) := by decide +kernel
theorem dX3_add_24 : decode cX3_add 24 = .ok (.getfield 15, 3) := by decide +kernel
theorem dX3_add_27 : decode cX3_add 27 = .ok (.iconst 1, 1) := by decide +kernel
theorem dX3_add_28 : decode cX3_add 28 = .ok (.iadd, 1) := by decide +kernel
theorem dX3_add_29 : decode cX3_add 29 = .ok (.putfield 15, 3) := by decide +kernel
theorem dX3_add_32 : decode cX3_add 32 = .ok (.return_, 1) := by decide +kernel
theorem dX3_addValue_0 : decode cX3_addValue 0 = .ok (.aload_n 0, 1) := by decide +kernel
theorem dX3_addValue_1 : decode cX3_addValue 1 = .ok (.iconst (-1), 1) := by decide +kernel
theorem dX3_addValue_2 : decode cX3_addValue 2 = .ok (.iload_n 1, 1) := by decide +kernel
theorem dX3_addValue_3 : decode cX3_addValue 3 = .ok (.isub, 1) := by decide +kernel
theorem dX3_addValue_4 : decode cX3_addValue 4 = .ok (.invokevirtual 22, 3) := by decide +kernel
theorem dX3_addValue_7 : decode cX3_addValue 7 = .ok (.return_, 1) := by decide +kernel
theorem dX3_addSign_0 : decode cX3_addSign 0 = .ok (.aload_n 0, 1) := by decide +kernel
theorem dX3_addSign_1 : decode cX3_addSign 1 = .ok (.iload_n 1, 1) := by decide +kernel
theorem dX3_addSign_2 : decode cX3_addSign 2 = .ok (.ineg, 1) := by decide +kernel
theorem dX3_addSign_3 : decode cX3_addSign 3 = .ok (.invokevirtual 22, 3) := by decide +kernel
theorem dX3_addSign_6 : decode cX3_addSign 6 = .ok (.return_, 1) := by decide +kernel
theorem dX3_worth_0 : decode cX3_worth 0 = .ok (.iconst 0, 1) := by decide +kernel
theorem dX3_worth_1 : decode cX3_worth 1 = .ok (.istore 4, 2) := by decide +kernel
theorem dX3_worth_3 : decode cX3_worth 3 = .ok (.iconst 0, 1) := by decide +kernel
theorem dX3_worth_4 : decode cX3_worth 4 = .ok (.istore 5, 2) := by decide +kernel
theorem dX3_worth_6 : decode cX3_worth 6 = .ok (.iload 5, 2) := by decide +kernel
theorem dX3_worth_8 : decode cX3_worth 8 = .ok (.aload_n 0, 1) := by decide +kernel
theorem dX3_worth_9 : decode cX3_worth 9 = .ok (.getfield 15, 3) := by decide +kernel
theorem dX3_worth_12 : decode cX3_worth 12 = .ok (.if_icmp .ge 146, 3) := by decide +kernel
theorem dX3_worth_15 : decode cX3_worth 15 = .ok (.aload_n 0, 1) := by decide +kernel
theorem dX3_worth_16 : decode cX3_worth 16 = .ok (.getfield 9, 3) := by decide +kernel
theorem dX3_worth_19 : decode cX3_worth 19 = .ok (.iload 5, 2) := by decide +kernel
theorem dX3_worth_21 : decode cX3_worth 21 = .ok (.iaload, 1) := by decide +kernel
theorem dX3_worth_22 : decode cX3_worth 22 = .ok (.istore 6, 2) := by decide +kernel
theorem dX3_worth_24 : decode cX3_worth 24 = .ok (.iload 6, 2) := by decide +kernel
theorem dX3_worth_26 : decode cX3_worth 26 = .ok (.bipush (-8), 2) := by decide +kernel
theorem dX3_worth_28 : decode cX3_worth 28 = .ok (.if_icmp .lt 43, 3) := by decide +kernel
theorem dX3_worth_31 : decode cX3_worth 31 = .ok (.iload 4, 2) := by decide +kernel
theorem dX3_worth_33 : decode cX3_worth 33 = .ok (.bipush 40, 2) := by decide +kernel
theorem dX3_worth_35 : decode cX3_worth 35 = .ok (.if_icmp .ge 36, 3) := by decide +kernel
theorem dX3_worth_38 : decode cX3_worth 38 = .ok (.aload_n 0, 1) := by decide +kernel
theorem dX3_worth_39 : decode cX3_worth 39 = .ok (.getfield 19, 3) := by decide +kernel
theorem dX3_worth_42 : decode cX3_worth 42 = .ok (.iload 4, 2) := by decide +kernel
theorem dX3_worth_44 : decode cX3_worth 44 = .ok (.iload 6, 2) := by decide +kernel
theorem dX3_worth_46 : decode cX3_worth 46 = .ok (.ifCond .lt 8, 3) := by decide +kernel
theorem dX3_worth_49 : decode cX3_worth 49 = .ok (.iload 6, 2) := by decide +kernel
theorem dX3_worth_51 : decode cX3_worth 51 = .ok (.goto 13, 3) := by decide +kernel
theorem dX3_worth_54 : decode cX3_worth 54 = .ok (.iconst (-1), 1) := by decide +kernel
theorem dX3_worth_55 : decode cX3_worth 55 = .ok (.iload 6, 2) := by decide +kernel
theorem dX3_worth_57 : decode cX3_worth 57 = .ok (.isub, 1) := by decide +kernel
theorem dX3_worth_58 : decode cX3_worth 58 = .ok (.aload_n 1, 1) := by decide +kernel
theorem dX3_worth_59 : decode cX3_worth 59 = .ok (.iload_n 2, 1) := by decide +kernel
theorem dX3_worth_60 : decode cX3_worth 60 = .ok (.iload_n 3, 1) := by decide +kernel
theorem dX3_worth_61 : decode cX3_worth 61 = .ok (.invokestatic 26, 3) := by decide +kernel
theorem dX3_worth_64 : decode cX3_worth 64 = .ok (.iastore, 1) := by decide +kernel
theorem dX3_worth_65 : decode cX3_worth 65 = .ok (.iinc 4 1, 3) := by decide +kernel
theorem dX3_worth_68 : decode cX3_worth 68 = .ok (.goto 84, 3) := by decide +kernel
theorem dX3_worth_71 : decode cX3_worth 71 = .ok (.iload 6, 2) := by decide +kernel
theorem dX3_worth_73 : decode cX3_worth 73 = .ok (.bipush (-100), 2) := by decide +kernel
theorem dX3_worth_75 : decode cX3_worth 75 = .ok (.if_icmp .ne 38, 3) := by decide +kernel
theorem dX3_worth_78 : decode cX3_worth 78 = .ok (.iload 4, 2) := by decide +kernel
theorem dX3_worth_80 : decode cX3_worth 80 = .ok (.iconst 1, 1) := by decide +kernel
theorem dX3_worth_81 : decode cX3_worth 81 = .ok (.if_icmp .lt 32, 3) := by decide +kernel
theorem dX3_worth_84 : decode cX3_worth 84 = .ok (.aload_n 0, 1) := by decide +kernel
theorem dX3_worth_85 : decode cX3_worth 85 = .ok (.getfield 19, 3) := by decide +kernel
theorem dX3_worth_88 : decode cX3_worth 88 = .ok (.iload 4, 2) := by decide +kernel
theorem dX3_worth_90 : decode cX3_worth 90 = .ok (.iconst 1, 1) := by decide +kernel
theorem dX3_worth_91 : decode cX3_worth 91 = .ok (.isub, 1) := by decide +kernel
theorem dX3_worth_92 : decode cX3_worth 92 = .ok (.aload_n 0, 1) := by decide +kernel
theorem dX3_worth_93 : decode cX3_worth 93 = .ok (.getfield 19, 3) := by decide +kernel
theorem dX3_worth_96 : decode cX3_worth 96 = .ok (.iload 4, 2) := by decide +kernel
theorem dX3_worth_98 : decode cX3_worth 98 = .ok (.iconst 1, 1) := by decide +kernel
theorem dX3_worth_99 : decode cX3_worth 99 = .ok (.isub, 1) := by decide +kernel
theorem dX3_worth_100 : decode cX3_worth 100 = .ok (.iaload, 1) := by decide +kernel
theorem dX3_worth_101 : decode cX3_worth 101 = .ok (.ifCond .ne 7, 3) := by decide +kernel
theorem dX3_worth_104 : decode cX3_worth 104 = .ok (.iconst 1, 1) := by decide +kernel
theorem dX3_worth_105 : decode cX3_worth 105 = .ok (.goto 4, 3) := by decide +kernel
theorem dX3_worth_108 : decode cX3_worth 108 = .ok (.iconst 0, 1) := by decide +kernel
theorem dX3_worth_109 : decode cX3_worth 109 = .ok (.iastore, 1) := by decide +kernel
theorem dX3_worth_110 : decode cX3_worth 110 = .ok (.goto 42, 3) := by decide +kernel
theorem dX3_worth_113 : decode cX3_worth 113 = .ok (.iload 4, 2) := by decide +kernel
theorem dX3_worth_115 : decode cX3_worth 115 = .ok (.iconst 2, 1) := by decide +kernel
theorem dX3_worth_116 : decode cX3_worth 116 = .ok (.if_icmp .lt 36, 3) := by decide +kernel
theorem dX3_worth_119 : decode cX3_worth 119 = .ok (.iinc 4 (-1), 3) := by decide +kernel
theorem dX3_worth_122 : decode cX3_worth 122 = .ok (.aload_n 0, 1) := by decide +kernel
theorem dX3_worth_123 : decode cX3_worth 123 = .ok (.getfield 19, 3) := by decide +kernel
theorem dX3_worth_126 : decode cX3_worth 126 = .ok (.iload 4, 2) := by decide +kernel
theorem dX3_worth_128 : decode cX3_worth 128 = .ok (.iconst 1, 1) := by decide +kernel
theorem dX3_worth_129 : decode cX3_worth 129 = .ok (.isub, 1) := by decide +kernel
theorem dX3_worth_130 : decode cX3_worth 130 = .ok (.iload 6, 2) := by decide +kernel
theorem dX3_worth_132 : decode cX3_worth 132 = .ok (.aload_n 0, 1) := by decide +kernel
theorem dX3_worth_133 : decode cX3_worth 133 = .ok (.getfield 19, 3) := by decide +kernel
theorem dX3_worth_136 : decode cX3_worth 136 = .ok (.iload 4, 2) := by decide +kernel
theorem dX3_worth_138 : decode cX3_worth 138 = .ok (.iconst 1, 1) := by decide +kernel
theorem dX3_worth_139 : decode cX3_worth 139 = .ok (.isub, 1) := by decide +kernel
theorem dX3_worth_140 : decode cX3_worth 140 = .ok (.iaload, 1) := by decide +kernel
theorem dX3_worth_141 : decode cX3_worth 141 = .ok (.aload_n 0, 1) := by decide +kernel
theorem dX3_worth_142 : decode cX3_worth 142 = .ok (.getfield 19, 3) := by decide +kernel
theorem dX3_worth_145 : decode cX3_worth 145 = .ok (.iload 4, 2) := by decide +kernel
theorem dX3_worth_147 : decode cX3_worth 147 = .ok (.iaload, 1) := by decide +kernel
theorem dX3_worth_148 : decode cX3_worth 148 = .ok (.invokestatic 30, 3) := by decide +kernel
theorem dX3_worth_151 : decode cX3_worth 151 = .ok (.iastore, 1) := by decide +kernel
theorem dX3_worth_152 : decode cX3_worth 152 = .ok (.iinc 5 1, 3) := by decide +kernel
theorem dX3_worth_155 : decode cX3_worth 155 = .ok (.goto (-149), 3) := by decide +kernel
theorem dX3_worth_158 : decode cX3_worth 158 = .ok (.aload_n 0, 1) := by decide +kernel
theorem dX3_worth_159 : decode cX3_worth 159 = .ok (.getfield 19, 3) := by decide +kernel
theorem dX3_worth_162 : decode cX3_worth 162 = .ok (.iconst 0, 1) := by decide +kernel
theorem dX3_worth_163 : decode cX3_worth 163 = .ok (.iaload, 1) := by decide +kernel
theorem dX3_worth_164 : decode cX3_worth 164 = .ok (.ireturn, 1) := by decide +kernel
theorem dX3_valueOf_0 : decode cX3_valueOf 0 = .ok (.iload_n 0, 1) := by decide +kernel
theorem dX3_valueOf_1 : decode cX3_valueOf 1 = .ok (.tableswitch 87 0 6 #[43, 50, 56, 63, 70, 77, 82], 43) := by decide +kernel
theorem dX3_valueOf_44 : decode cX3_valueOf 44 = .ok (.aload_n 1, 1) := by decide +kernel
theorem dX3_valueOf_45 : decode cX3_valueOf 45 = .ok (.getfield 34, 3) := by decide +kernel
theorem dX3_valueOf_48 : decode cX3_valueOf 48 = .ok (.iload_n 2, 1) := by decide +kernel
theorem dX3_valueOf_49 : decode cX3_valueOf 49 = .ok (.iaload, 1) := by decide +kernel
theorem dX3_valueOf_50 : decode cX3_valueOf 50 = .ok (.ireturn, 1) := by decide +kernel
theorem dX3_valueOf_51 : decode cX3_valueOf 51 = .ok (.aload_n 1, 1) := by decide +kernel
theorem dX3_valueOf_52 : decode cX3_valueOf 52 = .ok (.iload_n 2, 1) := by decide +kernel
theorem dX3_valueOf_53 : decode cX3_valueOf 53 = .ok (.invokevirtual 39, 3) := by decide +kernel
theorem dX3_valueOf_56 : decode cX3_valueOf 56 = .ok (.ireturn, 1) := by decide +kernel
theorem dX3_valueOf_57 : decode cX3_valueOf 57 = .ok (.aload_n 1, 1) := by decide +kernel
theorem dX3_valueOf_58 : decode cX3_valueOf 58 = .ok (.getfield 43, 3) := by decide +kernel
theorem dX3_valueOf_61 : decode cX3_valueOf 61 = .ok (.iload_n 2, 1) := by decide +kernel
theorem dX3_valueOf_62 : decode cX3_valueOf 62 = .ok (.iaload, 1) := by decide +kernel
theorem dX3_valueOf_63 : decode cX3_valueOf 63 = .ok (.ireturn, 1) := by decide +kernel
theorem dX3_valueOf_64 : decode cX3_valueOf 64 = .ok (.aload_n 1, 1) := by decide +kernel
theorem dX3_valueOf_65 : decode cX3_valueOf 65 = .ok (.getfield 46, 3) := by decide +kernel
theorem dX3_valueOf_68 : decode cX3_valueOf 68 = .ok (.iload_n 2, 1) := by decide +kernel
theorem dX3_valueOf_69 : decode cX3_valueOf 69 = .ok (.iaload, 1) := by decide +kernel
theorem dX3_valueOf_70 : decode cX3_valueOf 70 = .ok (.ireturn, 1) := by decide +kernel
theorem dX3_valueOf_71 : decode cX3_valueOf 71 = .ok (.aload_n 1, 1) := by decide +kernel
theorem dX3_valueOf_72 : decode cX3_valueOf 72 = .ok (.getfield 49, 3) := by decide +kernel
theorem dX3_valueOf_75 : decode cX3_valueOf 75 = .ok (.iload_n 2, 1) := by decide +kernel
theorem dX3_valueOf_76 : decode cX3_valueOf 76 = .ok (.iaload, 1) := by decide +kernel
theorem dX3_valueOf_77 : decode cX3_valueOf 77 = .ok (.ireturn, 1) := by decide +kernel
theorem dX3_valueOf_78 : decode cX3_valueOf 78 = .ok (.iload_n 3, 1) := by decide +kernel
theorem dX3_valueOf_79 : decode cX3_valueOf 79 = .ok (.bipush 24, 2) := by decide +kernel
theorem dX3_valueOf_81 : decode cX3_valueOf 81 = .ok (.irem, 1) := by decide +kernel
theorem dX3_valueOf_82 : decode cX3_valueOf 82 = .ok (.ireturn, 1) := by decide +kernel
theorem dX3_valueOf_83 : decode cX3_valueOf 83 = .ok (.iload_n 3, 1) := by decide +kernel
theorem dX3_valueOf_84 : decode cX3_valueOf 84 = .ok (.bipush 24, 2) := by decide +kernel
theorem dX3_valueOf_86 : decode cX3_valueOf 86 = .ok (.idiv, 1) := by decide +kernel
theorem dX3_valueOf_87 : decode cX3_valueOf 87 = .ok (.ireturn, 1) := by decide +kernel
theorem dX3_valueOf_88 : decode cX3_valueOf 88 = .ok (.aload_n 1, 1) := by decide +kernel
theorem dX3_valueOf_89 : decode cX3_valueOf 89 = .ok (.getfield 52, 3) := by decide +kernel
theorem dX3_valueOf_92 : decode cX3_valueOf 92 = .ok (.iload_n 2, 1) := by decide +kernel
theorem dX3_valueOf_93 : decode cX3_valueOf 93 = .ok (.iaload, 1) := by decide +kernel
theorem dX3_valueOf_94 : decode cX3_valueOf 94 = .ok (.ireturn, 1) := by decide +kernel
theorem dX3_join_0 : decode cX3_join 0 = .ok (.iload_n 0, 1) := by decide +kernel
theorem dX3_join_1 : decode cX3_join 1 = .ok (.lookupswitch 127 #[(-101, 113), (-61, 102), (-60, 91), (-47, 79), (-45, 71), (-43, 67), (-42, 75)], 67) := by decide +kernel
theorem dX3_join_68 : decode cX3_join 68 = .ok (.iload_n 1, 1) := by decide +kernel
theorem dX3_join_69 : decode cX3_join 69 = .ok (.iload_n 2, 1) := by decide +kernel
theorem dX3_join_70 : decode cX3_join 70 = .ok (.iadd, 1) := by decide +kernel
theorem dX3_join_71 : decode cX3_join 71 = .ok (.ireturn, 1) := by decide +kernel
theorem dX3_join_72 : decode cX3_join 72 = .ok (.iload_n 1, 1) := by decide +kernel
theorem dX3_join_73 : decode cX3_join 73 = .ok (.iload_n 2, 1) := by decide +kernel
theorem dX3_join_74 : decode cX3_join 74 = .ok (.isub, 1) := by decide +kernel
theorem dX3_join_75 : decode cX3_join 75 = .ok (.ireturn, 1) := by decide +kernel
theorem dX3_join_76 : decode cX3_join 76 = .ok (.iload_n 1, 1) := by decide +kernel
theorem dX3_join_77 : decode cX3_join 77 = .ok (.iload_n 2, 1) := by decide +kernel
theorem dX3_join_78 : decode cX3_join 78 = .ok (.imul, 1) := by decide +kernel
theorem dX3_join_79 : decode cX3_join 79 = .ok (.ireturn, 1) := by decide +kernel
theorem dX3_join_80 : decode cX3_join 80 = .ok (.iload_n 2, 1) := by decide +kernel
theorem dX3_join_81 : decode cX3_join 81 = .ok (.ifCond .ne 7, 3) := by decide +kernel
theorem dX3_join_84 : decode cX3_join 84 = .ok (.iconst 0, 1) := by decide +kernel
theorem dX3_join_85 : decode cX3_join 85 = .ok (.goto 6, 3) := by decide +kernel
theorem dX3_join_88 : decode cX3_join 88 = .ok (.iload_n 1, 1) := by decide +kernel
theorem dX3_join_89 : decode cX3_join 89 = .ok (.iload_n 2, 1) := by decide +kernel
theorem dX3_join_90 : decode cX3_join 90 = .ok (.idiv, 1) := by decide +kernel
theorem dX3_join_91 : decode cX3_join 91 = .ok (.ireturn, 1) := by decide +kernel
theorem dX3_join_92 : decode cX3_join 92 = .ok (.iload_n 1, 1) := by decide +kernel
theorem dX3_join_93 : decode cX3_join 93 = .ok (.iload_n 2, 1) := by decide +kernel
theorem dX3_join_94 : decode cX3_join 94 = .ok (.if_icmp .ge 7, 3) := by decide +kernel
theorem dX3_join_97 : decode cX3_join 97 = .ok (.iconst 1, 1) := by decide +kernel
theorem dX3_join_98 : decode cX3_join 98 = .ok (.goto 4, 3) := by decide +kernel
theorem dX3_join_101 : decode cX3_join 101 = .ok (.iconst 0, 1) := by decide +kernel
theorem dX3_join_102 : decode cX3_join 102 = .ok (.ireturn, 1) := by decide +kernel
theorem dX3_join_103 : decode cX3_join 103 = .ok (.iload_n 1, 1) := by decide +kernel
theorem dX3_join_104 : decode cX3_join 104 = .ok (.iload_n 2, 1) := by decide +kernel
theorem dX3_join_105 : decode cX3_join 105 = .ok (.if_icmp .ne 7, 3) := by decide +kernel
theorem dX3_join_108 : decode cX3_join 108 = .ok (.iconst 1, 1) := by decide +kernel
theorem dX3_join_109 : decode cX3_join 109 = .ok (.goto 4, 3) := by decide +kernel
theorem dX3_join_112 : decode cX3_join 112 = .ok (.iconst 0, 1) := by decide +kernel
theorem dX3_join_113 : decode cX3_join 113 = .ok (.ireturn, 1) := by decide +kernel
theorem dX3_join_114 : decode cX3_join 114 = .ok (.iload_n 1, 1) := by decide +kernel
theorem dX3_join_115 : decode cX3_join 115 = .ok (.ifCond .eq 11, 3) := by decide +kernel
theorem dX3_join_118 : decode cX3_join 118 = .ok (.iload_n 2, 1) := by decide +kernel
theorem dX3_join_119 : decode cX3_join 119 = .ok (.ifCond .eq 7, 3) := by decide +kernel
theorem dX3_join_122 : decode cX3_join 122 = .ok (.iconst 1, 1) := by decide +kernel
theorem dX3_join_123 : decode cX3_join 123 = .ok (.goto 4, 3) := by decide +kernel
theorem dX3_join_126 : decode cX3_join 126 = .ok (.iconst 0, 1) := by decide +kernel
theorem dX3_join_127 : decode cX3_join 127 = .ok (.ireturn, 1) := by decide +kernel
theorem dX3_join_128 : decode cX3_join 128 = .ok (.iload_n 1, 1) := by decide +kernel
theorem dX3_join_129 : decode cX3_join 129 = .ok (.ifCond .ne 7, 3) := by decide +kernel
theorem dX3_join_132 : decode cX3_join 132 = .ok (.iload_n 2, 1) := by decide +kernel
theorem dX3_join_133 : decode cX3_join 133 = .ok (.ifCond .eq 7, 3) := by decide +kernel
theorem dX3_join_136 : decode cX3_join 136 = .ok (.iconst 1, 1) := by decide +kernel
theorem dX3_join_137 : decode cX3_join 137 = .ok (.goto 4, 3) := by decide +kernel
theorem dX3_join_140 : decode cX3_join 140 = .ok (.iconst 0, 1) := by decide +kernel
theorem dX3_join_141 : decode cX3_join 141 = .ok (.ireturn, 1) := by decide +kernel
theorem dX4_init_0 : decode cX4_init 0 = .ok (.aload_n 0, 1) := by decide +kernel
theorem dX4_init_1 : decode cX4_init 1 = .ok (.invokespecial 3, 3) := by decide +kernel
theorem dX4_init_4 : decode cX4_init 4 = .ok (.aload_n 0, 1) := by decide +kernel
theorem dX4_init_5 : decode cX4_init 5 = .ok (.new 9, 3) := by decide +kernel
theorem dX4_init_8 : decode cX4_init 8 = .ok (.dup, 1) := by decide +kernel
theorem dX4_init_9 : decode cX4_init 9 = .ok (.invokespecial 11, 3) := by decide +kernel
theorem dX4_init_12 : decode cX4_init 12 = .ok (.putfield 12, 3) := by decide +kernel
theorem dX4_init_15 : decode cX4_init 15 = .ok (.aload_n 0, 1) := by decide +kernel
theorem dX4_init_16 : decode cX4_init 16 = .ok (.iconst 0, 1) := by decide +kernel
theorem dX4_init_17 : decode cX4_init 17 = .ok (.putfield 18, 3) := by decide +kernel
theorem dX4_init_20 : decode cX4_init 20 = .ok (.aload_n 0, 1) := by decide +kernel
theorem dX4_init_21 : decode cX4_init 21 = .ok (.bipush 12, 2) := by decide +kernel
theorem dX4_init_23 : decode cX4_init 23 = .ok (.newarray .int, 2) := by decide +kernel
theorem dX4_init_25 : decode cX4_init 25 = .ok (.putfield 22, 3) := by decide +kernel
theorem dX4_init_28 : decode cX4_init 28 = .ok (.aload_n 0, 1) := by decide +kernel
theorem dX4_init_29 : decode cX4_init 29 = .ok (.bipush 12, 2) := by decide +kernel
theorem dX4_init_31 : decode cX4_init 31 = .ok (.newarray .int, 2) := by decide +kernel
theorem dX4_init_33 : decode cX4_init 33 = .ok (.putfield 26, 3) := by decide +kernel
theorem dX4_init_36 : decode cX4_init 36 = .ok (.aload_n 0, 1) := by decide +kernel
theorem dX4_init_37 : decode cX4_init 37 = .ok (.bipush 12, 2) := by decide +kernel
theorem dX4_init_39 : decode cX4_init 39 = .ok (.newarray .int, 2) := by decide +kernel
theorem dX4_init_41 : decode cX4_init 41 = .ok (.putfield 29, 3) := by decide +kernel
theorem dX4_init_44 : decode cX4_init 44 = .ok (.aload_n 0, 1) := by decide +kernel
theorem dX4_init_45 : decode cX4_init 45 = .ok (.iconst 0, 1) := by decide +kernel
theorem dX4_init_46 : decode cX4_init 46 = .ok (.putfield 32, 3) := by decide +kernel
theorem dX4_init_49 : decode cX4_init 49 = .ok (.aload_n 0, 1) := by decide +kernel
theorem dX4_init_50 : decode cX4_init 50 = .ok (.iconst 2, 1) := by decide +kernel
theorem dX4_init_51 : decode cX4_init 51 = .ok (.putfield 35, 3) := by decide +kernel
theorem dX4_init_54 : decode cX4_init 54 = .ok (.aload_n 0, 1) := by decide +kernel
theorem dX4_init_55 : decode cX4_init 55 = .ok (.bipush 8, 2) := by decide +kernel
theorem dX4_init_57 : decode cX4_init 57 = .ok (.putfield 38, 3) := by decide +kernel
theorem dX4_init_60 : decode cX4_init 60 = .ok (.aload_n 0, 1) := by decide +kernel
theorem dX4_init_61 : decode cX4_init 61 = .ok (.iconst 4, 1) := by decide +kernel
theorem dX4_init_62 : decode cX4_init 62 = .ok (.newarray .int, 2) := by decide +kernel
theorem dX4_init_64 : decode cX4_init 64 = .ok (.putfield 41, 3) := by decide +kernel
theorem dX4_init_67 : decode cX4_init 67 = .ok (.aload_n 0, 1) := by decide +kernel
theorem dX4_init_68 : decode cX4_init 68 = .ok (.new 44, 3) := by decide +kernel
theorem dX4_init_71 : decode cX4_init 71 = .ok (.dup, 1) := by decide +kernel
theorem dX4_init_72 : decode cX4_init 72 = .ok (.invokespecial 46, 3) := by decide +kernel
theorem dX4_init_75 : decode cX4_init 75 = .ok (.putfield 47, 3) := by decide +kernel
theorem dX4_init_78 : decode cX4_init 78 = .ok (.aload_n 0, 1) := by decide +kernel
theorem dX4_init_79 : decode cX4_init 79 = .ok (.getfield 41, 3) := by decide +kernel
theorem dX4_init_82 : decode cX4_init 82 = .ok (.iconst 0, 1) := by decide +kernel
theorem dX4_init_83 : decode cX4_init 83 = .ok (.iconst 1, 1) := by decide +kernel
theorem dX4_init_84 : decode cX4_init 84 = .ok (.iastore, 1) := by decide +kernel
theorem dX4_init_85 : decode cX4_init 85 = .ok (.return_, 1) := by decide +kernel
theorem dX4_clear_0 : decode cX4_clear 0 = .ok (.aload_n 0, 1) := by decide +kernel
theorem dX4_clear_1 : decode cX4_clear 1 = .ok (.getfield 12, 3) := by decide +kernel
theorem dX4_clear_4 : decode cX4_clear 4 = .ok (.iconst 0, 1) := by decide +kernel
theorem dX4_clear_5 : decode cX4_clear 5 = .ok (.putfield 51, 3) := by decide +kernel
theorem dX4_clear_8 : decode cX4_clear 8 = .ok (.aload_n 0, 1) := by decide +kernel
theorem dX4_clear_9 : decode cX4_clear 9 = .ok (.iconst 0, 1) := by decide +kernel
theorem dX4_clear_10 : decode cX4_clear 10 = .ok (.putfield 18, 3) := by decide +kernel
theorem dX4_clear_13 : decode cX4_clear 13 = .ok (.aload_n 0, 1) := by decide +kernel
theorem dX4_clear_14 : decode cX4_clear 14 = .ok (.iconst 0, 1) := by decide +kernel
theorem dX4_clear_15 : decode cX4_clear 15 = .ok (.putfield 32, 3) := by decide +kernel
theorem dX4_clear_18 : decode cX4_clear 18 = .ok (.aload_n 0, 1) := by decide +kernel
theorem dX4_clear_19 : decode cX4_clear 19 = .ok (.iconst 2, 1) := by decide +kernel
theorem dX4_clear_20 : decode cX4_clear 20 = .ok (.putfield 35, 3) := by decide +kernel
theorem dX4_clear_23 : decode cX4_clear 23 = .ok (.aload_n 0, 1) := by decide +kernel
theorem dX4_clear_24 : decode cX4_clear 24 = .ok (.bipush 8, 2) := by decide +kernel
theorem dX4_clear_26 : decode cX4_clear 26 = .ok (.putfield 38, 3) := by decide +kernel
theorem dX4_clear_29 : decode cX4_clear 29 = .ok (.aload_n 0, 1) := by decide +kernel
theorem dX4_clear_30 : decode cX4_clear 30 = .ok (.getfield 41, 3) := by decide +kernel
theorem dX4_clear_33 : decode cX4_clear 33 = .ok (.iconst 0, 1) := by decide +kernel
theorem dX4_clear_34 : decode cX4_clear 34 = .ok (.iconst 1, 1) := by decide +kernel
theorem dX4_clear_35 : decode cX4_clear 35 = .ok (.iastore, 1) := by decide +kernel
theorem dX4_clear_36 : decode cX4_clear 36 = .ok (.iconst 1, 1) := by decide +kernel
theorem dX4_clear_37 : decode cX4_clear 37 = .ok (.istore_n 1, 1) := by decide +kernel
theorem dX4_clear_38 : decode cX4_clear 38 = .ok (.iload_n 1, 1) := by decide +kernel
theorem dX4_clear_39 : decode cX4_clear 39 = .ok (.iconst 4, 1) := by decide +kernel
theorem dX4_clear_40 : decode cX4_clear 40 = .ok (.if_icmp .ge 16, 3) := by decide +kernel
theorem dX4_clear_43 : decode cX4_clear 43 = .ok (.aload_n 0, 1) := by decide +kernel
theorem dX4_clear_44 : decode cX4_clear 44 = .ok (.getfield 41, 3) := by decide +kernel
theorem dX4_clear_47 : decode cX4_clear 47 = .ok (.iload_n 1, 1) := by decide +kernel
theorem dX4_clear_48 : decode cX4_clear 48 = .ok (.iconst 0, 1) := by decide +kernel
theorem dX4_clear_49 : decode cX4_clear 49 = .ok (.iastore, 1) := by decide +kernel
theorem dX4_clear_50 : decode cX4_clear 50 = .ok (.iinc 1 1, 3) := by decide +kernel
theorem dX4_clear_53 : decode cX4_clear 53 = .ok (.goto (-15), 3) := by decide +kernel
theorem dX4_clear_56 : decode cX4_clear 56 = .ok (.aload_n 0, 1) := by decide +kernel
theorem dX4_clear_57 : decode cX4_clear 57 = .ok (.getfield 47, 3) := by decide +kernel
theorem dX4_clear_60 : decode cX4_clear 60 = .ok (.iconst 0, 1) := by decide +kernel
theorem dX4_clear_61 : decode cX4_clear 61 = .ok (.putfield 54, 3) := by decide +kernel
theorem dX4_clear_64 : decode cX4_clear 64 = .ok (.return_, 1) := by decide +kernel
theorem dX4_hasWindFrom_0 : decode cX4_hasWindFrom 0 = .ok (.iconst 0, 1) := by decide +kernel
theorem dX4_hasWindFrom_1 : decode cX4_hasWindFrom 1 = .ok (.istore_n 2, 1) := by decide +kernel
theorem dX4_hasWindFrom_2 : decode cX4_hasWindFrom 2 = .ok (.iload_n 2, 1) := by decide +kernel
theorem dX4_hasWindFrom_3 : decode cX4_hasWindFrom 3 = .ok (.aload_n 0, 1) := by decide +kernel
theorem dX4_hasWindFrom_4 : decode cX4_hasWindFrom 4 = .ok (.getfield 18, 3) := by decide +kernel
theorem dX4_hasWindFrom_7 : decode cX4_hasWindFrom 7 = .ok (.if_icmp .ge 21, 3) := by decide +kernel
theorem dX4_hasWindFrom_10 : decode cX4_hasWindFrom 10 = .ok (.aload_n 0, 1) := by decide +kernel
theorem dX4_hasWindFrom_11 : decode cX4_hasWindFrom 11 = .ok (.getfield 22, 3) := by decide +kernel
theorem dX4_hasWindFrom_14 : decode cX4_hasWindFrom 14 = .ok (.iload_n 2, 1) := by decide +kernel
theorem dX4_hasWindFrom_15 : decode cX4_hasWindFrom 15 = .ok (.iaload, 1) := by decide +kernel
theorem dX4_hasWindFrom_16 : decode cX4_hasWindFrom 16 = .ok (.iload_n 1, 1) := by decide +kernel
theorem dX4_hasWindFrom_17 : decode cX4_hasWindFrom 17 = .ok (.if_icmp .ne 5, 3) := by decide +kernel
theorem dX4_hasWindFrom_20 : decode cX4_hasWindFrom 20 = .ok (.iconst 1, 1) := by decide +kernel
theorem dX4_hasWindFrom_21 : decode cX4_hasWindFrom 21 = .ok (.ireturn, 1) := by decide +kernel
theorem dX4_hasWindFrom_22 : decode cX4_hasWindFrom 22 = .ok (.iinc 2 1, 3) := by decide +kernel
theorem dX4_hasWindFrom_25 : decode cX4_hasWindFrom 25 = .ok (.goto (-23), 3) := by decide +kernel
theorem dX4_hasWindFrom_28 : decode cX4_hasWindFrom 28 = .ok (.iconst 0, 1) := by decide +kernel
theorem dX4_hasWindFrom_29 : decode cX4_hasWindFrom 29 = .ok (.ireturn, 1) := by decide +kernel
theorem dX4_windAlongX_0 : decode cX4_windAlongX 0 = .ok (.aload_n 0, 1) := by decide +kernel
theorem dX4_windAlongX_1 : decode cX4_windAlongX 1 = .ok (.iload_n 1, 1) := by decide +kernel
theorem dX4_windAlongX_2 : decode cX4_windAlongX 2 = .ok (.invokevirtual 57, 3) := by decide +kernel
theorem dX4_windAlongX_5 : decode cX4_windAlongX 5 = .ok (.istore_n 2, 1) := by decide +kernel
theorem dX4_windAlongX_6 : decode cX4_windAlongX 6 = .ok (.iload_n 2, 1) := by decide +kernel
theorem dX4_windAlongX_7 : decode cX4_windAlongX 7 = .ok (.iconst (-1), 1) := by decide +kernel
theorem dX4_windAlongX_8 : decode cX4_windAlongX 8 = .ok (.if_icmp .ne 7, 3) := by decide +kernel
theorem dX4_windAlongX_11 : decode cX4_windAlongX 11 = .ok (.iconst 0, 1) := by decide +kernel
theorem dX4_windAlongX_12 : decode cX4_windAlongX 12 = .ok (.goto 9, 3) := by decide +kernel
theorem dX4_windAlongX_15 : decode cX4_windAlongX 15 = .ok (.aload_n 0, 1) := by decide +kernel
theorem dX4_windAlongX_16 : decode cX4_windAlongX 16 = .ok (.getfield 26, 3) := by decide +kernel
theorem dX4_windAlongX_19 : decode cX4_windAlongX 19 = .ok (.iload_n 2, 1) := by decide +kernel
theorem dX4_windAlongX_20 : decode cX4_windAlongX 20 = .ok (.iaload, 1) := by decide +kernel
theorem dX4_windAlongX_21 : decode cX4_windAlongX 21 = .ok (.ireturn, 1) := by decide +kernel
theorem dX4_windAlongY_0 : decode cX4_windAlongY 0 = .ok (.aload_n 0, 1) := by decide +kernel
theorem dX4_windAlongY_1 : decode cX4_windAlongY 1 = .ok (.iload_n 1, 1) := by decide +kernel
theorem dX4_windAlongY_2 : decode cX4_windAlongY 2 = .ok (.invokevirtual 57, 3) := by decide +kernel
theorem dX4_windAlongY_5 : decode cX4_windAlongY 5 = .ok (.istore_n 2, 1) := by decide +kernel
theorem dX4_windAlongY_6 : decode cX4_windAlongY 6 = .ok (.iload_n 2, 1) := by decide +kernel
theorem dX4_windAlongY_7 : decode cX4_windAlongY 7 = .ok (.iconst (-1), 1) := by decide +kernel
theorem dX4_windAlongY_8 : decode cX4_windAlongY 8 = .ok (.if_icmp .ne 7, 3) := by decide +kernel
theorem dX4_windAlongY_11 : decode cX4_windAlongY 11 = .ok (.iconst 0, 1) := by decide +kernel
theorem dX4_windAlongY_12 : decode cX4_windAlongY 12 = .ok (.goto 9, 3) := by decide +kernel
theorem dX4_windAlongY_15 : decode cX4_windAlongY 15 = .ok (.aload_n 0, 1) := by decide +kernel
theorem dX4_windAlongY_16 : decode cX4_windAlongY 16 = .ok (.getfield 29, 3) := by decide +kernel
theorem dX4_windAlongY_19 : decode cX4_windAlongY 19 = .ok (.iload_n 2, 1) := by decide +kernel
theorem dX4_windAlongY_20 : decode cX4_windAlongY 20 = .ok (.iaload, 1) := by decide +kernel
theorem dX4_windAlongY_21 : decode cX4_windAlongY 21 = .ok (.ireturn, 1) := by decide +kernel
theorem dX4_latestWind_0 : decode cX4_latestWind 0 = .ok (.iconst (-1), 1) := by decide +kernel
theorem dX4_latestWind_1 : decode cX4_latestWind 1 = .ok (.istore_n 2, 1) := by decide +kernel
theorem dX4_latestWind_2 : decode cX4_latestWind 2 = .ok (.iconst 0, 1) := by decide +kernel
theorem dX4_latestWind_3 : decode cX4_latestWind 3 = .ok (.istore_n 3, 1) := by decide +kernel
theorem dX4_latestWind_4 : decode cX4_latestWind 4 = .ok (.iload_n 3, 1) := by decide +kernel
theorem dX4_latestWind_5 : decode cX4_latestWind 5 = .ok (.aload_n 0, 1) := by decide +kernel
theorem dX4_latestWind_6 : decode cX4_latestWind 6 = .ok (.getfield 18, 3) := by decide +kernel
theorem dX4_latestWind_9 : decode cX4_latestWind 9 = .ok (.if_icmp .ge 41, 3) := by decide +kernel
theorem dX4_latestWind_12 : decode cX4_latestWind 12 = .ok (.aload_n 0, 1) := by decide +kernel
theorem dX4_latestWind_13 : decode cX4_latestWind 13 = .ok (.getfield 22, 3) := by decide +kernel
theorem dX4_latestWind_16 : decode cX4_latestWind 16 = .ok (.iload_n 3, 1) := by decide +kernel
theorem dX4_latestWind_17 : decode cX4_latestWind 17 = .ok (.iaload, 1) := by decide +kernel
theorem dX4_latestWind_18 : decode cX4_latestWind 18 = .ok (.iload_n 1, 1) := by decide +kernel
theorem dX4_latestWind_19 : decode cX4_latestWind 19 = .ok (.if_icmp .gt 25, 3) := by decide +kernel
theorem dX4_latestWind_22 : decode cX4_latestWind 22 = .ok (.iload_n 2, 1) := by decide +kernel
theorem dX4_latestWind_23 : decode cX4_latestWind 23 = .ok (.iconst (-1), 1) := by decide +kernel
theorem dX4_latestWind_24 : decode cX4_latestWind 24 = .ok (.if_icmp .eq 18, 3) := by decide +kernel
theorem dX4_latestWind_27 : decode cX4_latestWind 27 = .ok (.aload_n 0, 1) := by decide +kernel
theorem dX4_latestWind_28 : decode cX4_latestWind 28 = .ok (.getfield 22, 3) := by decide +kernel
theorem dX4_latestWind_31 : decode cX4_latestWind 31 = .ok (.iload_n 3, 1) := by decide +kernel
theorem dX4_latestWind_32 : decode cX4_latestWind 32 = .ok (.iaload, 1) := by decide +kernel
theorem dX4_latestWind_33 : decode cX4_latestWind 33 = .ok (.aload_n 0, 1) := by decide +kernel
theorem dX4_latestWind_34 : decode cX4_latestWind 34 = .ok (.getfield 22, 3) := by decide +kernel
theorem dX4_latestWind_37 : decode cX4_latestWind 37 = .ok (.iload_n 2, 1) := by decide +kernel
theorem dX4_latestWind_38 : decode cX4_latestWind 38 = .ok (.iaload, 1) := by decide +kernel
theorem dX4_latestWind_39 : decode cX4_latestWind 39 = .ok (.if_icmp .le 5, 3) := by decide +kernel
theorem dX4_latestWind_42 : decode cX4_latestWind 42 = .ok (.iload_n 3, 1) := by decide +kernel
theorem dX4_latestWind_43 : decode cX4_latestWind 43 = .ok (.istore_n 2, 1) := by decide +kernel
theorem dX4_latestWind_44 : decode cX4_latestWind 44 = .ok (.iinc 3 1, 3) := by decide +kernel
theorem dX4_latestWind_47 : decode cX4_latestWind 47 = .ok (.goto (-43), 3) := by decide +kernel
theorem dX4_latestWind_50 : decode cX4_latestWind 50 = .ok (.iload_n 2, 1) := by decide +kernel
theorem dX4_latestWind_51 : decode cX4_latestWind 51 = .ok (.ireturn, 1) := by decide +kernel
theorem dX4_allWeights_0 : decode cX4_allWeights 0 = .ok (.iconst 0, 1) := by decide +kernel
theorem dX4_allWeights_1 : decode cX4_allWeights 1 = .ok (.istore_n 1, 1) := by decide +kernel
theorem dX4_allWeights_2 : decode cX4_allWeights 2 = .ok (.iconst 0, 1) := by decide +kernel
theorem dX4_allWeights_3 : decode cX4_allWeights 3 = .ok (.istore_n 2, 1) := by decide +kernel
theorem dX4_allWeights_4 : decode cX4_allWeights 4 = .ok (.iload_n 2, 1) := by decide +kernel
theorem dX4_allWeights_5 : decode cX4_allWeights 5 = .ok (.iconst 4, 1) := by decide +kernel
theorem dX4_allWeights_6 : decode cX4_allWeights 6 = .ok (.if_icmp .ge 18, 3) := by decide +kernel
theorem dX4_allWeights_9 : decode cX4_allWeights 9 = .ok (.iload_n 1, 1) := by decide +kernel
theorem dX4_allWeights_10 : decode cX4_allWeights 10 = .ok (.aload_n 0, 1) := by decide +kernel
theorem dX4_allWeights_11 : decode cX4_allWeights 11 = .ok (.getfield 41, 3) := by decide +kernel
theorem dX4_allWeights_14 : decode cX4_allWeights 14 = .ok (.iload_n 2, 1) := by decide +kernel
theorem dX4_allWeights_15 : decode cX4_allWeights 15 = .ok (.iaload, 1) := by decide +kernel
theorem dX4_allWeights_16 : decode cX4_allWeights 16 = .ok (.iadd, 1) := by decide +kernel
theorem dX4_allWeights_17 : decode cX4_allWeights 17 = .ok (.istore_n 1, 1) := by decide +kernel
theorem dX4_allWeights_18 : decode cX4_allWeights 18 = .ok (.iinc 2 1, 3) := by decide +kernel
theorem dX4_allWeights_21 : decode cX4_allWeights 21 = .ok (.goto (-17), 3) := by decide +kernel
theorem dX4_allWeights_24 : decode cX4_allWeights 24 = .ok (.iload_n 1, 1) := by decide +kernel
theorem dX4_allWeights_25 : decode cX4_allWeights 25 = .ok (.ireturn, 1) := by decide +kernel
theorem dX4_pushOf_0 : decode cX4_pushOf 0 = .ok (.aload_n 0, 1) := by decide +kernel
theorem dX4_pushOf_1 : decode cX4_pushOf 1 = .ok (.getfield 47, 3) := by decide +kernel
theorem dX4_pushOf_4 : decode cX4_pushOf 4 = .ok (.getfield 54, 3) := by decide +kernel
theorem dX4_pushOf_7 : decode cX4_pushOf 7 = .ok (.ifCond .ne 8, 3) := by decide +kernel
theorem dX4_pushOf_10 : decode cX4_pushOf 10 = .ok (.bipush 50, 2) := by decide +kernel
theorem dX4_pushOf_12 : decode cX4_pushOf 12 = .ok (.goto 13, 3) := by decide +kernel
theorem dX4_pushOf_15 : decode cX4_pushOf 15 = .ok (.aload_n 0, 1) := by decide +kernel
theorem dX4_pushOf_16 : decode cX4_pushOf 16 = .ok (.getfield 47, 3) := by decide +kernel
theorem dX4_pushOf_19 : decode cX4_pushOf 19 = .ok (.aload_n 1, 1) := by decide +kernel
theorem dX4_pushOf_20 : decode cX4_pushOf 20 = .ok (.iload_n 2, 1) := by decide +kernel
theorem dX4_pushOf_21 : decode cX4_pushOf 21 = .ok (.iload_n 3, 1) := by decide +kernel
theorem dX4_pushOf_22 : decode cX4_pushOf 22 = .ok (.invokevirtual 61, 3) := by decide +kernel
theorem dX4_pushOf_25 : decode cX4_pushOf 25 = .ok (.istore 5, 2) := by decide +kernel
theorem dX4_pushOf_27 : decode cX4_pushOf 27 = .ok (.iload 5, 2) := by decide +kernel
theorem dX4_pushOf_29 : decode cX4_pushOf 29 = .ok (.iconst 0, 1) := by decide +kernel
theorem dX4_pushOf_30 : decode cX4_pushOf 30 = .ok (.invokestatic 65, 3) := by decide +kernel
theorem dX4_pushOf_33 : decode cX4_pushOf 33 = .ok (.bipush 100, 2) := by decide +kernel
theorem dX4_pushOf_35 : decode cX4_pushOf 35 = .ok (.invokestatic 71, 3) := by decide +kernel
theorem dX4_pushOf_38 : decode cX4_pushOf 38 = .ok (.istore 6, 2) := by decide +kernel
theorem dX4_pushOf_40 : decode cX4_pushOf 40 = .ok (.iload 6, 2) := by decide +kernel
theorem dX4_pushOf_42 : decode cX4_pushOf 42 = .ok (.bipush 20, 2) := by decide +kernel
theorem dX4_pushOf_44 : decode cX4_pushOf 44 = .ok (.iload 4, 2) := by decide +kernel
theorem dX4_pushOf_46 : decode cX4_pushOf 46 = .ok (.imul, 1) := by decide +kernel
theorem dX4_pushOf_47 : decode cX4_pushOf 47 = .ok (.iadd, 1) := by decide +kernel
theorem dX4_pushOf_48 : decode cX4_pushOf 48 = .ok (.bipush 100, 2) := by decide +kernel
theorem dX4_pushOf_50 : decode cX4_pushOf 50 = .ok (.invokestatic 71, 3) := by decide +kernel
theorem dX4_pushOf_53 : decode cX4_pushOf 53 = .ok (.istore 7, 2) := by decide +kernel
theorem dX4_pushOf_55 : decode cX4_pushOf 55 = .ok (.aload_n 1, 1) := by decide +kernel
theorem dX4_pushOf_56 : decode cX4_pushOf 56 = .ok (.getfield 74, 3) := by decide +kernel
theorem dX4_pushOf_59 : decode cX4_pushOf 59 = .ok (.iload_n 2, 1) := by decide +kernel
theorem dX4_pushOf_60 : decode cX4_pushOf 60 = .ok (.iaload, 1) := by decide +kernel
theorem dX4_pushOf_61 : decode cX4_pushOf 61 = .ok (.iconst 2, 1) := by decide +kernel
theorem dX4_pushOf_62 : decode cX4_pushOf 62 = .ok (.if_icmp .ne 10, 3) := by decide +kernel
theorem dX4_pushOf_65 : decode cX4_pushOf 65 = .ok (.iload 7, 2) := by decide +kernel
theorem dX4_pushOf_67 : decode cX4_pushOf 67 = .ok (.iconst 2, 1) := by decide +kernel
theorem dX4_pushOf_68 : decode cX4_pushOf 68 = .ok (.idiv, 1) := by decide +kernel
theorem dX4_pushOf_69 : decode cX4_pushOf 69 = .ok (.goto 5, 3) := by decide +kernel
theorem dX4_pushOf_72 : decode cX4_pushOf 72 = .ok (.iload 7, 2) := by decide +kernel
theorem dX4_pushOf_74 : decode cX4_pushOf 74 = .ok (.ireturn, 1) := by decide +kernel
theorem dX5_init_0 : decode cX5_init 0 = .ok (.aload_n 0, 1) := by decide +kernel
theorem dX5_init_1 : decode cX5_init 1 = .ok (.invokespecial 3, 3) := by decide +kernel
theorem dX5_init_4 : decode cX5_init 4 = .ok (.aload_n 0, 1) := by decide +kernel
theorem dX5_init_5 : decode cX5_init 5 = .ok (.new 9, 3) := by decide +kernel
theorem dX5_init_8 : decode cX5_init 8 = .ok (.dup, 1) := by decide +kernel
theorem dX5_init_9 : decode cX5_init 9 = .ok (.invokespecial 11, 3) := by decide +kernel
theorem dX5_init_12 : decode cX5_init 12 = .ok (.putfield 12, 3) := by decide +kernel
theorem dX5_init_15 : decode cX5_init 15 = .ok (.aload_n 0, 1) := by decide +kernel
theorem dX5_init_16 : decode cX5_init 16 = .ok (.sipush 200, 3) := by decide +kernel
theorem dX5_init_19 : decode cX5_init 19 = .ok (.newarray .int, 2) := by decide +kernel
theorem dX5_init_21 : decode cX5_init 21 = .ok (.putfield 18, 3) := by decide +kernel
theorem dX5_init_24 : decode cX5_init 24 = .ok (.aload_n 0, 1) := by decide +kernel
theorem dX5_init_25 : decode cX5_init 25 = .ok (.iconst 0, 1) := by decide +kernel
theorem dX5_init_26 : decode cX5_init 26 = .ok (.putfield 22, 3) := by decide +kernel
theorem dX5_init_29 : decode cX5_init 29 = .ok (.aload_n 0, 1) := by decide +kernel
theorem dX5_init_30 : decode cX5_init 30 = .ok (.bipush 40, 2) := by decide +kernel
theorem dX5_init_32 : decode cX5_init 32 = .ok (.newarray .int, 2) := by decide +kernel
theorem dX5_init_34 : decode cX5_init 34 = .ok (.putfield 26, 3) := by decide +kernel
theorem dX5_init_37 : decode cX5_init 37 = .ok (.aload_n 0, 1) := by decide +kernel
theorem dX5_init_38 : decode cX5_init 38 = .ok (.iconst 0, 1) := by decide +kernel
theorem dX5_init_39 : decode cX5_init 39 = .ok (.putfield 29, 3) := by decide +kernel
theorem dX5_init_42 : decode cX5_init 42 = .ok (.aload_n 0, 1) := by decide +kernel
theorem dX5_init_43 : decode cX5_init 43 = .ok (.bipush 36, 2) := by decide +kernel
theorem dX5_init_45 : decode cX5_init 45 = .ok (.newarray .int, 2) := by decide +kernel
theorem dX5_init_47 : decode cX5_init 47 = .ok (.putfield 32, 3) := by decide +kernel
theorem dX5_init_50 : decode cX5_init 50 = .ok (.aload_n 0, 1) := by decide +kernel
theorem dX5_init_51 : decode cX5_init 51 = .ok (.iconst 0, 1) := by decide +kernel
theorem dX5_init_52 : decode cX5_init 52 = .ok (.putfield 35, 3) := by decide +kernel
theorem dX5_init_55 : decode cX5_init 55 = .ok (.aload_n 0, 1) := by decide +kernel
theorem dX5_init_56 : decode cX5_init 56 = .ok (.iconst 3, 1) := by decide +kernel
theorem dX5_init_57 : decode cX5_init 57 = .ok (.newarray .int, 2) := by decide +kernel
theorem dX5_init_59 : decode cX5_init 59 = .ok (.putfield 38, 3) := by decide +kernel
theorem dX5_init_62 : decode cX5_init 62 = .ok (.return_, 1) := by decide +kernel
theorem dX5_begin_0 : decode cX5_begin 0 = .ok (.aload_n 0, 1) := by decide +kernel
theorem dX5_begin_1 : decode cX5_begin 1 = .ok (.getfield 12, 3) := by decide +kernel
theorem dX5_begin_4 : decode cX5_begin 4 = .ok (.aload_n 1, 1) := by decide +kernel
theorem dX5_begin_5 : decode cX5_begin 5 = .ok (.invokevirtual 41, 3) := by decide +kernel
theorem dX5_begin_8 : decode cX5_begin 8 = .ok (.aload_n 0, 1) := by decide +kernel
theorem dX5_begin_9 : decode cX5_begin 9 = .ok (.iconst 0, 1) := by decide +kernel
theorem dX5_begin_10 : decode cX5_begin 10 = .ok (.putfield 22, 3) := by decide +kernel
theorem dX5_begin_13 : decode cX5_begin 13 = .ok (.aload_n 0, 1) := by decide +kernel
theorem dX5_begin_14 : decode cX5_begin 14 = .ok (.iconst 0, 1) := by decide +kernel
theorem dX5_begin_15 : decode cX5_begin 15 = .ok (.putfield 29, 3) := by decide +kernel
theorem dX5_begin_18 : decode cX5_begin 18 = .ok (.aload_n 0, 1) := by decide +kernel
theorem dX5_begin_19 : decode cX5_begin 19 = .ok (.iconst 0, 1) := by decide +kernel
theorem dX5_begin_20 : decode cX5_begin 20 = .ok (.putfield 35, 3) := by decide +kernel
theorem dX5_begin_23 : decode cX5_begin 23 = .ok (.return_, 1) := by decide +kernel
theorem dX5_copyFrom_0 : decode cX5_copyFrom 0 = .ok (.aload_n 0, 1) := by decide +kernel
theorem dX5_copyFrom_1 : decode cX5_copyFrom 1 = .ok (.getfield 12, 3) := by decide +kernel
theorem dX5_copyFrom_4 : decode cX5_copyFrom 4 = .ok (.aload_n 1, 1) := by decide +kernel
theorem dX5_copyFrom_5 : decode cX5_copyFrom 5 = .ok (.getfield 12, 3) := by decide +kernel
theorem dX5_copyFrom_8 : decode cX5_copyFrom 8 = .ok (.invokevirtual 41, 3) := by decide +kernel
theorem dX5_copyFrom_11 : decode cX5_copyFrom 11 = .ok (.aload_n 1, 1) := by decide +kernel
theorem dX5_copyFrom_12 : decode cX5_copyFrom 12 = .ok (.getfield 18, 3) := by decide +kernel
theorem dX5_copyFrom_15 : decode cX5_copyFrom 15 = .ok (.iconst 0, 1) := by decide +kernel
theorem dX5_copyFrom_16 : decode cX5_copyFrom 16 = .ok (.aload_n 0, 1) := by decide +kernel
theorem dX5_copyFrom_17 : decode cX5_copyFrom 17 = .ok (.getfield 18, 3) := by decide +kernel
theorem dX5_copyFrom_20 : decode cX5_copyFrom 20 = .ok (.iconst 0, 1) := by decide +kernel
theorem dX5_copyFrom_21 : decode cX5_copyFrom 21 = .ok (.sipush 200, 3) := by decide +kernel
theorem dX5_copyFrom_24 : decode cX5_copyFrom 24 = .ok (.invokestatic 45, 3) := by decide +kernel
theorem dX5_copyFrom_27 : decode cX5_copyFrom 27 = .ok (.aload_n 0, 1) := by decide +kernel
theorem dX5_copyFrom_28 : decode cX5_copyFrom 28 = .ok (.aload_n 1, 1) := by decide +kernel
theorem dX5_copyFrom_29 : decode cX5_copyFrom 29 = .ok (.getfield 22, 3) := by decide +kernel
theorem dX5_copyFrom_32 : decode cX5_copyFrom 32 = .ok (.putfield 22, 3) := by decide +kernel
theorem dX5_copyFrom_35 : decode cX5_copyFrom 35 = .ok (.aload_n 1, 1) := by decide +kernel
theorem dX5_copyFrom_36 : decode cX5_copyFrom 36 = .ok (.getfield 26, 3) := by decide +kernel
theorem dX5_copyFrom_39 : decode cX5_copyFrom 39 = .ok (.iconst 0, 1) := by decide +kernel
theorem dX5_copyFrom_40 : decode cX5_copyFrom 40 = .ok (.aload_n 0, 1) := by decide +kernel
theorem dX5_copyFrom_41 : decode cX5_copyFrom 41 = .ok (.getfield 26, 3) := by decide +kernel
theorem dX5_copyFrom_44 : decode cX5_copyFrom 44 = .ok (.iconst 0, 1) := by decide +kernel
theorem dX5_copyFrom_45 : decode cX5_copyFrom 45 = .ok (.bipush 40, 2) := by decide +kernel
theorem dX5_copyFrom_47 : decode cX5_copyFrom 47 = .ok (.invokestatic 45, 3) := by decide +kernel
theorem dX5_copyFrom_50 : decode cX5_copyFrom 50 = .ok (.aload_n 0, 1) := by decide +kernel
theorem dX5_copyFrom_51 : decode cX5_copyFrom 51 = .ok (.aload_n 1, 1) := by decide +kernel
theorem dX5_copyFrom_52 : decode cX5_copyFrom 52 = .ok (.getfield 29, 3) := by decide +kernel
theorem dX5_copyFrom_55 : decode cX5_copyFrom 55 = .ok (.putfield 29, 3) := by decide +kernel
theorem dX5_copyFrom_58 : decode cX5_copyFrom 58 = .ok (.aload_n 1, 1) := by decide +kernel
theorem dX5_copyFrom_59 : decode cX5_copyFrom 59 = .ok (.getfield 32, 3) := by decide +kernel
theorem dX5_copyFrom_62 : decode cX5_copyFrom 62 = .ok (.iconst 0, 1) := by decide +kernel
theorem dX5_copyFrom_63 : decode cX5_copyFrom 63 = .ok (.aload_n 0, 1) := by decide +kernel
theorem dX5_copyFrom_64 : decode cX5_copyFrom 64 = .ok (.getfield 32, 3) := by decide +kernel
theorem dX5_copyFrom_67 : decode cX5_copyFrom 67 = .ok (.iconst 0, 1) := by decide +kernel
theorem dX5_copyFrom_68 : decode cX5_copyFrom 68 = .ok (.bipush 36, 2) := by decide +kernel
theorem dX5_copyFrom_70 : decode cX5_copyFrom 70 = .ok (.invokestatic 45, 3) := by decide +kernel
theorem dX5_copyFrom_73 : decode cX5_copyFrom 73 = .ok (.aload_n 0, 1) := by decide +kernel
theorem dX5_copyFrom_74 : decode cX5_copyFrom 74 = .ok (.aload_n 1, 1) := by decide +kernel
theorem dX5_copyFrom_75 : decode cX5_copyFrom 75 = .ok (.getfield 35, 3) := by decide +kernel
theorem dX5_copyFrom_78 : decode cX5_copyFrom 78 = .ok (.putfield 35, 3) := by decide +kernel
theorem dX5_copyFrom_81 : decode cX5_copyFrom 81 = .ok (.aload_n 1, 1) := by decide +kernel
theorem dX5_copyFrom_82 : decode cX5_copyFrom 82 = .ok (.getfield 38, 3) := by decide +kernel
theorem dX5_copyFrom_85 : decode cX5_copyFrom 85 = .ok (.iconst 0, 1) := by decide +kernel
theorem dX5_copyFrom_86 : decode cX5_copyFrom 86 = .ok (.aload_n 0, 1) := by decide +kernel
theorem dX5_copyFrom_87 : decode cX5_copyFrom 87 = .ok (.getfield 38, 3) := by decide +kernel
theorem dX5_copyFrom_90 : decode cX5_copyFrom 90 = .ok (.iconst 0, 1) := by decide +kernel
theorem dX5_copyFrom_91 : decode cX5_copyFrom 91 = .ok (.iconst 3, 1) := by decide +kernel
theorem dX5_copyFrom_92 : decode cX5_copyFrom 92 = .ok (.invokestatic 45, 3) := by decide +kernel
theorem dX5_copyFrom_95 : decode cX5_copyFrom 95 = .ok (.return_, 1) := by decide +kernel
theorem dX5_keepAct_0 : decode cX5_keepAct 0 = .ok (.aload_n 0, 1) := by decide +kernel
theorem dX5_keepAct_1 : decode cX5_keepAct 1 = .ok (.getfield 22, 3) := by decide +kernel
theorem dX5_keepAct_4 : decode cX5_keepAct 4 = .ok (.bipush 40, 2) := by decide +kernel
theorem dX5_keepAct_6 : decode cX5_keepAct 6 = .ok (.if_icmp .lt 7, 3) := by decide +kernel
theorem dX5_keepAct_9 : decode cX5_keepAct 9 = .ok (.aload_n 0, 1) := by decide +kernel
theorem dX5_keepAct_10 : decode cX5_keepAct 10 = .ok (.invokevirtual 51, 3) := by decide +kernel
theorem dX5_keepAct_13 : decode cX5_keepAct 13 = .ok (.aload_n 0, 1) := by decide +kernel
theorem dX5_keepAct_14 : decode cX5_keepAct 14 = .ok (.getfield 22, 3) := by decide +kernel
theorem dX5_keepAct_17 : decode cX5_keepAct 17 = .ok (.iconst 5, 1) := by decide +kernel
theorem dX5_keepAct_18 : decode cX5_keepAct 18 = .ok (.imul, 1) := by decide +kernel
theorem dX5_keepAct_19 : decode cX5_keepAct 19 = .ok (.istore 6, 2) := by decide +kernel
theorem dX5_keepAct_21 : decode cX5_keepAct 21 = .ok (.aload_n 0, 1) := by decide +kernel
theorem dX5_keepAct_22 : decode cX5_keepAct 22 = .ok (.getfield 18, 3) := by decide +kernel
theorem dX5_keepAct_25 : decode cX5_keepAct 25 = .ok (.iload 6, 2) := by decide +kernel
theorem dX5_keepAct_27 : decode cX5_keepAct 27 = .ok (.iload_n 1, 1) := by decide +kernel
theorem dX5_keepAct_28 : decode cX5_keepAct 28 = .ok (.iastore, 1) := by decide +kernel
theorem dX5_keepAct_29 : decode cX5_keepAct 29 = .ok (.aload_n 0, 1) := by decide +kernel
theorem dX5_keepAct_30 : decode cX5_keepAct 30 = .ok (.getfield 18, 3) := by decide +kernel
theorem dX5_keepAct_33 : decode cX5_keepAct 33 = .ok (.iload 6, 2) := by decide +kernel
theorem dX5_keepAct_35 : decode cX5_keepAct 35 = .ok (.iconst 1, 1) := by decide +kernel
theorem dX5_keepAct_36 : decode cX5_keepAct 36 = .ok (.iadd, 1) := by decide +kernel
theorem dX5_keepAct_37 : decode cX5_keepAct 37 = .ok (.iload_n 2, 1) := by decide +kernel
theorem dX5_keepAct_38 : decode cX5_keepAct 38 = .ok (.iastore, 1) := by decide +kernel
theorem dX5_keepAct_39 : decode cX5_keepAct 39 = .ok (.aload_n 0, 1) := by decide +kernel
theorem dX5_keepAct_40 : decode cX5_keepAct 40 = .ok (.getfield 18, 3) := by decide +kernel
theorem dX5_keepAct_43 : decode cX5_keepAct 43 = .ok (.iload 6, 2) := by decide +kernel
theorem dX5_keepAct_45 : decode cX5_keepAct 45 = .ok (.iconst 2, 1) := by decide +kernel
theorem dX5_keepAct_46 : decode cX5_keepAct 46 = .ok (.iadd, 1) := by decide +kernel
theorem dX5_keepAct_47 : decode cX5_keepAct 47 = .ok (.iload_n 3, 1) := by decide +kernel
theorem dX5_keepAct_48 : decode cX5_keepAct 48 = .ok (.iastore, 1) := by decide +kernel
theorem dX5_keepAct_49 : decode cX5_keepAct 49 = .ok (.aload_n 0, 1) := by decide +kernel
theorem dX5_keepAct_50 : decode cX5_keepAct 50 = .ok (.getfield 18, 3) := by decide +kernel
theorem dX5_keepAct_53 : decode cX5_keepAct 53 = .ok (.iload 6, 2) := by decide +kernel
theorem dX5_keepAct_55 : decode cX5_keepAct 55 = .ok (.iconst 3, 1) := by decide +kernel
theorem dX5_keepAct_56 : decode cX5_keepAct 56 = .ok (.iadd, 1) := by decide +kernel
theorem dX5_keepAct_57 : decode cX5_keepAct 57 = .ok (.iload 4, 2) := by decide +kernel
theorem dX5_keepAct_59 : decode cX5_keepAct 59 = .ok (.iastore, 1) := by decide +kernel
theorem dX5_keepAct_60 : decode cX5_keepAct 60 = .ok (.aload_n 0, 1) := by decide +kernel
theorem dX5_keepAct_61 : decode cX5_keepAct 61 = .ok (.getfield 18, 3) := by decide +kernel
theorem dX5_keepAct_64 : decode cX5_keepAct 64 = .ok (.iload 6, 2) := by decide +kernel
theorem dX5_keepAct_66 : decode cX5_keepAct 66 = .ok (.iconst 4, 1) := by decide +kernel
theorem dX5_keepAct_67 : decode cX5_keepAct 67 = .ok (.iadd, 1) := by decide +kernel
theorem dX5_keepAct_68 : decode cX5_keepAct 68 = .ok (.iload 5, 2) := by decide +kernel
theorem dX5_keepAct_70 : decode cX5_keepAct 70 = .ok (.iastore, 1) := by decide +kernel
theorem dX5_keepAct_71 : decode cX5_keepAct 71 = .ok (.aload_n 0, 1) := by decide +kernel
theorem dX5_keepAct_72 : decode cX5_keepAct 72 = .ok (.dup, 1) := by decide +kernel
theorem dX5_keepAct_73 : decode cX5_keepAct 73 = .ok (.getfield 22, 3) := by decide +kernel
theorem dX5_keepAct_76 : decode cX5_keepAct 76 = .ok (.iconst 1, 1) := by decide +kernel
theorem dX5_keepAct_77 : decode cX5_keepAct 77 = .ok (.iadd, 1) := by decide +kernel
theorem dX5_keepAct_78 : decode cX5_keepAct 78 = .ok (.putfield 22, 3) := by decide +kernel
theorem dX5_keepAct_81 : decode cX5_keepAct 81 = .ok (.return_, 1) := by decide +kernel
theorem dX5_dropOldestAct_0 : decode cX5_dropOldestAct 0 = .ok (.iconst 5, 1) := by decide +kernel
theorem dX5_dropOldestAct_1 : decode cX5_dropOldestAct 1 = .ok (.istore_n 1, 1) := by decide +kernel
theorem dX5_dropOldestAct_2 : decode cX5_dropOldestAct 2 = .ok (.iload_n 1, 1) := by decide +kernel
theorem dX5_dropOldestAct_3 : decode cX5_dropOldestAct 3 = .ok (.aload_n 0, 1) := by decide +kernel
theorem dX5_dropOldestAct_4 : decode cX5_dropOldestAct 4 = .ok (.getfield 18, 3) := by decide +kernel
theorem dX5_dropOldestAct_7 : decode cX5_dropOldestAct 7 = .ok (.arraylength, 1) := by decide +kernel
theorem dX5_dropOldestAct_8 : decode cX5_dropOldestAct 8 = .ok (.if_icmp .ge 23, 3) := by decide +kernel
theorem dX5_dropOldestAct_11 : decode cX5_dropOldestAct 11 = .ok (.aload_n 0, 1) := by decide +kernel
theorem dX5_dropOldestAct_12 : decode cX5_dropOldestAct 12 = .ok (.getfield 18, 3) := by decide +kernel
theorem dX5_dropOldestAct_15 : decode cX5_dropOldestAct 15 = .ok (.iload_n 1, 1) := by decide +kernel
theorem dX5_dropOldestAct_16 : decode cX5_dropOldestAct 16 = .ok (.iconst 5, 1) := by decide +kernel
theorem dX5_dropOldestAct_17 : decode cX5_dropOldestAct 17 = .ok (.isub, 1) := by decide +kernel
theorem dX5_dropOldestAct_18 : decode cX5_dropOldestAct 18 = .ok (.aload_n 0, 1) := by decide +kernel
theorem dX5_dropOldestAct_19 : decode cX5_dropOldestAct 19 = .ok (.getfield 18, 3) := by decide +kernel
theorem dX5_dropOldestAct_22 : decode cX5_dropOldestAct 22 = .ok (.iload_n 1, 1) := by decide +kernel
theorem dX5_dropOldestAct_23 : decode cX5_dropOldestAct 23 = .ok (.iaload, 1) := by decide +kernel
theorem dX5_dropOldestAct_24 : decode cX5_dropOldestAct 24 = .ok (.iastore, 1) := by decide +kernel
theorem dX5_dropOldestAct_25 : decode cX5_dropOldestAct 25 = .ok (.iinc 1 1, 3) := by decide +kernel
theorem dX5_dropOldestAct_28 : decode cX5_dropOldestAct 28 = .ok (.goto (-26), 3) := by decide +kernel
theorem dX5_dropOldestAct_31 : decode cX5_dropOldestAct 31 = .ok (.aload_n 0, 1) := by decide +kernel
theorem dX5_dropOldestAct_32 : decode cX5_dropOldestAct 32 = .ok (.bipush 39, 2) := by decide +kernel
theorem dX5_dropOldestAct_34 : decode cX5_dropOldestAct 34 = .ok (.putfield 22, 3) := by decide +kernel
theorem dX5_dropOldestAct_37 : decode cX5_dropOldestAct 37 = .ok (.return_, 1) := by decide +kernel
theorem dX5_takeBackAct_0 : decode cX5_takeBackAct 0 = .ok (.aload_n 0, 1) := by decide +kernel
theorem dX5_takeBackAct_1 : decode cX5_takeBackAct 1 = .ok (.getfield 22, 3) := by decide +kernel
theorem dX5_takeBackAct_4 : decode cX5_takeBackAct 4 = .ok (.iconst 1, 1) := by decide +kernel
theorem dX5_takeBackAct_5 : decode cX5_takeBackAct 5 = .ok (.if_icmp .ge 4, 3) := by decide +kernel
theorem dX5_takeBackAct_8 : decode cX5_takeBackAct 8 = .ok (.return_, 1) := by decide +kernel
theorem dX5_takeBackAct_9 : decode cX5_takeBackAct 9 = .ok (.aload_n 0, 1) := by decide +kernel
theorem dX5_takeBackAct_10 : decode cX5_takeBackAct 10 = .ok (.dup, 1) := by decide +kernel
theorem dX5_takeBackAct_11 : decode cX5_takeBackAct 11 = .ok (.getfield 22, 3) := by decide +kernel
theorem dX5_takeBackAct_14 : decode cX5_takeBackAct 14 = .ok (.iconst 1, 1) := by decide +kernel
theorem dX5_takeBackAct_15 : decode cX5_takeBackAct 15 = .ok (.isub, 1) := by decide +kernel
theorem dX5_takeBackAct_16 : decode cX5_takeBackAct 16 = .ok (.putfield 22, 3) := by decide +kernel
theorem dX5_takeBackAct_19 : decode cX5_takeBackAct 19 = .ok (.aload_n 0, 1) := by decide +kernel
theorem dX5_takeBackAct_20 : decode cX5_takeBackAct 20 = .ok (.getfield 22, 3) := by decide +kernel
theorem dX5_takeBackAct_23 : decode cX5_takeBackAct 23 = .ok (.iconst 5, 1) := by decide +kernel
theorem dX5_takeBackAct_24 : decode cX5_takeBackAct 24 = .ok (.imul, 1) := by decide +kernel
theorem dX5_takeBackAct_25 : decode cX5_takeBackAct 25 = .ok (.istore_n 1, 1) := by decide +kernel
theorem dX5_takeBackAct_26 : decode cX5_takeBackAct 26 = .ok (.aload_n 0, 1) := by decide +kernel
theorem dX5_takeBackAct_27 : decode cX5_takeBackAct 27 = .ok (.getfield 18, 3) := by decide +kernel
theorem dX5_takeBackAct_30 : decode cX5_takeBackAct 30 = .ok (.iload_n 1, 1) := by decide +kernel
theorem dX5_takeBackAct_31 : decode cX5_takeBackAct 31 = .ok (.iconst 1, 1) := by decide +kernel
theorem dX5_takeBackAct_32 : decode cX5_takeBackAct 32 = .ok (.iadd, 1) := by decide +kernel
theorem dX5_takeBackAct_33 : decode cX5_takeBackAct 33 = .ok (.iaload, 1) := by decide +kernel
theorem dX5_takeBackAct_34 : decode cX5_takeBackAct 34 = .ok (.istore_n 2, 1) := by decide +kernel
theorem dX5_takeBackAct_35 : decode cX5_takeBackAct 35 = .ok (.aload_n 0, 1) := by decide +kernel
theorem dX5_takeBackAct_36 : decode cX5_takeBackAct 36 = .ok (.getfield 18, 3) := by decide +kernel
theorem dX5_takeBackAct_39 : decode cX5_takeBackAct 39 = .ok (.iload_n 1, 1) := by decide +kernel
theorem dX5_takeBackAct_40 : decode cX5_takeBackAct 40 = .ok (.iconst 2, 1) := by decide +kernel
theorem dX5_takeBackAct_41 : decode cX5_takeBackAct 41 = .ok (.iadd, 1) := by decide +kernel
theorem dX5_takeBackAct_42 : decode cX5_takeBackAct 42 = .ok (.iaload, 1) := by decide +kernel
theorem dX5_takeBackAct_43 : decode cX5_takeBackAct 43 = .ok (.istore_n 3, 1) := by decide +kernel
theorem dX5_takeBackAct_44 : decode cX5_takeBackAct 44 = .ok (.aload_n 0, 1) := by decide +kernel
theorem dX5_takeBackAct_45 : decode cX5_takeBackAct 45 = .ok (.getfield 18, 3) := by decide +kernel
theorem dX5_takeBackAct_48 : decode cX5_takeBackAct 48 = .ok (.iload_n 1, 1) := by decide +kernel
theorem dX5_takeBackAct_49 : decode cX5_takeBackAct 49 = .ok (.iaload, 1) := by decide +kernel
theorem dX5_takeBackAct_50 : decode cX5_takeBackAct 50 = .ok (.tableswitch 98 0 3 #[30, 43, 56, 69], 30) := by decide +kernel
theorem dX5_takeBackAct_80 : decode cX5_takeBackAct 80 = .ok (.aload_n 0, 1) := by decide +kernel
theorem dX5_takeBackAct_81 : decode cX5_takeBackAct 81 = .ok (.getfield 12, 3) := by decide +kernel
theorem dX5_takeBackAct_84 : decode cX5_takeBackAct 84 = .ok (.getfield 54, 3) := by decide +kernel
theorem dX5_takeBackAct_87 : decode cX5_takeBackAct 87 = .ok (.iload_n 2, 1) := by decide +kernel
theorem dX5_takeBackAct_88 : decode cX5_takeBackAct 88 = .ok (.iload_n 3, 1) := by decide +kernel
theorem dX5_takeBackAct_89 : decode cX5_takeBackAct 89 = .ok (.iastore, 1) := by decide +kernel
theorem dX5_takeBackAct_90 : decode cX5_takeBackAct 90 = .ok (.goto 113, 3) := by decide +kernel
theorem dX5_takeBackAct_93 : decode cX5_takeBackAct 93 = .ok (.aload_n 0, 1) := by decide +kernel
theorem dX5_takeBackAct_94 : decode cX5_takeBackAct 94 = .ok (.getfield 12, 3) := by decide +kernel
theorem dX5_takeBackAct_97 : decode cX5_takeBackAct 97 = .ok (.getfield 57, 3) := by decide +kernel
theorem dX5_takeBackAct_100 : decode cX5_takeBackAct 100 = .ok (.iload_n 2, 1) := by decide +kernel
theorem dX5_takeBackAct_101 : decode cX5_takeBackAct 101 = .ok (.iload_n 3, 1) := by decide +kernel
theorem dX5_takeBackAct_102 : decode cX5_takeBackAct 102 = .ok (.iastore, 1) := by decide +kernel
theorem dX5_takeBackAct_103 : decode cX5_takeBackAct 103 = .ok (.goto 100, 3) := by decide +kernel
theorem dX5_takeBackAct_106 : decode cX5_takeBackAct 106 = .ok (.aload_n 0, 1) := by decide +kernel
theorem dX5_takeBackAct_107 : decode cX5_takeBackAct 107 = .ok (.getfield 12, 3) := by decide +kernel
theorem dX5_takeBackAct_110 : decode cX5_takeBackAct 110 = .ok (.getfield 60, 3) := by decide +kernel
theorem dX5_takeBackAct_113 : decode cX5_takeBackAct 113 = .ok (.iload_n 2, 1) := by decide +kernel
theorem dX5_takeBackAct_114 : decode cX5_takeBackAct 114 = .ok (.iload_n 3, 1) := by decide +kernel
theorem dX5_takeBackAct_115 : decode cX5_takeBackAct 115 = .ok (.iastore, 1) := by decide +kernel
theorem dX5_takeBackAct_116 : decode cX5_takeBackAct 116 = .ok (.goto 87, 3) := by decide +kernel
theorem dX5_takeBackAct_119 : decode cX5_takeBackAct 119 = .ok (.aload_n 0, 1) := by decide +kernel
theorem dX5_takeBackAct_120 : decode cX5_takeBackAct 120 = .ok (.getfield 12, 3) := by decide +kernel
theorem dX5_takeBackAct_123 : decode cX5_takeBackAct 123 = .ok (.getfield 63, 3) := by decide +kernel
theorem dX5_takeBackAct_126 : decode cX5_takeBackAct 126 = .ok (.iload_n 2, 1) := by decide +kernel
theorem dX5_takeBackAct_127 : decode cX5_takeBackAct 127 = .ok (.dup2, 1) := by decide +kernel
theorem dX5_takeBackAct_128 : decode cX5_takeBackAct 128 = .ok (.iaload, 1) := by decide +kernel
theorem dX5_takeBackAct_129 : decode cX5_takeBackAct 129 = .ok (.iconst 1, 1) := by decide +kernel
theorem dX5_takeBackAct_130 : decode cX5_takeBackAct 130 = .ok (.iadd, 1) := by decide +kernel
theorem dX5_takeBackAct_131 : decode cX5_takeBackAct 131 = .ok (.iastore, 1) := by decide +kernel
theorem dX5_takeBackAct_132 : decode cX5_takeBackAct 132 = .ok (.aload_n 0, 1) := by decide +kernel
theorem dX5_takeBackAct_133 : decode cX5_takeBackAct 133 = .ok (.getfield 12, 3) := by decide +kernel
theorem dX5_takeBackAct_136 : decode cX5_takeBackAct 136 = .ok (.getfield 63, 3) := by decide +kernel
theorem dX5_takeBackAct_139 : decode cX5_takeBackAct 139 = .ok (.iload_n 3, 1) := by decide +kernel
theorem dX5_takeBackAct_140 : decode cX5_takeBackAct 140 = .ok (.dup2, 1) := by decide +kernel
theorem dX5_takeBackAct_141 : decode cX5_takeBackAct 141 = .ok (.iaload, 1) := by decide +kernel
theorem dX5_takeBackAct_142 : decode cX5_takeBackAct 142 = .ok (.iconst 1, 1) := by decide +kernel
theorem dX5_takeBackAct_143 : decode cX5_takeBackAct 143 = .ok (.isub, 1) := by decide +kernel
theorem dX5_takeBackAct_144 : decode cX5_takeBackAct 144 = .ok (.iastore, 1) := by decide +kernel
theorem dX5_takeBackAct_145 : decode cX5_takeBackAct 145 = .ok (.goto 58, 3) := by decide +kernel
theorem dX5_takeBackAct_148 : decode cX5_takeBackAct 148 = .ok (.aload_n 0, 1) := by decide +kernel
theorem dX5_takeBackAct_149 : decode cX5_takeBackAct 149 = .ok (.getfield 12, 3) := by decide +kernel
theorem dX5_takeBackAct_152 : decode cX5_takeBackAct 152 = .ok (.getfield 66, 3) := by decide +kernel
theorem dX5_takeBackAct_155 : decode cX5_takeBackAct 155 = .ok (.iload_n 2, 1) := by decide +kernel
theorem dX5_takeBackAct_156 : decode cX5_takeBackAct 156 = .ok (.iconst 4, 1) := by decide +kernel
theorem dX5_takeBackAct_157 : decode cX5_takeBackAct 157 = .ok (.imul, 1) := by decide +kernel
theorem dX5_takeBackAct_158 : decode cX5_takeBackAct 158 = .ok (.iload_n 3, 1) := by decide +kernel
theorem dX5_takeBackAct_159 : decode cX5_takeBackAct 159 = .ok (.iadd, 1) := by decide +kernel
theorem dX5_takeBackAct_160 : decode cX5_takeBackAct 160 = .ok (.dup2, 1) := by decide +kernel
theorem dX5_takeBackAct_161 : decode cX5_takeBackAct 161 = .ok (.iaload, 1) := by decide +kernel
theorem dX5_takeBackAct_162 : decode cX5_takeBackAct 162 = .ok (.aload_n 0, 1) := by decide +kernel
theorem dX5_takeBackAct_163 : decode cX5_takeBackAct 163 = .ok (.getfield 18, 3) := by decide +kernel
theorem dX5_takeBackAct_166 : decode cX5_takeBackAct 166 = .ok (.iload_n 1, 1) := by decide +kernel
theorem dX5_takeBackAct_167 : decode cX5_takeBackAct 167 = .ok (.iconst 4, 1) := by decide +kernel
theorem dX5_takeBackAct_168 : decode cX5_takeBackAct 168 = .ok (.iadd, 1) := by decide +kernel
theorem dX5_takeBackAct_169 : decode cX5_takeBackAct 169 = .ok (.iaload, 1) := by decide +kernel
theorem dX5_takeBackAct_170 : decode cX5_takeBackAct 170 = .ok (.iadd, 1) := by decide +kernel
theorem dX5_takeBackAct_171 : decode cX5_takeBackAct 171 = .ok (.iastore, 1) := by decide +kernel
theorem dX5_takeBackAct_172 : decode cX5_takeBackAct 172 = .ok (.aload_n 0, 1) := by decide +kernel
theorem dX5_takeBackAct_173 : decode cX5_takeBackAct 173 = .ok (.getfield 12, 3) := by decide +kernel
theorem dX5_takeBackAct_176 : decode cX5_takeBackAct 176 = .ok (.getfield 66, 3) := by decide +kernel
theorem dX5_takeBackAct_179 : decode cX5_takeBackAct 179 = .ok (.iload_n 2, 1) := by decide +kernel
theorem dX5_takeBackAct_180 : decode cX5_takeBackAct 180 = .ok (.iconst 4, 1) := by decide +kernel
theorem dX5_takeBackAct_181 : decode cX5_takeBackAct 181 = .ok (.imul, 1) := by decide +kernel
theorem dX5_takeBackAct_182 : decode cX5_takeBackAct 182 = .ok (.aload_n 0, 1) := by decide +kernel
theorem dX5_takeBackAct_183 : decode cX5_takeBackAct 183 = .ok (.getfield 18, 3) := by decide +kernel
theorem dX5_takeBackAct_186 : decode cX5_takeBackAct 186 = .ok (.iload_n 1, 1) := by decide +kernel
theorem dX5_takeBackAct_187 : decode cX5_takeBackAct 187 = .ok (.iconst 3, 1) := by decide +kernel
theorem dX5_takeBackAct_188 : decode cX5_takeBackAct 188 = .ok (.iadd, 1) := by decide +kernel
theorem dX5_takeBackAct_189 : decode cX5_takeBackAct 189 = .ok (.iaload, 1) := by decide +kernel
theorem dX5_takeBackAct_190 : decode cX5_takeBackAct 190 = .ok (.iadd, 1) := by decide +kernel
theorem dX5_takeBackAct_191 : decode cX5_takeBackAct 191 = .ok (.dup2, 1) := by decide +kernel
theorem dX5_takeBackAct_192 : decode cX5_takeBackAct 192 = .ok (.iaload, 1) := by decide +kernel
theorem dX5_takeBackAct_193 : decode cX5_takeBackAct 193 = .ok (.aload_n 0, 1) := by decide +kernel
theorem dX5_takeBackAct_194 : decode cX5_takeBackAct 194 = .ok (.getfield 18, 3) := by decide +kernel
theorem dX5_takeBackAct_197 : decode cX5_takeBackAct 197 = .ok (.iload_n 1, 1) := by decide +kernel
theorem dX5_takeBackAct_198 : decode cX5_takeBackAct 198 = .ok (.iconst 4, 1) := by decide +kernel
theorem dX5_takeBackAct_199 : decode cX5_takeBackAct 199 = .ok (.iadd, 1) := by decide +kernel
theorem dX5_takeBackAct_200 : decode cX5_takeBackAct 200 = .ok (.iaload, 1) := by decide +kernel
theorem dX5_takeBackAct_201 : decode cX5_takeBackAct 201 = .ok (.isub, 1) := by decide +kernel
theorem dX5_takeBackAct_202 : decode cX5_takeBackAct 202 = .ok (.iastore, 1) := by decide +kernel
theorem dX5_takeBackAct_203 : decode cX5_takeBackAct 203 = .ok (.return_, 1) := by decide +kernel
theorem dX6_init_0 : decode cX6_init 0 = .ok (.aload_n 0, 1) := by decide +kernel
theorem dX6_init_1 : decode cX6_init 1 = .ok (.invokespecial 3, 3) := by decide +kernel
theorem dX6_init_4 : decode cX6_init 4 = .ok (.aload_n 0, 1) := by decide +kernel
theorem dX6_init_5 : decode cX6_init 5 = .ok (.sipush 700, 3) := by decide +kernel
theorem dX6_init_8 : decode cX6_init 8 = .ok (.newarray .byte, 2) := by decide +kernel
theorem dX6_init_10 : decode cX6_init 10 = .ok (.putfield 9, 3) := by decide +kernel
theorem dX6_init_13 : decode cX6_init 13 = .ok (.aload_n 0, 1) := by decide +kernel
theorem dX6_init_14 : decode cX6_init 14 = .ok (.iconst 0, 1) := by decide +kernel
theorem dX6_init_15 : decode cX6_init 15 = .ok (.putfield 15, 3) := by decide +kernel
theorem dX6_init_18 : decode cX6_init 18 = .ok (.aload_n 0, 1) := by decide +kernel
theorem dX6_init_19 : decode cX6_init 19 = .ok (.iconst 0, 1) := by decide +kernel
theorem dX6_init_20 : decode cX6_init 20 = .ok (.putfield 19, 3) := by decide +kernel
theorem dX6_init_23 : decode cX6_init 23 = .ok (.aload_n 0, 1) := by decide +kernel
theorem dX6_init_24 : decode cX6_init 24 = .ok (.iconst 0, 1) := by decide +kernel
theorem dX6_init_25 : decode cX6_init 25 = .ok (.putfield 22, 3) := by decide +kernel
theorem dX6_init_28 : decode cX6_init 28 = .ok (.aload_n 0, 1) := by decide +kernel
theorem dX6_init_29 : decode cX6_init 29 = .ok (.iconst 0, 1) := by decide +kernel
theorem dX6_init_30 : decode cX6_init 30 = .ok (.putfield 25, 3) := by decide +kernel
theorem dX6_init_33 : decode cX6_init 33 = .ok (.aload_n 0, 1) := by decide +kernel
theorem dX6_init_34 : decode cX6_init 34 = .ok (.iconst 0, 1) := by decide +kernel
theorem dX6_init_35 : decode cX6_init 35 = .ok (.putfield 28, 3) := by decide +kernel
theorem dX6_init_38 : decode cX6_init 38 = .ok (.return_, 1) := by decide +kernel
theorem dX6_begin_0 : decode cX6_begin 0 = .ok (.aload_n 0, 1) := by decide +kernel
theorem dX6_begin_1 : decode cX6_begin 1 = .ok (.iload_n 2, 1) := by decide +kernel
theorem dX6_begin_2 : decode cX6_begin 2 = .ok (.sipush 700, 3) := by decide +kernel
theorem dX6_begin_5 : decode cX6_begin 5 = .ok (.invokestatic 31, 3) := by decide +kernel
theorem dX6_begin_8 : decode cX6_begin 8 = .ok (.iconst 0, 1) := by decide +kernel
theorem dX6_begin_9 : decode cX6_begin 9 = .ok (.invokestatic 37, 3) := by decide +kernel
theorem dX6_begin_12 : decode cX6_begin 12 = .ok (.putfield 15, 3) := by decide +kernel
theorem dX6_begin_15 : decode cX6_begin 15 = .ok (.iconst 0, 1) := by decide +kernel
theorem dX6_begin_16 : decode cX6_begin 16 = .ok (.istore_n 3, 1) := by decide +kernel
theorem dX6_begin_17 : decode cX6_begin 17 = .ok (.iload_n 3, 1) := by decide +kernel
theorem dX6_begin_18 : decode cX6_begin 18 = .ok (.aload_n 0, 1) := by decide +kernel
theorem dX6_begin_19 : decode cX6_begin 19 = .ok (.getfield 15, 3) := by decide +kernel
theorem dX6_begin_22 : decode cX6_begin 22 = .ok (.if_icmp .ge 24, 3) := by decide +kernel
theorem dX6_begin_25 : decode cX6_begin 25 = .ok (.iload_n 3, 1) := by decide +kernel
theorem dX6_begin_26 : decode cX6_begin 26 = .ok (.aload_n 1, 1) := by decide +kernel
theorem dX6_begin_27 : decode cX6_begin 27 = .ok (.arraylength, 1) := by decide +kernel
theorem dX6_begin_28 : decode cX6_begin 28 = .ok (.if_icmp .ge 18, 3) := by decide +kernel
theorem dX6_begin_31 : decode cX6_begin 31 = .ok (.aload_n 0, 1) := by decide +kernel
theorem dX6_begin_32 : decode cX6_begin 32 = .ok (.getfield 9, 3) := by decide +kernel
theorem dX6_begin_35 : decode cX6_begin 35 = .ok (.iload_n 3, 1) := by decide +kernel
theorem dX6_begin_36 : decode cX6_begin 36 = .ok (.aload_n 1, 1) := by decide +kernel
theorem dX6_begin_37 : decode cX6_begin 37 = .ok (.iload_n 3, 1) := by decide +kernel
theorem dX6_begin_38 : decode cX6_begin 38 = .ok (.baload, 1) := by decide +kernel
theorem dX6_begin_39 : decode cX6_begin 39 = .ok (.bastore, 1) := by decide +kernel
theorem dX6_begin_40 : decode cX6_begin 40 = .ok (.iinc 3 1, 3) := by decide +kernel
theorem dX6_begin_43 : decode cX6_begin 43 = .ok (.goto (-26), 3) := by decide +kernel
theorem dX6_begin_46 : decode cX6_begin 46 = .ok (.aload_n 0, 1) := by decide +kernel
theorem dX6_begin_47 : decode cX6_begin 47 = .ok (.iconst 0, 1) := by decide +kernel
theorem dX6_begin_48 : decode cX6_begin 48 = .ok (.putfield 19, 3) := by decide +kernel
theorem dX6_begin_51 : decode cX6_begin 51 = .ok (.aload_n 0, 1) := by decide +kernel
theorem dX6_begin_52 : decode cX6_begin 52 = .ok (.invokevirtual 40, 3) := by decide +kernel
theorem dX6_begin_55 : decode cX6_begin 55 = .ok (.return_, 1) := by decide +kernel
theorem dX6_step_0 : decode cX6_step 0 = .ok (.aload_n 0, 1) := by decide +kernel
theorem dX6_step_1 : decode cX6_step 1 = .ok (.aload_n 0, 1) := by decide +kernel
theorem dX6_step_2 : decode cX6_step 2 = .ok (.getfield 19, 3) := by decide +kernel
theorem dX6_step_5 : decode cX6_step 5 = .ok (.putfield 22, 3) := by decide +kernel
theorem dX6_step_8 : decode cX6_step 8 = .ok (.aload_n 0, 1) := by decide +kernel
theorem dX6_step_9 : decode cX6_step 9 = .ok (.getfield 22, 3) := by decide +kernel
theorem dX6_step_12 : decode cX6_step 12 = .ok (.aload_n 0, 1) := by decide +kernel
theorem dX6_step_13 : decode cX6_step 13 = .ok (.getfield 15, 3) := by decide +kernel
theorem dX6_step_16 : decode cX6_step 16 = .ok (.if_icmp .ge 44, 3) := by decide +kernel
theorem dX6_step_19 : decode cX6_step 19 = .ok (.aload_n 0, 1) := by decide +kernel
theorem dX6_step_20 : decode cX6_step 20 = .ok (.getfield 9, 3) := by decide +kernel
theorem dX6_step_23 : decode cX6_step 23 = .ok (.aload_n 0, 1) := by decide +kernel
theorem dX6_step_24 : decode cX6_step 24 = .ok (.getfield 22, 3) := by decide +kernel
theorem dX6_step_27 : decode cX6_step 27 = .ok (.baload, 1) := by decide +kernel
theorem dX6_step_28 : decode cX6_step 28 = .ok (.bipush 32, 2) := by decide +kernel
theorem dX6_step_30 : decode cX6_step 30 = .ok (.if_icmp .eq 17, 3) := by decide +kernel
theorem dX6_step_33 : decode cX6_step 33 = .ok (.aload_n 0, 1) := by decide +kernel
theorem dX6_step_34 : decode cX6_step 34 = .ok (.getfield 9, 3) := by decide +kernel
theorem dX6_step_37 : decode cX6_step 37 = .ok (.aload_n 0, 1) := by decide +kernel
theorem dX6_step_38 : decode cX6_step 38 = .ok (.getfield 22, 3) := by decide +kernel
theorem dX6_step_41 : decode cX6_step 41 = .ok (.baload, 1) := by decide +kernel
theorem dX6_step_42 : decode cX6_step 42 = .ok (.bipush 10, 2) := by decide +kernel
theorem dX6_step_44 : decode cX6_step 44 = .ok (.if_icmp .ne 16, 3) := by decide +kernel
theorem dX6_step_47 : decode cX6_step 47 = .ok (.aload_n 0, 1) := by decide +kernel
theorem dX6_step_48 : decode cX6_step 48 = .ok (.dup, 1) := by decide +kernel
theorem dX6_step_49 : decode cX6_step 49 = .ok (.getfield 22, 3) := by decide +kernel
theorem dX6_step_52 : decode cX6_step 52 = .ok (.iconst 1, 1) := by decide +kernel
theorem dX6_step_53 : decode cX6_step 53 = .ok (.iadd, 1) := by decide +kernel
theorem dX6_step_54 : decode cX6_step 54 = .ok (.putfield 22, 3) := by decide +kernel
theorem dX6_step_57 : decode cX6_step 57 = .ok (.goto (-49), 3) := by decide +kernel
theorem dX6_step_60 : decode cX6_step 60 = .ok (.aload_n 0, 1) := by decide +kernel
theorem dX6_step_61 : decode cX6_step 61 = .ok (.aload_n 0, 1) := by decide +kernel
theorem dX6_step_62 : decode cX6_step 62 = .ok (.getfield 22, 3) := by decide +kernel
theorem dX6_step_65 : decode cX6_step 65 = .ok (.putfield 19, 3) := by decide +kernel
theorem dX6_step_68 : decode cX6_step 68 = .ok (.aload_n 0, 1) := by decide +kernel
theorem dX6_step_69 : decode cX6_step 69 = .ok (.getfield 22, 3) := by decide +kernel
theorem dX6_step_72 : decode cX6_step 72 = .ok (.aload_n 0, 1) := by decide +kernel
theorem dX6_step_73 : decode cX6_step 73 = .ok (.getfield 15, 3) := by decide +kernel
theorem dX6_step_76 : decode cX6_step 76 = .ok (.if_icmp .lt 11, 3) := by decide +kernel
theorem dX6_step_79 : decode cX6_step 79 = .ok (.aload_n 0, 1) := by decide +kernel
theorem dX6_step_80 : decode cX6_step 80 = .ok (.iconst 0, 1) := by decide +kernel
theorem dX6_step_81 : decode cX6_step 81 = .ok (.putfield 25, 3) := by decide +kernel
theorem dX6_step_84 : decode cX6_step 84 = .ok (.goto 122, 3) := by decide +kernel
theorem dX6_step_87 : decode cX6_step 87 = .ok (.aload_n 0, 1) := by decide +kernel
theorem dX6_step_88 : decode cX6_step 88 = .ok (.getfield 9, 3) := by decide +kernel
theorem dX6_step_91 : decode cX6_step 91 = .ok (.aload_n 0, 1) := by decide +kernel
theorem dX6_step_92 : decode cX6_step 92 = .ok (.getfield 22, 3) := by decide +kernel
theorem dX6_step_95 : decode cX6_step 95 = .ok (.baload, 1) := by decide +kernel
theorem dX6_step_96 : decode cX6_step 96 = .ok (.bipush 97, 2) := by decide +kernel
theorem dX6_step_98 : decode cX6_step 98 = .ok (.if_icmp .lt 24, 3) := by decide +kernel
theorem dX6_step_101 : decode cX6_step 101 = .ok (.aload_n 0, 1) := by decide +kernel
theorem dX6_step_102 : decode cX6_step 102 = .ok (.getfield 9, 3) := by decide +kernel
theorem dX6_step_105 : decode cX6_step 105 = .ok (.aload_n 0, 1) := by decide +kernel
theorem dX6_step_106 : decode cX6_step 106 = .ok (.getfield 22, 3) := by decide +kernel
theorem dX6_step_109 : decode cX6_step 109 = .ok (.baload, 1) := by decide +kernel
theorem dX6_step_110 : decode cX6_step 110 = .ok (.bipush 122, 2) := by decide +kernel
theorem dX6_step_112 : decode cX6_step 112 = .ok (.if_icmp .gt 10, 3) := by decide +kernel
theorem dX6_step_115 : decode cX6_step 115 = .ok (.aload_n 0, 1) := by decide +kernel
theorem dX6_step_116 : decode cX6_step 116 = .ok (.invokevirtual 43, 3) := by decide +kernel
theorem dX6_step_119 : decode cX6_step 119 = .ok (.goto 87, 3) := by decide +kernel
theorem dX6_step_122 : decode cX6_step 122 = .ok (.aload_n 0, 1) := by decide +kernel
theorem dX6_step_123 : decode cX6_step 123 = .ok (.getfield 9, 3) := by decide +kernel
theorem dX6_step_126 : decode cX6_step 126 = .ok (.aload_n 0, 1) := by decide +kernel
theorem dX6_step_127 : decode cX6_step 127 = .ok (.getfield 22, 3) := by decide +kernel
theorem dX6_step_130 : decode cX6_step 130 = .ok (.baload, 1) := by decide +kernel
theorem dX6_step_131 : decode cX6_step 131 = .ok (.bipush 48, 2) := by decide +kernel
theorem dX6_step_133 : decode cX6_step 133 = .ok (.if_icmp .lt 24, 3) := by decide +kernel
theorem dX6_step_136 : decode cX6_step 136 = .ok (.aload_n 0, 1) := by decide +kernel
theorem dX6_step_137 : decode cX6_step 137 = .ok (.getfield 9, 3) := by decide +kernel
theorem dX6_step_140 : decode cX6_step 140 = .ok (.aload_n 0, 1) := by decide +kernel
theorem dX6_step_141 : decode cX6_step 141 = .ok (.getfield 22, 3) := by decide +kernel
theorem dX6_step_144 : decode cX6_step 144 = .ok (.baload, 1) := by decide +kernel
theorem dX6_step_145 : decode cX6_step 145 = .ok (.bipush 57, 2) := by decide +kernel
theorem dX6_step_147 : decode cX6_step 147 = .ok (.if_icmp .gt 10, 3) := by decide +kernel
theorem dX6_step_150 : decode cX6_step 150 = .ok (.aload_n 0, 1) := by decide +kernel
theorem dX6_step_151 : decode cX6_step 151 = .ok (.invokevirtual 46, 3) := by decide +kernel
theorem dX6_step_154 : decode cX6_step 154 = .ok (.goto 52, 3) := by decide +kernel
theorem dX6_step_157 : decode cX6_step 157 = .ok (.aload_n 0, 1) := by decide +kernel
theorem dX6_step_158 : decode cX6_step 158 = .ok (.ldc 49, 2) := by decide +kernel
theorem dX6_step_160 : decode cX6_step 160 = .ok (.aload_n 0, 1) := by decide +kernel
theorem dX6_step_161 : decode cX6_step 161 = .ok (.getfield 9, 3) := by decide +kernel
theorem dX6_step_164 : decode cX6_step 164 = .ok (.aload_n 0, 1) := by decide +kernel
theorem dX6_step_165 : decode cX6_step 165 = .ok (.getfield 22, 3) := by decide +kernel
theorem dX6_step_168 : decode cX6_step 168 = .ok (.baload, 1) := by decide +kernel
theorem dX6_step_169 : decode cX6_step 169 = .ok (.sipush 255, 3) := by decide +kernel
theorem dX6_step_172 : decode cX6_step 172 = .ok (.iand, 1) := by decide +kernel
theorem dX6_step_173 : decode cX6_step 173 = .ok (.i2c, 1) := by decide +kernel
theorem dX6_step_174 : decode cX6_step 174 = .ok (.invokevirtual 51, 3) := by decide +kernel
theorem dX6_step_177 : decode cX6_step 177 = .ok (.ifCond .lt 15, 3) := by decide +kernel
theorem dX6_step_180 : decode cX6_step 180 = .ok (.aload_n 0, 1) := by decide +kernel
theorem dX6_step_181 : decode cX6_step 181 = .ok (.getfield 9, 3) := by decide +kernel
theorem dX6_step_184 : decode cX6_step 184 = .ok (.aload_n 0, 1) := by decide +kernel
theorem dX6_step_185 : decode cX6_step 185 = .ok (.getfield 22, 3) := by decide +kernel
theorem dX6_step_188 : decode cX6_step 188 = .ok (.baload, 1) := by decide +kernel
theorem dX6_step_189 : decode cX6_step 189 = .ok (.goto 4, 3) := by decide +kernel
theorem dX6_step_192 : decode cX6_step 192 = .ok (.iconst 3, 1) := by decide +kernel
theorem dX6_step_193 : decode cX6_step 193 = .ok (.putfield 25, 3) := by decide +kernel
theorem dX6_step_196 : decode cX6_step 196 = .ok (.aload_n 0, 1) := by decide +kernel
theorem dX6_step_197 : decode cX6_step 197 = .ok (.aload_n 0, 1) := by decide +kernel
theorem dX6_step_198 : decode cX6_step 198 = .ok (.getfield 22, 3) := by decide +kernel
theorem dX6_step_201 : decode cX6_step 201 = .ok (.iconst 1, 1) := by decide +kernel
theorem dX6_step_202 : decode cX6_step 202 = .ok (.iadd, 1) := by decide +kernel
theorem dX6_step_203 : decode cX6_step 203 = .ok (.putfield 19, 3) := by decide +kernel
theorem dX6_step_206 : decode cX6_step 206 = .ok (.return_, 1) := by decide +kernel
theorem dX6_takeWord_0 : decode cX6_takeWord 0 = .ok (.aload_n 0, 1) := by decide +kernel
theorem dX6_takeWord_1 : decode cX6_takeWord 1 = .ok (.iconst 1, 1) := by decide +kernel
theorem dX6_takeWord_2 : decode cX6_takeWord 2 = .ok (.putfield 25, 3) := by decide +kernel
theorem dX6_takeWord_5 : decode cX6_takeWord 5 = .ok (.aload_n 0, 1) := by decide +kernel
theorem dX6_takeWord_6 : decode cX6_takeWord 6 = .ok (.getfield 19, 3) := by decide +kernel
theorem dX6_takeWord_9 : decode cX6_takeWord 9 = .ok (.aload_n 0, 1) := by decide +kernel
theorem dX6_takeWord_10 : decode cX6_takeWord 10 = .ok (.getfield 15, 3) := by decide +kernel
theorem dX6_takeWord_13 : decode cX6_takeWord 13 = .ok (.if_icmp .ge 44, 3) := by decide +kernel
theorem dX6_takeWord_16 : decode cX6_takeWord 16 = .ok (.aload_n 0, 1) := by decide +kernel
theorem dX6_takeWord_17 : decode cX6_takeWord 17 = .ok (.getfield 9, 3) := by decide +kernel
theorem dX6_takeWord_20 : decode cX6_takeWord 20 = .ok (.aload_n 0, 1) := by decide +kernel
theorem dX6_takeWord_21 : decode cX6_takeWord 21 = .ok (.getfield 19, 3) := by decide +kernel
theorem dX6_takeWord_24 : decode cX6_takeWord 24 = .ok (.baload, 1) := by decide +kernel
theorem dX6_takeWord_25 : decode cX6_takeWord 25 = .ok (.bipush 97, 2) := by decide +kernel
theorem dX6_takeWord_27 : decode cX6_takeWord 27 = .ok (.if_icmp .lt 30, 3) := by decide +kernel
theorem dX6_takeWord_30 : decode cX6_takeWord 30 = .ok (.aload_n 0, 1) := by decide +kernel
theorem dX6_takeWord_31 : decode cX6_takeWord 31 = .ok (.getfield 9, 3) := by decide +kernel
theorem dX6_takeWord_34 : decode cX6_takeWord 34 = .ok (.aload_n 0, 1) := by decide +kernel
theorem dX6_takeWord_35 : decode cX6_takeWord 35 = .ok (.getfield 19, 3) := by decide +kernel
theorem dX6_takeWord_38 : decode cX6_takeWord 38 = .ok (.baload, 1) := by decide +kernel
theorem dX6_takeWord_39 : decode cX6_takeWord 39 = .ok (.bipush 122, 2) := by decide +kernel
theorem dX6_takeWord_41 : decode cX6_takeWord 41 = .ok (.if_icmp .gt 16, 3) := by decide +kernel
theorem dX6_takeWord_44 : decode cX6_takeWord 44 = .ok (.aload_n 0, 1) := by decide +kernel
theorem dX6_takeWord_45 : decode cX6_takeWord 45 = .ok (.dup, 1) := by decide +kernel
theorem dX6_takeWord_46 : decode cX6_takeWord 46 = .ok (.getfield 19, 3) := by decide +kernel
theorem dX6_takeWord_49 : decode cX6_takeWord 49 = .ok (.iconst 1, 1) := by decide +kernel
theorem dX6_takeWord_50 : decode cX6_takeWord 50 = .ok (.iadd, 1) := by decide +kernel
theorem dX6_takeWord_51 : decode cX6_takeWord 51 = .ok (.putfield 19, 3) := by decide +kernel
theorem dX6_takeWord_54 : decode cX6_takeWord 54 = .ok (.goto (-49), 3) := by decide +kernel
theorem dX6_takeWord_57 : decode cX6_takeWord 57 = .ok (.return_, 1) := by decide +kernel
theorem dX6_takeNumber_0 : decode cX6_takeNumber 0 = .ok (.aload_n 0, 1) := by decide +kernel
theorem dX6_takeNumber_1 : decode cX6_takeNumber 1 = .ok (.iconst 2, 1) := by decide +kernel
theorem dX6_takeNumber_2 : decode cX6_takeNumber 2 = .ok (.putfield 25, 3) := by decide +kernel
theorem dX6_takeNumber_5 : decode cX6_takeNumber 5 = .ok (.aload_n 0, 1) := by decide +kernel
theorem dX6_takeNumber_6 : decode cX6_takeNumber 6 = .ok (.iconst 0, 1) := by decide +kernel
theorem dX6_takeNumber_7 : decode cX6_takeNumber 7 = .ok (.putfield 28, 3) := by decide +kernel
theorem dX6_takeNumber_10 : decode cX6_takeNumber 10 = .ok (.aload_n 0, 1) := by decide +kernel
theorem dX6_takeNumber_11 : decode cX6_takeNumber 11 = .ok (.getfield 19, 3) := by decide +kernel
theorem dX6_takeNumber_14 : decode cX6_takeNumber 14 = .ok (.aload_n 0, 1) := by decide +kernel
theorem dX6_takeNumber_15 : decode cX6_takeNumber 15 = .ok (.getfield 15, 3) := by decide +kernel
theorem dX6_takeNumber_18 : decode cX6_takeNumber 18 = .ok (.if_icmp .ge 87, 3) := by decide +kernel
theorem dX6_takeNumber_21 : decode cX6_takeNumber 21 = .ok (.aload_n 0, 1) := by decide +kernel
theorem dX6_takeNumber_22 : decode cX6_takeNumber 22 = .ok (.getfield 9, 3) := by decide +kernel
theorem dX6_takeNumber_25 : decode cX6_takeNumber 25 = .ok (.aload_n 0, 1) := by decide +kernel
theorem dX6_takeNumber_26 : decode cX6_takeNumber 26 = .ok (.getfield 19, 3) := by decide +kernel
theorem dX6_takeNumber_29 : decode cX6_takeNumber 29 = .ok (.baload, 1) := by decide +kernel
theorem dX6_takeNumber_30 : decode cX6_takeNumber 30 = .ok (.bipush 48, 2) := by decide +kernel
theorem dX6_takeNumber_32 : decode cX6_takeNumber 32 = .ok (.if_icmp .lt 73, 3) := by decide +kernel
theorem dX6_takeNumber_35 : decode cX6_takeNumber 35 = .ok (.aload_n 0, 1) := by decide +kernel
theorem dX6_takeNumber_36 : decode cX6_takeNumber 36 = .ok (.getfield 9, 3) := by decide +kernel
theorem dX6_takeNumber_39 : decode cX6_takeNumber 39 = .ok (.aload_n 0, 1) := by decide +kernel
theorem dX6_takeNumber_40 : decode cX6_takeNumber 40 = .ok (.getfield 19, 3) := by decide +kernel
theorem dX6_takeNumber_43 : decode cX6_takeNumber 43 = .ok (.baload, 1) := by decide +kernel
theorem dX6_takeNumber_44 : decode cX6_takeNumber 44 = .ok (.bipush 57, 2) := by decide +kernel
theorem dX6_takeNumber_46 : decode cX6_takeNumber 46 = .ok (.if_icmp .gt 59, 3) := by decide +kernel
theorem dX6_takeNumber_49 : decode cX6_takeNumber 49 = .ok (.aload_n 0, 1) := by decide +kernel
theorem dX6_takeNumber_50 : decode cX6_takeNumber 50 = .ok (.aload_n 0, 1) := by decide +kernel
theorem dX6_takeNumber_51 : decode cX6_takeNumber 51 = .ok (.getfield 19, 3) := by decide +kernel
theorem dX6_takeNumber_54 : decode cX6_takeNumber 54 = .ok (.aload_n 0, 1) := by decide +kernel
theorem dX6_takeNumber_55 : decode cX6_takeNumber 55 = .ok (.getfield 22, 3) := by decide +kernel
theorem dX6_takeNumber_58 : decode cX6_takeNumber 58 = .ok (.isub, 1) := by decide +kernel
theorem dX6_takeNumber_59 : decode cX6_takeNumber 59 = .ok (.iconst 4, 1) := by decide +kernel
theorem dX6_takeNumber_60 : decode cX6_takeNumber 60 = .ok (.if_icmp .ge 26, 3) := by decide +kernel
theorem dX6_takeNumber_63 : decode cX6_takeNumber 63 = .ok (.aload_n 0, 1) := by decide +kernel
theorem dX6_takeNumber_64 : decode cX6_takeNumber 64 = .ok (.getfield 28, 3) := by decide +kernel
theorem dX6_takeNumber_67 : decode cX6_takeNumber 67 = .ok (.bipush 10, 2) := by decide +kernel
theorem dX6_takeNumber_69 : decode cX6_takeNumber 69 = .ok (.imul, 1) := by decide +kernel
theorem dX6_takeNumber_70 : decode cX6_takeNumber 70 = .ok (.aload_n 0, 1) := by decide +kernel
theorem dX6_takeNumber_71 : decode cX6_takeNumber 71 = .ok (.getfield 9, 3) := by decide +kernel
theorem dX6_takeNumber_74 : decode cX6_takeNumber 74 = .ok (.aload_n 0, 1) := by decide +kernel
theorem dX6_takeNumber_75 : decode cX6_takeNumber 75 = .ok (.getfield 19, 3) := by decide +kernel
theorem dX6_takeNumber_78 : decode cX6_takeNumber 78 = .ok (.baload, 1) := by decide +kernel
theorem dX6_takeNumber_79 : decode cX6_takeNumber 79 = .ok (.iadd, 1) := by decide +kernel
theorem dX6_takeNumber_80 : decode cX6_takeNumber 80 = .ok (.bipush 48, 2) := by decide +kernel
theorem dX6_takeNumber_82 : decode cX6_takeNumber 82 = .ok (.isub, 1) := by decide +kernel
theorem dX6_takeNumber_83 : decode cX6_takeNumber 83 = .ok (.goto 6, 3) := by decide +kernel
theorem dX6_takeNumber_86 : decode cX6_takeNumber 86 = .ok (.sipush 10000, 3) := by decide +kernel
theorem dX6_takeNumber_89 : decode cX6_takeNumber 89 = .ok (.putfield 28, 3) := by decide +kernel
theorem dX6_takeNumber_92 : decode cX6_takeNumber 92 = .ok (.aload_n 0, 1) := by decide +kernel
theorem dX6_takeNumber_93 : decode cX6_takeNumber 93 = .ok (.dup, 1) := by decide +kernel
theorem dX6_takeNumber_94 : decode cX6_takeNumber 94 = .ok (.getfield 19, 3) := by decide +kernel
theorem dX6_takeNumber_97 : decode cX6_takeNumber 97 = .ok (.iconst 1, 1) := by decide +kernel
theorem dX6_takeNumber_98 : decode cX6_takeNumber 98 = .ok (.iadd, 1) := by decide +kernel
theorem dX6_takeNumber_99 : decode cX6_takeNumber 99 = .ok (.putfield 19, 3) := by decide +kernel
theorem dX6_takeNumber_102 : decode cX6_takeNumber 102 = .ok (.goto (-92), 3) := by decide +kernel
theorem dX6_takeNumber_105 : decode cX6_takeNumber 105 = .ok (.return_, 1) := by decide +kernel
theorem dX6_among_0 : decode cX6_among 0 = .ok (.aload_n 0, 1) := by decide +kernel
theorem dX6_among_1 : decode cX6_among 1 = .ok (.getfield 25, 3) := by decide +kernel
theorem dX6_among_4 : decode cX6_among 4 = .ok (.iconst 1, 1) := by decide +kernel
theorem dX6_among_5 : decode cX6_among 5 = .ok (.if_icmp .eq 5, 3) := by decide +kernel
theorem dX6_among_8 : decode cX6_among 8 = .ok (.iconst (-1), 1) := by decide +kernel
theorem dX6_among_9 : decode cX6_among 9 = .ok (.ireturn, 1) := by decide +kernel
theorem dX6_among_10 : decode cX6_among 10 = .ok (.iconst 0, 1) := by decide +kernel
theorem dX6_among_11 : decode cX6_among 11 = .ok (.istore_n 2, 1) := by decide +kernel
theorem dX6_among_12 : decode cX6_among 12 = .ok (.iconst 0, 1) := by decide +kernel
theorem dX6_among_13 : decode cX6_among 13 = .ok (.istore_n 3, 1) := by decide +kernel
theorem dX6_among_14 : decode cX6_among 14 = .ok (.iconst 0, 1) := by decide +kernel
theorem dX6_among_15 : decode cX6_among 15 = .ok (.istore 4, 2) := by decide +kernel
theorem dX6_among_17 : decode cX6_among 17 = .ok (.iload 4, 2) := by decide +kernel
theorem dX6_among_19 : decode cX6_among 19 = .ok (.aload_n 1, 1) := by decide +kernel
theorem dX6_among_20 : decode cX6_among 20 = .ok (.invokevirtual 57, 3) := by decide +kernel
theorem dX6_among_23 : decode cX6_among 23 = .ok (.if_icmp .ge 41, 3) := by decide +kernel
theorem dX6_among_26 : decode cX6_among 26 = .ok (.aload_n 1, 1) := by decide +kernel
theorem dX6_among_27 : decode cX6_among 27 = .ok (.iload 4, 2) := by decide +kernel
theorem dX6_among_29 : decode cX6_among 29 = .ok (.invokevirtual 60, 3) := by decide +kernel
theorem dX6_among_32 : decode cX6_among 32 = .ok (.bipush 32, 2) := by decide +kernel
theorem dX6_among_34 : decode cX6_among 34 = .ok (.if_icmp .ne 24, 3) := by decide +kernel
theorem dX6_among_37 : decode cX6_among 37 = .ok (.aload_n 0, 1) := by decide +kernel
theorem dX6_among_38 : decode cX6_among 38 = .ok (.aload_n 1, 1) := by decide +kernel
theorem dX6_among_39 : decode cX6_among 39 = .ok (.iload_n 3, 1) := by decide +kernel
theorem dX6_among_40 : decode cX6_among 40 = .ok (.iload 4, 2) := by decide +kernel
theorem dX6_among_42 : decode cX6_among 42 = .ok (.invokevirtual 64, 3) := by decide +kernel
theorem dX6_among_45 : decode cX6_among 45 = .ok (.ifCond .eq 5, 3) := by decide +kernel
theorem dX6_among_48 : decode cX6_among 48 = .ok (.iload_n 2, 1) := by decide +kernel
theorem dX6_among_49 : decode cX6_among 49 = .ok (.ireturn, 1) := by decide +kernel
theorem dX6_among_50 : decode cX6_among 50 = .ok (.iinc 2 1, 3) := by decide +kernel
theorem dX6_among_53 : decode cX6_among 53 = .ok (.iload 4, 2) := by decide +kernel
theorem dX6_among_55 : decode cX6_among 55 = .ok (.iconst 1, 1) := by decide +kernel
theorem dX6_among_56 : decode cX6_among 56 = .ok (.iadd, 1) := by decide +kernel
theorem dX6_among_57 : decode cX6_among 57 = .ok (.istore_n 3, 1) := by decide +kernel
theorem dX6_among_58 : decode cX6_among 58 = .ok (.iinc 4 1, 3) := by decide +kernel
theorem dX6_among_61 : decode cX6_among 61 = .ok (.goto (-44), 3) := by decide +kernel
theorem dX6_among_64 : decode cX6_among 64 = .ok (.iconst (-1), 1) := by decide +kernel
theorem dX6_among_65 : decode cX6_among 65 = .ok (.ireturn, 1) := by decide +kernel
theorem dX6_spells_0 : decode cX6_spells 0 = .ok (.iload_n 3, 1) := by decide +kernel
theorem dX6_spells_1 : decode cX6_spells 1 = .ok (.iload_n 2, 1) := by decide +kernel
theorem dX6_spells_2 : decode cX6_spells 2 = .ok (.isub, 1) := by decide +kernel
theorem dX6_spells_3 : decode cX6_spells 3 = .ok (.aload_n 0, 1) := by decide +kernel
theorem dX6_spells_4 : decode cX6_spells 4 = .ok (.getfield 19, 3) := by decide +kernel
theorem dX6_spells_7 : decode cX6_spells 7 = .ok (.aload_n 0, 1) := by decide +kernel
theorem dX6_spells_8 : decode cX6_spells 8 = .ok (.getfield 22, 3) := by decide +kernel
theorem dX6_spells_11 : decode cX6_spells 11 = .ok (.isub, 1) := by decide +kernel
theorem dX6_spells_12 : decode cX6_spells 12 = .ok (.if_icmp .eq 5, 3) := by decide +kernel
theorem dX6_spells_15 : decode cX6_spells 15 = .ok (.iconst 0, 1) := by decide +kernel
theorem dX6_spells_16 : decode cX6_spells 16 = .ok (.ireturn, 1) := by decide +kernel
theorem dX6_spells_17 : decode cX6_spells 17 = .ok (.iload_n 2, 1) := by decide +kernel
theorem dX6_spells_18 : decode cX6_spells 18 = .ok (.istore 4, 2) := by decide +kernel
theorem dX6_spells_20 : decode cX6_spells 20 = .ok (.iload 4, 2) := by decide +kernel
theorem dX6_spells_22 : decode cX6_spells 22 = .ok (.iload_n 3, 1) := by decide +kernel
theorem dX6_spells_23 : decode cX6_spells 23 = .ok (.if_icmp .ge 34, 3) := by decide +kernel
theorem dX6_spells_26 : decode cX6_spells 26 = .ok (.aload_n 1, 1) := by decide +kernel
theorem dX6_spells_27 : decode cX6_spells 27 = .ok (.iload 4, 2) := by decide +kernel
theorem dX6_spells_29 : decode cX6_spells 29 = .ok (.invokevirtual 60, 3) := by decide +kernel
theorem dX6_spells_32 : decode cX6_spells 32 = .ok (.aload_n 0, 1) := by decide +kernel
theorem dX6_spells_33 : decode cX6_spells 33 = .ok (.getfield 9, 3) := by decide +kernel
theorem dX6_spells_36 : decode cX6_spells 36 = .ok (.aload_n 0, 1) := by decide +kernel
theorem dX6_spells_37 : decode cX6_spells 37 = .ok (.getfield 22, 3) := by decide +kernel
theorem dX6_spells_40 : decode cX6_spells 40 = .ok (.iload 4, 2) := by decide +kernel
theorem dX6_spells_42 : decode cX6_spells 42 = .ok (.iadd, 1) := by decide +kernel
theorem dX6_spells_43 : decode cX6_spells 43 = .ok (.iload_n 2, 1) := by decide +kernel
theorem dX6_spells_44 : decode cX6_spells 44 = .ok (.isub, 1) := by decide +kernel
theorem dX6_spells_45 : decode cX6_spells 45 = .ok (.baload, 1) := by decide +kernel
theorem dX6_spells_46 : decode cX6_spells 46 = .ok (.if_icmp .eq 5, 3) := by decide +kernel
theorem dX6_spells_49 : decode cX6_spells 49 = .ok (.iconst 0, 1) := by decide +kernel
theorem dX6_spells_50 : decode cX6_spells 50 = .ok (.ireturn, 1) := by decide +kernel
theorem dX6_spells_51 : decode cX6_spells 51 = .ok (.iinc 4 1, 3) := by decide +kernel
theorem dX6_spells_54 : decode cX6_spells 54 = .ok (.goto (-34), 3) := by decide +kernel
theorem dX6_spells_57 : decode cX6_spells 57 = .ok (.iconst 1, 1) := by decide +kernel
theorem dX6_spells_58 : decode cX6_spells 58 = .ok (.ireturn, 1) := by decide +kernel
theorem dX7_init_0 : decode cX7_init 0 = .ok (.aload_n 0, 1) := by decide +kernel
theorem dX7_init_1 : decode cX7_init 1 = .ok (.invokespecial 3, 3) := by decide +kernel
theorem dX7_init_4 : decode cX7_init 4 = .ok (.aload_n 0, 1) := by decide +kernel
theorem dX7_init_5 : decode cX7_init 5 = .ok (.sipush 1296, 3) := by decide +kernel
theorem dX7_init_8 : decode cX7_init 8 = .ok (.newarray .int, 2) := by decide +kernel
theorem dX7_init_10 : decode cX7_init 10 = .ok (.putfield 9, 3) := by decide +kernel
theorem dX7_init_13 : decode cX7_init 13 = .ok (.aload_n 0, 1) := by decide +kernel
theorem dX7_init_14 : decode cX7_init 14 = .ok (.iconst 4, 1) := by decide +kernel
theorem dX7_init_15 : decode cX7_init 15 = .ok (.newarray .int, 2) := by decide +kernel
theorem dX7_init_17 : decode cX7_init 17 = .ok (.putfield 15, 3) := by decide +kernel
theorem dX7_init_20 : decode cX7_init 20 = .ok (.aload_n 0, 1) := by decide +kernel
theorem dX7_init_21 : decode cX7_init 21 = .ok (.iconst 4, 1) := by decide +kernel
theorem dX7_init_22 : decode cX7_init 22 = .ok (.newarray .int, 2) := by decide +kernel
theorem dX7_init_24 : decode cX7_init 24 = .ok (.putfield 18, 3) := by decide +kernel
theorem dX7_init_27 : decode cX7_init 27 = .ok (.aload_n 0, 1) := by decide +kernel
theorem dX7_init_28 : decode cX7_init 28 = .ok (.iconst 4, 1) := by decide +kernel
theorem dX7_init_29 : decode cX7_init 29 = .ok (.newarray .int, 2) := by decide +kernel
theorem dX7_init_31 : decode cX7_init 31 = .ok (.putfield 21, 3) := by decide +kernel
theorem dX7_init_34 : decode cX7_init 34 = .ok (.aload_n 0, 1) := by decide +kernel
theorem dX7_init_35 : decode cX7_init 35 = .ok (.iconst 0, 1) := by decide +kernel
theorem dX7_init_36 : decode cX7_init 36 = .ok (.putfield 24, 3) := by decide +kernel
theorem dX7_init_39 : decode cX7_init 39 = .ok (.return_, 1) := by decide +kernel
theorem dX7_slotOf_0 : decode cX7_slotOf 0 = .ok (.iload_n 0, 1) := by decide +kernel
theorem dX7_slotOf_1 : decode cX7_slotOf 1 = .ok (.bipush 9, 2) := by decide +kernel
theorem dX7_slotOf_3 : decode cX7_slotOf 3 = .ok (.imul, 1) := by decide +kernel
theorem dX7_slotOf_4 : decode cX7_slotOf 4 = .ok (.iconst 4, 1) := by decide +kernel
theorem dX7_slotOf_5 : decode cX7_slotOf 5 = .ok (.iadd, 1) := by decide +kernel
theorem dX7_slotOf_6 : decode cX7_slotOf 6 = .ok (.iload_n 1, 1) := by decide +kernel
theorem dX7_slotOf_7 : decode cX7_slotOf 7 = .ok (.iadd, 1) := by decide +kernel
theorem dX7_slotOf_8 : decode cX7_slotOf 8 = .ok (.ireturn, 1) := by decide +kernel
theorem dX7_markOf_0 : decode cX7_markOf 0 = .ok (.iload_n 0, 1) := by decide +kernel
theorem dX7_markOf_1 : decode cX7_markOf 1 = .ok (.bipush 36, 2) := by decide +kernel
theorem dX7_markOf_3 : decode cX7_markOf 3 = .ok (.imul, 1) := by decide +kernel
theorem dX7_markOf_4 : decode cX7_markOf 4 = .ok (.iload_n 1, 1) := by decide +kernel
theorem dX7_markOf_5 : decode cX7_markOf 5 = .ok (.iadd, 1) := by decide +kernel
theorem dX7_markOf_6 : decode cX7_markOf 6 = .ok (.ireturn, 1) := by decide +kernel
theorem dX7_forget_0 : decode cX7_forget 0 = .ok (.aload_n 0, 1) := by decide +kernel
theorem dX7_forget_1 : decode cX7_forget 1 = .ok (.iconst 0, 1) := by decide +kernel
theorem dX7_forget_2 : decode cX7_forget 2 = .ok (.putfield 24, 3) := by decide +kernel
theorem dX7_forget_5 : decode cX7_forget 5 = .ok (.return_, 1) := by decide +kernel
theorem dX7_clearMarks_0 : decode cX7_clearMarks 0 = .ok (.iconst 0, 1) := by decide +kernel
theorem dX7_clearMarks_1 : decode cX7_clearMarks 1 = .ok (.istore_n 1, 1) := by decide +kernel
theorem dX7_clearMarks_2 : decode cX7_clearMarks 2 = .ok (.iload_n 1, 1) := by decide +kernel
theorem dX7_clearMarks_3 : decode cX7_clearMarks 3 = .ok (.aload_n 0, 1) := by decide +kernel
theorem dX7_clearMarks_4 : decode cX7_clearMarks 4 = .ok (.getfield 9, 3) := by decide +kernel
theorem dX7_clearMarks_7 : decode cX7_clearMarks 7 = .ok (.arraylength, 1) := by decide +kernel
theorem dX7_clearMarks_8 : decode cX7_clearMarks 8 = .ok (.if_icmp .ge 16, 3) := by decide +kernel
theorem dX7_clearMarks_11 : decode cX7_clearMarks 11 = .ok (.aload_n 0, 1) := by decide +kernel
theorem dX7_clearMarks_12 : decode cX7_clearMarks 12 = .ok (.getfield 9, 3) := by decide +kernel
theorem dX7_clearMarks_15 : decode cX7_clearMarks 15 = .ok (.iload_n 1, 1) := by decide +kernel
theorem dX7_clearMarks_16 : decode cX7_clearMarks 16 = .ok (.iconst 0, 1) := by decide +kernel
theorem dX7_clearMarks_17 : decode cX7_clearMarks 17 = .ok (.iastore, 1) := by decide +kernel
theorem dX7_clearMarks_18 : decode cX7_clearMarks 18 = .ok (.iinc 1 1, 3) := by decide +kernel
theorem dX7_clearMarks_21 : decode cX7_clearMarks 21 = .ok (.goto (-19), 3) := by decide +kernel
theorem dX7_clearMarks_24 : decode cX7_clearMarks 24 = .ok (.return_, 1) := by decide +kernel
theorem dX7_markHour_0 : decode cX7_markHour 0 = .ok (.iload_n 2, 1) := by decide +kernel
theorem dX7_markHour_1 : decode cX7_markHour 1 = .ok (.iconst 4, 1) := by decide +kernel
theorem dX7_markHour_2 : decode cX7_markHour 2 = .ok (.invokestatic 28, 3) := by decide +kernel
theorem dX7_markHour_5 : decode cX7_markHour 5 = .ok (.bipush 9, 2) := by decide +kernel
theorem dX7_markHour_7 : decode cX7_markHour 7 = .ok (.imul, 1) := by decide +kernel
theorem dX7_markHour_8 : decode cX7_markHour 8 = .ok (.istore 5, 2) := by decide +kernel
theorem dX7_markHour_10 : decode cX7_markHour 10 = .ok (.iconst 0, 1) := by decide +kernel
theorem dX7_markHour_11 : decode cX7_markHour 11 = .ok (.istore 6, 2) := by decide +kernel
theorem dX7_markHour_13 : decode cX7_markHour 13 = .ok (.iload 6, 2) := by decide +kernel
theorem dX7_markHour_15 : decode cX7_markHour 15 = .ok (.iload 5, 2) := by decide +kernel
theorem dX7_markHour_17 : decode cX7_markHour 17 = .ok (.if_icmp .ge 98, 3) := by decide +kernel
theorem dX7_markHour_20 : decode cX7_markHour 20 = .ok (.iconst 0, 1) := by decide +kernel
theorem dX7_markHour_21 : decode cX7_markHour 21 = .ok (.istore 7, 2) := by decide +kernel
theorem dX7_markHour_23 : decode cX7_markHour 23 = .ok (.iload 7, 2) := by decide +kernel
theorem dX7_markHour_25 : decode cX7_markHour 25 = .ok (.iload 5, 2) := by decide +kernel
theorem dX7_markHour_27 : decode cX7_markHour 27 = .ok (.if_icmp .ge 82, 3) := by decide +kernel
theorem dX7_markHour_30 : decode cX7_markHour 30 = .ok (.iload 6, 2) := by decide +kernel
theorem dX7_markHour_32 : decode cX7_markHour 32 = .ok (.bipush 9, 2) := by decide +kernel
theorem dX7_markHour_34 : decode cX7_markHour 34 = .ok (.idiv, 1) := by decide +kernel
theorem dX7_markHour_35 : decode cX7_markHour 35 = .ok (.iload 7, 2) := by decide +kernel
theorem dX7_markHour_37 : decode cX7_markHour 37 = .ok (.bipush 9, 2) := by decide +kernel
theorem dX7_markHour_39 : decode cX7_markHour 39 = .ok (.idiv, 1) := by decide +kernel
theorem dX7_markHour_40 : decode cX7_markHour 40 = .ok (.if_icmp .eq 7, 3) := by decide +kernel
theorem dX7_markHour_43 : decode cX7_markHour 43 = .ok (.iconst 1, 1) := by decide +kernel
theorem dX7_markHour_44 : decode cX7_markHour 44 = .ok (.goto 4, 3) := by decide +kernel
theorem dX7_markHour_47 : decode cX7_markHour 47 = .ok (.iconst 0, 1) := by decide +kernel
theorem dX7_markHour_48 : decode cX7_markHour 48 = .ok (.istore 8, 2) := by decide +kernel
theorem dX7_markHour_50 : decode cX7_markHour 50 = .ok (.iload 8, 2) := by decide +kernel
theorem dX7_markHour_52 : decode cX7_markHour 52 = .ok (.ifCond .eq 51, 3) := by decide +kernel
theorem dX7_markHour_55 : decode cX7_markHour 55 = .ok (.iload_n 3, 1) := by decide +kernel
theorem dX7_markHour_56 : decode cX7_markHour 56 = .ok (.ifCond .eq 17, 3) := by decide +kernel
theorem dX7_markHour_59 : decode cX7_markHour 59 = .ok (.aload_n 1, 1) := by decide +kernel
theorem dX7_markHour_60 : decode cX7_markHour 60 = .ok (.iload 6, 2) := by decide +kernel
theorem dX7_markHour_62 : decode cX7_markHour 62 = .ok (.iload 7, 2) := by decide +kernel
theorem dX7_markHour_64 : decode cX7_markHour 64 = .ok (.invokevirtual 34, 3) := by decide +kernel
theorem dX7_markHour_67 : decode cX7_markHour 67 = .ok (.ifCond .eq 36, 3) := by decide +kernel
theorem dX7_markHour_70 : decode cX7_markHour 70 = .ok (.goto 14, 3) := by decide +kernel
theorem dX7_markHour_73 : decode cX7_markHour 73 = .ok (.aload_n 1, 1) := by decide +kernel
theorem dX7_markHour_74 : decode cX7_markHour 74 = .ok (.iload 6, 2) := by decide +kernel
theorem dX7_markHour_76 : decode cX7_markHour 76 = .ok (.iload 7, 2) := by decide +kernel
theorem dX7_markHour_78 : decode cX7_markHour 78 = .ok (.invokevirtual 40, 3) := by decide +kernel
theorem dX7_markHour_81 : decode cX7_markHour 81 = .ok (.ifCond .eq 22, 3) := by decide +kernel
theorem dX7_markHour_84 : decode cX7_markHour 84 = .ok (.aload_n 0, 1) := by decide +kernel
theorem dX7_markHour_85 : decode cX7_markHour 85 = .ok (.getfield 9, 3) := by decide +kernel
theorem dX7_markHour_88 : decode cX7_markHour 88 = .ok (.iload 6, 2) := by decide +kernel
theorem dX7_markHour_90 : decode cX7_markHour 90 = .ok (.iload 7, 2) := by decide +kernel
theorem dX7_markHour_92 : decode cX7_markHour 92 = .ok (.invokestatic 43, 3) := by decide +kernel
theorem dX7_markHour_95 : decode cX7_markHour 95 = .ok (.dup2, 1) := by decide +kernel
theorem dX7_markHour_96 : decode cX7_markHour 96 = .ok (.iaload, 1) := by decide +kernel
theorem dX7_markHour_97 : decode cX7_markHour 97 = .ok (.iconst 1, 1) := by decide +kernel
theorem dX7_markHour_98 : decode cX7_markHour 98 = .ok (.iload 4, 2) := by decide +kernel
theorem dX7_markHour_100 : decode cX7_markHour 100 = .ok (.ishl, 1) := by decide +kernel
theorem dX7_markHour_101 : decode cX7_markHour 101 = .ok (.ior, 1) := by decide +kernel
theorem dX7_markHour_102 : decode cX7_markHour 102 = .ok (.iastore, 1) := by decide +kernel
theorem dX7_markHour_103 : decode cX7_markHour 103 = .ok (.iinc 7 1, 3) := by decide +kernel
theorem dX7_markHour_106 : decode cX7_markHour 106 = .ok (.goto (-83), 3) := by decide +kernel
theorem dX7_markHour_109 : decode cX7_markHour 109 = .ok (.iinc 6 1, 3) := by decide +kernel
theorem dX7_markHour_112 : decode cX7_markHour 112 = .ok (.goto (-99), 3) := by decide +kernel
theorem dX7_markHour_115 : decode cX7_markHour 115 = .ok (.return_, 1) := by decide +kernel
theorem dX7_search_0 : decode cX7_search 0 = .ok (.iconst 2, 1) := by decide +kernel
theorem dX7_search_1 : decode cX7_search 1 = .ok (.iload_n 2, 1) := by decide +kernel
theorem dX7_search_2 : decode cX7_search 2 = .ok (.imul, 1) := by decide +kernel
theorem dX7_search_3 : decode cX7_search 3 = .ok (.iconst 1, 1) := by decide +kernel
theorem dX7_search_4 : decode cX7_search 4 = .ok (.iadd, 1) := by decide +kernel
theorem dX7_search_5 : decode cX7_search 5 = .ok (.istore 4, 2) := by decide +kernel
theorem dX7_search_7 : decode cX7_search 7 = .ok (.iconst 1, 1) := by decide +kernel
theorem dX7_search_8 : decode cX7_search 8 = .ok (.istore 5, 2) := by decide +kernel
theorem dX7_search_10 : decode cX7_search 10 = .ok (.iconst 0, 1) := by decide +kernel
theorem dX7_search_11 : decode cX7_search 11 = .ok (.istore 6, 2) := by decide +kernel
theorem dX7_search_13 : decode cX7_search 13 = .ok (.iload 6, 2) := by decide +kernel
theorem dX7_search_15 : decode cX7_search 15 = .ok (.aload_n 1, 1) := by decide +kernel
theorem dX7_search_16 : decode cX7_search 16 = .ok (.getfield 46, 3) := by decide +kernel
theorem dX7_search_19 : decode cX7_search 19 = .ok (.if_icmp .ge 16, 3) := by decide +kernel
theorem dX7_search_22 : decode cX7_search 22 = .ok (.iload 5, 2) := by decide +kernel
theorem dX7_search_24 : decode cX7_search 24 = .ok (.iload 4, 2) := by decide +kernel
theorem dX7_search_26 : decode cX7_search 26 = .ok (.imul, 1) := by decide +kernel
theorem dX7_search_27 : decode cX7_search 27 = .ok (.istore 5, 2) := by decide +kernel
theorem dX7_search_29 : decode cX7_search 29 = .ok (.iinc 6 1, 3) := by decide +kernel
theorem dX7_search_32 : decode cX7_search 32 = .ok (.goto (-19), 3) := by decide +kernel
theorem dX7_search_35 : decode cX7_search 35 = .ok (.iconst (-1), 1) := by decide +kernel
theorem dX7_search_36 : decode cX7_search 36 = .ok (.istore 6, 2) := by decide +kernel
theorem dX7_search_38 : decode cX7_search 38 = .ok (.iconst 0, 1) := by decide +kernel
theorem dX7_search_39 : decode cX7_search 39 = .ok (.istore 7, 2) := by decide +kernel
theorem dX7_search_41 : decode cX7_search 41 = .ok (.iload 7, 2) := by decide +kernel
theorem dX7_search_43 : decode cX7_search 43 = .ok (.iload 5, 2) := by decide +kernel
theorem dX7_search_45 : decode cX7_search 45 = .ok (.if_icmp .ge 85, 3) := by decide +kernel
theorem dX7_search_48 : decode cX7_search 48 = .ok (.aload_n 0, 1) := by decide +kernel
theorem dX7_search_49 : decode cX7_search 49 = .ok (.aload_n 1, 1) := by decide +kernel
theorem dX7_search_50 : decode cX7_search 50 = .ok (.iload_n 2, 1) := by decide +kernel
theorem dX7_search_51 : decode cX7_search 51 = .ok (.iload 7, 2) := by decide +kernel
theorem dX7_search_53 : decode cX7_search 53 = .ok (.invokevirtual 52, 3) := by decide +kernel
theorem dX7_search_56 : decode cX7_search 56 = .ok (.istore 8, 2) := by decide +kernel
theorem dX7_search_58 : decode cX7_search 58 = .ok (.iload 8, 2) := by decide +kernel
theorem dX7_search_60 : decode cX7_search 60 = .ok (.iconst (-1), 1) := by decide +kernel
theorem dX7_search_61 : decode cX7_search 61 = .ok (.if_icmp .eq 20, 3) := by decide +kernel
theorem dX7_search_64 : decode cX7_search 64 = .ok (.iload 6, 2) := by decide +kernel
theorem dX7_search_66 : decode cX7_search 66 = .ok (.iconst (-1), 1) := by decide +kernel
theorem dX7_search_67 : decode cX7_search 67 = .ok (.if_icmp .eq 10, 3) := by decide +kernel
theorem dX7_search_70 : decode cX7_search 70 = .ok (.iload 8, 2) := by decide +kernel
theorem dX7_search_72 : decode cX7_search 72 = .ok (.iload 6, 2) := by decide +kernel
theorem dX7_search_74 : decode cX7_search 74 = .ok (.if_icmp .ge 7, 3) := by decide +kernel
theorem dX7_search_77 : decode cX7_search 77 = .ok (.iconst 1, 1) := by decide +kernel
theorem dX7_search_78 : decode cX7_search 78 = .ok (.goto 4, 3) := by decide +kernel
theorem dX7_search_81 : decode cX7_search 81 = .ok (.iconst 0, 1) := by decide +kernel
theorem dX7_search_82 : decode cX7_search 82 = .ok (.istore 9, 2) := by decide +kernel
theorem dX7_search_84 : decode cX7_search 84 = .ok (.iload 9, 2) := by decide +kernel
theorem dX7_search_86 : decode cX7_search 86 = .ok (.ifCond .eq 38, 3) := by decide +kernel
theorem dX7_search_89 : decode cX7_search 89 = .ok (.aload_n 0, 1) := by decide +kernel
theorem dX7_search_90 : decode cX7_search 90 = .ok (.aload_n 1, 1) := by decide +kernel
theorem dX7_search_91 : decode cX7_search 91 = .ok (.getfield 46, 3) := by decide +kernel
theorem dX7_search_94 : decode cX7_search 94 = .ok (.iload_n 3, 1) := by decide +kernel
theorem dX7_search_95 : decode cX7_search 95 = .ok (.invokevirtual 56, 3) := by decide +kernel
theorem dX7_search_98 : decode cX7_search 98 = .ok (.ifCond .eq 26, 3) := by decide +kernel
theorem dX7_search_101 : decode cX7_search 101 = .ok (.iload 8, 2) := by decide +kernel
theorem dX7_search_103 : decode cX7_search 103 = .ok (.istore 6, 2) := by decide +kernel
theorem dX7_search_105 : decode cX7_search 105 = .ok (.aload_n 0, 1) := by decide +kernel
theorem dX7_search_106 : decode cX7_search 106 = .ok (.getfield 18, 3) := by decide +kernel
theorem dX7_search_109 : decode cX7_search 109 = .ok (.iconst 0, 1) := by decide +kernel
theorem dX7_search_110 : decode cX7_search 110 = .ok (.aload_n 0, 1) := by decide +kernel
theorem dX7_search_111 : decode cX7_search 111 = .ok (.getfield 21, 3) := by decide +kernel
theorem dX7_search_114 : decode cX7_search 114 = .ok (.iconst 0, 1) := by decide +kernel
theorem dX7_search_115 : decode cX7_search 115 = .ok (.iconst 4, 1) := by decide +kernel
theorem dX7_search_116 : decode cX7_search 116 = .ok (.invokestatic 59, 3) := by decide +kernel
theorem dX7_search_119 : decode cX7_search 119 = .ok (.aload_n 0, 1) := by decide +kernel
theorem dX7_search_120 : decode cX7_search 120 = .ok (.iconst 1, 1) := by decide +kernel
theorem dX7_search_121 : decode cX7_search 121 = .ok (.putfield 24, 3) := by decide +kernel
theorem dX7_search_124 : decode cX7_search 124 = .ok (.iinc 7 1, 3) := by decide +kernel
theorem dX7_search_127 : decode cX7_search 127 = .ok (.goto (-86), 3) := by decide +kernel
theorem dX7_search_130 : decode cX7_search 130 = .ok (.iload 6, 2) := by decide +kernel
theorem dX7_search_132 : decode cX7_search 132 = .ok (.ireturn, 1) := by decide +kernel
theorem dX7_takeRow_0 : decode cX7_takeRow 0 = .ok (.iconst 2, 1) := by decide +kernel
theorem dX7_takeRow_1 : decode cX7_takeRow 1 = .ok (.iload_n 2, 1) := by decide +kernel
theorem dX7_takeRow_2 : decode cX7_takeRow 2 = .ok (.imul, 1) := by decide +kernel
theorem dX7_takeRow_3 : decode cX7_takeRow 3 = .ok (.iconst 1, 1) := by decide +kernel
theorem dX7_takeRow_4 : decode cX7_takeRow 4 = .ok (.iadd, 1) := by decide +kernel
theorem dX7_takeRow_5 : decode cX7_takeRow 5 = .ok (.istore 4, 2) := by decide +kernel
theorem dX7_takeRow_7 : decode cX7_takeRow 7 = .ok (.iload_n 3, 1) := by decide +kernel
theorem dX7_takeRow_8 : decode cX7_takeRow 8 = .ok (.istore 5, 2) := by decide +kernel
theorem dX7_takeRow_10 : decode cX7_takeRow 10 = .ok (.iconst 0, 1) := by decide +kernel
theorem dX7_takeRow_11 : decode cX7_takeRow 11 = .ok (.istore 6, 2) := by decide +kernel
theorem dX7_takeRow_13 : decode cX7_takeRow 13 = .ok (.aload_n 1, 1) := by decide +kernel
theorem dX7_takeRow_14 : decode cX7_takeRow 14 = .ok (.getfield 46, 3) := by decide +kernel
theorem dX7_takeRow_17 : decode cX7_takeRow 17 = .ok (.iconst 4, 1) := by decide +kernel
theorem dX7_takeRow_18 : decode cX7_takeRow 18 = .ok (.invokestatic 28, 3) := by decide +kernel
theorem dX7_takeRow_21 : decode cX7_takeRow 21 = .ok (.iconst 1, 1) := by decide +kernel
theorem dX7_takeRow_22 : decode cX7_takeRow 22 = .ok (.isub, 1) := by decide +kernel
theorem dX7_takeRow_23 : decode cX7_takeRow 23 = .ok (.istore 7, 2) := by decide +kernel
theorem dX7_takeRow_25 : decode cX7_takeRow 25 = .ok (.iload 7, 2) := by decide +kernel
theorem dX7_takeRow_27 : decode cX7_takeRow 27 = .ok (.ifCond .lt 91, 3) := by decide +kernel
theorem dX7_takeRow_30 : decode cX7_takeRow 30 = .ok (.iload 5, 2) := by decide +kernel
theorem dX7_takeRow_32 : decode cX7_takeRow 32 = .ok (.iload 4, 2) := by decide +kernel
theorem dX7_takeRow_34 : decode cX7_takeRow 34 = .ok (.irem, 1) := by decide +kernel
theorem dX7_takeRow_35 : decode cX7_takeRow 35 = .ok (.iload_n 2, 1) := by decide +kernel
theorem dX7_takeRow_36 : decode cX7_takeRow 36 = .ok (.isub, 1) := by decide +kernel
theorem dX7_takeRow_37 : decode cX7_takeRow 37 = .ok (.istore 8, 2) := by decide +kernel
theorem dX7_takeRow_39 : decode cX7_takeRow 39 = .ok (.iload 5, 2) := by decide +kernel
theorem dX7_takeRow_41 : decode cX7_takeRow 41 = .ok (.iload 4, 2) := by decide +kernel
theorem dX7_takeRow_43 : decode cX7_takeRow 43 = .ok (.idiv, 1) := by decide +kernel
theorem dX7_takeRow_44 : decode cX7_takeRow 44 = .ok (.istore 5, 2) := by decide +kernel
theorem dX7_takeRow_46 : decode cX7_takeRow 46 = .ok (.aload_n 0, 1) := by decide +kernel
theorem dX7_takeRow_47 : decode cX7_takeRow 47 = .ok (.getfield 18, 3) := by decide +kernel
theorem dX7_takeRow_50 : decode cX7_takeRow 50 = .ok (.iload 7, 2) := by decide +kernel
theorem dX7_takeRow_52 : decode cX7_takeRow 52 = .ok (.aload_n 1, 1) := by decide +kernel
theorem dX7_takeRow_53 : decode cX7_takeRow 53 = .ok (.getfield 65, 3) := by decide +kernel
theorem dX7_takeRow_56 : decode cX7_takeRow 56 = .ok (.iload 7, 2) := by decide +kernel
theorem dX7_takeRow_58 : decode cX7_takeRow 58 = .ok (.iaload, 1) := by decide +kernel
theorem dX7_takeRow_59 : decode cX7_takeRow 59 = .ok (.iload 8, 2) := by decide +kernel
theorem dX7_takeRow_61 : decode cX7_takeRow 61 = .ok (.iadd, 1) := by decide +kernel
theorem dX7_takeRow_62 : decode cX7_takeRow 62 = .ok (.iastore, 1) := by decide +kernel
theorem dX7_takeRow_63 : decode cX7_takeRow 63 = .ok (.aload_n 0, 1) := by decide +kernel
theorem dX7_takeRow_64 : decode cX7_takeRow 64 = .ok (.getfield 18, 3) := by decide +kernel
theorem dX7_takeRow_67 : decode cX7_takeRow 67 = .ok (.iload 7, 2) := by decide +kernel
theorem dX7_takeRow_69 : decode cX7_takeRow 69 = .ok (.iaload, 1) := by decide +kernel
theorem dX7_takeRow_70 : decode cX7_takeRow 70 = .ok (.iconst 1, 1) := by decide +kernel
theorem dX7_takeRow_71 : decode cX7_takeRow 71 = .ok (.if_icmp .lt 15, 3) := by decide +kernel
theorem dX7_takeRow_74 : decode cX7_takeRow 74 = .ok (.aload_n 0, 1) := by decide +kernel
theorem dX7_takeRow_75 : decode cX7_takeRow 75 = .ok (.getfield 18, 3) := by decide +kernel
theorem dX7_takeRow_78 : decode cX7_takeRow 78 = .ok (.iload 7, 2) := by decide +kernel
theorem dX7_takeRow_80 : decode cX7_takeRow 80 = .ok (.iaload, 1) := by decide +kernel
theorem dX7_takeRow_81 : decode cX7_takeRow 81 = .ok (.bipush 60, 2) := by decide +kernel
theorem dX7_takeRow_83 : decode cX7_takeRow 83 = .ok (.if_icmp .le 5, 3) := by decide +kernel
theorem dX7_takeRow_86 : decode cX7_takeRow 86 = .ok (.iconst (-1), 1) := by decide +kernel
theorem dX7_takeRow_87 : decode cX7_takeRow 87 = .ok (.ireturn, 1) := by decide +kernel
theorem dX7_takeRow_88 : decode cX7_takeRow 88 = .ok (.aload_n 0, 1) := by decide +kernel
theorem dX7_takeRow_89 : decode cX7_takeRow 89 = .ok (.getfield 15, 3) := by decide +kernel
theorem dX7_takeRow_92 : decode cX7_takeRow 92 = .ok (.iload 7, 2) := by decide +kernel
theorem dX7_takeRow_94 : decode cX7_takeRow 94 = .ok (.iload 7, 2) := by decide +kernel
theorem dX7_takeRow_96 : decode cX7_takeRow 96 = .ok (.iload 8, 2) := by decide +kernel
theorem dX7_takeRow_98 : decode cX7_takeRow 98 = .ok (.invokestatic 68, 3) := by decide +kernel
theorem dX7_takeRow_101 : decode cX7_takeRow 101 = .ok (.iastore, 1) := by decide +kernel
theorem dX7_takeRow_102 : decode cX7_takeRow 102 = .ok (.iload 6, 2) := by decide +kernel
theorem dX7_takeRow_104 : decode cX7_takeRow 104 = .ok (.iload 8, 2) := by decide +kernel
theorem dX7_takeRow_106 : decode cX7_takeRow 106 = .ok (.invokestatic 71, 3) := by decide +kernel
theorem dX7_takeRow_109 : decode cX7_takeRow 109 = .ok (.iadd, 1) := by decide +kernel
theorem dX7_takeRow_110 : decode cX7_takeRow 110 = .ok (.istore 6, 2) := by decide +kernel
theorem dX7_takeRow_112 : decode cX7_takeRow 112 = .ok (.iinc 7 (-1), 3) := by decide +kernel
theorem dX7_takeRow_115 : decode cX7_takeRow 115 = .ok (.goto (-90), 3) := by decide +kernel
theorem dX7_takeRow_118 : decode cX7_takeRow 118 = .ok (.iload 6, 2) := by decide +kernel
theorem dX7_takeRow_120 : decode cX7_takeRow 120 = .ok (.ireturn, 1) := by decide +kernel
theorem dX7_isQuiet_0 : decode cX7_isQuiet 0 = .ok (.iload_n 1, 1) := by decide +kernel
theorem dX7_isQuiet_1 : decode cX7_isQuiet 1 = .ok (.iconst 4, 1) := by decide +kernel
theorem dX7_isQuiet_2 : decode cX7_isQuiet 2 = .ok (.invokestatic 28, 3) := by decide +kernel
theorem dX7_isQuiet_5 : decode cX7_isQuiet 5 = .ok (.istore_n 3, 1) := by decide +kernel
theorem dX7_isQuiet_6 : decode cX7_isQuiet 6 = .ok (.iconst 0, 1) := by decide +kernel
theorem dX7_isQuiet_7 : decode cX7_isQuiet 7 = .ok (.istore 4, 2) := by decide +kernel
theorem dX7_isQuiet_9 : decode cX7_isQuiet 9 = .ok (.iload 4, 2) := by decide +kernel
theorem dX7_isQuiet_11 : decode cX7_isQuiet 11 = .ok (.iload_n 3, 1) := by decide +kernel
theorem dX7_isQuiet_12 : decode cX7_isQuiet 12 = .ok (.if_icmp .ge 65, 3) := by decide +kernel
theorem dX7_isQuiet_15 : decode cX7_isQuiet 15 = .ok (.iconst 0, 1) := by decide +kernel
theorem dX7_isQuiet_16 : decode cX7_isQuiet 16 = .ok (.istore 5, 2) := by decide +kernel
theorem dX7_isQuiet_18 : decode cX7_isQuiet 18 = .ok (.iconst 0, 1) := by decide +kernel
theorem dX7_isQuiet_19 : decode cX7_isQuiet 19 = .ok (.istore 6, 2) := by decide +kernel
theorem dX7_isQuiet_21 : decode cX7_isQuiet 21 = .ok (.iload 6, 2) := by decide +kernel
theorem dX7_isQuiet_23 : decode cX7_isQuiet 23 = .ok (.iload_n 3, 1) := by decide +kernel
theorem dX7_isQuiet_24 : decode cX7_isQuiet 24 = .ok (.if_icmp .ge 36, 3) := by decide +kernel
theorem dX7_isQuiet_27 : decode cX7_isQuiet 27 = .ok (.iload 5, 2) := by decide +kernel
theorem dX7_isQuiet_29 : decode cX7_isQuiet 29 = .ok (.aload_n 0, 1) := by decide +kernel
theorem dX7_isQuiet_30 : decode cX7_isQuiet 30 = .ok (.getfield 9, 3) := by decide +kernel
theorem dX7_isQuiet_33 : decode cX7_isQuiet 33 = .ok (.aload_n 0, 1) := by decide +kernel
theorem dX7_isQuiet_34 : decode cX7_isQuiet 34 = .ok (.getfield 15, 3) := by decide +kernel
theorem dX7_isQuiet_37 : decode cX7_isQuiet 37 = .ok (.iload 4, 2) := by decide +kernel
theorem dX7_isQuiet_39 : decode cX7_isQuiet 39 = .ok (.iaload, 1) := by decide +kernel
theorem dX7_isQuiet_40 : decode cX7_isQuiet 40 = .ok (.aload_n 0, 1) := by decide +kernel
theorem dX7_isQuiet_41 : decode cX7_isQuiet 41 = .ok (.getfield 15, 3) := by decide +kernel
theorem dX7_isQuiet_44 : decode cX7_isQuiet 44 = .ok (.iload 6, 2) := by decide +kernel
theorem dX7_isQuiet_46 : decode cX7_isQuiet 46 = .ok (.iaload, 1) := by decide +kernel
theorem dX7_isQuiet_47 : decode cX7_isQuiet 47 = .ok (.invokestatic 43, 3) := by decide +kernel
theorem dX7_isQuiet_50 : decode cX7_isQuiet 50 = .ok (.iaload, 1) := by decide +kernel
theorem dX7_isQuiet_51 : decode cX7_isQuiet 51 = .ok (.ior, 1) := by decide +kernel
theorem dX7_isQuiet_52 : decode cX7_isQuiet 52 = .ok (.istore 5, 2) := by decide +kernel
theorem dX7_isQuiet_54 : decode cX7_isQuiet 54 = .ok (.iinc 6 1, 3) := by decide +kernel
theorem dX7_isQuiet_57 : decode cX7_isQuiet 57 = .ok (.goto (-36), 3) := by decide +kernel
theorem dX7_isQuiet_60 : decode cX7_isQuiet 60 = .ok (.iload 5, 2) := by decide +kernel
theorem dX7_isQuiet_62 : decode cX7_isQuiet 62 = .ok (.invokestatic 75, 3) := by decide +kernel
theorem dX7_isQuiet_65 : decode cX7_isQuiet 65 = .ok (.iload_n 2, 1) := by decide +kernel
theorem dX7_isQuiet_66 : decode cX7_isQuiet 66 = .ok (.if_icmp .le 5, 3) := by decide +kernel
theorem dX7_isQuiet_69 : decode cX7_isQuiet 69 = .ok (.iconst 0, 1) := by decide +kernel
theorem dX7_isQuiet_70 : decode cX7_isQuiet 70 = .ok (.ireturn, 1) := by decide +kernel
theorem dX7_isQuiet_71 : decode cX7_isQuiet 71 = .ok (.iinc 4 1, 3) := by decide +kernel
theorem dX7_isQuiet_74 : decode cX7_isQuiet 74 = .ok (.goto (-65), 3) := by decide +kernel
theorem dX7_isQuiet_77 : decode cX7_isQuiet 77 = .ok (.iconst 1, 1) := by decide +kernel
theorem dX7_isQuiet_78 : decode cX7_isQuiet 78 = .ok (.ireturn, 1) := by decide +kernel
theorem dX8_init_0 : decode cX8_init 0 = .ok (.aload_n 0, 1) := by decide +kernel
theorem dX8_init_1 : decode cX8_init 1 = .ok (.invokespecial 1, 3) := by decide +kernel
theorem dX8_init_4 : decode cX8_init 4 = .ok (.aload_n 0, 1) := by decide +kernel
theorem dX8_init_5 : decode cX8_init 5 = .ok (.sipush 700, 3) := by decide +kernel
theorem dX8_init_8 : decode cX8_init 8 = .ok (.newarray .byte, 2) := by decide +kernel
theorem dX8_init_10 : decode cX8_init 10 = .ok (.putfield 9, 3) := by decide +kernel
theorem dX8_init_13 : decode cX8_init 13 = .ok (.aload_n 0, 1) := by decide +kernel
theorem dX8_init_14 : decode cX8_init 14 = .ok (.iconst 0, 1) := by decide +kernel
theorem dX8_init_15 : decode cX8_init 15 = .ok (.putfield 13, 3) := by decide +kernel
theorem dX8_init_18 : decode cX8_init 18 = .ok (.aload_n 0, 1) := by decide +kernel
theorem dX8_init_19 : decode cX8_init 19 = .ok (.new 17, 3) := by decide +kernel
theorem dX8_init_22 : decode cX8_init 22 = .ok (.dup, 1) := by decide +kernel
theorem dX8_init_23 : decode cX8_init 23 = .ok (.invokespecial 19, 3) := by decide +kernel
theorem dX8_init_26 : decode cX8_init 26 = .ok (.putfield 20, 3) := by decide +kernel
theorem dX8_init_29 : decode cX8_init 29 = .ok (.aload_n 0, 1) := by decide +kernel
theorem dX8_init_30 : decode cX8_init 30 = .ok (.iconst (-1), 1) := by decide +kernel
theorem dX8_init_31 : decode cX8_init 31 = .ok (.putfield 24, 3) := by decide +kernel
theorem dX8_init_34 : decode cX8_init 34 = .ok (.aload_n 0, 1) := by decide +kernel
theorem dX8_init_35 : decode cX8_init 35 = .ok (.new 27, 3) := by decide +kernel
theorem dX8_init_38 : decode cX8_init 38 = .ok (.dup, 1) := by decide +kernel
theorem dX8_init_39 : decode cX8_init 39 = .ok (.invokespecial 29, 3) := by decide +kernel
theorem dX8_init_42 : decode cX8_init 42 = .ok (.putfield 30, 3) := by decide +kernel
theorem dX8_init_45 : decode cX8_init 45 = .ok (.aload_n 0, 1) := by decide +kernel
theorem dX8_init_46 : decode cX8_init 46 = .ok (.new 27, 3) := by decide +kernel
theorem dX8_init_49 : decode cX8_init 49 = .ok (.dup, 1) := by decide +kernel
theorem dX8_init_50 : decode cX8_init 50 = .ok (.invokespecial 29, 3) := by decide +kernel
theorem dX8_init_53 : decode cX8_init 53 = .ok (.putfield 34, 3) := by decide +kernel
theorem dX8_init_56 : decode cX8_init 56 = .ok (.aload_n 0, 1) := by decide +kernel
theorem dX8_init_57 : decode cX8_init 57 = .ok (.new 37, 3) := by decide +kernel
theorem dX8_init_60 : decode cX8_init 60 = .ok (.dup, 1) := by decide +kernel
theorem dX8_init_61 : decode cX8_init 61 = .ok (.invokespecial 39, 3) := by decide +kernel
theorem dX8_init_64 : decode cX8_init 64 = .ok (.putfield 40, 3) := by decide +kernel
theorem dX8_init_67 : decode cX8_init 67 = .ok (.aload_n 0, 1) := by decide +kernel
theorem dX8_init_68 : decode cX8_init 68 = .ok (.new 37, 3) := by decide +kernel
theorem dX8_init_71 : decode cX8_init 71 = .ok (.dup, 1) := by decide +kernel
theorem dX8_init_72 : decode cX8_init 72 = .ok (.invokespecial 39, 3) := by decide +kernel
theorem dX8_init_75 : decode cX8_init 75 = .ok (.putfield 44, 3) := by decide +kernel
theorem dX8_init_78 : decode cX8_init 78 = .ok (.aload_n 0, 1) := by decide +kernel
theorem dX8_init_79 : decode cX8_init 79 = .ok (.iconst 0, 1) := by decide +kernel
theorem dX8_init_80 : decode cX8_init 80 = .ok (.putfield 47, 3) := by decide +kernel
theorem dX8_init_83 : decode cX8_init 83 = .ok (.aload_n 0, 1) := by decide +kernel
theorem dX8_init_84 : decode cX8_init 84 = .ok (.new 51, 3) := by decide +kernel
theorem dX8_init_87 : decode cX8_init 87 = .ok (.dup, 1) := by decide +kernel
theorem dX8_init_88 : decode cX8_init 88 = .ok (.invokespecial 53, 3) := by decide +kernel
theorem dX8_init_91 : decode cX8_init 91 = .ok (.putfield 54, 3) := by decide +kernel
theorem dX8_init_94 : decode cX8_init 94 = .ok (.aload_n 0, 1) := by decide +kernel
theorem dX8_init_95 : decode cX8_init 95 = .ok (.new 58, 3) := by decide +kernel
theorem dX8_init_98 : decode cX8_init 98 = .ok (.dup, 1) := by decide +kernel
theorem dX8_init_99 : decode cX8_init 99 = .ok (.invokespecial 60, 3) := by decide +kernel
theorem dX8_init_102 : decode cX8_init 102 = .ok (.putfield 61, 3) := by decide +kernel
theorem dX8_init_105 : decode cX8_init 105 = .ok (.aload_n 0, 1) := by decide +kernel
theorem dX8_init_106 : decode cX8_init 106 = .ok (.new 65, 3) := by decide +kernel
theorem dX8_init_109 : decode cX8_init 109 = .ok (.dup, 1) := by decide +kernel
theorem dX8_init_110 : decode cX8_init 110 = .ok (.invokespecial 67, 3) := by decide +kernel
theorem dX8_init_113 : decode cX8_init 113 = .ok (.putfield 68, 3) := by decide +kernel
theorem dX8_init_116 : decode cX8_init 116 = .ok (.aload_n 0, 1) := by decide +kernel
theorem dX8_init_117 : decode cX8_init 117 = .ok (.bipush 6, 2) := by decide +kernel
theorem dX8_init_119 : decode cX8_init 119 = .ok (.newarray .int, 2) := by decide +kernel
theorem dX8_init_121 : decode cX8_init 121 = .ok (.putfield 72, 3) := by decide +kernel
theorem dX8_init_124 : decode cX8_init 124 = .ok (.aload_n 0, 1) := by decide +kernel
theorem dX8_init_125 : decode cX8_init 125 = .ok (.bipush 36, 2) := by decide +kernel
theorem dX8_init_127 : decode cX8_init 127 = .ok (.newarray .int, 2) := by decide +kernel
theorem dX8_init_129 : decode cX8_init 129 = .ok (.putfield 76, 3) := by decide +kernel
theorem dX8_init_132 : decode cX8_init 132 = .ok (.aload_n 0, 1) := by decide +kernel
theorem dX8_init_133 : decode cX8_init 133 = .ok (.bipush 40, 2) := by decide +kernel
theorem dX8_init_135 : decode cX8_init 135 = .ok (.newarray .int, 2) := by decide +kernel
theorem dX8_init_137 : decode cX8_init 137 = .ok (.putfield 79, 3) := by decide +kernel
theorem dX8_init_140 : decode cX8_init 140 = .ok (.return_, 1) := by decide +kernel
theorem dX8_feed_0 : decode cX8_feed 0 = .ok (.aload_n 0, 1) := by decide +kernel
theorem dX8_feed_1 : decode cX8_feed 1 = .ok (.getfield 13, 3) := by decide +kernel
theorem dX8_feed_4 : decode cX8_feed 4 = .ok (.bipush 20, 2) := by decide +kernel
theorem dX8_feed_6 : decode cX8_feed 6 = .ok (.iadd, 1) := by decide +kernel
theorem dX8_feed_7 : decode cX8_feed 7 = .ok (.sipush 700, 3) := by decide +kernel
theorem dX8_feed_10 : decode cX8_feed 10 = .ok (.if_icmp .le 5, 3) := by decide +kernel
theorem dX8_feed_13 : decode cX8_feed 13 = .ok (.iconst (-1), 1) := by decide +kernel
theorem dX8_feed_14 : decode cX8_feed 14 = .ok (.ireturn, 1) := by decide +kernel
theorem dX8_feed_15 : decode cX8_feed 15 = .ok (.aload_n 0, 1) := by decide +kernel
theorem dX8_feed_16 : decode cX8_feed 16 = .ok (.iload_n 1, 1) := by decide +kernel
theorem dX8_feed_17 : decode cX8_feed 17 = .ok (.invokevirtual 82, 3) := by decide +kernel
theorem dX8_feed_20 : decode cX8_feed 20 = .ok (.aload_n 0, 1) := by decide +kernel
theorem dX8_feed_21 : decode cX8_feed 21 = .ok (.iload_n 2, 1) := by decide +kernel
theorem dX8_feed_22 : decode cX8_feed 22 = .ok (.invokevirtual 82, 3) := by decide +kernel
theorem dX8_feed_25 : decode cX8_feed 25 = .ok (.aload_n 0, 1) := by decide +kernel
theorem dX8_feed_26 : decode cX8_feed 26 = .ok (.iload_n 3, 1) := by decide +kernel
theorem dX8_feed_27 : decode cX8_feed 27 = .ok (.invokevirtual 82, 3) := by decide +kernel
theorem dX8_feed_30 : decode cX8_feed 30 = .ok (.aload_n 0, 1) := by decide +kernel
theorem dX8_feed_31 : decode cX8_feed 31 = .ok (.iload 4, 2) := by decide +kernel
theorem dX8_feed_33 : decode cX8_feed 33 = .ok (.invokevirtual 82, 3) := by decide +kernel
theorem dX8_feed_36 : decode cX8_feed 36 = .ok (.aload_n 0, 1) := by decide +kernel
theorem dX8_feed_37 : decode cX8_feed 37 = .ok (.iload 5, 2) := by decide +kernel
theorem dX8_feed_39 : decode cX8_feed 39 = .ok (.invokevirtual 82, 3) := by decide +kernel
theorem dX8_feed_42 : decode cX8_feed 42 = .ok (.aload_n 0, 1) := by decide +kernel
theorem dX8_feed_43 : decode cX8_feed 43 = .ok (.getfield 13, 3) := by decide +kernel
theorem dX8_feed_46 : decode cX8_feed 46 = .ok (.ireturn, 1) := by decide +kernel
theorem dX8_putOnTape_0 : decode cX8_putOnTape 0 = .ok (.bipush 24, 2) := by decide +kernel
theorem dX8_putOnTape_2 : decode cX8_putOnTape 2 = .ok (.istore_n 2, 1) := by decide +kernel
theorem dX8_putOnTape_3 : decode cX8_putOnTape 3 = .ok (.iload_n 2, 1) := by decide +kernel
theorem dX8_putOnTape_4 : decode cX8_putOnTape 4 = .ok (.ifCond .lt 44, 3) := by decide +kernel
theorem dX8_putOnTape_7 : decode cX8_putOnTape 7 = .ok (.aload_n 0, 1) := by decide +kernel
theorem dX8_putOnTape_8 : decode cX8_putOnTape 8 = .ok (.getfield 13, 3) := by decide +kernel
theorem dX8_putOnTape_11 : decode cX8_putOnTape 11 = .ok (.aload_n 0, 1) := by decide +kernel
theorem dX8_putOnTape_12 : decode cX8_putOnTape 12 = .ok (.getfield 9, 3) := by decide +kernel
theorem dX8_putOnTape_15 : decode cX8_putOnTape 15 = .ok (.arraylength, 1) := by decide +kernel
theorem dX8_putOnTape_16 : decode cX8_putOnTape 16 = .ok (.if_icmp .ge 26, 3) := by decide +kernel
theorem dX8_putOnTape_19 : decode cX8_putOnTape 19 = .ok (.aload_n 0, 1) := by decide +kernel
theorem dX8_putOnTape_20 : decode cX8_putOnTape 20 = .ok (.getfield 9, 3) := by decide +kernel
theorem dX8_putOnTape_23 : decode cX8_putOnTape 23 = .ok (.aload_n 0, 1) := by decide +kernel
theorem dX8_putOnTape_24 : decode cX8_putOnTape 24 = .ok (.getfield 13, 3) := by decide +kernel
theorem dX8_putOnTape_27 : decode cX8_putOnTape 27 = .ok (.iload_n 1, 1) := by decide +kernel
theorem dX8_putOnTape_28 : decode cX8_putOnTape 28 = .ok (.iload_n 2, 1) := by decide +kernel
theorem dX8_putOnTape_29 : decode cX8_putOnTape 29 = .ok (.ishr, 1) := by decide +kernel
theorem dX8_putOnTape_30 : decode cX8_putOnTape 30 = .ok (.i2b, 1) := by decide +kernel
theorem dX8_putOnTape_31 : decode cX8_putOnTape 31 = .ok (.bastore, 1) := by decide +kernel
theorem dX8_putOnTape_32 : decode cX8_putOnTape 32 = .ok (.aload_n 0, 1) := by decide +kernel
theorem dX8_putOnTape_33 : decode cX8_putOnTape 33 = .ok (.dup, 1) := by decide +kernel
theorem dX8_putOnTape_34 : decode cX8_putOnTape 34 = .ok (.getfield 13, 3) := by decide +kernel
theorem dX8_putOnTape_37 : decode cX8_putOnTape 37 = .ok (.iconst 1, 1) := by decide +kernel
theorem dX8_putOnTape_38 : decode cX8_putOnTape 38 = .ok (.iadd, 1) := by decide +kernel
theorem dX8_putOnTape_39 : decode cX8_putOnTape 39 = .ok (.putfield 13, 3) := by decide +kernel
theorem dX8_putOnTape_42 : decode cX8_putOnTape 42 = .ok (.iinc 2 (-8), 3) := by decide +kernel
theorem dX8_putOnTape_45 : decode cX8_putOnTape 45 = .ok (.goto (-42), 3) := by decide +kernel
theorem dX8_putOnTape_48 : decode cX8_putOnTape 48 = .ok (.return_, 1) := by decide +kernel
theorem dX8_sky_0 : decode cX8_sky 0 = .ok (.iload_n 1, 1) := by decide +kernel
theorem dX8_sky_1 : decode cX8_sky 1 = .ok (.ifCond .lt 11, 3) := by decide +kernel
theorem dX8_sky_4 : decode cX8_sky 4 = .ok (.iload_n 1, 1) := by decide +kernel
theorem dX8_sky_5 : decode cX8_sky 5 = .ok (.aload_n 0, 1) := by decide +kernel
theorem dX8_sky_6 : decode cX8_sky 6 = .ok (.getfield 13, 3) := by decide +kernel
theorem dX8_sky_9 : decode cX8_sky 9 = .ok (.if_icmp .le 13, 3) := by decide +kernel
theorem dX8_sky_12 : decode cX8_sky 12 = .ok (.new 86, 3) := by decide +kernel
theorem dX8_sky_15 : decode cX8_sky 15 = .ok (.dup, 1) := by decide +kernel
theorem dX8_sky_16 : decode cX8_sky 16 = .ok (.ldc 88, 2) := by decide +kernel
theorem dX8_sky_18 : decode cX8_sky 18 = .ok (.invokespecial 90, 3) := by decide +kernel
theorem dX8_sky_21 : decode cX8_sky 21 = .ok (.athrow, 1) := by decide +kernel
theorem dX8_sky_22 : decode cX8_sky 22 = .ok (.aload_n 0, 1) := by decide +kernel
theorem dX8_sky_23 : decode cX8_sky 23 = .ok (.iconst 0, 1) := by decide +kernel
theorem dX8_sky_24 : decode cX8_sky 24 = .ok (.putfield 13, 3) := by decide +kernel
theorem dX8_sky_27 : decode cX8_sky 27 = .ok (.aload_n 0, 1) := by decide +kernel
theorem dX8_sky_28 : decode cX8_sky 28 = .ok (.getfield 20, 3) := by decide +kernel
theorem dX8_sky_31 : decode cX8_sky 31 = .ok (.aload_n 0, 1) := by decide +kernel
theorem dX8_sky_32 : decode cX8_sky 32 = .ok (.getfield 9, 3) := by decide +kernel
theorem dX8_sky_35 : decode cX8_sky 35 = .ok (.iload_n 1, 1) := by decide +kernel
theorem dX8_sky_36 : decode cX8_sky 36 = .ok (.aload_n 0, 1) := by decide +kernel
theorem dX8_sky_37 : decode cX8_sky 37 = .ok (.getfield 34, 3) := by decide +kernel
theorem dX8_sky_40 : decode cX8_sky 40 = .ok (.invokevirtual 93, 3) := by decide +kernel
theorem dX8_sky_43 : decode cX8_sky 43 = .ok (.istore_n 2, 1) := by decide +kernel
theorem dX8_sky_44 : decode cX8_sky 44 = .ok (.iload_n 2, 1) := by decide +kernel
theorem dX8_sky_45 : decode cX8_sky 45 = .ok (.ifCond .eq 29, 3) := by decide +kernel
theorem dX8_sky_48 : decode cX8_sky 48 = .ok (.aload_n 0, 1) := by decide +kernel
theorem dX8_sky_49 : decode cX8_sky 49 = .ok (.aload_n 0, 1) := by decide +kernel
theorem dX8_sky_50 : decode cX8_sky 50 = .ok (.getfield 20, 3) := by decide +kernel
theorem dX8_sky_53 : decode cX8_sky 53 = .ok (.getfield 97, 3) := by decide +kernel
theorem dX8_sky_56 : decode cX8_sky 56 = .ok (.putfield 24, 3) := by decide +kernel
theorem dX8_sky_59 : decode cX8_sky 59 = .ok (.aload_n 0, 1) := by decide +kernel
theorem dX8_sky_60 : decode cX8_sky 60 = .ok (.getfield 40, 3) := by decide +kernel
theorem dX8_sky_63 : decode cX8_sky 63 = .ok (.getfield 100, 3) := by decide +kernel
theorem dX8_sky_66 : decode cX8_sky 66 = .ok (.iconst 0, 1) := by decide +kernel
theorem dX8_sky_67 : decode cX8_sky 67 = .ok (.dup2, 1) := by decide +kernel
theorem dX8_sky_68 : decode cX8_sky 68 = .ok (.iaload, 1) := by decide +kernel
theorem dX8_sky_69 : decode cX8_sky 69 = .ok (.iconst 1, 1) := by decide +kernel
theorem dX8_sky_70 : decode cX8_sky 70 = .ok (.iadd, 1) := by decide +kernel
theorem dX8_sky_71 : decode cX8_sky 71 = .ok (.iastore, 1) := by decide +kernel
theorem dX8_sky_72 : decode cX8_sky 72 = .ok (.iload_n 2, 1) := by decide +kernel
theorem dX8_sky_73 : decode cX8_sky 73 = .ok (.ireturn, 1) := by decide +kernel
theorem dX8_sky_74 : decode cX8_sky 74 = .ok (.aload_n 0, 1) := by decide +kernel
theorem dX8_sky_75 : decode cX8_sky 75 = .ok (.iconst (-1), 1) := by decide +kernel
theorem dX8_sky_76 : decode cX8_sky 76 = .ok (.putfield 24, 3) := by decide +kernel
theorem dX8_sky_79 : decode cX8_sky 79 = .ok (.aload_n 0, 1) := by decide +kernel
theorem dX8_sky_80 : decode cX8_sky 80 = .ok (.getfield 30, 3) := by decide +kernel
theorem dX8_sky_83 : decode cX8_sky 83 = .ok (.astore_n 3, 1) := by decide +kernel
theorem dX8_sky_84 : decode cX8_sky 84 = .ok (.aload_n 0, 1) := by decide +kernel
theorem dX8_sky_85 : decode cX8_sky 85 = .ok (.aload_n 0, 1) := by decide +kernel
theorem dX8_sky_86 : decode cX8_sky 86 = .ok (.getfield 34, 3) := by decide +kernel
theorem dX8_sky_89 : decode cX8_sky 89 = .ok (.putfield 30, 3) := by decide +kernel
theorem dX8_sky_92 : decode cX8_sky 92 = .ok (.aload_n 0, 1) := by decide +kernel
theorem dX8_sky_93 : decode cX8_sky 93 = .ok (.aload_n 3, 1) := by decide +kernel
theorem dX8_sky_94 : decode cX8_sky 94 = .ok (.putfield 34, 3) := by decide +kernel
theorem dX8_sky_97 : decode cX8_sky 97 = .ok (.aload_n 0, 1) := by decide +kernel
theorem dX8_sky_98 : decode cX8_sky 98 = .ok (.getfield 40, 3) := by decide +kernel
theorem dX8_sky_101 : decode cX8_sky 101 = .ok (.aload_n 0, 1) := by decide +kernel
theorem dX8_sky_102 : decode cX8_sky 102 = .ok (.getfield 30, 3) := by decide +kernel
theorem dX8_sky_105 : decode cX8_sky 105 = .ok (.getfield 103, 3) := by decide +kernel
theorem dX8_sky_108 : decode cX8_sky 108 = .ok (.invokevirtual 106, 3) := by decide +kernel
theorem dX8_sky_111 : decode cX8_sky 111 = .ok (.aload_n 0, 1) := by decide +kernel
theorem dX8_sky_112 : decode cX8_sky 112 = .ok (.iconst 0, 1) := by decide +kernel
theorem dX8_sky_113 : decode cX8_sky 113 = .ok (.putfield 47, 3) := by decide +kernel
theorem dX8_sky_116 : decode cX8_sky 116 = .ok (.aload_n 0, 1) := by decide +kernel
theorem dX8_sky_117 : decode cX8_sky 117 = .ok (.getfield 68, 3) := by decide +kernel
theorem dX8_sky_120 : decode cX8_sky 120 = .ok (.invokevirtual 110, 3) := by decide +kernel
theorem dX8_sky_123 : decode cX8_sky 123 = .ok (.iconst 0, 1) := by decide +kernel
theorem dX8_sky_124 : decode cX8_sky 124 = .ok (.ireturn, 1) := by decide +kernel
theorem dX8_fault_0 : decode cX8_fault 0 = .ok (.aload_n 0, 1) := by decide +kernel
theorem dX8_fault_1 : decode cX8_fault 1 = .ok (.getfield 24, 3) := by decide +kernel
theorem dX8_fault_4 : decode cX8_fault 4 = .ok (.ireturn, 1) := by decide +kernel
theorem dX8_count_0 : decode cX8_count 0 = .ok (.iload_n 1, 1) := by decide +kernel
theorem dX8_count_1 : decode cX8_count 1 = .ok (.bipush 20, 2) := by decide +kernel
theorem dX8_count_3 : decode cX8_count 3 = .ok (.if_icmp .lt 22, 3) := by decide +kernel
theorem dX8_count_6 : decode cX8_count 6 = .ok (.iload_n 1, 1) := by decide +kernel
theorem dX8_count_7 : decode cX8_count 7 = .ok (.bipush 24, 2) := by decide +kernel
theorem dX8_count_9 : decode cX8_count 9 = .ok (.if_icmp .ge 16, 3) := by decide +kernel
theorem dX8_count_12 : decode cX8_count 12 = .ok (.aload_n 0, 1) := by decide +kernel
theorem dX8_count_13 : decode cX8_count 13 = .ok (.getfield 30, 3) := by decide +kernel
theorem dX8_count_16 : decode cX8_count 16 = .ok (.getfield 113, 3) := by decide +kernel
theorem dX8_count_19 : decode cX8_count 19 = .ok (.iload_n 1, 1) := by decide +kernel
theorem dX8_count_20 : decode cX8_count 20 = .ok (.bipush 20, 2) := by decide +kernel
theorem dX8_count_22 : decode cX8_count 22 = .ok (.isub, 1) := by decide +kernel
theorem dX8_count_23 : decode cX8_count 23 = .ok (.iaload, 1) := by decide +kernel
theorem dX8_count_24 : decode cX8_count 24 = .ok (.ireturn, 1) := by decide +kernel
theorem dX8_count_25 : decode cX8_count 25 = .ok (.iload_n 1, 1) := by decide +kernel
theorem dX8_count_26 : decode cX8_count 26 = .ok (.tableswitch 164 0 11 #[62, 73, 81, 89, 97, 105, 113, 121, 129, 134, 144, 154], 62) := by decide +kernel
theorem dX8_count_88 : decode cX8_count 88 = .ok (.aload_n 0, 1) := by decide +kernel
theorem dX8_count_89 : decode cX8_count 89 = .ok (.getfield 40, 3) := by decide +kernel
theorem dX8_count_92 : decode cX8_count 92 = .ok (.getfield 116, 3) := by decide +kernel
theorem dX8_count_95 : decode cX8_count 95 = .ok (.getfield 117, 3) := by decide +kernel
theorem dX8_count_98 : decode cX8_count 98 = .ok (.ireturn, 1) := by decide +kernel
theorem dX8_count_99 : decode cX8_count 99 = .ok (.aload_n 0, 1) := by decide +kernel
theorem dX8_count_100 : decode cX8_count 100 = .ok (.getfield 30, 3) := by decide +kernel
theorem dX8_count_103 : decode cX8_count 103 = .ok (.getfield 120, 3) := by decide +kernel
theorem dX8_count_106 : decode cX8_count 106 = .ok (.ireturn, 1) := by decide +kernel
theorem dX8_count_107 : decode cX8_count 107 = .ok (.aload_n 0, 1) := by decide +kernel
theorem dX8_count_108 : decode cX8_count 108 = .ok (.getfield 30, 3) := by decide +kernel
theorem dX8_count_111 : decode cX8_count 111 = .ok (.getfield 123, 3) := by decide +kernel
theorem dX8_count_114 : decode cX8_count 114 = .ok (.ireturn, 1) := by decide +kernel
theorem dX8_count_115 : decode cX8_count 115 = .ok (.aload_n 0, 1) := by decide +kernel
theorem dX8_count_116 : decode cX8_count 116 = .ok (.getfield 30, 3) := by decide +kernel
theorem dX8_count_119 : decode cX8_count 119 = .ok (.getfield 126, 3) := by decide +kernel
theorem dX8_count_122 : decode cX8_count 122 = .ok (.ireturn, 1) := by decide +kernel
theorem dX8_count_123 : decode cX8_count 123 = .ok (.aload_n 0, 1) := by decide +kernel
theorem dX8_count_124 : decode cX8_count 124 = .ok (.getfield 30, 3) := by decide +kernel
theorem dX8_count_127 : decode cX8_count 127 = .ok (.getfield 129, 3) := by decide +kernel
theorem dX8_count_130 : decode cX8_count 130 = .ok (.ireturn, 1) := by decide +kernel
theorem dX8_count_131 : decode cX8_count 131 = .ok (.aload_n 0, 1) := by decide +kernel
theorem dX8_count_132 : decode cX8_count 132 = .ok (.getfield 40, 3) := by decide +kernel
theorem dX8_count_135 : decode cX8_count 135 = .ok (.getfield 132, 3) := by decide +kernel
theorem dX8_count_138 : decode cX8_count 138 = .ok (.ireturn, 1) := by decide +kernel
theorem dX8_count_139 : decode cX8_count 139 = .ok (.aload_n 0, 1) := by decide +kernel
theorem dX8_count_140 : decode cX8_count 140 = .ok (.getfield 40, 3) := by decide +kernel
theorem dX8_count_143 : decode cX8_count 143 = .ok (.getfield 135, 3) := by decide +kernel
theorem dX8_count_146 : decode cX8_count 146 = .ok (.ireturn, 1) := by decide +kernel
theorem dX8_count_147 : decode cX8_count 147 = .ok (.aload_n 0, 1) := by decide +kernel
theorem dX8_count_148 : decode cX8_count 148 = .ok (.getfield 40, 3) := by decide +kernel
theorem dX8_count_151 : decode cX8_count 151 = .ok (.getfield 138, 3) := by decide +kernel
theorem dX8_count_154 : decode cX8_count 154 = .ok (.ireturn, 1) := by decide +kernel
theorem dX8_count_155 : decode cX8_count 155 = .ok (.aload_n 0, 1) := by decide +kernel
theorem dX8_count_156 : decode cX8_count 156 = .ok (.getfield 13, 3) := by decide +kernel
theorem dX8_count_159 : decode cX8_count 159 = .ok (.ireturn, 1) := by decide +kernel
theorem dX8_count_160 : decode cX8_count 160 = .ok (.aload_n 0, 1) := by decide +kernel
theorem dX8_count_161 : decode cX8_count 161 = .ok (.getfield 40, 3) := by decide +kernel
theorem dX8_count_164 : decode cX8_count 164 = .ok (.getfield 100, 3) := by decide +kernel
theorem dX8_count_167 : decode cX8_count 167 = .ok (.iconst 0, 1) := by decide +kernel
theorem dX8_count_168 : decode cX8_count 168 = .ok (.iaload, 1) := by decide +kernel
theorem dX8_count_169 : decode cX8_count 169 = .ok (.ireturn, 1) := by decide +kernel
theorem dX8_count_170 : decode cX8_count 170 = .ok (.aload_n 0, 1) := by decide +kernel
theorem dX8_count_171 : decode cX8_count 171 = .ok (.getfield 40, 3) := by decide +kernel
theorem dX8_count_174 : decode cX8_count 174 = .ok (.getfield 100, 3) := by decide +kernel
theorem dX8_count_177 : decode cX8_count 177 = .ok (.iconst 1, 1) := by decide +kernel
theorem dX8_count_178 : decode cX8_count 178 = .ok (.iaload, 1) := by decide +kernel
theorem dX8_count_179 : decode cX8_count 179 = .ok (.ireturn, 1) := by decide +kernel
theorem dX8_count_180 : decode cX8_count 180 = .ok (.aload_n 0, 1) := by decide +kernel
theorem dX8_count_181 : decode cX8_count 181 = .ok (.getfield 40, 3) := by decide +kernel
theorem dX8_count_184 : decode cX8_count 184 = .ok (.getfield 100, 3) := by decide +kernel
theorem dX8_count_187 : decode cX8_count 187 = .ok (.iconst 2, 1) := by decide +kernel
theorem dX8_count_188 : decode cX8_count 188 = .ok (.iaload, 1) := by decide +kernel
theorem dX8_count_189 : decode cX8_count 189 = .ok (.ireturn, 1) := by decide +kernel
theorem dX8_count_190 : decode cX8_count 190 = .ok (.new 141, 3) := by decide +kernel
theorem dX8_count_193 : decode cX8_count 193 = .ok (.dup, 1) := by decide +kernel
theorem dX8_count_194 : decode cX8_count 194 = .ok (.ldc 143, 2) := by decide +kernel
theorem dX8_count_196 : decode cX8_count 196 = .ok (.invokespecial 145, 3) := by decide +kernel
theorem dX8_count_199 : decode cX8_count 199 = .ok (.athrow, 1) := by decide +kernel
theorem dX8_isle_0 : decode cX8_isle 0 = .ok (.aload_n 0, 1) := by decide +kernel
theorem dX8_isle_1 : decode cX8_isle 1 = .ok (.iload_n 1, 1) := by decide +kernel
theorem dX8_isle_2 : decode cX8_isle 2 = .ok (.invokevirtual 146, 3) := by decide +kernel
theorem dX8_isle_5 : decode cX8_isle 5 = .ok (.aload_n 0, 1) := by decide +kernel
theorem dX8_isle_6 : decode cX8_isle 6 = .ok (.getfield 40, 3) := by decide +kernel
theorem dX8_isle_9 : decode cX8_isle 9 = .ok (.getfield 116, 3) := by decide +kernel
theorem dX8_isle_12 : decode cX8_isle 12 = .ok (.astore_n 3, 1) := by decide +kernel
theorem dX8_isle_13 : decode cX8_isle 13 = .ok (.iload_n 2, 1) := by decide +kernel
theorem dX8_isle_14 : decode cX8_isle 14 = .ok (.bipush 12, 2) := by decide +kernel
theorem dX8_isle_16 : decode cX8_isle 16 = .ok (.if_icmp .lt 23, 3) := by decide +kernel
theorem dX8_isle_19 : decode cX8_isle 19 = .ok (.iload_n 2, 1) := by decide +kernel
theorem dX8_isle_20 : decode cX8_isle 20 = .ok (.bipush 16, 2) := by decide +kernel
theorem dX8_isle_22 : decode cX8_isle 22 = .ok (.if_icmp .ge 17, 3) := by decide +kernel
theorem dX8_isle_25 : decode cX8_isle 25 = .ok (.aload_n 3, 1) := by decide +kernel
theorem dX8_isle_26 : decode cX8_isle 26 = .ok (.getfield 149, 3) := by decide +kernel
theorem dX8_isle_29 : decode cX8_isle 29 = .ok (.iload_n 1, 1) := by decide +kernel
theorem dX8_isle_30 : decode cX8_isle 30 = .ok (.iconst 4, 1) := by decide +kernel
theorem dX8_isle_31 : decode cX8_isle 31 = .ok (.imul, 1) := by decide +kernel
theorem dX8_isle_32 : decode cX8_isle 32 = .ok (.iload_n 2, 1) := by decide +kernel
theorem dX8_isle_33 : decode cX8_isle 33 = .ok (.iadd, 1) := by decide +kernel
theorem dX8_isle_34 : decode cX8_isle 34 = .ok (.bipush 12, 2) := by decide +kernel
theorem dX8_isle_36 : decode cX8_isle 36 = .ok (.isub, 1) := by decide +kernel
theorem dX8_isle_37 : decode cX8_isle 37 = .ok (.iaload, 1) := by decide +kernel
theorem dX8_isle_38 : decode cX8_isle 38 = .ok (.ireturn, 1) := by decide +kernel
theorem dX8_isle_39 : decode cX8_isle 39 = .ok (.iload_n 2, 1) := by decide +kernel
theorem dX8_isle_40 : decode cX8_isle 40 = .ok (.tableswitch 154 0 11 #[64, 71, 78, 85, 92, 99, 106, 113, 120, 127, 134, 140], 64) := by decide +kernel
theorem dX8_isle_104 : decode cX8_isle 104 = .ok (.aload_n 3, 1) := by decide +kernel
theorem dX8_isle_105 : decode cX8_isle 105 = .ok (.getfield 152, 3) := by decide +kernel
theorem dX8_isle_108 : decode cX8_isle 108 = .ok (.iload_n 1, 1) := by decide +kernel
theorem dX8_isle_109 : decode cX8_isle 109 = .ok (.iaload, 1) := by decide +kernel
theorem dX8_isle_110 : decode cX8_isle 110 = .ok (.ireturn, 1) := by decide +kernel
theorem dX8_isle_111 : decode cX8_isle 111 = .ok (.aload_n 3, 1) := by decide +kernel
theorem dX8_isle_112 : decode cX8_isle 112 = .ok (.getfield 155, 3) := by decide +kernel
theorem dX8_isle_115 : decode cX8_isle 115 = .ok (.iload_n 1, 1) := by decide +kernel
theorem dX8_isle_116 : decode cX8_isle 116 = .ok (.iaload, 1) := by decide +kernel
theorem dX8_isle_117 : decode cX8_isle 117 = .ok (.ireturn, 1) := by decide +kernel
theorem dX8_isle_118 : decode cX8_isle 118 = .ok (.aload_n 3, 1) := by decide +kernel
theorem dX8_isle_119 : decode cX8_isle 119 = .ok (.getfield 158, 3) := by decide +kernel
theorem dX8_isle_122 : decode cX8_isle 122 = .ok (.iload_n 1, 1) := by decide +kernel
theorem dX8_isle_123 : decode cX8_isle 123 = .ok (.iaload, 1) := by decide +kernel
theorem dX8_isle_124 : decode cX8_isle 124 = .ok (.ireturn, 1) := by decide +kernel
theorem dX8_isle_125 : decode cX8_isle 125 = .ok (.aload_n 3, 1) := by decide +kernel
theorem dX8_isle_126 : decode cX8_isle 126 = .ok (.getfield 161, 3) := by decide +kernel
