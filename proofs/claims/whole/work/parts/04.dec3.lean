theorem dX9_gust_26 : decode cX9_gust 26 = .ok (.ireturn, 1) := by decide +kernel
theorem dX9_gust_27 : decode cX9_gust 27 = .ok (.aload_n 0, 1) := by decide +kernel
theorem dX9_gust_28 : decode cX9_gust 28 = .ok (.iload_n 1, 1) := by decide +kernel
theorem dX9_gust_29 : decode cX9_gust 29 = .ok (.invokevirtual 463, 3) := by decide +kernel
theorem dX9_gust_32 : decode cX9_gust 32 = .ok (.istore_n 3, 1) := by decide +kernel
theorem dX9_gust_33 : decode cX9_gust 33 = .ok (.aload_n 0, 1) := by decide +kernel
theorem dX9_gust_34 : decode cX9_gust 34 = .ok (.invokevirtual 466, 3) := by decide +kernel
theorem dX9_gust_37 : decode cX9_gust 37 = .ok (.i2l, 1) := by decide +kernel
theorem dX9_gust_38 : decode cX9_gust 38 = .ok (.iload_n 3, 1) := by decide +kernel
theorem dX9_gust_39 : decode cX9_gust 39 = .ok (.i2l, 1) := by decide +kernel
theorem dX9_gust_40 : decode cX9_gust 40 = .ok (.invokestatic 469, 3) := by decide +kernel
theorem dX9_gust_43 : decode cX9_gust 43 = .ok (.l2i, 1) := by decide +kernel
theorem dX9_gust_44 : decode cX9_gust 44 = .ok (.istore 4, 2) := by decide +kernel
theorem dX9_gust_46 : decode cX9_gust 46 = .ok (.iload_n 2, 1) := by decide +kernel
theorem dX9_gust_47 : decode cX9_gust 47 = .ok (.ifCond .ne 10, 3) := by decide +kernel
theorem dX9_gust_50 : decode cX9_gust 50 = .ok (.iload_n 3, 1) := by decide +kernel
theorem dX9_gust_51 : decode cX9_gust 51 = .ok (.iload 4, 2) := by decide +kernel
theorem dX9_gust_53 : decode cX9_gust 53 = .ok (.idiv, 1) := by decide +kernel
theorem dX9_gust_54 : decode cX9_gust 54 = .ok (.goto 10, 3) := by decide +kernel
theorem dX9_gust_57 : decode cX9_gust 57 = .ok (.aload_n 0, 1) := by decide +kernel
theorem dX9_gust_58 : decode cX9_gust 58 = .ok (.invokevirtual 466, 3) := by decide +kernel
theorem dX9_gust_61 : decode cX9_gust 61 = .ok (.iload 4, 2) := by decide +kernel
theorem dX9_gust_63 : decode cX9_gust 63 = .ok (.idiv, 1) := by decide +kernel
theorem dX9_gust_64 : decode cX9_gust 64 = .ok (.ireturn, 1) := by decide +kernel
theorem dX9_calm_0 : decode cX9_calm 0 = .ok (.aload_n 0, 1) := by decide +kernel
theorem dX9_calm_1 : decode cX9_calm 1 = .ok (.iconst 0, 1) := by decide +kernel
theorem dX9_calm_2 : decode cX9_calm 2 = .ok (.putfield 155, 3) := by decide +kernel
theorem dX9_calm_5 : decode cX9_calm 5 = .ok (.iload_n 3, 1) := by decide +kernel
theorem dX9_calm_6 : decode cX9_calm 6 = .ok (.ifCond .lt 8, 3) := by decide +kernel
theorem dX9_calm_9 : decode cX9_calm 9 = .ok (.iload_n 3, 1) := by decide +kernel
theorem dX9_calm_10 : decode cX9_calm 10 = .ok (.iconst 1, 1) := by decide +kernel
theorem dX9_calm_11 : decode cX9_calm 11 = .ok (.if_icmp .le 10, 3) := by decide +kernel
theorem dX9_calm_14 : decode cX9_calm 14 = .ok (.aload_n 0, 1) := by decide +kernel
theorem dX9_calm_15 : decode cX9_calm 15 = .ok (.iconst 1, 1) := by decide +kernel
theorem dX9_calm_16 : decode cX9_calm 16 = .ok (.invokevirtual 297, 3) := by decide +kernel
theorem dX9_calm_19 : decode cX9_calm 19 = .ok (.i2l, 1) := by decide +kernel
theorem dX9_calm_20 : decode cX9_calm 20 = .ok (.lreturn, 1) := by decide +kernel
theorem dX9_calm_21 : decode cX9_calm 21 = .ok (.iload_n 1, 1) := by decide +kernel
theorem dX9_calm_22 : decode cX9_calm 22 = .ok (.iload_n 2, 1) := by decide +kernel
theorem dX9_calm_23 : decode cX9_calm 23 = .ok (.invokestatic 418, 3) := by decide +kernel
theorem dX9_calm_26 : decode cX9_calm 26 = .ok (.ifCond .eq 11, 3) := by decide +kernel
theorem dX9_calm_29 : decode cX9_calm 29 = .ok (.iload_n 2, 1) := by decide +kernel
theorem dX9_calm_30 : decode cX9_calm 30 = .ok (.iload_n 1, 1) := by decide +kernel
theorem dX9_calm_31 : decode cX9_calm 31 = .ok (.isub, 1) := by decide +kernel
theorem dX9_calm_32 : decode cX9_calm 32 = .ok (.bipush 8, 2) := by decide +kernel
theorem dX9_calm_34 : decode cX9_calm 34 = .ok (.if_icmp .lt 10, 3) := by decide +kernel
theorem dX9_calm_37 : decode cX9_calm 37 = .ok (.aload_n 0, 1) := by decide +kernel
theorem dX9_calm_38 : decode cX9_calm 38 = .ok (.iconst 2, 1) := by decide +kernel
theorem dX9_calm_39 : decode cX9_calm 39 = .ok (.invokevirtual 297, 3) := by decide +kernel
theorem dX9_calm_42 : decode cX9_calm 42 = .ok (.i2l, 1) := by decide +kernel
theorem dX9_calm_43 : decode cX9_calm 43 = .ok (.lreturn, 1) := by decide +kernel
theorem dX9_calm_44 : decode cX9_calm 44 = .ok (.lconst 1, 1) := by decide +kernel
theorem dX9_calm_45 : decode cX9_calm 45 = .ok (.lstore 4, 2) := by decide +kernel
theorem dX9_calm_47 : decode cX9_calm 47 = .ok (.lconst 1, 1) := by decide +kernel
theorem dX9_calm_48 : decode cX9_calm 48 = .ok (.lstore 6, 2) := by decide +kernel
theorem dX9_calm_50 : decode cX9_calm 50 = .ok (.iload_n 1, 1) := by decide +kernel
theorem dX9_calm_51 : decode cX9_calm 51 = .ok (.istore 8, 2) := by decide +kernel
theorem dX9_calm_53 : decode cX9_calm 53 = .ok (.iload 8, 2) := by decide +kernel
theorem dX9_calm_55 : decode cX9_calm 55 = .ok (.iload_n 2, 1) := by decide +kernel
theorem dX9_calm_56 : decode cX9_calm 56 = .ok (.if_icmp .gt 36, 3) := by decide +kernel
theorem dX9_calm_59 : decode cX9_calm 59 = .ok (.lload 4, 2) := by decide +kernel
theorem dX9_calm_61 : decode cX9_calm 61 = .ok (.aload_n 0, 1) := by decide +kernel
theorem dX9_calm_62 : decode cX9_calm 62 = .ok (.invokevirtual 466, 3) := by decide +kernel
theorem dX9_calm_65 : decode cX9_calm 65 = .ok (.aload_n 0, 1) := by decide +kernel
theorem dX9_calm_66 : decode cX9_calm 66 = .ok (.iload 8, 2) := by decide +kernel
theorem dX9_calm_68 : decode cX9_calm 68 = .ok (.invokevirtual 463, 3) := by decide +kernel
theorem dX9_calm_71 : decode cX9_calm 71 = .ok (.isub, 1) := by decide +kernel
theorem dX9_calm_72 : decode cX9_calm 72 = .ok (.i2l, 1) := by decide +kernel
theorem dX9_calm_73 : decode cX9_calm 73 = .ok (.lmul, 1) := by decide +kernel
theorem dX9_calm_74 : decode cX9_calm 74 = .ok (.lstore 4, 2) := by decide +kernel
theorem dX9_calm_76 : decode cX9_calm 76 = .ok (.lload 6, 2) := by decide +kernel
theorem dX9_calm_78 : decode cX9_calm 78 = .ok (.aload_n 0, 1) := by decide +kernel
theorem dX9_calm_79 : decode cX9_calm 79 = .ok (.invokevirtual 466, 3) := by decide +kernel
theorem dX9_calm_82 : decode cX9_calm 82 = .ok (.i2l, 1) := by decide +kernel
theorem dX9_calm_83 : decode cX9_calm 83 = .ok (.lmul, 1) := by decide +kernel
theorem dX9_calm_84 : decode cX9_calm 84 = .ok (.lstore 6, 2) := by decide +kernel
theorem dX9_calm_86 : decode cX9_calm 86 = .ok (.iinc 8 1, 3) := by decide +kernel
theorem dX9_calm_89 : decode cX9_calm 89 = .ok (.goto (-36), 3) := by decide +kernel
theorem dX9_calm_92 : decode cX9_calm 92 = .ok (.lload 6, 2) := by decide +kernel
theorem dX9_calm_94 : decode cX9_calm 94 = .ok (.lload 4, 2) := by decide +kernel
theorem dX9_calm_96 : decode cX9_calm 96 = .ok (.invokestatic 469, 3) := by decide +kernel
theorem dX9_calm_99 : decode cX9_calm 99 = .ok (.lstore 8, 2) := by decide +kernel
theorem dX9_calm_101 : decode cX9_calm 101 = .ok (.iload_n 3, 1) := by decide +kernel
theorem dX9_calm_102 : decode cX9_calm 102 = .ok (.ifCond .ne 11, 3) := by decide +kernel
theorem dX9_calm_105 : decode cX9_calm 105 = .ok (.lload 4, 2) := by decide +kernel
theorem dX9_calm_107 : decode cX9_calm 107 = .ok (.lload 8, 2) := by decide +kernel
theorem dX9_calm_109 : decode cX9_calm 109 = .ok (.ldiv, 1) := by decide +kernel
theorem dX9_calm_110 : decode cX9_calm 110 = .ok (.goto 8, 3) := by decide +kernel
theorem dX9_calm_113 : decode cX9_calm 113 = .ok (.lload 6, 2) := by decide +kernel
theorem dX9_calm_115 : decode cX9_calm 115 = .ok (.lload 8, 2) := by decide +kernel
theorem dX9_calm_117 : decode cX9_calm 117 = .ok (.ldiv, 1) := by decide +kernel
theorem dX9_calm_118 : decode cX9_calm 118 = .ok (.lreturn, 1) := by decide +kernel
theorem dX9_lower_0 : decode cX9_lower 0 = .ok (.iconst 0, 1) := by decide +kernel
theorem dX9_lower_1 : decode cX9_lower 1 = .ok (.istore_n 2, 1) := by decide +kernel
theorem dX9_lower_2 : decode cX9_lower 2 = .ok (.iconst 0, 1) := by decide +kernel
theorem dX9_lower_3 : decode cX9_lower 3 = .ok (.istore_n 3, 1) := by decide +kernel
theorem dX9_lower_4 : decode cX9_lower 4 = .ok (.iload_n 3, 1) := by decide +kernel
theorem dX9_lower_5 : decode cX9_lower 5 = .ok (.aload_n 0, 1) := by decide +kernel
theorem dX9_lower_6 : decode cX9_lower 6 = .ok (.getfield 51, 3) := by decide +kernel
theorem dX9_lower_9 : decode cX9_lower 9 = .ok (.iconst 0, 1) := by decide +kernel
theorem dX9_lower_10 : decode cX9_lower 10 = .ok (.iaload, 1) := by decide +kernel
theorem dX9_lower_11 : decode cX9_lower 11 = .ok (.if_icmp .ge 32, 3) := by decide +kernel
theorem dX9_lower_14 : decode cX9_lower 14 = .ok (.iload_n 2, 1) := by decide +kernel
theorem dX9_lower_15 : decode cX9_lower 15 = .ok (.aload_n 0, 1) := by decide +kernel
theorem dX9_lower_16 : decode cX9_lower 16 = .ok (.getfield 92, 3) := by decide +kernel
theorem dX9_lower_19 : decode cX9_lower 19 = .ok (.iload_n 3, 1) := by decide +kernel
theorem dX9_lower_20 : decode cX9_lower 20 = .ok (.iaload, 1) := by decide +kernel
theorem dX9_lower_21 : decode cX9_lower 21 = .ok (.aload_n 0, 1) := by decide +kernel
theorem dX9_lower_22 : decode cX9_lower 22 = .ok (.getfield 92, 3) := by decide +kernel
theorem dX9_lower_25 : decode cX9_lower 25 = .ok (.iload_n 1, 1) := by decide +kernel
theorem dX9_lower_26 : decode cX9_lower 26 = .ok (.iaload, 1) := by decide +kernel
theorem dX9_lower_27 : decode cX9_lower 27 = .ok (.if_icmp .ge 7, 3) := by decide +kernel
theorem dX9_lower_30 : decode cX9_lower 30 = .ok (.iconst 1, 1) := by decide +kernel
theorem dX9_lower_31 : decode cX9_lower 31 = .ok (.goto 4, 3) := by decide +kernel
theorem dX9_lower_34 : decode cX9_lower 34 = .ok (.iconst 0, 1) := by decide +kernel
theorem dX9_lower_35 : decode cX9_lower 35 = .ok (.iadd, 1) := by decide +kernel
theorem dX9_lower_36 : decode cX9_lower 36 = .ok (.istore_n 2, 1) := by decide +kernel
theorem dX9_lower_37 : decode cX9_lower 37 = .ok (.iinc 3 1, 3) := by decide +kernel
theorem dX9_lower_40 : decode cX9_lower 40 = .ok (.goto (-36), 3) := by decide +kernel
theorem dX9_lower_43 : decode cX9_lower 43 = .ok (.iload_n 2, 1) := by decide +kernel
theorem dX9_lower_44 : decode cX9_lower 44 = .ok (.ireturn, 1) := by decide +kernel
theorem dX9_view_0 : decode cX9_view 0 = .ok (.aload_n 0, 1) := by decide +kernel
theorem dX9_view_1 : decode cX9_view 1 = .ok (.iconst 0, 1) := by decide +kernel
theorem dX9_view_2 : decode cX9_view 2 = .ok (.putfield 155, 3) := by decide +kernel
theorem dX9_view_5 : decode cX9_view 5 = .ok (.aload_n 0, 1) := by decide +kernel
theorem dX9_view_6 : decode cX9_view 6 = .ok (.iload_n 1, 1) := by decide +kernel
theorem dX9_view_7 : decode cX9_view 7 = .ok (.invokevirtual 384, 3) := by decide +kernel
theorem dX9_view_10 : decode cX9_view 10 = .ok (.ifCond .eq 22, 3) := by decide +kernel
theorem dX9_view_13 : decode cX9_view 13 = .ok (.iload_n 2, 1) := by decide +kernel
theorem dX9_view_14 : decode cX9_view 14 = .ok (.invokestatic 389, 3) := by decide +kernel
theorem dX9_view_17 : decode cX9_view 17 = .ok (.ifCond .eq 15, 3) := by decide +kernel
theorem dX9_view_20 : decode cX9_view 20 = .ok (.iload_n 3, 1) := by decide +kernel
theorem dX9_view_21 : decode cX9_view 21 = .ok (.i2l, 1) := by decide +kernel
theorem dX9_view_22 : decode cX9_view 22 = .ok (.lconst 0, 1) := by decide +kernel
theorem dX9_view_23 : decode cX9_view 23 = .ok (.ldc2_w 473, 3) := by decide +kernel
theorem dX9_view_26 : decode cX9_view 26 = .ok (.invokestatic 158, 3) := by decide +kernel
theorem dX9_view_29 : decode cX9_view 29 = .ok (.ifCond .ne 9, 3) := by decide +kernel
theorem dX9_view_32 : decode cX9_view 32 = .ok (.aload_n 0, 1) := by decide +kernel
theorem dX9_view_33 : decode cX9_view 33 = .ok (.iconst 1, 1) := by decide +kernel
theorem dX9_view_34 : decode cX9_view 34 = .ok (.invokevirtual 297, 3) := by decide +kernel
theorem dX9_view_37 : decode cX9_view 37 = .ok (.ireturn, 1) := by decide +kernel
theorem dX9_view_38 : decode cX9_view 38 = .ok (.aload_n 0, 1) := by decide +kernel
theorem dX9_view_39 : decode cX9_view 39 = .ok (.iload_n 1, 1) := by decide +kernel
theorem dX9_view_40 : decode cX9_view 40 = .ok (.iconst 3, 1) := by decide +kernel
theorem dX9_view_41 : decode cX9_view 41 = .ok (.invokevirtual 330, 3) := by decide +kernel
theorem dX9_view_44 : decode cX9_view 44 = .ok (.istore 4, 2) := by decide +kernel
theorem dX9_view_46 : decode cX9_view 46 = .ok (.iconst 0, 1) := by decide +kernel
theorem dX9_view_47 : decode cX9_view 47 = .ok (.istore 5, 2) := by decide +kernel
theorem dX9_view_49 : decode cX9_view 49 = .ok (.iconst (-1), 1) := by decide +kernel
theorem dX9_view_50 : decode cX9_view 50 = .ok (.istore 6, 2) := by decide +kernel
theorem dX9_view_52 : decode cX9_view 52 = .ok (.iconst 0, 1) := by decide +kernel
theorem dX9_view_53 : decode cX9_view 53 = .ok (.istore 7, 2) := by decide +kernel
theorem dX9_view_55 : decode cX9_view 55 = .ok (.iload 4, 2) := by decide +kernel
theorem dX9_view_57 : decode cX9_view 57 = .ok (.iload 7, 2) := by decide +kernel
theorem dX9_view_59 : decode cX9_view 59 = .ok (.iadd, 1) := by decide +kernel
theorem dX9_view_60 : decode cX9_view 60 = .ok (.bipush 60, 2) := by decide +kernel
theorem dX9_view_62 : decode cX9_view 62 = .ok (.if_icmp .gt 59, 3) := by decide +kernel
theorem dX9_view_65 : decode cX9_view 65 = .ok (.iload_n 3, 1) := by decide +kernel
theorem dX9_view_66 : decode cX9_view 66 = .ok (.ifCond .gt 8, 3) := by decide +kernel
theorem dX9_view_69 : decode cX9_view 69 = .ok (.iload 7, 2) := by decide +kernel
theorem dX9_view_71 : decode cX9_view 71 = .ok (.ifCond .ne 50, 3) := by decide +kernel
theorem dX9_view_74 : decode cX9_view 74 = .ok (.aload_n 0, 1) := by decide +kernel
theorem dX9_view_75 : decode cX9_view 75 = .ok (.iload_n 1, 1) := by decide +kernel
theorem dX9_view_76 : decode cX9_view 76 = .ok (.iconst 3, 1) := by decide +kernel
theorem dX9_view_77 : decode cX9_view 77 = .ok (.iload 4, 2) := by decide +kernel
theorem dX9_view_79 : decode cX9_view 79 = .ok (.iload 7, 2) := by decide +kernel
theorem dX9_view_81 : decode cX9_view 81 = .ok (.iadd, 1) := by decide +kernel
theorem dX9_view_82 : decode cX9_view 82 = .ok (.invokevirtual 415, 3) := by decide +kernel
theorem dX9_view_85 : decode cX9_view 85 = .ok (.aload_n 0, 1) := by decide +kernel
theorem dX9_view_86 : decode cX9_view 86 = .ok (.iload_n 2, 1) := by decide +kernel
theorem dX9_view_87 : decode cX9_view 87 = .ok (.iconst 0, 1) := by decide +kernel
theorem dX9_view_88 : decode cX9_view 88 = .ok (.invokevirtual 392, 3) := by decide +kernel
theorem dX9_view_91 : decode cX9_view 91 = .ok (.aload_n 0, 1) := by decide +kernel
theorem dX9_view_92 : decode cX9_view 92 = .ok (.iload_n 1, 1) := by decide +kernel
theorem dX9_view_93 : decode cX9_view 93 = .ok (.invokevirtual 475, 3) := by decide +kernel
theorem dX9_view_96 : decode cX9_view 96 = .ok (.iload 6, 2) := by decide +kernel
theorem dX9_view_98 : decode cX9_view 98 = .ok (.if_icmp .gt 6, 3) := by decide +kernel
theorem dX9_view_101 : decode cX9_view 101 = .ok (.goto 14, 3) := by decide +kernel
theorem dX9_view_104 : decode cX9_view 104 = .ok (.iload 7, 2) := by decide +kernel
theorem dX9_view_106 : decode cX9_view 106 = .ok (.istore 5, 2) := by decide +kernel
theorem dX9_view_108 : decode cX9_view 108 = .ok (.aload_n 0, 1) := by decide +kernel
theorem dX9_view_109 : decode cX9_view 109 = .ok (.iload_n 1, 1) := by decide +kernel
theorem dX9_view_110 : decode cX9_view 110 = .ok (.invokevirtual 475, 3) := by decide +kernel
theorem dX9_view_113 : decode cX9_view 113 = .ok (.istore 6, 2) := by decide +kernel
theorem dX9_view_115 : decode cX9_view 115 = .ok (.iinc 7 1, 3) := by decide +kernel
theorem dX9_view_118 : decode cX9_view 118 = .ok (.goto (-63), 3) := by decide +kernel
theorem dX9_view_121 : decode cX9_view 121 = .ok (.aload_n 0, 1) := by decide +kernel
theorem dX9_view_122 : decode cX9_view 122 = .ok (.iload_n 1, 1) := by decide +kernel
theorem dX9_view_123 : decode cX9_view 123 = .ok (.iconst 3, 1) := by decide +kernel
theorem dX9_view_124 : decode cX9_view 124 = .ok (.iload 4, 2) := by decide +kernel
theorem dX9_view_126 : decode cX9_view 126 = .ok (.invokevirtual 415, 3) := by decide +kernel
theorem dX9_view_129 : decode cX9_view 129 = .ok (.iload_n 3, 1) := by decide +kernel
theorem dX9_view_130 : decode cX9_view 130 = .ok (.iconst 1, 1) := by decide +kernel
theorem dX9_view_131 : decode cX9_view 131 = .ok (.if_icmp .ne 8, 3) := by decide +kernel
theorem dX9_view_134 : decode cX9_view 134 = .ok (.iload 5, 2) := by decide +kernel
theorem dX9_view_136 : decode cX9_view 136 = .ok (.goto 5, 3) := by decide +kernel
theorem dX9_view_139 : decode cX9_view 139 = .ok (.iload 6, 2) := by decide +kernel
theorem dX9_view_141 : decode cX9_view 141 = .ok (.ireturn, 1) := by decide +kernel
theorem dX9_tellDebts_0 : decode cX9_tellDebts 0 = .ok (.iconst 0, 1) := by decide +kernel
theorem dX9_tellDebts_1 : decode cX9_tellDebts 1 = .ok (.istore_n 3, 1) := by decide +kernel
theorem dX9_tellDebts_2 : decode cX9_tellDebts 2 = .ok (.iload_n 3, 1) := by decide +kernel
theorem dX9_tellDebts_3 : decode cX9_tellDebts 3 = .ok (.aload_n 0, 1) := by decide +kernel
theorem dX9_tellDebts_4 : decode cX9_tellDebts 4 = .ok (.getfield 131, 3) := by decide +kernel
theorem dX9_tellDebts_7 : decode cX9_tellDebts 7 = .ok (.arraylength, 1) := by decide +kernel
theorem dX9_tellDebts_8 : decode cX9_tellDebts 8 = .ok (.if_icmp .ge 16, 3) := by decide +kernel
theorem dX9_tellDebts_11 : decode cX9_tellDebts 11 = .ok (.aload_n 0, 1) := by decide +kernel
theorem dX9_tellDebts_12 : decode cX9_tellDebts 12 = .ok (.getfield 131, 3) := by decide +kernel
theorem dX9_tellDebts_15 : decode cX9_tellDebts 15 = .ok (.iload_n 3, 1) := by decide +kernel
theorem dX9_tellDebts_16 : decode cX9_tellDebts 16 = .ok (.iconst 0, 1) := by decide +kernel
theorem dX9_tellDebts_17 : decode cX9_tellDebts 17 = .ok (.iastore, 1) := by decide +kernel
theorem dX9_tellDebts_18 : decode cX9_tellDebts 18 = .ok (.iinc 3 1, 3) := by decide +kernel
theorem dX9_tellDebts_21 : decode cX9_tellDebts 21 = .ok (.goto (-19), 3) := by decide +kernel
theorem dX9_tellDebts_24 : decode cX9_tellDebts 24 = .ok (.iload_n 1, 1) := by decide +kernel
theorem dX9_tellDebts_25 : decode cX9_tellDebts 25 = .ok (.istore_n 3, 1) := by decide +kernel
theorem dX9_tellDebts_26 : decode cX9_tellDebts 26 = .ok (.iload_n 3, 1) := by decide +kernel
theorem dX9_tellDebts_27 : decode cX9_tellDebts 27 = .ok (.iload_n 2, 1) := by decide +kernel
theorem dX9_tellDebts_28 : decode cX9_tellDebts 28 = .ok (.if_icmp .gt 66, 3) := by decide +kernel
theorem dX9_tellDebts_31 : decode cX9_tellDebts 31 = .ok (.aload_n 0, 1) := by decide +kernel
theorem dX9_tellDebts_32 : decode cX9_tellDebts 32 = .ok (.iload_n 3, 1) := by decide +kernel
theorem dX9_tellDebts_33 : decode cX9_tellDebts 33 = .ok (.iconst 0, 1) := by decide +kernel
theorem dX9_tellDebts_34 : decode cX9_tellDebts 34 = .ok (.invokevirtual 392, 3) := by decide +kernel
theorem dX9_tellDebts_37 : decode cX9_tellDebts 37 = .ok (.iconst 0, 1) := by decide +kernel
theorem dX9_tellDebts_38 : decode cX9_tellDebts 38 = .ok (.istore 4, 2) := by decide +kernel
theorem dX9_tellDebts_40 : decode cX9_tellDebts 40 = .ok (.iload 4, 2) := by decide +kernel
theorem dX9_tellDebts_42 : decode cX9_tellDebts 42 = .ok (.aload_n 0, 1) := by decide +kernel
theorem dX9_tellDebts_43 : decode cX9_tellDebts 43 = .ok (.getfield 51, 3) := by decide +kernel
theorem dX9_tellDebts_46 : decode cX9_tellDebts 46 = .ok (.iconst 0, 1) := by decide +kernel
theorem dX9_tellDebts_47 : decode cX9_tellDebts 47 = .ok (.iaload, 1) := by decide +kernel
theorem dX9_tellDebts_48 : decode cX9_tellDebts 48 = .ok (.if_icmp .ge 40, 3) := by decide +kernel
theorem dX9_tellDebts_51 : decode cX9_tellDebts 51 = .ok (.aload_n 0, 1) := by decide +kernel
theorem dX9_tellDebts_52 : decode cX9_tellDebts 52 = .ok (.iload 4, 2) := by decide +kernel
theorem dX9_tellDebts_54 : decode cX9_tellDebts 54 = .ok (.invokevirtual 404, 3) := by decide +kernel
theorem dX9_tellDebts_57 : decode cX9_tellDebts 57 = .ok (.iconst (-1), 1) := by decide +kernel
theorem dX9_tellDebts_58 : decode cX9_tellDebts 58 = .ok (.if_icmp .eq 24, 3) := by decide +kernel
theorem dX9_tellDebts_61 : decode cX9_tellDebts 61 = .ok (.aload_n 0, 1) := by decide +kernel
theorem dX9_tellDebts_62 : decode cX9_tellDebts 62 = .ok (.getfield 131, 3) := by decide +kernel
theorem dX9_tellDebts_65 : decode cX9_tellDebts 65 = .ok (.bipush 6, 2) := by decide +kernel
theorem dX9_tellDebts_67 : decode cX9_tellDebts 67 = .ok (.iload 4, 2) := by decide +kernel
theorem dX9_tellDebts_69 : decode cX9_tellDebts 69 = .ok (.imul, 1) := by decide +kernel
theorem dX9_tellDebts_70 : decode cX9_tellDebts 70 = .ok (.aload_n 0, 1) := by decide +kernel
theorem dX9_tellDebts_71 : decode cX9_tellDebts 71 = .ok (.iload 4, 2) := by decide +kernel
theorem dX9_tellDebts_73 : decode cX9_tellDebts 73 = .ok (.invokevirtual 404, 3) := by decide +kernel
theorem dX9_tellDebts_76 : decode cX9_tellDebts 76 = .ok (.iadd, 1) := by decide +kernel
theorem dX9_tellDebts_77 : decode cX9_tellDebts 77 = .ok (.dup2, 1) := by decide +kernel
theorem dX9_tellDebts_78 : decode cX9_tellDebts 78 = .ok (.iaload, 1) := by decide +kernel
theorem dX9_tellDebts_79 : decode cX9_tellDebts 79 = .ok (.iconst 1, 1) := by decide +kernel
theorem dX9_tellDebts_80 : decode cX9_tellDebts 80 = .ok (.iadd, 1) := by decide +kernel
theorem dX9_tellDebts_81 : decode cX9_tellDebts 81 = .ok (.iastore, 1) := by decide +kernel
theorem dX9_tellDebts_82 : decode cX9_tellDebts 82 = .ok (.iinc 4 1, 3) := by decide +kernel
theorem dX9_tellDebts_85 : decode cX9_tellDebts 85 = .ok (.goto (-45), 3) := by decide +kernel
theorem dX9_tellDebts_88 : decode cX9_tellDebts 88 = .ok (.iinc 3 1, 3) := by decide +kernel
theorem dX9_tellDebts_91 : decode cX9_tellDebts 91 = .ok (.goto (-65), 3) := by decide +kernel
theorem dX9_tellDebts_94 : decode cX9_tellDebts 94 = .ok (.return_, 1) := by decide +kernel
theorem dX9_still_0 : decode cX9_still 0 = .ok (.iconst 0, 1) := by decide +kernel
theorem dX9_still_1 : decode cX9_still 1 = .ok (.aload_n 0, 1) := by decide +kernel
theorem dX9_still_2 : decode cX9_still 2 = .ok (.getfield 131, 3) := by decide +kernel
theorem dX9_still_5 : decode cX9_still 5 = .ok (.bipush 6, 2) := by decide +kernel
theorem dX9_still_7 : decode cX9_still 7 = .ok (.iload_n 1, 1) := by decide +kernel
theorem dX9_still_8 : decode cX9_still 8 = .ok (.imul, 1) := by decide +kernel
theorem dX9_still_9 : decode cX9_still 9 = .ok (.iload_n 2, 1) := by decide +kernel
theorem dX9_still_10 : decode cX9_still 10 = .ok (.iadd, 1) := by decide +kernel
theorem dX9_still_11 : decode cX9_still 11 = .ok (.iaload, 1) := by decide +kernel
theorem dX9_still_12 : decode cX9_still 12 = .ok (.aload_n 0, 1) := by decide +kernel
theorem dX9_still_13 : decode cX9_still 13 = .ok (.getfield 131, 3) := by decide +kernel
theorem dX9_still_16 : decode cX9_still 16 = .ok (.bipush 6, 2) := by decide +kernel
theorem dX9_still_18 : decode cX9_still 18 = .ok (.iload_n 2, 1) := by decide +kernel
theorem dX9_still_19 : decode cX9_still 19 = .ok (.imul, 1) := by decide +kernel
theorem dX9_still_20 : decode cX9_still 20 = .ok (.iload_n 1, 1) := by decide +kernel
theorem dX9_still_21 : decode cX9_still 21 = .ok (.iadd, 1) := by decide +kernel
theorem dX9_still_22 : decode cX9_still 22 = .ok (.iaload, 1) := by decide +kernel
theorem dX9_still_23 : decode cX9_still 23 = .ok (.isub, 1) := by decide +kernel
theorem dX9_still_24 : decode cX9_still 24 = .ok (.invokestatic 333, 3) := by decide +kernel
theorem dX9_still_27 : decode cX9_still 27 = .ok (.ireturn, 1) := by decide +kernel
theorem dX9_debt_0 : decode cX9_debt 0 = .ok (.aload_n 0, 1) := by decide +kernel
theorem dX9_debt_1 : decode cX9_debt 1 = .ok (.iconst 0, 1) := by decide +kernel
theorem dX9_debt_2 : decode cX9_debt 2 = .ok (.putfield 155, 3) := by decide +kernel
theorem dX9_debt_5 : decode cX9_debt 5 = .ok (.aload_n 0, 1) := by decide +kernel
theorem dX9_debt_6 : decode cX9_debt 6 = .ok (.iload_n 1, 1) := by decide +kernel
theorem dX9_debt_7 : decode cX9_debt 7 = .ok (.invokevirtual 384, 3) := by decide +kernel
theorem dX9_debt_10 : decode cX9_debt 10 = .ok (.ifCond .eq 11, 3) := by decide +kernel
theorem dX9_debt_13 : decode cX9_debt 13 = .ok (.aload_n 0, 1) := by decide +kernel
theorem dX9_debt_14 : decode cX9_debt 14 = .ok (.iload_n 2, 1) := by decide +kernel
theorem dX9_debt_15 : decode cX9_debt 15 = .ok (.invokevirtual 384, 3) := by decide +kernel
theorem dX9_debt_18 : decode cX9_debt 18 = .ok (.ifCond .ne 9, 3) := by decide +kernel
theorem dX9_debt_21 : decode cX9_debt 21 = .ok (.aload_n 0, 1) := by decide +kernel
theorem dX9_debt_22 : decode cX9_debt 22 = .ok (.iconst 1, 1) := by decide +kernel
theorem dX9_debt_23 : decode cX9_debt 23 = .ok (.invokevirtual 297, 3) := by decide +kernel
theorem dX9_debt_26 : decode cX9_debt 26 = .ok (.ireturn, 1) := by decide +kernel
theorem dX9_debt_27 : decode cX9_debt 27 = .ok (.iload_n 3, 1) := by decide +kernel
theorem dX9_debt_28 : decode cX9_debt 28 = .ok (.iload 4, 2) := by decide +kernel
theorem dX9_debt_30 : decode cX9_debt 30 = .ok (.invokestatic 418, 3) := by decide +kernel
theorem dX9_debt_33 : decode cX9_debt 33 = .ok (.ifCond .eq 8, 3) := by decide +kernel
theorem dX9_debt_36 : decode cX9_debt 36 = .ok (.iload_n 1, 1) := by decide +kernel
theorem dX9_debt_37 : decode cX9_debt 37 = .ok (.iload_n 2, 1) := by decide +kernel
theorem dX9_debt_38 : decode cX9_debt 38 = .ok (.if_icmp .ne 9, 3) := by decide +kernel
theorem dX9_debt_41 : decode cX9_debt 41 = .ok (.aload_n 0, 1) := by decide +kernel
theorem dX9_debt_42 : decode cX9_debt 42 = .ok (.iconst 2, 1) := by decide +kernel
theorem dX9_debt_43 : decode cX9_debt 43 = .ok (.invokevirtual 297, 3) := by decide +kernel
theorem dX9_debt_46 : decode cX9_debt 46 = .ok (.ireturn, 1) := by decide +kernel
theorem dX9_debt_47 : decode cX9_debt 47 = .ok (.aload_n 0, 1) := by decide +kernel
theorem dX9_debt_48 : decode cX9_debt 48 = .ok (.iload_n 3, 1) := by decide +kernel
theorem dX9_debt_49 : decode cX9_debt 49 = .ok (.iload 4, 2) := by decide +kernel
theorem dX9_debt_51 : decode cX9_debt 51 = .ok (.invokevirtual 478, 3) := by decide +kernel
theorem dX9_debt_54 : decode cX9_debt 54 = .ok (.aload_n 0, 1) := by decide +kernel
theorem dX9_debt_55 : decode cX9_debt 55 = .ok (.iload_n 1, 1) := by decide +kernel
theorem dX9_debt_56 : decode cX9_debt 56 = .ok (.iload_n 2, 1) := by decide +kernel
theorem dX9_debt_57 : decode cX9_debt 57 = .ok (.invokevirtual 481, 3) := by decide +kernel
theorem dX9_debt_60 : decode cX9_debt 60 = .ok (.ireturn, 1) := by decide +kernel
theorem dX9_rich_0 : decode cX9_rich 0 = .ok (.aload_n 0, 1) := by decide +kernel
theorem dX9_rich_1 : decode cX9_rich 1 = .ok (.iconst 0, 1) := by decide +kernel
theorem dX9_rich_2 : decode cX9_rich 2 = .ok (.putfield 155, 3) := by decide +kernel
theorem dX9_rich_5 : decode cX9_rich 5 = .ok (.iload_n 1, 1) := by decide +kernel
theorem dX9_rich_6 : decode cX9_rich 6 = .ok (.iload_n 2, 1) := by decide +kernel
theorem dX9_rich_7 : decode cX9_rich 7 = .ok (.invokestatic 418, 3) := by decide +kernel
theorem dX9_rich_10 : decode cX9_rich 10 = .ok (.ifCond .ne 9, 3) := by decide +kernel
theorem dX9_rich_13 : decode cX9_rich 13 = .ok (.aload_n 0, 1) := by decide +kernel
theorem dX9_rich_14 : decode cX9_rich 14 = .ok (.iconst 1, 1) := by decide +kernel
theorem dX9_rich_15 : decode cX9_rich 15 = .ok (.invokevirtual 297, 3) := by decide +kernel
theorem dX9_rich_18 : decode cX9_rich 18 = .ok (.ireturn, 1) := by decide +kernel
theorem dX9_rich_19 : decode cX9_rich 19 = .ok (.aload_n 0, 1) := by decide +kernel
theorem dX9_rich_20 : decode cX9_rich 20 = .ok (.iload_n 1, 1) := by decide +kernel
theorem dX9_rich_21 : decode cX9_rich 21 = .ok (.iload_n 2, 1) := by decide +kernel
theorem dX9_rich_22 : decode cX9_rich 22 = .ok (.invokevirtual 478, 3) := by decide +kernel
theorem dX9_rich_25 : decode cX9_rich 25 = .ok (.iconst (-1), 1) := by decide +kernel
theorem dX9_rich_26 : decode cX9_rich 26 = .ok (.istore_n 3, 1) := by decide +kernel
theorem dX9_rich_27 : decode cX9_rich 27 = .ok (.iconst 0, 1) := by decide +kernel
theorem dX9_rich_28 : decode cX9_rich 28 = .ok (.istore 4, 2) := by decide +kernel
theorem dX9_rich_30 : decode cX9_rich 30 = .ok (.iconst 0, 1) := by decide +kernel
theorem dX9_rich_31 : decode cX9_rich 31 = .ok (.istore 5, 2) := by decide +kernel
theorem dX9_rich_33 : decode cX9_rich 33 = .ok (.iload 5, 2) := by decide +kernel
theorem dX9_rich_35 : decode cX9_rich 35 = .ok (.aload_n 0, 1) := by decide +kernel
theorem dX9_rich_36 : decode cX9_rich 36 = .ok (.getfield 51, 3) := by decide +kernel
theorem dX9_rich_39 : decode cX9_rich 39 = .ok (.iconst 0, 1) := by decide +kernel
theorem dX9_rich_40 : decode cX9_rich 40 = .ok (.iaload, 1) := by decide +kernel
theorem dX9_rich_41 : decode cX9_rich 41 = .ok (.if_icmp .ge 62, 3) := by decide +kernel
theorem dX9_rich_44 : decode cX9_rich 44 = .ok (.iconst 0, 1) := by decide +kernel
theorem dX9_rich_45 : decode cX9_rich 45 = .ok (.istore 6, 2) := by decide +kernel
theorem dX9_rich_47 : decode cX9_rich 47 = .ok (.iconst 0, 1) := by decide +kernel
theorem dX9_rich_48 : decode cX9_rich 48 = .ok (.istore 7, 2) := by decide +kernel
theorem dX9_rich_50 : decode cX9_rich 50 = .ok (.iload 7, 2) := by decide +kernel
theorem dX9_rich_52 : decode cX9_rich 52 = .ok (.aload_n 0, 1) := by decide +kernel
theorem dX9_rich_53 : decode cX9_rich 53 = .ok (.getfield 51, 3) := by decide +kernel
theorem dX9_rich_56 : decode cX9_rich 56 = .ok (.iconst 0, 1) := by decide +kernel
theorem dX9_rich_57 : decode cX9_rich 57 = .ok (.iaload, 1) := by decide +kernel
theorem dX9_rich_58 : decode cX9_rich 58 = .ok (.if_icmp .ge 22, 3) := by decide +kernel
theorem dX9_rich_61 : decode cX9_rich 61 = .ok (.iload 6, 2) := by decide +kernel
theorem dX9_rich_63 : decode cX9_rich 63 = .ok (.aload_n 0, 1) := by decide +kernel
theorem dX9_rich_64 : decode cX9_rich 64 = .ok (.iload 7, 2) := by decide +kernel
theorem dX9_rich_66 : decode cX9_rich 66 = .ok (.iload 5, 2) := by decide +kernel
theorem dX9_rich_68 : decode cX9_rich 68 = .ok (.invokevirtual 481, 3) := by decide +kernel
theorem dX9_rich_71 : decode cX9_rich 71 = .ok (.iadd, 1) := by decide +kernel
theorem dX9_rich_72 : decode cX9_rich 72 = .ok (.istore 6, 2) := by decide +kernel
theorem dX9_rich_74 : decode cX9_rich 74 = .ok (.iinc 7 1, 3) := by decide +kernel
theorem dX9_rich_77 : decode cX9_rich 77 = .ok (.goto (-27), 3) := by decide +kernel
theorem dX9_rich_80 : decode cX9_rich 80 = .ok (.iload 6, 2) := by decide +kernel
theorem dX9_rich_82 : decode cX9_rich 82 = .ok (.iload 4, 2) := by decide +kernel
theorem dX9_rich_84 : decode cX9_rich 84 = .ok (.if_icmp .gt 6, 3) := by decide +kernel
theorem dX9_rich_87 : decode cX9_rich 87 = .ok (.goto 10, 3) := by decide +kernel
theorem dX9_rich_90 : decode cX9_rich 90 = .ok (.iload 5, 2) := by decide +kernel
theorem dX9_rich_92 : decode cX9_rich 92 = .ok (.istore_n 3, 1) := by decide +kernel
theorem dX9_rich_93 : decode cX9_rich 93 = .ok (.iload 6, 2) := by decide +kernel
theorem dX9_rich_95 : decode cX9_rich 95 = .ok (.istore 4, 2) := by decide +kernel
theorem dX9_rich_97 : decode cX9_rich 97 = .ok (.iinc 5 1, 3) := by decide +kernel
theorem dX9_rich_100 : decode cX9_rich 100 = .ok (.goto (-67), 3) := by decide +kernel
theorem dX9_rich_103 : decode cX9_rich 103 = .ok (.iload_n 3, 1) := by decide +kernel
theorem dX9_rich_104 : decode cX9_rich 104 = .ok (.ireturn, 1) := by decide +kernel
theorem dX9_drawOf_0 : decode cX9_drawOf 0 = .ok (.aload_n 0, 1) := by decide +kernel
theorem dX9_drawOf_1 : decode cX9_drawOf 1 = .ok (.aload_n 0, 1) := by decide +kernel
theorem dX9_drawOf_2 : decode cX9_drawOf 2 = .ok (.getfield 484, 3) := by decide +kernel
theorem dX9_drawOf_5 : decode cX9_drawOf 5 = .ok (.ldc_w 487, 3) := by decide +kernel
theorem dX9_drawOf_8 : decode cX9_drawOf 8 = .ok (.imul, 1) := by decide +kernel
theorem dX9_drawOf_9 : decode cX9_drawOf 9 = .ok (.sipush 12345, 3) := by decide +kernel
theorem dX9_drawOf_12 : decode cX9_drawOf 12 = .ok (.iadd, 1) := by decide +kernel
theorem dX9_drawOf_13 : decode cX9_drawOf 13 = .ok (.putfield 484, 3) := by decide +kernel
theorem dX9_drawOf_16 : decode cX9_drawOf 16 = .ok (.aload_n 0, 1) := by decide +kernel
theorem dX9_drawOf_17 : decode cX9_drawOf 17 = .ok (.getfield 484, 3) := by decide +kernel
theorem dX9_drawOf_20 : decode cX9_drawOf 20 = .ok (.bipush 16, 2) := by decide +kernel
theorem dX9_drawOf_22 : decode cX9_drawOf 22 = .ok (.ishr, 1) := by decide +kernel
theorem dX9_drawOf_23 : decode cX9_drawOf 23 = .ok (.sipush 32767, 3) := by decide +kernel
theorem dX9_drawOf_26 : decode cX9_drawOf 26 = .ok (.iand, 1) := by decide +kernel
theorem dX9_drawOf_27 : decode cX9_drawOf 27 = .ok (.iload_n 1, 1) := by decide +kernel
theorem dX9_drawOf_28 : decode cX9_drawOf 28 = .ok (.irem, 1) := by decide +kernel
theorem dX9_drawOf_29 : decode cX9_drawOf 29 = .ok (.ireturn, 1) := by decide +kernel
theorem dX9_week_0 : decode cX9_week 0 = .ok (.aload_n 0, 1) := by decide +kernel
theorem dX9_week_1 : decode cX9_week 1 = .ok (.iconst 0, 1) := by decide +kernel
theorem dX9_week_2 : decode cX9_week 2 = .ok (.putfield 155, 3) := by decide +kernel
theorem dX9_week_5 : decode cX9_week 5 = .ok (.iload_n 2, 1) := by decide +kernel
theorem dX9_week_6 : decode cX9_week 6 = .ok (.i2l, 1) := by decide +kernel
theorem dX9_week_7 : decode cX9_week 7 = .ok (.ldc2_w 455, 3) := by decide +kernel
theorem dX9_week_10 : decode cX9_week 10 = .ok (.aload_n 0, 1) := by decide +kernel
theorem dX9_week_11 : decode cX9_week 11 = .ok (.getfield 51, 3) := by decide +kernel
theorem dX9_week_14 : decode cX9_week 14 = .ok (.iconst 0, 1) := by decide +kernel
theorem dX9_week_15 : decode cX9_week 15 = .ok (.iaload, 1) := by decide +kernel
theorem dX9_week_16 : decode cX9_week 16 = .ok (.iconst 1, 1) := by decide +kernel
theorem dX9_week_17 : decode cX9_week 17 = .ok (.isub, 1) := by decide +kernel
theorem dX9_week_18 : decode cX9_week 18 = .ok (.i2l, 1) := by decide +kernel
theorem dX9_week_19 : decode cX9_week 19 = .ok (.invokestatic 158, 3) := by decide +kernel
theorem dX9_week_22 : decode cX9_week 22 = .ok (.ifCond .ne 9, 3) := by decide +kernel
theorem dX9_week_25 : decode cX9_week 25 = .ok (.aload_n 0, 1) := by decide +kernel
theorem dX9_week_26 : decode cX9_week 26 = .ok (.iconst 1, 1) := by decide +kernel
theorem dX9_week_27 : decode cX9_week 27 = .ok (.invokevirtual 297, 3) := by decide +kernel
theorem dX9_week_30 : decode cX9_week 30 = .ok (.ireturn, 1) := by decide +kernel
theorem dX9_week_31 : decode cX9_week 31 = .ok (.iconst 0, 1) := by decide +kernel
theorem dX9_week_32 : decode cX9_week 32 = .ok (.istore_n 3, 1) := by decide +kernel
theorem dX9_week_33 : decode cX9_week 33 = .ok (.iload_n 3, 1) := by decide +kernel
theorem dX9_week_34 : decode cX9_week 34 = .ok (.aload_n 0, 1) := by decide +kernel
theorem dX9_week_35 : decode cX9_week 35 = .ok (.getfield 51, 3) := by decide +kernel
theorem dX9_week_38 : decode cX9_week 38 = .ok (.iconst 0, 1) := by decide +kernel
theorem dX9_week_39 : decode cX9_week 39 = .ok (.iaload, 1) := by decide +kernel
theorem dX9_week_40 : decode cX9_week 40 = .ok (.if_icmp .ge 21, 3) := by decide +kernel
theorem dX9_week_43 : decode cX9_week 43 = .ok (.aload_n 0, 1) := by decide +kernel
theorem dX9_week_44 : decode cX9_week 44 = .ok (.getfield 98, 3) := by decide +kernel
theorem dX9_week_47 : decode cX9_week 47 = .ok (.iload_n 3, 1) := by decide +kernel
theorem dX9_week_48 : decode cX9_week 48 = .ok (.aload_n 0, 1) := by decide +kernel
theorem dX9_week_49 : decode cX9_week 49 = .ok (.iload_n 3, 1) := by decide +kernel
theorem dX9_week_50 : decode cX9_week 50 = .ok (.iconst 3, 1) := by decide +kernel
theorem dX9_week_51 : decode cX9_week 51 = .ok (.invokevirtual 330, 3) := by decide +kernel
theorem dX9_week_54 : decode cX9_week 54 = .ok (.iastore, 1) := by decide +kernel
theorem dX9_week_55 : decode cX9_week 55 = .ok (.iinc 3 1, 3) := by decide +kernel
theorem dX9_week_58 : decode cX9_week 58 = .ok (.goto (-25), 3) := by decide +kernel
theorem dX9_week_61 : decode cX9_week 61 = .ok (.aload_n 0, 1) := by decide +kernel
theorem dX9_week_62 : decode cX9_week 62 = .ok (.iload_n 1, 1) := by decide +kernel
theorem dX9_week_63 : decode cX9_week 63 = .ok (.putfield 484, 3) := by decide +kernel
theorem dX9_week_66 : decode cX9_week 66 = .ok (.iconst 0, 1) := by decide +kernel
theorem dX9_week_67 : decode cX9_week 67 = .ok (.istore_n 3, 1) := by decide +kernel
theorem dX9_week_68 : decode cX9_week 68 = .ok (.iconst 0, 1) := by decide +kernel
theorem dX9_week_69 : decode cX9_week 69 = .ok (.istore 4, 2) := by decide +kernel
theorem dX9_week_71 : decode cX9_week 71 = .ok (.iload 4, 2) := by decide +kernel
theorem dX9_week_73 : decode cX9_week 73 = .ok (.sipush 168, 3) := by decide +kernel
theorem dX9_week_76 : decode cX9_week 76 = .ok (.if_icmp .ge 89, 3) := by decide +kernel
theorem dX9_week_79 : decode cX9_week 79 = .ok (.aload_n 0, 1) := by decide +kernel
theorem dX9_week_80 : decode cX9_week 80 = .ok (.getfield 51, 3) := by decide +kernel
theorem dX9_week_83 : decode cX9_week 83 = .ok (.iconst 0, 1) := by decide +kernel
theorem dX9_week_84 : decode cX9_week 84 = .ok (.iaload, 1) := by decide +kernel
theorem dX9_week_85 : decode cX9_week 85 = .ok (.ifCond .le 80, 3) := by decide +kernel
theorem dX9_week_88 : decode cX9_week 88 = .ok (.iload 4, 2) := by decide +kernel
theorem dX9_week_90 : decode cX9_week 90 = .ok (.bipush 24, 2) := by decide +kernel
theorem dX9_week_92 : decode cX9_week 92 = .ok (.irem, 1) := by decide +kernel
theorem dX9_week_93 : decode cX9_week 93 = .ok (.ifCond .ne 43, 3) := by decide +kernel
theorem dX9_week_96 : decode cX9_week 96 = .ok (.aload_n 0, 1) := by decide +kernel
theorem dX9_week_97 : decode cX9_week 97 = .ok (.aload_n 0, 1) := by decide +kernel
theorem dX9_week_98 : decode cX9_week 98 = .ok (.getfield 51, 3) := by decide +kernel
theorem dX9_week_101 : decode cX9_week 101 = .ok (.iconst 0, 1) := by decide +kernel
theorem dX9_week_102 : decode cX9_week 102 = .ok (.iaload, 1) := by decide +kernel
theorem dX9_week_103 : decode cX9_week 103 = .ok (.invokevirtual 488, 3) := by decide +kernel
theorem dX9_week_106 : decode cX9_week 106 = .ok (.istore 5, 2) := by decide +kernel
theorem dX9_week_108 : decode cX9_week 108 = .ok (.aload_n 0, 1) := by decide +kernel
theorem dX9_week_109 : decode cX9_week 109 = .ok (.iload 5, 2) := by decide +kernel
theorem dX9_week_111 : decode cX9_week 111 = .ok (.iconst 3, 1) := by decide +kernel
theorem dX9_week_112 : decode cX9_week 112 = .ok (.bipush 60, 2) := by decide +kernel
theorem dX9_week_114 : decode cX9_week 114 = .ok (.aload_n 0, 1) := by decide +kernel
theorem dX9_week_115 : decode cX9_week 115 = .ok (.iload 5, 2) := by decide +kernel
theorem dX9_week_117 : decode cX9_week 117 = .ok (.iconst 3, 1) := by decide +kernel
theorem dX9_week_118 : decode cX9_week 118 = .ok (.invokevirtual 330, 3) := by decide +kernel
theorem dX9_week_121 : decode cX9_week 121 = .ok (.iconst 1, 1) := by decide +kernel
theorem dX9_week_122 : decode cX9_week 122 = .ok (.iadd, 1) := by decide +kernel
theorem dX9_week_123 : decode cX9_week 123 = .ok (.aload_n 0, 1) := by decide +kernel
theorem dX9_week_124 : decode cX9_week 124 = .ok (.bipush 9, 2) := by decide +kernel
theorem dX9_week_126 : decode cX9_week 126 = .ok (.invokevirtual 488, 3) := by decide +kernel
theorem dX9_week_129 : decode cX9_week 129 = .ok (.iadd, 1) := by decide +kernel
theorem dX9_week_130 : decode cX9_week 130 = .ok (.invokestatic 193, 3) := by decide +kernel
theorem dX9_week_133 : decode cX9_week 133 = .ok (.invokevirtual 415, 3) := by decide +kernel
theorem dX9_week_136 : decode cX9_week 136 = .ok (.aload_n 0, 1) := by decide +kernel
theorem dX9_week_137 : decode cX9_week 137 = .ok (.iload 4, 2) := by decide +kernel
theorem dX9_week_139 : decode cX9_week 139 = .ok (.iconst 0, 1) := by decide +kernel
theorem dX9_week_140 : decode cX9_week 140 = .ok (.invokevirtual 392, 3) := by decide +kernel
theorem dX9_week_143 : decode cX9_week 143 = .ok (.iload_n 3, 1) := by decide +kernel
theorem dX9_week_144 : decode cX9_week 144 = .ok (.aload_n 0, 1) := by decide +kernel
theorem dX9_week_145 : decode cX9_week 145 = .ok (.invokevirtual 421, 3) := by decide +kernel
theorem dX9_week_148 : decode cX9_week 148 = .ok (.iconst (-1), 1) := by decide +kernel
theorem dX9_week_149 : decode cX9_week 149 = .ok (.if_icmp .ne 7, 3) := by decide +kernel
theorem dX9_week_152 : decode cX9_week 152 = .ok (.iconst 0, 1) := by decide +kernel
theorem dX9_week_153 : decode cX9_week 153 = .ok (.goto 4, 3) := by decide +kernel
theorem dX9_week_156 : decode cX9_week 156 = .ok (.iconst 1, 1) := by decide +kernel
theorem dX9_week_157 : decode cX9_week 157 = .ok (.iadd, 1) := by decide +kernel
theorem dX9_week_158 : decode cX9_week 158 = .ok (.istore_n 3, 1) := by decide +kernel
theorem dX9_week_159 : decode cX9_week 159 = .ok (.iinc 4 1, 3) := by decide +kernel
theorem dX9_week_162 : decode cX9_week 162 = .ok (.goto (-91), 3) := by decide +kernel
theorem dX9_week_165 : decode cX9_week 165 = .ok (.iload_n 2, 1) := by decide +kernel
theorem dX9_week_166 : decode cX9_week 166 = .ok (.iconst (-1), 1) := by decide +kernel
theorem dX9_week_167 : decode cX9_week 167 = .ok (.if_icmp .ne 7, 3) := by decide +kernel
theorem dX9_week_170 : decode cX9_week 170 = .ok (.iload_n 3, 1) := by decide +kernel
theorem dX9_week_171 : decode cX9_week 171 = .ok (.goto 9, 3) := by decide +kernel
theorem dX9_week_174 : decode cX9_week 174 = .ok (.aload_n 0, 1) := by decide +kernel
theorem dX9_week_175 : decode cX9_week 175 = .ok (.iload_n 2, 1) := by decide +kernel
theorem dX9_week_176 : decode cX9_week 176 = .ok (.iconst 3, 1) := by decide +kernel
theorem dX9_week_177 : decode cX9_week 177 = .ok (.invokevirtual 330, 3) := by decide +kernel
theorem dX9_week_180 : decode cX9_week 180 = .ok (.istore 4, 2) := by decide +kernel
theorem dX9_week_182 : decode cX9_week 182 = .ok (.iconst 0, 1) := by decide +kernel
theorem dX9_week_183 : decode cX9_week 183 = .ok (.istore 5, 2) := by decide +kernel
theorem dX9_week_185 : decode cX9_week 185 = .ok (.iload 5, 2) := by decide +kernel
theorem dX9_week_187 : decode cX9_week 187 = .ok (.aload_n 0, 1) := by decide +kernel
theorem dX9_week_188 : decode cX9_week 188 = .ok (.getfield 51, 3) := by decide +kernel
theorem dX9_week_191 : decode cX9_week 191 = .ok (.iconst 0, 1) := by decide +kernel
theorem dX9_week_192 : decode cX9_week 192 = .ok (.iaload, 1) := by decide +kernel
theorem dX9_week_193 : decode cX9_week 193 = .ok (.if_icmp .ge 23, 3) := by decide +kernel
theorem dX9_week_196 : decode cX9_week 196 = .ok (.aload_n 0, 1) := by decide +kernel
theorem dX9_week_197 : decode cX9_week 197 = .ok (.iload 5, 2) := by decide +kernel
theorem dX9_week_199 : decode cX9_week 199 = .ok (.iconst 3, 1) := by decide +kernel
theorem dX9_week_200 : decode cX9_week 200 = .ok (.aload_n 0, 1) := by decide +kernel
theorem dX9_week_201 : decode cX9_week 201 = .ok (.getfield 98, 3) := by decide +kernel
theorem dX9_week_204 : decode cX9_week 204 = .ok (.iload 5, 2) := by decide +kernel
theorem dX9_week_206 : decode cX9_week 206 = .ok (.iaload, 1) := by decide +kernel
theorem dX9_week_207 : decode cX9_week 207 = .ok (.invokevirtual 415, 3) := by decide +kernel
theorem dX9_week_210 : decode cX9_week 210 = .ok (.iinc 5 1, 3) := by decide +kernel
theorem dX9_week_213 : decode cX9_week 213 = .ok (.goto (-28), 3) := by decide +kernel
theorem dX9_week_216 : decode cX9_week 216 = .ok (.iload 4, 2) := by decide +kernel
theorem dX9_week_218 : decode cX9_week 218 = .ok (.ireturn, 1) := by decide +kernel
theorem dX9_be_0 : decode cX9_be 0 = .ok (.iconst 0, 1) := by decide +kernel
theorem dX9_be_1 : decode cX9_be 1 = .ok (.istore_n 2, 1) := by decide +kernel
theorem dX9_be_2 : decode cX9_be 2 = .ok (.iload_n 2, 1) := by decide +kernel
theorem dX9_be_3 : decode cX9_be 3 = .ok (.aload_n 0, 1) := by decide +kernel
theorem dX9_be_4 : decode cX9_be 4 = .ok (.arraylength, 1) := by decide +kernel
theorem dX9_be_5 : decode cX9_be 5 = .ok (.if_icmp .ge 15, 3) := by decide +kernel
theorem dX9_be_8 : decode cX9_be 8 = .ok (.aload_n 0, 1) := by decide +kernel
theorem dX9_be_9 : decode cX9_be 9 = .ok (.iload_n 2, 1) := by decide +kernel
theorem dX9_be_10 : decode cX9_be 10 = .ok (.aload_n 1, 1) := by decide +kernel
theorem dX9_be_11 : decode cX9_be 11 = .ok (.iload_n 2, 1) := by decide +kernel
theorem dX9_be_12 : decode cX9_be 12 = .ok (.iaload, 1) := by decide +kernel
theorem dX9_be_13 : decode cX9_be 13 = .ok (.iastore, 1) := by decide +kernel
theorem dX9_be_14 : decode cX9_be 14 = .ok (.iinc 2 1, 3) := by decide +kernel
theorem dX9_be_17 : decode cX9_be 17 = .ok (.goto (-15), 3) := by decide +kernel
theorem dX9_be_20 : decode cX9_be 20 = .ok (.return_, 1) := by decide +kernel
theorem dX9_image_0 : decode cX9_image 0 = .ok (.aload_n 0, 1) := by decide +kernel
theorem dX9_image_1 : decode cX9_image 1 = .ok (.iconst 0, 1) := by decide +kernel
theorem dX9_image_2 : decode cX9_image 2 = .ok (.putfield 155, 3) := by decide +kernel
theorem dX9_image_5 : decode cX9_image 5 = .ok (.aload_n 0, 1) := by decide +kernel
theorem dX9_image_6 : decode cX9_image 6 = .ok (.iconst 1, 1) := by decide +kernel
theorem dX9_image_7 : decode cX9_image 7 = .ok (.putfield 323, 3) := by decide +kernel
theorem dX9_image_10 : decode cX9_image 10 = .ok (.aload_n 0, 1) := by decide +kernel
theorem dX9_image_11 : decode cX9_image 11 = .ok (.aload_n 0, 1) := by decide +kernel
theorem dX9_image_12 : decode cX9_image 12 = .ok (.getfield 310, 3) := by decide +kernel
theorem dX9_image_15 : decode cX9_image 15 = .ok (.putfield 491, 3) := by decide +kernel
theorem dX9_image_18 : decode cX9_image 18 = .ok (.aload_n 0, 1) := by decide +kernel
theorem dX9_image_19 : decode cX9_image 19 = .ok (.aload_n 0, 1) := by decide +kernel
theorem dX9_image_20 : decode cX9_image 20 = .ok (.getfield 313, 3) := by decide +kernel
theorem dX9_image_23 : decode cX9_image 23 = .ok (.putfield 494, 3) := by decide +kernel
theorem dX9_image_26 : decode cX9_image 26 = .ok (.aload_n 0, 1) := by decide +kernel
theorem dX9_image_27 : decode cX9_image 27 = .ok (.aload_n 0, 1) := by decide +kernel
theorem dX9_image_28 : decode cX9_image 28 = .ok (.getfield 316, 3) := by decide +kernel
theorem dX9_image_31 : decode cX9_image 31 = .ok (.putfield 497, 3) := by decide +kernel
theorem dX9_image_34 : decode cX9_image 34 = .ok (.aload_n 0, 1) := by decide +kernel
theorem dX9_image_35 : decode cX9_image 35 = .ok (.getfield 134, 3) := by decide +kernel
theorem dX9_image_38 : decode cX9_image 38 = .ok (.aload_n 0, 1) := by decide +kernel
theorem dX9_image_39 : decode cX9_image 39 = .ok (.getfield 55, 3) := by decide +kernel
theorem dX9_image_42 : decode cX9_image 42 = .ok (.invokestatic 500, 3) := by decide +kernel
theorem dX9_image_45 : decode cX9_image 45 = .ok (.aload_n 0, 1) := by decide +kernel
theorem dX9_image_46 : decode cX9_image 46 = .ok (.getfield 137, 3) := by decide +kernel
theorem dX9_image_49 : decode cX9_image 49 = .ok (.aload_n 0, 1) := by decide +kernel
theorem dX9_image_50 : decode cX9_image 50 = .ok (.getfield 95, 3) := by decide +kernel
theorem dX9_image_53 : decode cX9_image 53 = .ok (.invokestatic 500, 3) := by decide +kernel
theorem dX9_image_56 : decode cX9_image 56 = .ok (.aload_n 0, 1) := by decide +kernel
theorem dX9_image_57 : decode cX9_image 57 = .ok (.getfield 140, 3) := by decide +kernel
theorem dX9_image_60 : decode cX9_image 60 = .ok (.aload_n 0, 1) := by decide +kernel
theorem dX9_image_61 : decode cX9_image 61 = .ok (.getfield 113, 3) := by decide +kernel
theorem dX9_image_64 : decode cX9_image 64 = .ok (.invokestatic 500, 3) := by decide +kernel
theorem dX9_image_67 : decode cX9_image 67 = .ok (.aload_n 0, 1) := by decide +kernel
theorem dX9_image_68 : decode cX9_image 68 = .ok (.getfield 143, 3) := by decide +kernel
theorem dX9_image_71 : decode cX9_image 71 = .ok (.aload_n 0, 1) := by decide +kernel
theorem dX9_image_72 : decode cX9_image 72 = .ok (.getfield 122, 3) := by decide +kernel
theorem dX9_image_75 : decode cX9_image 75 = .ok (.invokestatic 500, 3) := by decide +kernel
theorem dX9_image_78 : decode cX9_image 78 = .ok (.aload_n 0, 1) := by decide +kernel
theorem dX9_image_79 : decode cX9_image 79 = .ok (.getfield 146, 3) := by decide +kernel
theorem dX9_image_82 : decode cX9_image 82 = .ok (.aload_n 0, 1) := by decide +kernel
theorem dX9_image_83 : decode cX9_image 83 = .ok (.getfield 125, 3) := by decide +kernel
theorem dX9_image_86 : decode cX9_image 86 = .ok (.invokestatic 500, 3) := by decide +kernel
theorem dX9_image_89 : decode cX9_image 89 = .ok (.aload_n 0, 1) := by decide +kernel
theorem dX9_image_90 : decode cX9_image 90 = .ok (.getfield 149, 3) := by decide +kernel
theorem dX9_image_93 : decode cX9_image 93 = .ok (.aload_n 0, 1) := by decide +kernel
theorem dX9_image_94 : decode cX9_image 94 = .ok (.getfield 128, 3) := by decide +kernel
theorem dX9_image_97 : decode cX9_image 97 = .ok (.invokestatic 500, 3) := by decide +kernel
theorem dX9_image_100 : decode cX9_image 100 = .ok (.aload_n 0, 1) := by decide +kernel
theorem dX9_image_101 : decode cX9_image 101 = .ok (.getfield 152, 3) := by decide +kernel
theorem dX9_image_104 : decode cX9_image 104 = .ok (.aload_n 0, 1) := by decide +kernel
theorem dX9_image_105 : decode cX9_image 105 = .ok (.getfield 70, 3) := by decide +kernel
theorem dX9_image_108 : decode cX9_image 108 = .ok (.invokestatic 500, 3) := by decide +kernel
theorem dX9_image_111 : decode cX9_image 111 = .ok (.return_, 1) := by decide +kernel
theorem dX9_restore_0 : decode cX9_restore 0 = .ok (.aload_n 0, 1) := by decide +kernel
theorem dX9_restore_1 : decode cX9_restore 1 = .ok (.iconst 0, 1) := by decide +kernel
theorem dX9_restore_2 : decode cX9_restore 2 = .ok (.putfield 155, 3) := by decide +kernel
theorem dX9_restore_5 : decode cX9_restore 5 = .ok (.aload_n 0, 1) := by decide +kernel
theorem dX9_restore_6 : decode cX9_restore 6 = .ok (.getfield 323, 3) := by decide +kernel
theorem dX9_restore_9 : decode cX9_restore 9 = .ok (.ifCond .ne 5, 3) := by decide +kernel
theorem dX9_restore_12 : decode cX9_restore 12 = .ok (.iconst 0, 1) := by decide +kernel
theorem dX9_restore_13 : decode cX9_restore 13 = .ok (.ireturn, 1) := by decide +kernel
theorem dX9_restore_14 : decode cX9_restore 14 = .ok (.aload_n 0, 1) := by decide +kernel
theorem dX9_restore_15 : decode cX9_restore 15 = .ok (.aload_n 0, 1) := by decide +kernel
theorem dX9_restore_16 : decode cX9_restore 16 = .ok (.getfield 491, 3) := by decide +kernel
theorem dX9_restore_19 : decode cX9_restore 19 = .ok (.putfield 310, 3) := by decide +kernel
theorem dX9_restore_22 : decode cX9_restore 22 = .ok (.aload_n 0, 1) := by decide +kernel
theorem dX9_restore_23 : decode cX9_restore 23 = .ok (.aload_n 0, 1) := by decide +kernel
theorem dX9_restore_24 : decode cX9_restore 24 = .ok (.getfield 494, 3) := by decide +kernel
theorem dX9_restore_27 : decode cX9_restore 27 = .ok (.putfield 313, 3) := by decide +kernel
theorem dX9_restore_30 : decode cX9_restore 30 = .ok (.aload_n 0, 1) := by decide +kernel
theorem dX9_restore_31 : decode cX9_restore 31 = .ok (.aload_n 0, 1) := by decide +kernel
theorem dX9_restore_32 : decode cX9_restore 32 = .ok (.getfield 497, 3) := by decide +kernel
theorem dX9_restore_35 : decode cX9_restore 35 = .ok (.putfield 316, 3) := by decide +kernel
theorem dX9_restore_38 : decode cX9_restore 38 = .ok (.aload_n 0, 1) := by decide +kernel
theorem dX9_restore_39 : decode cX9_restore 39 = .ok (.getfield 55, 3) := by decide +kernel
theorem dX9_restore_42 : decode cX9_restore 42 = .ok (.aload_n 0, 1) := by decide +kernel
theorem dX9_restore_43 : decode cX9_restore 43 = .ok (.getfield 134, 3) := by decide +kernel
theorem dX9_restore_46 : decode cX9_restore 46 = .ok (.invokestatic 500, 3) := by decide +kernel
theorem dX9_restore_49 : decode cX9_restore 49 = .ok (.aload_n 0, 1) := by decide +kernel
theorem dX9_restore_50 : decode cX9_restore 50 = .ok (.getfield 95, 3) := by decide +kernel
theorem dX9_restore_53 : decode cX9_restore 53 = .ok (.aload_n 0, 1) := by decide +kernel
theorem dX9_restore_54 : decode cX9_restore 54 = .ok (.getfield 137, 3) := by decide +kernel
theorem dX9_restore_57 : decode cX9_restore 57 = .ok (.invokestatic 500, 3) := by decide +kernel
theorem dX9_restore_60 : decode cX9_restore 60 = .ok (.aload_n 0, 1) := by decide +kernel
theorem dX9_restore_61 : decode cX9_restore 61 = .ok (.getfield 113, 3) := by decide +kernel
theorem dX9_restore_64 : decode cX9_restore 64 = .ok (.aload_n 0, 1) := by decide +kernel
theorem dX9_restore_65 : decode cX9_restore 65 = .ok (.getfield 140, 3) := by decide +kernel
theorem dX9_restore_68 : decode cX9_restore 68 = .ok (.invokestatic 500, 3) := by decide +kernel
theorem dX9_restore_71 : decode cX9_restore 71 = .ok (.aload_n 0, 1) := by decide +kernel
theorem dX9_restore_72 : decode cX9_restore 72 = .ok (.getfield 122, 3) := by decide +kernel
theorem dX9_restore_75 : decode cX9_restore 75 = .ok (.aload_n 0, 1) := by decide +kernel
theorem dX9_restore_76 : decode cX9_restore 76 = .ok (.getfield 143, 3) := by decide +kernel
theorem dX9_restore_79 : decode cX9_restore 79 = .ok (.invokestatic 500, 3) := by decide +kernel
theorem dX9_restore_82 : decode cX9_restore 82 = .ok (.aload_n 0, 1) := by decide +kernel
theorem dX9_restore_83 : decode cX9_restore 83 = .ok (.getfield 125, 3) := by decide +kernel
theorem dX9_restore_86 : decode cX9_restore 86 = .ok (.aload_n 0, 1) := by decide +kernel
theorem dX9_restore_87 : decode cX9_restore 87 = .ok (.getfield 146, 3) := by decide +kernel
theorem dX9_restore_90 : decode cX9_restore 90 = .ok (.invokestatic 500, 3) := by decide +kernel
theorem dX9_restore_93 : decode cX9_restore 93 = .ok (.aload_n 0, 1) := by decide +kernel
theorem dX9_restore_94 : decode cX9_restore 94 = .ok (.getfield 128, 3) := by decide +kernel
theorem dX9_restore_97 : decode cX9_restore 97 = .ok (.aload_n 0, 1) := by decide +kernel
theorem dX9_restore_98 : decode cX9_restore 98 = .ok (.getfield 149, 3) := by decide +kernel
theorem dX9_restore_101 : decode cX9_restore 101 = .ok (.invokestatic 500, 3) := by decide +kernel
theorem dX9_restore_104 : decode cX9_restore 104 = .ok (.aload_n 0, 1) := by decide +kernel
theorem dX9_restore_105 : decode cX9_restore 105 = .ok (.getfield 70, 3) := by decide +kernel
theorem dX9_restore_108 : decode cX9_restore 108 = .ok (.aload_n 0, 1) := by decide +kernel
theorem dX9_restore_109 : decode cX9_restore 109 = .ok (.getfield 152, 3) := by decide +kernel
theorem dX9_restore_112 : decode cX9_restore 112 = .ok (.invokestatic 500, 3) := by decide +kernel
theorem dX9_restore_115 : decode cX9_restore 115 = .ok (.iconst 1, 1) := by decide +kernel
theorem dX9_restore_116 : decode cX9_restore 116 = .ok (.ireturn, 1) := by decide +kernel
theorem dJ11_isValidCodePoint_9a6ad_0 : decode cJ11_isValidCodePoint_9a6ad 0 = .ok (.iload_n 0, 1) := by decide +kernel
theorem dJ11_isValidCodePoint_9a6ad_1 : decode cJ11_isValidCodePoint_9a6ad 1 = .ok (.bipush 16, 2) := by decide +kernel
theorem dJ11_isValidCodePoint_9a6ad_3 : decode cJ11_isValidCodePoint_9a6ad 3 = .ok (.iushr, 1) := by decide +kernel
theorem dJ11_isValidCodePoint_9a6ad_4 : decode cJ11_isValidCodePoint_9a6ad 4 = .ok (.istore_n 1, 1) := by decide +kernel
theorem dJ11_isValidCodePoint_9a6ad_5 : decode cJ11_isValidCodePoint_9a6ad 5 = .ok (.iload_n 1, 1) := by decide +kernel
theorem dJ11_isValidCodePoint_9a6ad_6 : decode cJ11_isValidCodePoint_9a6ad 6 = .ok (.bipush 17, 2) := by decide +kernel
theorem dJ11_isValidCodePoint_9a6ad_8 : decode cJ11_isValidCodePoint_9a6ad 8 = .ok (.if_icmp .ge 7, 3) := by decide +kernel
theorem dJ11_isValidCodePoint_9a6ad_11 : decode cJ11_isValidCodePoint_9a6ad 11 = .ok (.iconst 1, 1) := by decide +kernel
theorem dJ11_isValidCodePoint_9a6ad_12 : decode cJ11_isValidCodePoint_9a6ad 12 = .ok (.goto 4, 3) := by decide +kernel
theorem dJ11_isValidCodePoint_9a6ad_15 : decode cJ11_isValidCodePoint_9a6ad 15 = .ok (.iconst 0, 1) := by decide +kernel
theorem dJ11_isValidCodePoint_9a6ad_16 : decode cJ11_isValidCodePoint_9a6ad 16 = .ok (.ireturn, 1) := by decide +kernel
theorem dJ11_highSurrogate_5068e_0 : decode cJ11_highSurrogate_5068e 0 = .ok (.iload_n 0, 1) := by decide +kernel
theorem dJ11_highSurrogate_5068e_1 : decode cJ11_highSurrogate_5068e 1 = .ok (.bipush 10, 2) := by decide +kernel
theorem dJ11_highSurrogate_5068e_3 : decode cJ11_highSurrogate_5068e 3 = .ok (.iushr, 1) := by decide +kernel
theorem dJ11_highSurrogate_5068e_4 : decode cJ11_highSurrogate_5068e 4 = .ok (.ldc 110, 2) := by decide +kernel
theorem dJ11_highSurrogate_5068e_6 : decode cJ11_highSurrogate_5068e 6 = .ok (.iadd, 1) := by decide +kernel
theorem dJ11_highSurrogate_5068e_7 : decode cJ11_highSurrogate_5068e 7 = .ok (.i2c, 1) := by decide +kernel
theorem dJ11_highSurrogate_5068e_8 : decode cJ11_highSurrogate_5068e 8 = .ok (.ireturn, 1) := by decide +kernel
theorem dJ11_lowSurrogate_5068e_0 : decode cJ11_lowSurrogate_5068e 0 = .ok (.iload_n 0, 1) := by decide +kernel
theorem dJ11_lowSurrogate_5068e_1 : decode cJ11_lowSurrogate_5068e 1 = .ok (.sipush 1023, 3) := by decide +kernel
theorem dJ11_lowSurrogate_5068e_4 : decode cJ11_lowSurrogate_5068e 4 = .ok (.iand, 1) := by decide +kernel
theorem dJ11_lowSurrogate_5068e_5 : decode cJ11_lowSurrogate_5068e 5 = .ok (.ldc 76, 2) := by decide +kernel
theorem dJ11_lowSurrogate_5068e_7 : decode cJ11_lowSurrogate_5068e 7 = .ok (.iadd, 1) := by decide +kernel
theorem dJ11_lowSurrogate_5068e_8 : decode cJ11_lowSurrogate_5068e 8 = .ok (.i2c, 1) := by decide +kernel
theorem dJ11_lowSurrogate_5068e_9 : decode cJ11_lowSurrogate_5068e 9 = .ok (.ireturn, 1) := by decide +kernel
theorem dJ6_bitCount_0f7a4_0 : decode cJ6_bitCount_0f7a4 0 = .ok (.iload_n 0, 1) := by decide +kernel
theorem dJ6_bitCount_0f7a4_1 : decode cJ6_bitCount_0f7a4 1 = .ok (.iload_n 0, 1) := by decide +kernel
theorem dJ6_bitCount_0f7a4_2 : decode cJ6_bitCount_0f7a4 2 = .ok (.iconst 1, 1) := by decide +kernel
theorem dJ6_bitCount_0f7a4_3 : decode cJ6_bitCount_0f7a4 3 = .ok (.iushr, 1) := by decide +kernel
theorem dJ6_bitCount_0f7a4_4 : decode cJ6_bitCount_0f7a4 4 = .ok (.ldc_w 265, 3) := by decide +kernel
theorem dJ6_bitCount_0f7a4_7 : decode cJ6_bitCount_0f7a4 7 = .ok (.iand, 1) := by decide +kernel
theorem dJ6_bitCount_0f7a4_8 : decode cJ6_bitCount_0f7a4 8 = .ok (.isub, 1) := by decide +kernel
theorem dJ6_bitCount_0f7a4_9 : decode cJ6_bitCount_0f7a4 9 = .ok (.istore_n 0, 1) := by decide +kernel
theorem dJ6_bitCount_0f7a4_10 : decode cJ6_bitCount_0f7a4 10 = .ok (.iload_n 0, 1) := by decide +kernel
theorem dJ6_bitCount_0f7a4_11 : decode cJ6_bitCount_0f7a4 11 = .ok (.ldc_w 266, 3) := by decide +kernel
theorem dJ6_bitCount_0f7a4_14 : decode cJ6_bitCount_0f7a4 14 = .ok (.iand, 1) := by decide +kernel
theorem dJ6_bitCount_0f7a4_15 : decode cJ6_bitCount_0f7a4 15 = .ok (.iload_n 0, 1) := by decide +kernel
theorem dJ6_bitCount_0f7a4_16 : decode cJ6_bitCount_0f7a4 16 = .ok (.iconst 2, 1) := by decide +kernel
theorem dJ6_bitCount_0f7a4_17 : decode cJ6_bitCount_0f7a4 17 = .ok (.iushr, 1) := by decide +kernel
theorem dJ6_bitCount_0f7a4_18 : decode cJ6_bitCount_0f7a4 18 = .ok (.ldc_w 266, 3) := by decide +kernel
theorem dJ6_bitCount_0f7a4_21 : decode cJ6_bitCount_0f7a4 21 = .ok (.iand, 1) := by decide +kernel
theorem dJ6_bitCount_0f7a4_22 : decode cJ6_bitCount_0f7a4 22 = .ok (.iadd, 1) := by decide +kernel
theorem dJ6_bitCount_0f7a4_23 : decode cJ6_bitCount_0f7a4 23 = .ok (.istore_n 0, 1) := by decide +kernel
theorem dJ6_bitCount_0f7a4_24 : decode cJ6_bitCount_0f7a4 24 = .ok (.iload_n 0, 1) := by decide +kernel
theorem dJ6_bitCount_0f7a4_25 : decode cJ6_bitCount_0f7a4 25 = .ok (.iload_n 0, 1) := by decide +kernel
theorem dJ6_bitCount_0f7a4_26 : decode cJ6_bitCount_0f7a4 26 = .ok (.iconst 4, 1) := by decide +kernel
theorem dJ6_bitCount_0f7a4_27 : decode cJ6_bitCount_0f7a4 27 = .ok (.iushr, 1) := by decide +kernel
theorem dJ6_bitCount_0f7a4_28 : decode cJ6_bitCount_0f7a4 28 = .ok (.iadd, 1) := by decide +kernel
theorem dJ6_bitCount_0f7a4_29 : decode cJ6_bitCount_0f7a4 29 = .ok (.ldc_w 267, 3) := by decide +kernel
theorem dJ6_bitCount_0f7a4_32 : decode cJ6_bitCount_0f7a4 32 = .ok (.iand, 1) := by decide +kernel
theorem dJ6_bitCount_0f7a4_33 : decode cJ6_bitCount_0f7a4 33 = .ok (.istore_n 0, 1) := by decide +kernel
theorem dJ6_bitCount_0f7a4_34 : decode cJ6_bitCount_0f7a4 34 = .ok (.iload_n 0, 1) := by decide +kernel
theorem dJ6_bitCount_0f7a4_35 : decode cJ6_bitCount_0f7a4 35 = .ok (.iload_n 0, 1) := by decide +kernel
theorem dJ6_bitCount_0f7a4_36 : decode cJ6_bitCount_0f7a4 36 = .ok (.bipush 8, 2) := by decide +kernel
theorem dJ6_bitCount_0f7a4_38 : decode cJ6_bitCount_0f7a4 38 = .ok (.iushr, 1) := by decide +kernel
theorem dJ6_bitCount_0f7a4_39 : decode cJ6_bitCount_0f7a4 39 = .ok (.iadd, 1) := by decide +kernel
theorem dJ6_bitCount_0f7a4_40 : decode cJ6_bitCount_0f7a4 40 = .ok (.istore_n 0, 1) := by decide +kernel
theorem dJ6_bitCount_0f7a4_41 : decode cJ6_bitCount_0f7a4 41 = .ok (.iload_n 0, 1) := by decide +kernel
theorem dJ6_bitCount_0f7a4_42 : decode cJ6_bitCount_0f7a4 42 = .ok (.iload_n 0, 1) := by decide +kernel
theorem dJ6_bitCount_0f7a4_43 : decode cJ6_bitCount_0f7a4 43 = .ok (.bipush 16, 2) := by decide +kernel
theorem dJ6_bitCount_0f7a4_45 : decode cJ6_bitCount_0f7a4 45 = .ok (.iushr, 1) := by decide +kernel
theorem dJ6_bitCount_0f7a4_46 : decode cJ6_bitCount_0f7a4 46 = .ok (.iadd, 1) := by decide +kernel
theorem dJ6_bitCount_0f7a4_47 : decode cJ6_bitCount_0f7a4 47 = .ok (.istore_n 0, 1) := by decide +kernel
theorem dJ6_bitCount_0f7a4_48 : decode cJ6_bitCount_0f7a4 48 = .ok (.iload_n 0, 1) := by decide +kernel
theorem dJ6_bitCount_0f7a4_49 : decode cJ6_bitCount_0f7a4 49 = .ok (.bipush 63, 2) := by decide +kernel
theorem dJ6_bitCount_0f7a4_51 : decode cJ6_bitCount_0f7a4 51 = .ok (.iand, 1) := by decide +kernel
theorem dJ6_bitCount_0f7a4_52 : decode cJ6_bitCount_0f7a4 52 = .ok (.ireturn, 1) := by decide +kernel
theorem dJ9_abs_0f7a4_0 : decode cJ9_abs_0f7a4 0 = .ok (.iload_n 0, 1) := by decide +kernel
theorem dJ9_abs_0f7a4_1 : decode cJ9_abs_0f7a4 1 = .ok (.ifCond .ge 8, 3) := by decide +kernel
theorem dJ9_abs_0f7a4_4 : decode cJ9_abs_0f7a4 4 = .ok (.iload_n 0, 1) := by decide +kernel
theorem dJ9_abs_0f7a4_5 : decode cJ9_abs_0f7a4 5 = .ok (.ineg, 1) := by decide +kernel
theorem dJ9_abs_0f7a4_6 : decode cJ9_abs_0f7a4 6 = .ok (.goto 4, 3) := by decide +kernel
theorem dJ9_abs_0f7a4_9 : decode cJ9_abs_0f7a4 9 = .ok (.iload_n 0, 1) := by decide +kernel
theorem dJ9_abs_0f7a4_10 : decode cJ9_abs_0f7a4 10 = .ok (.ireturn, 1) := by decide +kernel
theorem dJ9_max_7cf53_0 : decode cJ9_max_7cf53 0 = .ok (.iload_n 0, 1) := by decide +kernel
theorem dJ9_max_7cf53_1 : decode cJ9_max_7cf53 1 = .ok (.iload_n 1, 1) := by decide +kernel
theorem dJ9_max_7cf53_2 : decode cJ9_max_7cf53 2 = .ok (.if_icmp .lt 7, 3) := by decide +kernel
theorem dJ9_max_7cf53_5 : decode cJ9_max_7cf53 5 = .ok (.iload_n 0, 1) := by decide +kernel
theorem dJ9_max_7cf53_6 : decode cJ9_max_7cf53 6 = .ok (.goto 4, 3) := by decide +kernel
theorem dJ9_max_7cf53_9 : decode cJ9_max_7cf53 9 = .ok (.iload_n 1, 1) := by decide +kernel
theorem dJ9_max_7cf53_10 : decode cJ9_max_7cf53 10 = .ok (.ireturn, 1) := by decide +kernel
theorem dJ9_min_7cf53_0 : decode cJ9_min_7cf53 0 = .ok (.iload_n 0, 1) := by decide +kernel
theorem dJ9_min_7cf53_1 : decode cJ9_min_7cf53 1 = .ok (.iload_n 1, 1) := by decide +kernel
theorem dJ9_min_7cf53_2 : decode cJ9_min_7cf53 2 = .ok (.if_icmp .gt 7, 3) := by decide +kernel
theorem dJ9_min_7cf53_5 : decode cJ9_min_7cf53 5 = .ok (.iload_n 0, 1) := by decide +kernel
theorem dJ9_min_7cf53_6 : decode cJ9_min_7cf53 6 = .ok (.goto 4, 3) := by decide +kernel
theorem dJ9_min_7cf53_9 : decode cJ9_min_7cf53 9 = .ok (.iload_n 1, 1) := by decide +kernel
theorem dJ9_min_7cf53_10 : decode cJ9_min_7cf53 10 = .ok (.ireturn, 1) := by decide +kernel
theorem dJ0_length_8abf5_0 : decode cJ0_length_8abf5 0 = .ok (.aload_n 0, 1) := by decide +kernel
theorem dJ0_length_8abf5_1 : decode cJ0_length_8abf5 1 = .ok (.getfield 9, 3) := by decide +kernel
theorem dJ0_length_8abf5_4 : decode cJ0_length_8abf5 4 = .ok (.arraylength, 1) := by decide +kernel
theorem dJ0_length_8abf5_5 : decode cJ0_length_8abf5 5 = .ok (.aload_n 0, 1) := by decide +kernel
theorem dJ0_length_8abf5_6 : decode cJ0_length_8abf5 6 = .ok (.invokevirtual 335, 3) := by decide +kernel
theorem dJ0_length_8abf5_9 : decode cJ0_length_8abf5 9 = .ok (.ishr, 1) := by decide +kernel
theorem dJ0_length_8abf5_10 : decode cJ0_length_8abf5 10 = .ok (.ireturn, 1) := by decide +kernel
theorem dJ0_charAt_5068e_0 : decode cJ0_charAt_5068e 0 = .ok (.aload_n 0, 1) := by decide +kernel
theorem dJ0_charAt_5068e_1 : decode cJ0_charAt_5068e 1 = .ok (.invokevirtual 492, 3) := by decide +kernel
theorem dJ0_charAt_5068e_4 : decode cJ0_charAt_5068e 4 = .ok (.ifCond .eq 12, 3) := by decide +kernel
theorem dJ0_charAt_5068e_7 : decode cJ0_charAt_5068e 7 = .ok (.aload_n 0, 1) := by decide +kernel
theorem dJ0_charAt_5068e_8 : decode cJ0_charAt_5068e 8 = .ok (.getfield 9, 3) := by decide +kernel
theorem dJ0_charAt_5068e_11 : decode cJ0_charAt_5068e 11 = .ok (.iload_n 1, 1) := by decide +kernel
theorem dJ0_charAt_5068e_12 : decode cJ0_charAt_5068e 12 = .ok (.invokestatic 495, 3) := by decide +kernel
theorem dJ0_charAt_5068e_15 : decode cJ0_charAt_5068e 15 = .ok (.ireturn, 1) := by decide +kernel
theorem dJ0_charAt_5068e_16 : decode cJ0_charAt_5068e 16 = .ok (.aload_n 0, 1) := by decide +kernel
theorem dJ0_charAt_5068e_17 : decode cJ0_charAt_5068e 17 = .ok (.getfield 9, 3) := by decide +kernel
theorem dJ0_charAt_5068e_20 : decode cJ0_charAt_5068e 20 = .ok (.iload_n 1, 1) := by decide +kernel
theorem dJ0_charAt_5068e_21 : decode cJ0_charAt_5068e 21 = .ok (.invokestatic 498, 3) := by decide +kernel
theorem dJ0_charAt_5068e_24 : decode cJ0_charAt_5068e 24 = .ok (.ireturn, 1) := by decide +kernel
theorem dJ0_indexOf_0f7a4_0 : decode cJ0_indexOf_0f7a4 0 = .ok (.aload_n 0, 1) := by decide +kernel
theorem dJ0_indexOf_0f7a4_1 : decode cJ0_indexOf_0f7a4 1 = .ok (.iload_n 1, 1) := by decide +kernel
theorem dJ0_indexOf_0f7a4_2 : decode cJ0_indexOf_0f7a4 2 = .ok (.iconst 0, 1) := by decide +kernel
theorem dJ0_indexOf_0f7a4_3 : decode cJ0_indexOf_0f7a4 3 = .ok (.invokevirtual 633, 3) := by decide +kernel
theorem dJ0_indexOf_0f7a4_6 : decode cJ0_indexOf_0f7a4 6 = .ok (.ireturn, 1) := by decide +kernel
theorem dJ0_indexOf_7cf53_0 : decode cJ0_indexOf_7cf53 0 = .ok (.aload_n 0, 1) := by decide +kernel
theorem dJ0_indexOf_7cf53_1 : decode cJ0_indexOf_7cf53 1 = .ok (.invokevirtual 492, 3) := by decide +kernel
theorem dJ0_indexOf_7cf53_4 : decode cJ0_indexOf_7cf53 4 = .ok (.ifCond .eq 19, 3) := by decide +kernel
theorem dJ0_indexOf_7cf53_7 : decode cJ0_indexOf_7cf53 7 = .ok (.aload_n 0, 1) := by decide +kernel
theorem dJ0_indexOf_7cf53_8 : decode cJ0_indexOf_7cf53 8 = .ok (.getfield 9, 3) := by decide +kernel
theorem dJ0_indexOf_7cf53_11 : decode cJ0_indexOf_7cf53 11 = .ok (.iload_n 1, 1) := by decide +kernel
theorem dJ0_indexOf_7cf53_12 : decode cJ0_indexOf_7cf53 12 = .ok (.iload_n 2, 1) := by decide +kernel
theorem dJ0_indexOf_7cf53_13 : decode cJ0_indexOf_7cf53 13 = .ok (.aload_n 0, 1) := by decide +kernel
theorem dJ0_indexOf_7cf53_14 : decode cJ0_indexOf_7cf53 14 = .ok (.invokevirtual 505, 3) := by decide +kernel
theorem dJ0_indexOf_7cf53_17 : decode cJ0_indexOf_7cf53 17 = .ok (.invokestatic 637, 3) := by decide +kernel
theorem dJ0_indexOf_7cf53_20 : decode cJ0_indexOf_7cf53 20 = .ok (.goto 16, 3) := by decide +kernel
theorem dJ0_indexOf_7cf53_23 : decode cJ0_indexOf_7cf53 23 = .ok (.aload_n 0, 1) := by decide +kernel
theorem dJ0_indexOf_7cf53_24 : decode cJ0_indexOf_7cf53 24 = .ok (.getfield 9, 3) := by decide +kernel
theorem dJ0_indexOf_7cf53_27 : decode cJ0_indexOf_7cf53 27 = .ok (.iload_n 1, 1) := by decide +kernel
theorem dJ0_indexOf_7cf53_28 : decode cJ0_indexOf_7cf53 28 = .ok (.iload_n 2, 1) := by decide +kernel
theorem dJ0_indexOf_7cf53_29 : decode cJ0_indexOf_7cf53 29 = .ok (.aload_n 0, 1) := by decide +kernel
theorem dJ0_indexOf_7cf53_30 : decode cJ0_indexOf_7cf53 30 = .ok (.invokevirtual 505, 3) := by decide +kernel
theorem dJ0_indexOf_7cf53_33 : decode cJ0_indexOf_7cf53 33 = .ok (.invokestatic 640, 3) := by decide +kernel
theorem dJ0_indexOf_7cf53_36 : decode cJ0_indexOf_7cf53 36 = .ok (.ireturn, 1) := by decide +kernel
theorem dJ0_coder_7d493_0 : decode cJ0_coder_7d493 0 = .ok (.getstatic 38, 3) := by decide +kernel
theorem dJ0_coder_7d493_3 : decode cJ0_coder_7d493 3 = .ok (.ifCond .eq 10, 3) := by decide +kernel
theorem dJ0_coder_7d493_6 : decode cJ0_coder_7d493 6 = .ok (.aload_n 0, 1) := by decide +kernel
theorem dJ0_coder_7d493_7 : decode cJ0_coder_7d493 7 = .ok (.getfield 15, 3) := by decide +kernel
theorem dJ0_coder_7d493_10 : decode cJ0_coder_7d493 10 = .ok (.goto 4, 3) := by decide +kernel
theorem dJ0_coder_7d493_13 : decode cJ0_coder_7d493 13 = .ok (.iconst 1, 1) := by decide +kernel
theorem dJ0_coder_7d493_14 : decode cJ0_coder_7d493 14 = .ok (.ireturn, 1) := by decide +kernel
theorem dJ0_isLatin1_aae02_0 : decode cJ0_isLatin1_aae02 0 = .ok (.getstatic 38, 3) := by decide +kernel
theorem dJ0_isLatin1_aae02_3 : decode cJ0_isLatin1_aae02 3 = .ok (.ifCond .eq 14, 3) := by decide +kernel
theorem dJ0_isLatin1_aae02_6 : decode cJ0_isLatin1_aae02 6 = .ok (.aload_n 0, 1) := by decide +kernel
theorem dJ0_isLatin1_aae02_7 : decode cJ0_isLatin1_aae02 7 = .ok (.getfield 15, 3) := by decide +kernel
theorem dJ0_isLatin1_aae02_10 : decode cJ0_isLatin1_aae02 10 = .ok (.ifCond .ne 7, 3) := by decide +kernel
theorem dJ0_isLatin1_aae02_13 : decode cJ0_isLatin1_aae02 13 = .ok (.iconst 1, 1) := by decide +kernel
theorem dJ0_isLatin1_aae02_14 : decode cJ0_isLatin1_aae02 14 = .ok (.goto 4, 3) := by decide +kernel
theorem dJ0_isLatin1_aae02_17 : decode cJ0_isLatin1_aae02 17 = .ok (.iconst 0, 1) := by decide +kernel
theorem dJ0_isLatin1_aae02_18 : decode cJ0_isLatin1_aae02 18 = .ok (.ireturn, 1) := by decide +kernel
theorem dJ0_checkIndex_df160_0 : decode cJ0_checkIndex_df160 0 = .ok (.iload_n 0, 1) := by decide +kernel
theorem dJ0_checkIndex_df160_1 : decode cJ0_checkIndex_df160 1 = .ok (.iload_n 1, 1) := by decide +kernel
theorem dJ0_checkIndex_df160_2 : decode cJ0_checkIndex_df160 2 = .ok (.getstatic 1053, 3) := by decide +kernel
theorem dJ0_checkIndex_df160_5 : decode cJ0_checkIndex_df160 5 = .ok (.invokestatic 1059, 3) := by decide +kernel
theorem dJ0_checkIndex_df160_8 : decode cJ0_checkIndex_df160 8 = .ok (.pop, 1) := by decide +kernel
theorem dJ0_checkIndex_df160_9 : decode cJ0_checkIndex_df160 9 = .ok (.return_, 1) := by decide +kernel
theorem dJ0_checkBoundsBeginEnd_23922_0 : decode cJ0_checkBoundsBeginEnd_23922 0 = .ok (.iload_n 0, 1) := by decide +kernel
theorem dJ0_checkBoundsBeginEnd_23922_1 : decode cJ0_checkBoundsBeginEnd_23922 1 = .ok (.iload_n 1, 1) := by decide +kernel
theorem dJ0_checkBoundsBeginEnd_23922_2 : decode cJ0_checkBoundsBeginEnd_23922 2 = .ok (.iload_n 2, 1) := by decide +kernel
theorem dJ0_checkBoundsBeginEnd_23922_3 : decode cJ0_checkBoundsBeginEnd_23922 3 = .ok (.getstatic 1053, 3) := by decide +kernel
theorem dJ0_checkBoundsBeginEnd_23922_6 : decode cJ0_checkBoundsBeginEnd_23922 6 = .ok (.invokestatic 1062, 3) := by decide +kernel
theorem dJ0_checkBoundsBeginEnd_23922_9 : decode cJ0_checkBoundsBeginEnd_23922 9 = .ok (.pop, 1) := by decide +kernel
theorem dJ0_checkBoundsBeginEnd_23922_10 : decode cJ0_checkBoundsBeginEnd_23922 10 = .ok (.return_, 1) := by decide +kernel
theorem dJ1_charAt_3b067_0 : decode cJ1_charAt_3b067 0 = .ok (.iload_n 1, 1) := by decide +kernel
theorem dJ1_charAt_3b067_1 : decode cJ1_charAt_3b067 1 = .ok (.aload_n 0, 1) := by decide +kernel
theorem dJ1_charAt_3b067_2 : decode cJ1_charAt_3b067 2 = .ok (.arraylength, 1) := by decide +kernel
theorem dJ1_charAt_3b067_3 : decode cJ1_charAt_3b067 3 = .ok (.invokestatic 9, 3) := by decide +kernel
theorem dJ1_charAt_3b067_6 : decode cJ1_charAt_3b067 6 = .ok (.aload_n 0, 1) := by decide +kernel
theorem dJ1_charAt_3b067_7 : decode cJ1_charAt_3b067 7 = .ok (.iload_n 1, 1) := by decide +kernel
theorem dJ1_charAt_3b067_8 : decode cJ1_charAt_3b067 8 = .ok (.baload, 1) := by decide +kernel
theorem dJ1_charAt_3b067_9 : decode cJ1_charAt_3b067 9 = .ok (.sipush 255, 3) := by decide +kernel
theorem dJ1_charAt_3b067_12 : decode cJ1_charAt_3b067 12 = .ok (.iand, 1) := by decide +kernel
theorem dJ1_charAt_3b067_13 : decode cJ1_charAt_3b067 13 = .ok (.i2c, 1) := by decide +kernel
theorem dJ1_charAt_3b067_14 : decode cJ1_charAt_3b067 14 = .ok (.ireturn, 1) := by decide +kernel
theorem dJ1_canEncode_9a6ad_0 : decode cJ1_canEncode_9a6ad 0 = .ok (.iload_n 0, 1) := by decide +kernel
theorem dJ1_canEncode_9a6ad_1 : decode cJ1_canEncode_9a6ad 1 = .ok (.ifCond .lt 14, 3) := by decide +kernel
theorem dJ1_canEncode_9a6ad_4 : decode cJ1_canEncode_9a6ad 4 = .ok (.iload_n 0, 1) := by decide +kernel
theorem dJ1_canEncode_9a6ad_5 : decode cJ1_canEncode_9a6ad 5 = .ok (.sipush 255, 3) := by decide +kernel
theorem dJ1_canEncode_9a6ad_8 : decode cJ1_canEncode_9a6ad 8 = .ok (.if_icmp .gt 7, 3) := by decide +kernel
theorem dJ1_canEncode_9a6ad_11 : decode cJ1_canEncode_9a6ad 11 = .ok (.iconst 1, 1) := by decide +kernel
theorem dJ1_canEncode_9a6ad_12 : decode cJ1_canEncode_9a6ad 12 = .ok (.goto 4, 3) := by decide +kernel
theorem dJ1_canEncode_9a6ad_15 : decode cJ1_canEncode_9a6ad 15 = .ok (.iconst 0, 1) := by decide +kernel
theorem dJ1_canEncode_9a6ad_16 : decode cJ1_canEncode_9a6ad 16 = .ok (.ireturn, 1) := by decide +kernel
theorem dJ1_indexOf_4cfef_0 : decode cJ1_indexOf_4cfef 0 = .ok (.iload_n 1, 1) := by decide +kernel
theorem dJ1_indexOf_4cfef_1 : decode cJ1_indexOf_4cfef 1 = .ok (.invokestatic 88, 3) := by decide +kernel
theorem dJ1_indexOf_4cfef_4 : decode cJ1_indexOf_4cfef 4 = .ok (.ifCond .ne 5, 3) := by decide +kernel
theorem dJ1_indexOf_4cfef_7 : decode cJ1_indexOf_4cfef 7 = .ok (.iconst (-1), 1) := by decide +kernel
theorem dJ1_indexOf_4cfef_8 : decode cJ1_indexOf_4cfef 8 = .ok (.ireturn, 1) := by decide +kernel
theorem dJ1_indexOf_4cfef_9 : decode cJ1_indexOf_4cfef 9 = .ok (.iload_n 2, 1) := by decide +kernel
theorem dJ1_indexOf_4cfef_10 : decode cJ1_indexOf_4cfef 10 = .ok (.iconst 0, 1) := by decide +kernel
theorem dJ1_indexOf_4cfef_11 : decode cJ1_indexOf_4cfef 11 = .ok (.invokestatic 92, 3) := by decide +kernel
theorem dJ1_indexOf_4cfef_14 : decode cJ1_indexOf_4cfef 14 = .ok (.istore_n 2, 1) := by decide +kernel
theorem dJ1_indexOf_4cfef_15 : decode cJ1_indexOf_4cfef 15 = .ok (.iload_n 3, 1) := by decide +kernel
theorem dJ1_indexOf_4cfef_16 : decode cJ1_indexOf_4cfef 16 = .ok (.aload_n 0, 1) := by decide +kernel
theorem dJ1_indexOf_4cfef_17 : decode cJ1_indexOf_4cfef 17 = .ok (.arraylength, 1) := by decide +kernel
theorem dJ1_indexOf_4cfef_18 : decode cJ1_indexOf_4cfef 18 = .ok (.invokestatic 38, 3) := by decide +kernel
theorem dJ1_indexOf_4cfef_21 : decode cJ1_indexOf_4cfef 21 = .ok (.istore_n 3, 1) := by decide +kernel
theorem dJ1_indexOf_4cfef_22 : decode cJ1_indexOf_4cfef 22 = .ok (.iload_n 2, 1) := by decide +kernel
theorem dJ1_indexOf_4cfef_23 : decode cJ1_indexOf_4cfef 23 = .ok (.iload_n 3, 1) := by decide +kernel
theorem dJ1_indexOf_4cfef_24 : decode cJ1_indexOf_4cfef 24 = .ok (.if_icmp .lt 5, 3) := by decide +kernel
theorem dJ1_indexOf_4cfef_27 : decode cJ1_indexOf_4cfef 27 = .ok (.iconst (-1), 1) := by decide +kernel
theorem dJ1_indexOf_4cfef_28 : decode cJ1_indexOf_4cfef 28 = .ok (.ireturn, 1) := by decide +kernel
theorem dJ1_indexOf_4cfef_29 : decode cJ1_indexOf_4cfef 29 = .ok (.aload_n 0, 1) := by decide +kernel
theorem dJ1_indexOf_4cfef_30 : decode cJ1_indexOf_4cfef 30 = .ok (.iload_n 1, 1) := by decide +kernel
theorem dJ1_indexOf_4cfef_31 : decode cJ1_indexOf_4cfef 31 = .ok (.iload_n 2, 1) := by decide +kernel
theorem dJ1_indexOf_4cfef_32 : decode cJ1_indexOf_4cfef 32 = .ok (.iload_n 3, 1) := by decide +kernel
theorem dJ1_indexOf_4cfef_33 : decode cJ1_indexOf_4cfef 33 = .ok (.invokestatic 95, 3) := by decide +kernel
theorem dJ1_indexOf_4cfef_36 : decode cJ1_indexOf_4cfef 36 = .ok (.ireturn, 1) := by decide +kernel
theorem dJ1_indexOfChar_4cfef_0 : decode cJ1_indexOfChar_4cfef 0 = .ok (.iload_n 1, 1) := by decide +kernel
theorem dJ1_indexOfChar_4cfef_1 : decode cJ1_indexOfChar_4cfef 1 = .ok (.i2b, 1) := by decide +kernel
theorem dJ1_indexOfChar_4cfef_2 : decode cJ1_indexOfChar_4cfef 2 = .ok (.istore 4, 2) := by decide +kernel
theorem dJ1_indexOfChar_4cfef_4 : decode cJ1_indexOfChar_4cfef 4 = .ok (.iload_n 2, 1) := by decide +kernel
theorem dJ1_indexOfChar_4cfef_5 : decode cJ1_indexOfChar_4cfef 5 = .ok (.istore 5, 2) := by decide +kernel
theorem dJ1_indexOfChar_4cfef_7 : decode cJ1_indexOfChar_4cfef 7 = .ok (.iload 5, 2) := by decide +kernel
theorem dJ1_indexOfChar_4cfef_9 : decode cJ1_indexOfChar_4cfef 9 = .ok (.iload_n 3, 1) := by decide +kernel
theorem dJ1_indexOfChar_4cfef_10 : decode cJ1_indexOfChar_4cfef 10 = .ok (.if_icmp .ge 21, 3) := by decide +kernel
theorem dJ1_indexOfChar_4cfef_13 : decode cJ1_indexOfChar_4cfef 13 = .ok (.aload_n 0, 1) := by decide +kernel
theorem dJ1_indexOfChar_4cfef_14 : decode cJ1_indexOfChar_4cfef 14 = .ok (.iload 5, 2) := by decide +kernel
theorem dJ1_indexOfChar_4cfef_16 : decode cJ1_indexOfChar_4cfef 16 = .ok (.baload, 1) := by decide +kernel
theorem dJ1_indexOfChar_4cfef_17 : decode cJ1_indexOfChar_4cfef 17 = .ok (.iload 4, 2) := by decide +kernel
theorem dJ1_indexOfChar_4cfef_19 : decode cJ1_indexOfChar_4cfef 19 = .ok (.if_icmp .ne 6, 3) := by decide +kernel
theorem dJ1_indexOfChar_4cfef_22 : decode cJ1_indexOfChar_4cfef 22 = .ok (.iload 5, 2) := by decide +kernel
theorem dJ1_indexOfChar_4cfef_24 : decode cJ1_indexOfChar_4cfef 24 = .ok (.ireturn, 1) := by decide +kernel
theorem dJ1_indexOfChar_4cfef_25 : decode cJ1_indexOfChar_4cfef 25 = .ok (.iinc 5 1, 3) := by decide +kernel
theorem dJ1_indexOfChar_4cfef_28 : decode cJ1_indexOfChar_4cfef 28 = .ok (.goto (-21), 3) := by decide +kernel
theorem dJ1_indexOfChar_4cfef_31 : decode cJ1_indexOfChar_4cfef 31 = .ok (.iconst (-1), 1) := by decide +kernel
theorem dJ1_indexOfChar_4cfef_32 : decode cJ1_indexOfChar_4cfef 32 = .ok (.ireturn, 1) := by decide +kernel
theorem dJ2_getChar_3b067_0 : decode cJ2_getChar_3b067 0 = .ok (.getstatic 44, 3) := by decide +kernel
theorem dJ2_getChar_3b067_3 : decode cJ2_getChar_3b067 3 = .ok (.ifCond .ne 25, 3) := by decide +kernel
theorem dJ2_getChar_3b067_6 : decode cJ2_getChar_3b067 6 = .ok (.iload_n 1, 1) := by decide +kernel
theorem dJ2_getChar_3b067_7 : decode cJ2_getChar_3b067 7 = .ok (.ifCond .lt 11, 3) := by decide +kernel
theorem dJ2_getChar_3b067_10 : decode cJ2_getChar_3b067 10 = .ok (.iload_n 1, 1) := by decide +kernel
theorem dJ2_getChar_3b067_11 : decode cJ2_getChar_3b067 11 = .ok (.aload_n 0, 1) := by decide +kernel
theorem dJ2_getChar_3b067_12 : decode cJ2_getChar_3b067 12 = .ok (.invokestatic 48, 3) := by decide +kernel
theorem dJ2_getChar_3b067_15 : decode cJ2_getChar_3b067 15 = .ok (.if_icmp .lt 13, 3) := by decide +kernel
theorem dJ2_getChar_3b067_18 : decode cJ2_getChar_3b067 18 = .ok (.new 52, 3) := by decide +kernel
theorem dJ2_getChar_3b067_21 : decode cJ2_getChar_3b067 21 = .ok (.dup, 1) := by decide +kernel
theorem dJ2_getChar_3b067_22 : decode cJ2_getChar_3b067 22 = .ok (.ldc 54, 2) := by decide +kernel
theorem dJ2_getChar_3b067_24 : decode cJ2_getChar_3b067 24 = .ok (.invokespecial 56, 3) := by decide +kernel
theorem dJ2_getChar_3b067_27 : decode cJ2_getChar_3b067 27 = .ok (.athrow, 1) := by decide +kernel
theorem dJ2_getChar_3b067_28 : decode cJ2_getChar_3b067 28 = .ok (.iload_n 1, 1) := by decide +kernel
theorem dJ2_getChar_3b067_29 : decode cJ2_getChar_3b067 29 = .ok (.iconst 1, 1) := by decide +kernel
theorem dJ2_getChar_3b067_30 : decode cJ2_getChar_3b067 30 = .ok (.ishl, 1) := by decide +kernel
theorem dJ2_getChar_3b067_31 : decode cJ2_getChar_3b067 31 = .ok (.istore_n 1, 1) := by decide +kernel
theorem dJ2_getChar_3b067_32 : decode cJ2_getChar_3b067 32 = .ok (.aload_n 0, 1) := by decide +kernel
theorem dJ2_getChar_3b067_33 : decode cJ2_getChar_3b067 33 = .ok (.iload_n 1, 1) := by decide +kernel
theorem dJ2_getChar_3b067_34 : decode cJ2_getChar_3b067 34 = .ok (.iinc 1 1, 3) := by decide +kernel
theorem dJ2_getChar_3b067_37 : decode cJ2_getChar_3b067 37 = .ok (.baload, 1) := by decide +kernel
theorem dJ2_getChar_3b067_38 : decode cJ2_getChar_3b067 38 = .ok (.sipush 255, 3) := by decide +kernel
theorem dJ2_getChar_3b067_41 : decode cJ2_getChar_3b067 41 = .ok (.iand, 1) := by decide +kernel
theorem dJ2_getChar_3b067_42 : decode cJ2_getChar_3b067 42 = .ok (.getstatic 59, 3) := by decide +kernel
theorem dJ2_getChar_3b067_45 : decode cJ2_getChar_3b067 45 = .ok (.ishl, 1) := by decide +kernel
theorem dJ2_getChar_3b067_46 : decode cJ2_getChar_3b067 46 = .ok (.aload_n 0, 1) := by decide +kernel
theorem dJ2_getChar_3b067_47 : decode cJ2_getChar_3b067 47 = .ok (.iload_n 1, 1) := by decide +kernel
theorem dJ2_getChar_3b067_48 : decode cJ2_getChar_3b067 48 = .ok (.baload, 1) := by decide +kernel
theorem dJ2_getChar_3b067_49 : decode cJ2_getChar_3b067 49 = .ok (.sipush 255, 3) := by decide +kernel
theorem dJ2_getChar_3b067_52 : decode cJ2_getChar_3b067 52 = .ok (.iand, 1) := by decide +kernel
theorem dJ2_getChar_3b067_53 : decode cJ2_getChar_3b067 53 = .ok (.getstatic 63, 3) := by decide +kernel
theorem dJ2_getChar_3b067_56 : decode cJ2_getChar_3b067 56 = .ok (.ishl, 1) := by decide +kernel
theorem dJ2_getChar_3b067_57 : decode cJ2_getChar_3b067 57 = .ok (.ior, 1) := by decide +kernel
theorem dJ2_getChar_3b067_58 : decode cJ2_getChar_3b067 58 = .ok (.i2c, 1) := by decide +kernel
theorem dJ2_getChar_3b067_59 : decode cJ2_getChar_3b067 59 = .ok (.ireturn, 1) := by decide +kernel
theorem dJ2_length_9d52b_0 : decode cJ2_length_9d52b 0 = .ok (.aload_n 0, 1) := by decide +kernel
theorem dJ2_length_9d52b_1 : decode cJ2_length_9d52b 1 = .ok (.arraylength, 1) := by decide +kernel
theorem dJ2_length_9d52b_2 : decode cJ2_length_9d52b 2 = .ok (.iconst 1, 1) := by decide +kernel
theorem dJ2_length_9d52b_3 : decode cJ2_length_9d52b 3 = .ok (.ishr, 1) := by decide +kernel
theorem dJ2_length_9d52b_4 : decode cJ2_length_9d52b 4 = .ok (.ireturn, 1) := by decide +kernel
theorem dJ2_indexOf_4cfef_0 : decode cJ2_indexOf_4cfef 0 = .ok (.iload_n 2, 1) := by decide +kernel
theorem dJ2_indexOf_4cfef_1 : decode cJ2_indexOf_4cfef 1 = .ok (.iconst 0, 1) := by decide +kernel
theorem dJ2_indexOf_4cfef_2 : decode cJ2_indexOf_4cfef 2 = .ok (.invokestatic 224, 3) := by decide +kernel
theorem dJ2_indexOf_4cfef_5 : decode cJ2_indexOf_4cfef 5 = .ok (.istore_n 2, 1) := by decide +kernel
theorem dJ2_indexOf_4cfef_6 : decode cJ2_indexOf_4cfef 6 = .ok (.iload_n 3, 1) := by decide +kernel
theorem dJ2_indexOf_4cfef_7 : decode cJ2_indexOf_4cfef 7 = .ok (.aload_n 0, 1) := by decide +kernel
theorem dJ2_indexOf_4cfef_8 : decode cJ2_indexOf_4cfef 8 = .ok (.arraylength, 1) := by decide +kernel
theorem dJ2_indexOf_4cfef_9 : decode cJ2_indexOf_4cfef 9 = .ok (.iconst 1, 1) := by decide +kernel
theorem dJ2_indexOf_4cfef_10 : decode cJ2_indexOf_4cfef 10 = .ok (.ishr, 1) := by decide +kernel
theorem dJ2_indexOf_4cfef_11 : decode cJ2_indexOf_4cfef 11 = .ok (.invokestatic 183, 3) := by decide +kernel
theorem dJ2_indexOf_4cfef_14 : decode cJ2_indexOf_4cfef 14 = .ok (.istore_n 3, 1) := by decide +kernel
theorem dJ2_indexOf_4cfef_15 : decode cJ2_indexOf_4cfef 15 = .ok (.iload_n 2, 1) := by decide +kernel
theorem dJ2_indexOf_4cfef_16 : decode cJ2_indexOf_4cfef 16 = .ok (.iload_n 3, 1) := by decide +kernel
theorem dJ2_indexOf_4cfef_17 : decode cJ2_indexOf_4cfef 17 = .ok (.if_icmp .lt 5, 3) := by decide +kernel
theorem dJ2_indexOf_4cfef_20 : decode cJ2_indexOf_4cfef 20 = .ok (.iconst (-1), 1) := by decide +kernel
theorem dJ2_indexOf_4cfef_21 : decode cJ2_indexOf_4cfef 21 = .ok (.ireturn, 1) := by decide +kernel
theorem dJ2_indexOf_4cfef_22 : decode cJ2_indexOf_4cfef 22 = .ok (.iload_n 1, 1) := by decide +kernel
theorem dJ2_indexOf_4cfef_23 : decode cJ2_indexOf_4cfef 23 = .ok (.ldc 227, 2) := by decide +kernel
theorem dJ2_indexOf_4cfef_25 : decode cJ2_indexOf_4cfef 25 = .ok (.if_icmp .ge 11, 3) := by decide +kernel
theorem dJ2_indexOf_4cfef_28 : decode cJ2_indexOf_4cfef 28 = .ok (.aload_n 0, 1) := by decide +kernel
theorem dJ2_indexOf_4cfef_29 : decode cJ2_indexOf_4cfef 29 = .ok (.iload_n 1, 1) := by decide +kernel
theorem dJ2_indexOf_4cfef_30 : decode cJ2_indexOf_4cfef 30 = .ok (.iload_n 2, 1) := by decide +kernel
theorem dJ2_indexOf_4cfef_31 : decode cJ2_indexOf_4cfef 31 = .ok (.iload_n 3, 1) := by decide +kernel
theorem dJ2_indexOf_4cfef_32 : decode cJ2_indexOf_4cfef 32 = .ok (.invokestatic 228, 3) := by decide +kernel
theorem dJ2_indexOf_4cfef_35 : decode cJ2_indexOf_4cfef 35 = .ok (.ireturn, 1) := by decide +kernel
theorem dJ2_indexOf_4cfef_36 : decode cJ2_indexOf_4cfef 36 = .ok (.aload_n 0, 1) := by decide +kernel
theorem dJ2_indexOf_4cfef_37 : decode cJ2_indexOf_4cfef 37 = .ok (.iload_n 1, 1) := by decide +kernel
theorem dJ2_indexOf_4cfef_38 : decode cJ2_indexOf_4cfef 38 = .ok (.iload_n 2, 1) := by decide +kernel
theorem dJ2_indexOf_4cfef_39 : decode cJ2_indexOf_4cfef 39 = .ok (.iload_n 3, 1) := by decide +kernel
theorem dJ2_indexOf_4cfef_40 : decode cJ2_indexOf_4cfef 40 = .ok (.invokestatic 232, 3) := by decide +kernel
theorem dJ2_indexOf_4cfef_43 : decode cJ2_indexOf_4cfef 43 = .ok (.ireturn, 1) := by decide +kernel
theorem dJ2_indexOfChar_4cfef_0 : decode cJ2_indexOfChar_4cfef 0 = .ok (.iload_n 2, 1) := by decide +kernel
theorem dJ2_indexOfChar_4cfef_1 : decode cJ2_indexOfChar_4cfef 1 = .ok (.iload_n 3, 1) := by decide +kernel
theorem dJ2_indexOfChar_4cfef_2 : decode cJ2_indexOfChar_4cfef 2 = .ok (.aload_n 0, 1) := by decide +kernel
theorem dJ2_indexOfChar_4cfef_3 : decode cJ2_indexOfChar_4cfef 3 = .ok (.invokestatic 96, 3) := by decide +kernel
theorem dJ2_indexOfChar_4cfef_6 : decode cJ2_indexOfChar_4cfef 6 = .ok (.aload_n 0, 1) := by decide +kernel
theorem dJ2_indexOfChar_4cfef_7 : decode cJ2_indexOfChar_4cfef 7 = .ok (.iload_n 1, 1) := by decide +kernel
theorem dJ2_indexOfChar_4cfef_8 : decode cJ2_indexOfChar_4cfef 8 = .ok (.iload_n 2, 1) := by decide +kernel
theorem dJ2_indexOfChar_4cfef_9 : decode cJ2_indexOfChar_4cfef 9 = .ok (.iload_n 3, 1) := by decide +kernel
theorem dJ2_indexOfChar_4cfef_10 : decode cJ2_indexOfChar_4cfef 10 = .ok (.invokestatic 244, 3) := by decide +kernel
theorem dJ2_indexOfChar_4cfef_13 : decode cJ2_indexOfChar_4cfef 13 = .ok (.ireturn, 1) := by decide +kernel
theorem dJ2_indexOfCharUnsafe_4cfef_0 : decode cJ2_indexOfCharUnsafe_4cfef 0 = .ok (.iload_n 2, 1) := by decide +kernel
theorem dJ2_indexOfCharUnsafe_4cfef_1 : decode cJ2_indexOfCharUnsafe_4cfef 1 = .ok (.istore 4, 2) := by decide +kernel
theorem dJ2_indexOfCharUnsafe_4cfef_3 : decode cJ2_indexOfCharUnsafe_4cfef 3 = .ok (.iload 4, 2) := by decide +kernel
theorem dJ2_indexOfCharUnsafe_4cfef_5 : decode cJ2_indexOfCharUnsafe_4cfef 5 = .ok (.iload_n 3, 1) := by decide +kernel
theorem dJ2_indexOfCharUnsafe_4cfef_6 : decode cJ2_indexOfCharUnsafe_4cfef 6 = .ok (.if_icmp .ge 22, 3) := by decide +kernel
theorem dJ2_indexOfCharUnsafe_4cfef_9 : decode cJ2_indexOfCharUnsafe_4cfef 9 = .ok (.aload_n 0, 1) := by decide +kernel
theorem dJ2_indexOfCharUnsafe_4cfef_10 : decode cJ2_indexOfCharUnsafe_4cfef 10 = .ok (.iload 4, 2) := by decide +kernel
theorem dJ2_indexOfCharUnsafe_4cfef_12 : decode cJ2_indexOfCharUnsafe_4cfef 12 = .ok (.invokestatic 71, 3) := by decide +kernel
theorem dJ2_indexOfCharUnsafe_4cfef_15 : decode cJ2_indexOfCharUnsafe_4cfef 15 = .ok (.iload_n 1, 1) := by decide +kernel
theorem dJ2_indexOfCharUnsafe_4cfef_16 : decode cJ2_indexOfCharUnsafe_4cfef 16 = .ok (.if_icmp .ne 6, 3) := by decide +kernel
theorem dJ2_indexOfCharUnsafe_4cfef_19 : decode cJ2_indexOfCharUnsafe_4cfef 19 = .ok (.iload 4, 2) := by decide +kernel
theorem dJ2_indexOfCharUnsafe_4cfef_21 : decode cJ2_indexOfCharUnsafe_4cfef 21 = .ok (.ireturn, 1) := by decide +kernel
theorem dJ2_indexOfCharUnsafe_4cfef_22 : decode cJ2_indexOfCharUnsafe_4cfef 22 = .ok (.iinc 4 1, 3) := by decide +kernel
theorem dJ2_indexOfCharUnsafe_4cfef_25 : decode cJ2_indexOfCharUnsafe_4cfef 25 = .ok (.goto (-22), 3) := by decide +kernel
theorem dJ2_indexOfCharUnsafe_4cfef_28 : decode cJ2_indexOfCharUnsafe_4cfef 28 = .ok (.iconst (-1), 1) := by decide +kernel
theorem dJ2_indexOfCharUnsafe_4cfef_29 : decode cJ2_indexOfCharUnsafe_4cfef 29 = .ok (.ireturn, 1) := by decide +kernel
theorem dJ2_indexOfSupplementary_4cfef_0 : decode cJ2_indexOfSupplementary_4cfef 0 = .ok (.iload_n 1, 1) := by decide +kernel
theorem dJ2_indexOfSupplementary_4cfef_1 : decode cJ2_indexOfSupplementary_4cfef 1 = .ok (.invokestatic 164, 3) := by decide +kernel
theorem dJ2_indexOfSupplementary_4cfef_4 : decode cJ2_indexOfSupplementary_4cfef 4 = .ok (.ifCond .eq 65, 3) := by decide +kernel
theorem dJ2_indexOfSupplementary_4cfef_7 : decode cJ2_indexOfSupplementary_4cfef 7 = .ok (.iload_n 1, 1) := by decide +kernel
theorem dJ2_indexOfSupplementary_4cfef_8 : decode cJ2_indexOfSupplementary_4cfef 8 = .ok (.invokestatic 157, 3) := by decide +kernel
theorem dJ2_indexOfSupplementary_4cfef_11 : decode cJ2_indexOfSupplementary_4cfef 11 = .ok (.istore 4, 2) := by decide +kernel
theorem dJ2_indexOfSupplementary_4cfef_13 : decode cJ2_indexOfSupplementary_4cfef 13 = .ok (.iload_n 1, 1) := by decide +kernel
theorem dJ2_indexOfSupplementary_4cfef_14 : decode cJ2_indexOfSupplementary_4cfef 14 = .ok (.invokestatic 161, 3) := by decide +kernel
theorem dJ2_indexOfSupplementary_4cfef_17 : decode cJ2_indexOfSupplementary_4cfef 17 = .ok (.istore 5, 2) := by decide +kernel
theorem dJ2_indexOfSupplementary_4cfef_19 : decode cJ2_indexOfSupplementary_4cfef 19 = .ok (.iload_n 2, 1) := by decide +kernel
theorem dJ2_indexOfSupplementary_4cfef_20 : decode cJ2_indexOfSupplementary_4cfef 20 = .ok (.iload_n 3, 1) := by decide +kernel
theorem dJ2_indexOfSupplementary_4cfef_21 : decode cJ2_indexOfSupplementary_4cfef 21 = .ok (.aload_n 0, 1) := by decide +kernel
theorem dJ2_indexOfSupplementary_4cfef_22 : decode cJ2_indexOfSupplementary_4cfef 22 = .ok (.invokestatic 96, 3) := by decide +kernel
theorem dJ2_indexOfSupplementary_4cfef_25 : decode cJ2_indexOfSupplementary_4cfef 25 = .ok (.iload_n 2, 1) := by decide +kernel
theorem dJ2_indexOfSupplementary_4cfef_26 : decode cJ2_indexOfSupplementary_4cfef 26 = .ok (.istore 6, 2) := by decide +kernel
theorem dJ2_indexOfSupplementary_4cfef_28 : decode cJ2_indexOfSupplementary_4cfef 28 = .ok (.iload 6, 2) := by decide +kernel
theorem dJ2_indexOfSupplementary_4cfef_30 : decode cJ2_indexOfSupplementary_4cfef 30 = .ok (.iload_n 3, 1) := by decide +kernel
theorem dJ2_indexOfSupplementary_4cfef_31 : decode cJ2_indexOfSupplementary_4cfef 31 = .ok (.iconst 1, 1) := by decide +kernel
theorem dJ2_indexOfSupplementary_4cfef_32 : decode cJ2_indexOfSupplementary_4cfef 32 = .ok (.isub, 1) := by decide +kernel
theorem dJ2_indexOfSupplementary_4cfef_33 : decode cJ2_indexOfSupplementary_4cfef 33 = .ok (.if_icmp .ge 36, 3) := by decide +kernel
theorem dJ2_indexOfSupplementary_4cfef_36 : decode cJ2_indexOfSupplementary_4cfef 36 = .ok (.aload_n 0, 1) := by decide +kernel
theorem dJ2_indexOfSupplementary_4cfef_37 : decode cJ2_indexOfSupplementary_4cfef 37 = .ok (.iload 6, 2) := by decide +kernel
theorem dJ2_indexOfSupplementary_4cfef_39 : decode cJ2_indexOfSupplementary_4cfef 39 = .ok (.invokestatic 71, 3) := by decide +kernel
theorem dJ2_indexOfSupplementary_4cfef_42 : decode cJ2_indexOfSupplementary_4cfef 42 = .ok (.iload 4, 2) := by decide +kernel
theorem dJ2_indexOfSupplementary_4cfef_44 : decode cJ2_indexOfSupplementary_4cfef 44 = .ok (.if_icmp .ne 19, 3) := by decide +kernel
theorem dJ2_indexOfSupplementary_4cfef_47 : decode cJ2_indexOfSupplementary_4cfef 47 = .ok (.aload_n 0, 1) := by decide +kernel
theorem dJ2_indexOfSupplementary_4cfef_48 : decode cJ2_indexOfSupplementary_4cfef 48 = .ok (.iload 6, 2) := by decide +kernel
theorem dJ2_indexOfSupplementary_4cfef_50 : decode cJ2_indexOfSupplementary_4cfef 50 = .ok (.iconst 1, 1) := by decide +kernel
theorem dJ2_indexOfSupplementary_4cfef_51 : decode cJ2_indexOfSupplementary_4cfef 51 = .ok (.iadd, 1) := by decide +kernel
theorem dJ2_indexOfSupplementary_4cfef_52 : decode cJ2_indexOfSupplementary_4cfef 52 = .ok (.invokestatic 71, 3) := by decide +kernel
theorem dJ2_indexOfSupplementary_4cfef_55 : decode cJ2_indexOfSupplementary_4cfef 55 = .ok (.iload 5, 2) := by decide +kernel
theorem dJ2_indexOfSupplementary_4cfef_57 : decode cJ2_indexOfSupplementary_4cfef 57 = .ok (.if_icmp .ne 6, 3) := by decide +kernel
theorem dJ2_indexOfSupplementary_4cfef_60 : decode cJ2_indexOfSupplementary_4cfef 60 = .ok (.iload 6, 2) := by decide +kernel
theorem dJ2_indexOfSupplementary_4cfef_62 : decode cJ2_indexOfSupplementary_4cfef 62 = .ok (.ireturn, 1) := by decide +kernel
theorem dJ2_indexOfSupplementary_4cfef_63 : decode cJ2_indexOfSupplementary_4cfef 63 = .ok (.iinc 6 1, 3) := by decide +kernel
theorem dJ2_indexOfSupplementary_4cfef_66 : decode cJ2_indexOfSupplementary_4cfef 66 = .ok (.goto (-38), 3) := by decide +kernel
theorem dJ2_indexOfSupplementary_4cfef_69 : decode cJ2_indexOfSupplementary_4cfef 69 = .ok (.iconst (-1), 1) := by decide +kernel
theorem dJ2_indexOfSupplementary_4cfef_70 : decode cJ2_indexOfSupplementary_4cfef 70 = .ok (.ireturn, 1) := by decide +kernel
theorem dJ2_charAt_3b067_0 : decode cJ2_charAt_3b067 0 = .ok (.iload_n 1, 1) := by decide +kernel
theorem dJ2_charAt_3b067_1 : decode cJ2_charAt_3b067 1 = .ok (.aload_n 0, 1) := by decide +kernel
theorem dJ2_charAt_3b067_2 : decode cJ2_charAt_3b067 2 = .ok (.invokestatic 67, 3) := by decide +kernel
theorem dJ2_charAt_3b067_5 : decode cJ2_charAt_3b067 5 = .ok (.aload_n 0, 1) := by decide +kernel
theorem dJ2_charAt_3b067_6 : decode cJ2_charAt_3b067 6 = .ok (.iload_n 1, 1) := by decide +kernel
theorem dJ2_charAt_3b067_7 : decode cJ2_charAt_3b067 7 = .ok (.invokestatic 71, 3) := by decide +kernel
theorem dJ2_charAt_3b067_10 : decode cJ2_charAt_3b067 10 = .ok (.ireturn, 1) := by decide +kernel
theorem dJ2_checkIndex_2214a_0 : decode cJ2_checkIndex_2214a 0 = .ok (.iload_n 0, 1) := by decide +kernel
theorem dJ2_checkIndex_2214a_1 : decode cJ2_checkIndex_2214a 1 = .ok (.aload_n 1, 1) := by decide +kernel
theorem dJ2_checkIndex_2214a_2 : decode cJ2_checkIndex_2214a 2 = .ok (.invokestatic 48, 3) := by decide +kernel
theorem dJ2_checkIndex_2214a_5 : decode cJ2_checkIndex_2214a 5 = .ok (.invokestatic 414, 3) := by decide +kernel
theorem dJ2_checkIndex_2214a_8 : decode cJ2_checkIndex_2214a 8 = .ok (.return_, 1) := by decide +kernel
theorem dJ2_checkBoundsBeginEnd_d044e_0 : decode cJ2_checkBoundsBeginEnd_d044e 0 = .ok (.iload_n 0, 1) := by decide +kernel
theorem dJ2_checkBoundsBeginEnd_d044e_1 : decode cJ2_checkBoundsBeginEnd_d044e 1 = .ok (.iload_n 1, 1) := by decide +kernel
theorem dJ2_checkBoundsBeginEnd_d044e_2 : decode cJ2_checkBoundsBeginEnd_d044e 2 = .ok (.aload_n 2, 1) := by decide +kernel
theorem dJ2_checkBoundsBeginEnd_d044e_3 : decode cJ2_checkBoundsBeginEnd_d044e 3 = .ok (.invokestatic 48, 3) := by decide +kernel
theorem dJ2_checkBoundsBeginEnd_d044e_6 : decode cJ2_checkBoundsBeginEnd_d044e 6 = .ok (.invokestatic 241, 3) := by decide +kernel
theorem dJ2_checkBoundsBeginEnd_d044e_9 : decode cJ2_checkBoundsBeginEnd_d044e 9 = .ok (.return_, 1) := by decide +kernel
theorem dJ3_checkIndex_8e157_0 : decode cJ3_checkIndex_8e157 0 = .ok (.iload_n 0, 1) := by decide +kernel
theorem dJ3_checkIndex_8e157_1 : decode cJ3_checkIndex_8e157 1 = .ok (.ifCond .lt 8, 3) := by decide +kernel
theorem dJ3_checkIndex_8e157_4 : decode cJ3_checkIndex_8e157 4 = .ok (.iload_n 0, 1) := by decide +kernel
theorem dJ3_checkIndex_8e157_5 : decode cJ3_checkIndex_8e157 5 = .ok (.iload_n 1, 1) := by decide +kernel
theorem dJ3_checkIndex_8e157_6 : decode cJ3_checkIndex_8e157 6 = .ok (.if_icmp .lt 10, 3) := by decide +kernel
theorem dJ3_checkIndex_8e157_9 : decode cJ3_checkIndex_8e157 9 = .ok (.aload_n 2, 1) := by decide +kernel
theorem dJ3_checkIndex_8e157_10 : decode cJ3_checkIndex_8e157 10 = .ok (.iload_n 0, 1) := by decide +kernel
theorem dJ3_checkIndex_8e157_11 : decode cJ3_checkIndex_8e157 11 = .ok (.iload_n 1, 1) := by decide +kernel
theorem dJ3_checkIndex_8e157_12 : decode cJ3_checkIndex_8e157 12 = .ok (.invokestatic 95, 3) := by decide +kernel
theorem dJ3_checkIndex_8e157_15 : decode cJ3_checkIndex_8e157 15 = .ok (.athrow, 1) := by decide +kernel
theorem dJ3_checkIndex_8e157_16 : decode cJ3_checkIndex_8e157 16 = .ok (.iload_n 0, 1) := by decide +kernel
theorem dJ3_checkIndex_8e157_17 : decode cJ3_checkIndex_8e157 17 = .ok (.ireturn, 1) := by decide +kernel
theorem dJ3_checkFromToIndex_8c36e_0 : decode cJ3_checkFromToIndex_8c36e 0 = .ok (.iload_n 0, 1) := by decide +kernel
theorem dJ3_checkFromToIndex_8c36e_1 : decode cJ3_checkFromToIndex_8c36e 1 = .ok (.ifCond .lt 13, 3) := by decide +kernel
theorem dJ3_checkFromToIndex_8c36e_4 : decode cJ3_checkFromToIndex_8c36e 4 = .ok (.iload_n 0, 1) := by decide +kernel
theorem dJ3_checkFromToIndex_8c36e_5 : decode cJ3_checkFromToIndex_8c36e 5 = .ok (.iload_n 1, 1) := by decide +kernel
theorem dJ3_checkFromToIndex_8c36e_6 : decode cJ3_checkFromToIndex_8c36e 6 = .ok (.if_icmp .gt 8, 3) := by decide +kernel
theorem dJ3_checkFromToIndex_8c36e_9 : decode cJ3_checkFromToIndex_8c36e 9 = .ok (.iload_n 1, 1) := by decide +kernel
theorem dJ3_checkFromToIndex_8c36e_10 : decode cJ3_checkFromToIndex_8c36e 10 = .ok (.iload_n 2, 1) := by decide +kernel
theorem dJ3_checkFromToIndex_8c36e_11 : decode cJ3_checkFromToIndex_8c36e 11 = .ok (.if_icmp .le 11, 3) := by decide +kernel
theorem dJ3_checkFromToIndex_8c36e_14 : decode cJ3_checkFromToIndex_8c36e 14 = .ok (.aload_n 3, 1) := by decide +kernel
theorem dJ3_checkFromToIndex_8c36e_15 : decode cJ3_checkFromToIndex_8c36e 15 = .ok (.iload_n 0, 1) := by decide +kernel
theorem dJ3_checkFromToIndex_8c36e_16 : decode cJ3_checkFromToIndex_8c36e 16 = .ok (.iload_n 1, 1) := by decide +kernel
theorem dJ3_checkFromToIndex_8c36e_17 : decode cJ3_checkFromToIndex_8c36e 17 = .ok (.iload_n 2, 1) := by decide +kernel
theorem dJ3_checkFromToIndex_8c36e_18 : decode cJ3_checkFromToIndex_8c36e 18 = .ok (.invokestatic 99, 3) := by decide +kernel
theorem dJ3_checkFromToIndex_8c36e_21 : decode cJ3_checkFromToIndex_8c36e 21 = .ok (.athrow, 1) := by decide +kernel
theorem dJ3_checkFromToIndex_8c36e_22 : decode cJ3_checkFromToIndex_8c36e 22 = .ok (.iload_n 0, 1) := by decide +kernel
theorem dJ3_checkFromToIndex_8c36e_23 : decode cJ3_checkFromToIndex_8c36e 23 = .ok (.ireturn, 1) := by decide +kernel
theorem dL_sky_0 : decode cL_sky 0 = .ok (.aload_n 2, 1) := by decide +kernel
theorem dL_sky_1 : decode cL_sky 1 = .ok (.iconst 0, 1) := by decide +kernel
theorem dL_sky_2 : decode cL_sky 2 = .ok (.aload_n 0, 1) := by decide +kernel
theorem dL_sky_3 : decode cL_sky 3 = .ok (.iload_n 1, 1) := by decide +kernel
theorem dL_sky_4 : decode cL_sky 4 = .ok (.invokevirtual 7, 3) := by decide +kernel
theorem dL_sky_7 : decode cL_sky 7 = .ok (.i2l, 1) := by decide +kernel
theorem dL_sky_8 : decode cL_sky 8 = .ok (.lastore, 1) := by decide +kernel
theorem dL_sky_9 : decode cL_sky 9 = .ok (.goto 6, 3) := by decide +kernel
theorem dL_sky_12 : decode cL_sky 12 = .ok (.astore_n 3, 1) := by decide +kernel
theorem dL_sky_13 : decode cL_sky 13 = .ok (.iconst 1, 1) := by decide +kernel
theorem dL_sky_14 : decode cL_sky 14 = .ok (.ireturn, 1) := by decide +kernel
theorem dL_sky_15 : decode cL_sky 15 = .ok (.iconst 0, 1) := by decide +kernel
theorem dL_sky_16 : decode cL_sky 16 = .ok (.ireturn, 1) := by decide +kernel
theorem dL_count_0 : decode cL_count 0 = .ok (.aload_n 2, 1) := by decide +kernel
theorem dL_count_1 : decode cL_count 1 = .ok (.iconst 0, 1) := by decide +kernel
theorem dL_count_2 : decode cL_count 2 = .ok (.aload_n 0, 1) := by decide +kernel
theorem dL_count_3 : decode cL_count 3 = .ok (.iload_n 1, 1) := by decide +kernel
theorem dL_count_4 : decode cL_count 4 = .ok (.invokevirtual 15, 3) := by decide +kernel
theorem dL_count_7 : decode cL_count 7 = .ok (.i2l, 1) := by decide +kernel
theorem dL_count_8 : decode cL_count 8 = .ok (.lastore, 1) := by decide +kernel
theorem dL_count_9 : decode cL_count 9 = .ok (.goto 6, 3) := by decide +kernel
theorem dL_count_12 : decode cL_count 12 = .ok (.astore_n 3, 1) := by decide +kernel
theorem dL_count_13 : decode cL_count 13 = .ok (.iconst 1, 1) := by decide +kernel
theorem dL_count_14 : decode cL_count 14 = .ok (.ireturn, 1) := by decide +kernel
theorem dL_count_15 : decode cL_count 15 = .ok (.iconst 0, 1) := by decide +kernel
theorem dL_count_16 : decode cL_count 16 = .ok (.ireturn, 1) := by decide +kernel
theorem dL_isle_0 : decode cL_isle 0 = .ok (.aload_n 3, 1) := by decide +kernel
theorem dL_isle_1 : decode cL_isle 1 = .ok (.iconst 0, 1) := by decide +kernel
theorem dL_isle_2 : decode cL_isle 2 = .ok (.aload_n 0, 1) := by decide +kernel
theorem dL_isle_3 : decode cL_isle 3 = .ok (.iload_n 1, 1) := by decide +kernel
theorem dL_isle_4 : decode cL_isle 4 = .ok (.iload_n 2, 1) := by decide +kernel
theorem dL_isle_5 : decode cL_isle 5 = .ok (.invokevirtual 20, 3) := by decide +kernel
theorem dL_isle_8 : decode cL_isle 8 = .ok (.i2l, 1) := by decide +kernel
theorem dL_isle_9 : decode cL_isle 9 = .ok (.lastore, 1) := by decide +kernel
theorem dL_isle_10 : decode cL_isle 10 = .ok (.goto 7, 3) := by decide +kernel
theorem dL_isle_13 : decode cL_isle 13 = .ok (.astore 4, 2) := by decide +kernel
theorem dL_isle_15 : decode cL_isle 15 = .ok (.iconst 1, 1) := by decide +kernel
theorem dL_isle_16 : decode cL_isle 16 = .ok (.ireturn, 1) := by decide +kernel
theorem dL_isle_17 : decode cL_isle 17 = .ok (.iconst 0, 1) := by decide +kernel
theorem dL_isle_18 : decode cL_isle 18 = .ok (.ireturn, 1) := by decide +kernel
theorem dL_wind_0 : decode cL_wind 0 = .ok (.aload_n 3, 1) := by decide +kernel
theorem dL_wind_1 : decode cL_wind 1 = .ok (.iconst 0, 1) := by decide +kernel
theorem dL_wind_2 : decode cL_wind 2 = .ok (.aload_n 0, 1) := by decide +kernel
theorem dL_wind_3 : decode cL_wind 3 = .ok (.iload_n 1, 1) := by decide +kernel
theorem dL_wind_4 : decode cL_wind 4 = .ok (.iload_n 2, 1) := by decide +kernel
theorem dL_wind_5 : decode cL_wind 5 = .ok (.invokevirtual 24, 3) := by decide +kernel
theorem dL_wind_8 : decode cL_wind 8 = .ok (.i2l, 1) := by decide +kernel
theorem dL_wind_9 : decode cL_wind 9 = .ok (.lastore, 1) := by decide +kernel
theorem dL_wind_10 : decode cL_wind 10 = .ok (.goto 7, 3) := by decide +kernel
theorem dL_wind_13 : decode cL_wind 13 = .ok (.astore 4, 2) := by decide +kernel
theorem dL_wind_15 : decode cL_wind 15 = .ok (.iconst 1, 1) := by decide +kernel
theorem dL_wind_16 : decode cL_wind 16 = .ok (.ireturn, 1) := by decide +kernel
theorem dL_wind_17 : decode cL_wind 17 = .ok (.iconst 0, 1) := by decide +kernel
theorem dL_wind_18 : decode cL_wind 18 = .ok (.ireturn, 1) := by decide +kernel
theorem dL_where_0 : decode cL_where 0 = .ok (.aload 4, 2) := by decide +kernel
theorem dL_where_2 : decode cL_where 2 = .ok (.iconst 0, 1) := by decide +kernel
theorem dL_where_3 : decode cL_where 3 = .ok (.aload_n 0, 1) := by decide +kernel
theorem dL_where_4 : decode cL_where 4 = .ok (.iload_n 1, 1) := by decide +kernel
theorem dL_where_5 : decode cL_where 5 = .ok (.iload_n 2, 1) := by decide +kernel
theorem dL_where_6 : decode cL_where 6 = .ok (.iload_n 3, 1) := by decide +kernel
theorem dL_where_7 : decode cL_where 7 = .ok (.invokevirtual 27, 3) := by decide +kernel
theorem dL_where_10 : decode cL_where 10 = .ok (.i2l, 1) := by decide +kernel
theorem dL_where_11 : decode cL_where 11 = .ok (.lastore, 1) := by decide +kernel
theorem dL_where_12 : decode cL_where 12 = .ok (.goto 7, 3) := by decide +kernel
theorem dL_where_15 : decode cL_where 15 = .ok (.astore 5, 2) := by decide +kernel
theorem dL_where_17 : decode cL_where 17 = .ok (.iconst 1, 1) := by decide +kernel
theorem dL_where_18 : decode cL_where 18 = .ok (.ireturn, 1) := by decide +kernel
theorem dL_where_19 : decode cL_where 19 = .ok (.iconst 0, 1) := by decide +kernel
theorem dL_where_20 : decode cL_where 20 = .ok (.ireturn, 1) := by decide +kernel
theorem dL_between_0 : decode cL_between 0 = .ok (.aload 5, 2) := by decide +kernel
theorem dL_between_2 : decode cL_between 2 = .ok (.iconst 0, 1) := by decide +kernel
theorem dL_between_3 : decode cL_between 3 = .ok (.aload_n 0, 1) := by decide +kernel
theorem dL_between_4 : decode cL_between 4 = .ok (.iload_n 1, 1) := by decide +kernel
theorem dL_between_5 : decode cL_between 5 = .ok (.iload_n 2, 1) := by decide +kernel
theorem dL_between_6 : decode cL_between 6 = .ok (.iload_n 3, 1) := by decide +kernel
theorem dL_between_7 : decode cL_between 7 = .ok (.iload 4, 2) := by decide +kernel
theorem dL_between_9 : decode cL_between 9 = .ok (.invokevirtual 31, 3) := by decide +kernel
theorem dL_between_12 : decode cL_between 12 = .ok (.ifCond .eq 7, 3) := by decide +kernel
theorem dL_between_15 : decode cL_between 15 = .ok (.lconst 1, 1) := by decide +kernel
theorem dL_between_16 : decode cL_between 16 = .ok (.goto 4, 3) := by decide +kernel
theorem dL_between_19 : decode cL_between 19 = .ok (.lconst 0, 1) := by decide +kernel
theorem dL_between_20 : decode cL_between 20 = .ok (.lastore, 1) := by decide +kernel
theorem dL_between_21 : decode cL_between 21 = .ok (.goto 11, 3) := by decide +kernel
theorem dL_between_24 : decode cL_between 24 = .ok (.astore 6, 2) := by decide +kernel
theorem dL_between_26 : decode cL_between 26 = .ok (.iconst 1, 1) := by decide +kernel
theorem dL_between_27 : decode cL_between 27 = .ok (.ireturn, 1) := by decide +kernel
theorem dL_between_28 : decode cL_between 28 = .ok (.astore 6, 2) := by decide +kernel
theorem dL_between_30 : decode cL_between 30 = .ok (.iconst 2, 1) := by decide +kernel
theorem dL_between_31 : decode cL_between 31 = .ok (.ireturn, 1) := by decide +kernel
theorem dL_between_32 : decode cL_between 32 = .ok (.iconst 0, 1) := by decide +kernel
theorem dL_between_33 : decode cL_between 33 = .ok (.ireturn, 1) := by decide +kernel
theorem dL_rain_0 : decode cL_rain 0 = .ok (.aload_n 3, 1) := by decide +kernel
theorem dL_rain_1 : decode cL_rain 1 = .ok (.iconst 0, 1) := by decide +kernel
theorem dL_rain_2 : decode cL_rain 2 = .ok (.aload_n 0, 1) := by decide +kernel
theorem dL_rain_3 : decode cL_rain 3 = .ok (.iload_n 1, 1) := by decide +kernel
theorem dL_rain_4 : decode cL_rain 4 = .ok (.iload_n 2, 1) := by decide +kernel
theorem dL_rain_5 : decode cL_rain 5 = .ok (.invokevirtual 35, 3) := by decide +kernel
theorem dL_rain_8 : decode cL_rain 8 = .ok (.i2l, 1) := by decide +kernel
theorem dL_rain_9 : decode cL_rain 9 = .ok (.lastore, 1) := by decide +kernel
theorem dL_rain_10 : decode cL_rain 10 = .ok (.goto 7, 3) := by decide +kernel
theorem dL_rain_13 : decode cL_rain 13 = .ok (.astore 4, 2) := by decide +kernel
theorem dL_rain_15 : decode cL_rain 15 = .ok (.iconst 1, 1) := by decide +kernel
theorem dL_rain_16 : decode cL_rain 16 = .ok (.ireturn, 1) := by decide +kernel
theorem dL_rain_17 : decode cL_rain 17 = .ok (.iconst 0, 1) := by decide +kernel
theorem dL_rain_18 : decode cL_rain 18 = .ok (.ireturn, 1) := by decide +kernel
theorem dL_winch_0 : decode cL_winch 0 = .ok (.aload_n 3, 1) := by decide +kernel
theorem dL_winch_1 : decode cL_winch 1 = .ok (.iconst 0, 1) := by decide +kernel
theorem dL_winch_2 : decode cL_winch 2 = .ok (.aload_n 0, 1) := by decide +kernel
theorem dL_winch_3 : decode cL_winch 3 = .ok (.iload_n 1, 1) := by decide +kernel
theorem dL_winch_4 : decode cL_winch 4 = .ok (.iload_n 2, 1) := by decide +kernel
theorem dL_winch_5 : decode cL_winch 5 = .ok (.invokevirtual 38, 3) := by decide +kernel
theorem dL_winch_8 : decode cL_winch 8 = .ok (.i2l, 1) := by decide +kernel
theorem dL_winch_9 : decode cL_winch 9 = .ok (.lastore, 1) := by decide +kernel
theorem dL_winch_10 : decode cL_winch 10 = .ok (.goto 7, 3) := by decide +kernel
theorem dL_winch_13 : decode cL_winch 13 = .ok (.astore 4, 2) := by decide +kernel
theorem dL_winch_15 : decode cL_winch 15 = .ok (.iconst 1, 1) := by decide +kernel
theorem dL_winch_16 : decode cL_winch 16 = .ok (.ireturn, 1) := by decide +kernel
theorem dL_winch_17 : decode cL_winch 17 = .ok (.iconst 0, 1) := by decide +kernel
theorem dL_winch_18 : decode cL_winch 18 = .ok (.ireturn, 1) := by decide +kernel
theorem dL_knot_0 : decode cL_knot 0 = .ok (.aload_n 3, 1) := by decide +kernel
theorem dL_knot_1 : decode cL_knot 1 = .ok (.iconst 0, 1) := by decide +kernel
theorem dL_knot_2 : decode cL_knot 2 = .ok (.aload_n 0, 1) := by decide +kernel
theorem dL_knot_3 : decode cL_knot 3 = .ok (.iload_n 1, 1) := by decide +kernel
theorem dL_knot_4 : decode cL_knot 4 = .ok (.iload_n 2, 1) := by decide +kernel
theorem dL_knot_5 : decode cL_knot 5 = .ok (.invokevirtual 41, 3) := by decide +kernel
theorem dL_knot_8 : decode cL_knot 8 = .ok (.i2l, 1) := by decide +kernel
theorem dL_knot_9 : decode cL_knot 9 = .ok (.lastore, 1) := by decide +kernel
theorem dL_knot_10 : decode cL_knot 10 = .ok (.goto 7, 3) := by decide +kernel
theorem dL_knot_13 : decode cL_knot 13 = .ok (.astore 4, 2) := by decide +kernel
theorem dL_knot_15 : decode cL_knot 15 = .ok (.iconst 1, 1) := by decide +kernel
theorem dL_knot_16 : decode cL_knot 16 = .ok (.ireturn, 1) := by decide +kernel
theorem dL_knot_17 : decode cL_knot 17 = .ok (.iconst 0, 1) := by decide +kernel
theorem dL_knot_18 : decode cL_knot 18 = .ok (.ireturn, 1) := by decide +kernel
theorem dL_load_0 : decode cL_load 0 = .ok (.aload_n 3, 1) := by decide +kernel
theorem dL_load_1 : decode cL_load 1 = .ok (.iconst 0, 1) := by decide +kernel
theorem dL_load_2 : decode cL_load 2 = .ok (.aload_n 0, 1) := by decide +kernel
theorem dL_load_3 : decode cL_load 3 = .ok (.iload_n 1, 1) := by decide +kernel
theorem dL_load_4 : decode cL_load 4 = .ok (.iload_n 2, 1) := by decide +kernel
theorem dL_load_5 : decode cL_load 5 = .ok (.invokevirtual 45, 3) := by decide +kernel
theorem dL_load_8 : decode cL_load 8 = .ok (.i2l, 1) := by decide +kernel
theorem dL_load_9 : decode cL_load 9 = .ok (.lastore, 1) := by decide +kernel
theorem dL_load_10 : decode cL_load 10 = .ok (.goto 7, 3) := by decide +kernel
theorem dL_load_13 : decode cL_load 13 = .ok (.astore 4, 2) := by decide +kernel
theorem dL_load_15 : decode cL_load 15 = .ok (.iconst 1, 1) := by decide +kernel
theorem dL_load_16 : decode cL_load 16 = .ok (.ireturn, 1) := by decide +kernel
theorem dL_load_17 : decode cL_load 17 = .ok (.iconst 0, 1) := by decide +kernel
theorem dL_load_18 : decode cL_load 18 = .ok (.ireturn, 1) := by decide +kernel
theorem dL_goat_0 : decode cL_goat 0 = .ok (.aload 4, 2) := by decide +kernel
theorem dL_goat_2 : decode cL_goat 2 = .ok (.iconst 0, 1) := by decide +kernel
theorem dL_goat_3 : decode cL_goat 3 = .ok (.aload_n 0, 1) := by decide +kernel
theorem dL_goat_4 : decode cL_goat 4 = .ok (.iload_n 1, 1) := by decide +kernel
theorem dL_goat_5 : decode cL_goat 5 = .ok (.iload_n 2, 1) := by decide +kernel
theorem dL_goat_6 : decode cL_goat 6 = .ok (.iload_n 3, 1) := by decide +kernel
theorem dL_goat_7 : decode cL_goat 7 = .ok (.invokevirtual 48, 3) := by decide +kernel
theorem dL_goat_10 : decode cL_goat 10 = .ok (.ifCond .eq 7, 3) := by decide +kernel
theorem dL_goat_13 : decode cL_goat 13 = .ok (.lconst 1, 1) := by decide +kernel
theorem dL_goat_14 : decode cL_goat 14 = .ok (.goto 4, 3) := by decide +kernel
theorem dL_goat_17 : decode cL_goat 17 = .ok (.lconst 0, 1) := by decide +kernel
theorem dL_goat_18 : decode cL_goat 18 = .ok (.lastore, 1) := by decide +kernel
theorem dL_goat_19 : decode cL_goat 19 = .ok (.goto 7, 3) := by decide +kernel
theorem dL_goat_22 : decode cL_goat 22 = .ok (.astore 5, 2) := by decide +kernel
theorem dL_goat_24 : decode cL_goat 24 = .ok (.iconst 1, 1) := by decide +kernel
theorem dL_goat_25 : decode cL_goat 25 = .ok (.ireturn, 1) := by decide +kernel
theorem dL_goat_26 : decode cL_goat 26 = .ok (.iconst 0, 1) := by decide +kernel
theorem dL_goat_27 : decode cL_goat 27 = .ok (.ireturn, 1) := by decide +kernel
theorem dL_walk_0 : decode cL_walk 0 = .ok (.aload 5, 2) := by decide +kernel
theorem dL_walk_2 : decode cL_walk 2 = .ok (.iconst 0, 1) := by decide +kernel
theorem dL_walk_3 : decode cL_walk 3 = .ok (.aload_n 0, 1) := by decide +kernel
theorem dL_walk_4 : decode cL_walk 4 = .ok (.iload_n 1, 1) := by decide +kernel
theorem dL_walk_5 : decode cL_walk 5 = .ok (.iload_n 2, 1) := by decide +kernel
theorem dL_walk_6 : decode cL_walk 6 = .ok (.iload_n 3, 1) := by decide +kernel
theorem dL_walk_7 : decode cL_walk 7 = .ok (.iload 4, 2) := by decide +kernel
theorem dL_walk_9 : decode cL_walk 9 = .ok (.invokevirtual 52, 3) := by decide +kernel
theorem dL_walk_12 : decode cL_walk 12 = .ok (.i2l, 1) := by decide +kernel
theorem dL_walk_13 : decode cL_walk 13 = .ok (.lastore, 1) := by decide +kernel
theorem dL_walk_14 : decode cL_walk 14 = .ok (.goto 7, 3) := by decide +kernel
theorem dL_walk_17 : decode cL_walk 17 = .ok (.astore 6, 2) := by decide +kernel
theorem dL_walk_19 : decode cL_walk 19 = .ok (.iconst 1, 1) := by decide +kernel
theorem dL_walk_20 : decode cL_walk 20 = .ok (.ireturn, 1) := by decide +kernel
theorem dL_walk_21 : decode cL_walk 21 = .ok (.iconst 0, 1) := by decide +kernel
theorem dL_walk_22 : decode cL_walk 22 = .ok (.ireturn, 1) := by decide +kernel
theorem dL_knock_0 : decode cL_knock 0 = .ok (.aload 4, 2) := by decide +kernel
theorem dL_knock_2 : decode cL_knock 2 = .ok (.iconst 0, 1) := by decide +kernel
theorem dL_knock_3 : decode cL_knock 3 = .ok (.aload_n 0, 1) := by decide +kernel
theorem dL_knock_4 : decode cL_knock 4 = .ok (.iload_n 1, 1) := by decide +kernel
theorem dL_knock_5 : decode cL_knock 5 = .ok (.iload_n 2, 1) := by decide +kernel
theorem dL_knock_6 : decode cL_knock 6 = .ok (.iload_n 3, 1) := by decide +kernel
theorem dL_knock_7 : decode cL_knock 7 = .ok (.invokevirtual 56, 3) := by decide +kernel
theorem dL_knock_10 : decode cL_knock 10 = .ok (.i2l, 1) := by decide +kernel
theorem dL_knock_11 : decode cL_knock 11 = .ok (.lastore, 1) := by decide +kernel
theorem dL_knock_12 : decode cL_knock 12 = .ok (.goto 11, 3) := by decide +kernel
theorem dL_knock_15 : decode cL_knock 15 = .ok (.astore 5, 2) := by decide +kernel
theorem dL_knock_17 : decode cL_knock 17 = .ok (.iconst 1, 1) := by decide +kernel
theorem dL_knock_18 : decode cL_knock 18 = .ok (.ireturn, 1) := by decide +kernel
theorem dL_knock_19 : decode cL_knock 19 = .ok (.astore 5, 2) := by decide +kernel
theorem dL_knock_21 : decode cL_knock 21 = .ok (.iconst 2, 1) := by decide +kernel
theorem dL_knock_22 : decode cL_knock 22 = .ok (.ireturn, 1) := by decide +kernel
theorem dL_knock_23 : decode cL_knock 23 = .ok (.iconst 0, 1) := by decide +kernel
theorem dL_knock_24 : decode cL_knock 24 = .ok (.ireturn, 1) := by decide +kernel
theorem dL_shade_0 : decode cL_shade 0 = .ok (.aload 4, 2) := by decide +kernel
theorem dL_shade_2 : decode cL_shade 2 = .ok (.iconst 0, 1) := by decide +kernel
theorem dL_shade_3 : decode cL_shade 3 = .ok (.aload_n 0, 1) := by decide +kernel
theorem dL_shade_4 : decode cL_shade 4 = .ok (.iload_n 1, 1) := by decide +kernel
theorem dL_shade_5 : decode cL_shade 5 = .ok (.iload_n 2, 1) := by decide +kernel
theorem dL_shade_6 : decode cL_shade 6 = .ok (.iload_n 3, 1) := by decide +kernel
theorem dL_shade_7 : decode cL_shade 7 = .ok (.invokevirtual 59, 3) := by decide +kernel
theorem dL_shade_10 : decode cL_shade 10 = .ok (.i2l, 1) := by decide +kernel
theorem dL_shade_11 : decode cL_shade 11 = .ok (.lastore, 1) := by decide +kernel
theorem dL_shade_12 : decode cL_shade 12 = .ok (.goto 11, 3) := by decide +kernel
theorem dL_shade_15 : decode cL_shade 15 = .ok (.astore 5, 2) := by decide +kernel
theorem dL_shade_17 : decode cL_shade 17 = .ok (.iconst 1, 1) := by decide +kernel
theorem dL_shade_18 : decode cL_shade 18 = .ok (.ireturn, 1) := by decide +kernel
theorem dL_shade_19 : decode cL_shade 19 = .ok (.astore 5, 2) := by decide +kernel
theorem dL_shade_21 : decode cL_shade 21 = .ok (.iconst 2, 1) := by decide +kernel
theorem dL_shade_22 : decode cL_shade 22 = .ok (.ireturn, 1) := by decide +kernel
theorem dL_shade_23 : decode cL_shade 23 = .ok (.iconst 0, 1) := by decide +kernel
theorem dL_shade_24 : decode cL_shade 24 = .ok (.ireturn, 1) := by decide +kernel
theorem dL_wet_0 : decode cL_wet 0 = .ok (.aload 4, 2) := by decide +kernel
theorem dL_wet_2 : decode cL_wet 2 = .ok (.iconst 0, 1) := by decide +kernel
theorem dL_wet_3 : decode cL_wet 3 = .ok (.aload_n 0, 1) := by decide +kernel
theorem dL_wet_4 : decode cL_wet 4 = .ok (.iload_n 1, 1) := by decide +kernel
theorem dL_wet_5 : decode cL_wet 5 = .ok (.iload_n 2, 1) := by decide +kernel
theorem dL_wet_6 : decode cL_wet 6 = .ok (.iload_n 3, 1) := by decide +kernel
theorem dL_wet_7 : decode cL_wet 7 = .ok (.invokevirtual 62, 3) := by decide +kernel
theorem dL_wet_10 : decode cL_wet 10 = .ok (.i2l, 1) := by decide +kernel
theorem dL_wet_11 : decode cL_wet 11 = .ok (.lastore, 1) := by decide +kernel
theorem dL_wet_12 : decode cL_wet 12 = .ok (.goto 11, 3) := by decide +kernel
theorem dL_wet_15 : decode cL_wet 15 = .ok (.astore 5, 2) := by decide +kernel
theorem dL_wet_17 : decode cL_wet 17 = .ok (.iconst 1, 1) := by decide +kernel
theorem dL_wet_18 : decode cL_wet 18 = .ok (.ireturn, 1) := by decide +kernel
theorem dL_wet_19 : decode cL_wet 19 = .ok (.astore 5, 2) := by decide +kernel
theorem dL_wet_21 : decode cL_wet 21 = .ok (.iconst 2, 1) := by decide +kernel
theorem dL_wet_22 : decode cL_wet 22 = .ok (.ireturn, 1) := by decide +kernel
theorem dL_wet_23 : decode cL_wet 23 = .ok (.iconst 0, 1) := by decide +kernel
theorem dL_wet_24 : decode cL_wet 24 = .ok (.ireturn, 1) := by decide +kernel
theorem dL_winds_0 : decode cL_winds 0 = .ok (.aload 5, 2) := by decide +kernel
theorem dL_winds_2 : decode cL_winds 2 = .ok (.iconst 0, 1) := by decide +kernel
theorem dL_winds_3 : decode cL_winds 3 = .ok (.aload_n 0, 1) := by decide +kernel
theorem dL_winds_4 : decode cL_winds 4 = .ok (.iload_n 1, 1) := by decide +kernel
theorem dL_winds_5 : decode cL_winds 5 = .ok (.iload_n 2, 1) := by decide +kernel
theorem dL_winds_6 : decode cL_winds 6 = .ok (.iload_n 3, 1) := by decide +kernel
theorem dL_winds_7 : decode cL_winds 7 = .ok (.iload 4, 2) := by decide +kernel
theorem dL_winds_9 : decode cL_winds 9 = .ok (.invokevirtual 65, 3) := by decide +kernel
theorem dL_winds_12 : decode cL_winds 12 = .ok (.i2l, 1) := by decide +kernel
theorem dL_winds_13 : decode cL_winds 13 = .ok (.lastore, 1) := by decide +kernel
theorem dL_winds_14 : decode cL_winds 14 = .ok (.goto 11, 3) := by decide +kernel
theorem dL_winds_17 : decode cL_winds 17 = .ok (.astore 6, 2) := by decide +kernel
theorem dL_winds_19 : decode cL_winds 19 = .ok (.iconst 1, 1) := by decide +kernel
theorem dL_winds_20 : decode cL_winds 20 = .ok (.ireturn, 1) := by decide +kernel
theorem dL_winds_21 : decode cL_winds 21 = .ok (.astore 6, 2) := by decide +kernel
theorem dL_winds_23 : decode cL_winds 23 = .ok (.iconst 2, 1) := by decide +kernel
theorem dL_winds_24 : decode cL_winds 24 = .ok (.ireturn, 1) := by decide +kernel
theorem dL_winds_25 : decode cL_winds 25 = .ok (.iconst 0, 1) := by decide +kernel
theorem dL_winds_26 : decode cL_winds 26 = .ok (.ireturn, 1) := by decide +kernel
theorem dL_least_0 : decode cL_least 0 = .ok (.aload 5, 2) := by decide +kernel
theorem dL_least_2 : decode cL_least 2 = .ok (.iconst 0, 1) := by decide +kernel
theorem dL_least_3 : decode cL_least 3 = .ok (.aload_n 0, 1) := by decide +kernel
theorem dL_least_4 : decode cL_least 4 = .ok (.iload_n 1, 1) := by decide +kernel
theorem dL_least_5 : decode cL_least 5 = .ok (.iload_n 2, 1) := by decide +kernel
theorem dL_least_6 : decode cL_least 6 = .ok (.iload_n 3, 1) := by decide +kernel
theorem dL_least_7 : decode cL_least 7 = .ok (.iload 4, 2) := by decide +kernel
theorem dL_least_9 : decode cL_least 9 = .ok (.invokevirtual 68, 3) := by decide +kernel
theorem dL_least_12 : decode cL_least 12 = .ok (.i2l, 1) := by decide +kernel
theorem dL_least_13 : decode cL_least 13 = .ok (.lastore, 1) := by decide +kernel
theorem dL_least_14 : decode cL_least 14 = .ok (.goto 7, 3) := by decide +kernel
theorem dL_least_17 : decode cL_least 17 = .ok (.astore 6, 2) := by decide +kernel
theorem dL_least_19 : decode cL_least 19 = .ok (.iconst 1, 1) := by decide +kernel
theorem dL_least_20 : decode cL_least 20 = .ok (.ireturn, 1) := by decide +kernel
theorem dL_least_21 : decode cL_least 21 = .ok (.iconst 0, 1) := by decide +kernel
theorem dL_least_22 : decode cL_least 22 = .ok (.ireturn, 1) := by decide +kernel
theorem dL_rope_0 : decode cL_rope 0 = .ok (.aload_n 2, 1) := by decide +kernel
theorem dL_rope_1 : decode cL_rope 1 = .ok (.iconst 0, 1) := by decide +kernel
theorem dL_rope_2 : decode cL_rope 2 = .ok (.aload_n 0, 1) := by decide +kernel
theorem dL_rope_3 : decode cL_rope 3 = .ok (.iload_n 1, 1) := by decide +kernel
theorem dL_rope_4 : decode cL_rope 4 = .ok (.invokevirtual 72, 3) := by decide +kernel
theorem dL_rope_7 : decode cL_rope 7 = .ok (.i2l, 1) := by decide +kernel
theorem dL_rope_8 : decode cL_rope 8 = .ok (.lastore, 1) := by decide +kernel
theorem dL_rope_9 : decode cL_rope 9 = .ok (.goto 6, 3) := by decide +kernel
theorem dL_rope_12 : decode cL_rope 12 = .ok (.astore_n 3, 1) := by decide +kernel
theorem dL_rope_13 : decode cL_rope 13 = .ok (.iconst 1, 1) := by decide +kernel
theorem dL_rope_14 : decode cL_rope 14 = .ok (.ireturn, 1) := by decide +kernel
theorem dL_rope_15 : decode cL_rope 15 = .ok (.iconst 0, 1) := by decide +kernel
theorem dL_rope_16 : decode cL_rope 16 = .ok (.ireturn, 1) := by decide +kernel
theorem dL_way_0 : decode cL_way 0 = .ok (.aload 5, 2) := by decide +kernel
theorem dL_way_2 : decode cL_way 2 = .ok (.iconst 0, 1) := by decide +kernel
theorem dL_way_3 : decode cL_way 3 = .ok (.aload_n 0, 1) := by decide +kernel
theorem dL_way_4 : decode cL_way 4 = .ok (.iload_n 1, 1) := by decide +kernel
theorem dL_way_5 : decode cL_way 5 = .ok (.iload_n 2, 1) := by decide +kernel
theorem dL_way_6 : decode cL_way 6 = .ok (.iload_n 3, 1) := by decide +kernel
theorem dL_way_7 : decode cL_way 7 = .ok (.iload 4, 2) := by decide +kernel
theorem dL_way_9 : decode cL_way 9 = .ok (.invokevirtual 75, 3) := by decide +kernel
theorem dL_way_12 : decode cL_way 12 = .ok (.i2l, 1) := by decide +kernel
theorem dL_way_13 : decode cL_way 13 = .ok (.lastore, 1) := by decide +kernel
theorem dL_way_14 : decode cL_way 14 = .ok (.goto 7, 3) := by decide +kernel
theorem dL_way_17 : decode cL_way 17 = .ok (.astore 6, 2) := by decide +kernel
theorem dL_way_19 : decode cL_way 19 = .ok (.iconst 1, 1) := by decide +kernel
theorem dL_way_20 : decode cL_way 20 = .ok (.ireturn, 1) := by decide +kernel
theorem dL_way_21 : decode cL_way 21 = .ok (.iconst 0, 1) := by decide +kernel
theorem dL_way_22 : decode cL_way 22 = .ok (.ireturn, 1) := by decide +kernel
theorem dL_freed_0 : decode cL_freed 0 = .ok (.aload_n 2, 1) := by decide +kernel
theorem dL_freed_1 : decode cL_freed 1 = .ok (.iconst 0, 1) := by decide +kernel
theorem dL_freed_2 : decode cL_freed 2 = .ok (.aload_n 0, 1) := by decide +kernel
theorem dL_freed_3 : decode cL_freed 3 = .ok (.iload_n 1, 1) := by decide +kernel
theorem dL_freed_4 : decode cL_freed 4 = .ok (.invokevirtual 78, 3) := by decide +kernel
theorem dL_freed_7 : decode cL_freed 7 = .ok (.i2l, 1) := by decide +kernel
theorem dL_freed_8 : decode cL_freed 8 = .ok (.lastore, 1) := by decide +kernel
theorem dL_freed_9 : decode cL_freed 9 = .ok (.goto 6, 3) := by decide +kernel
theorem dL_freed_12 : decode cL_freed 12 = .ok (.astore_n 3, 1) := by decide +kernel
theorem dL_freed_13 : decode cL_freed 13 = .ok (.iconst 1, 1) := by decide +kernel
theorem dL_freed_14 : decode cL_freed 14 = .ok (.ireturn, 1) := by decide +kernel
theorem dL_freed_15 : decode cL_freed 15 = .ok (.iconst 0, 1) := by decide +kernel
theorem dL_freed_16 : decode cL_freed 16 = .ok (.ireturn, 1) := by decide +kernel
theorem dL_tangle_0 : decode cL_tangle 0 = .ok (.aload_n 3, 1) := by decide +kernel
theorem dL_tangle_1 : decode cL_tangle 1 = .ok (.iconst 0, 1) := by decide +kernel
theorem dL_tangle_2 : decode cL_tangle 2 = .ok (.aload_n 0, 1) := by decide +kernel
theorem dL_tangle_3 : decode cL_tangle 3 = .ok (.iload_n 1, 1) := by decide +kernel
theorem dL_tangle_4 : decode cL_tangle 4 = .ok (.iload_n 2, 1) := by decide +kernel
theorem dL_tangle_5 : decode cL_tangle 5 = .ok (.invokevirtual 81, 3) := by decide +kernel
theorem dL_tangle_8 : decode cL_tangle 8 = .ok (.i2l, 1) := by decide +kernel
theorem dL_tangle_9 : decode cL_tangle 9 = .ok (.lastore, 1) := by decide +kernel
theorem dL_tangle_10 : decode cL_tangle 10 = .ok (.goto 7, 3) := by decide +kernel
theorem dL_tangle_13 : decode cL_tangle 13 = .ok (.astore 4, 2) := by decide +kernel
theorem dL_tangle_15 : decode cL_tangle 15 = .ok (.iconst 1, 1) := by decide +kernel
theorem dL_tangle_16 : decode cL_tangle 16 = .ok (.ireturn, 1) := by decide +kernel
theorem dL_tangle_17 : decode cL_tangle 17 = .ok (.iconst 0, 1) := by decide +kernel
theorem dL_tangle_18 : decode cL_tangle 18 = .ok (.ireturn, 1) := by decide +kernel
theorem dL_see_0 : decode cL_see 0 = .ok (.aload 4, 2) := by decide +kernel
theorem dL_see_2 : decode cL_see 2 = .ok (.iconst 0, 1) := by decide +kernel
theorem dL_see_3 : decode cL_see 3 = .ok (.aload_n 0, 1) := by decide +kernel
theorem dL_see_4 : decode cL_see 4 = .ok (.iload_n 1, 1) := by decide +kernel
theorem dL_see_5 : decode cL_see 5 = .ok (.iload_n 2, 1) := by decide +kernel
theorem dL_see_6 : decode cL_see 6 = .ok (.iload_n 3, 1) := by decide +kernel
theorem dL_see_7 : decode cL_see 7 = .ok (.invokevirtual 84, 3) := by decide +kernel
theorem dL_see_10 : decode cL_see 10 = .ok (.i2l, 1) := by decide +kernel
theorem dL_see_11 : decode cL_see 11 = .ok (.lastore, 1) := by decide +kernel
theorem dL_see_12 : decode cL_see 12 = .ok (.goto 7, 3) := by decide +kernel
theorem dL_see_15 : decode cL_see 15 = .ok (.astore 5, 2) := by decide +kernel
theorem dL_see_17 : decode cL_see 17 = .ok (.iconst 1, 1) := by decide +kernel
theorem dL_see_18 : decode cL_see 18 = .ok (.ireturn, 1) := by decide +kernel
theorem dL_see_19 : decode cL_see 19 = .ok (.iconst 0, 1) := by decide +kernel
theorem dL_see_20 : decode cL_see 20 = .ok (.ireturn, 1) := by decide +kernel
theorem dL_fits_0 : decode cL_fits 0 = .ok (.aload_n 2, 1) := by decide +kernel
theorem dL_fits_1 : decode cL_fits 1 = .ok (.iconst 0, 1) := by decide +kernel
theorem dL_fits_2 : decode cL_fits 2 = .ok (.aload_n 0, 1) := by decide +kernel
theorem dL_fits_3 : decode cL_fits 3 = .ok (.iload_n 1, 1) := by decide +kernel
theorem dL_fits_4 : decode cL_fits 4 = .ok (.invokevirtual 87, 3) := by decide +kernel
theorem dL_fits_7 : decode cL_fits 7 = .ok (.i2l, 1) := by decide +kernel
theorem dL_fits_8 : decode cL_fits 8 = .ok (.lastore, 1) := by decide +kernel
theorem dL_fits_9 : decode cL_fits 9 = .ok (.goto 6, 3) := by decide +kernel
theorem dL_fits_12 : decode cL_fits 12 = .ok (.astore_n 3, 1) := by decide +kernel
theorem dL_fits_13 : decode cL_fits 13 = .ok (.iconst 1, 1) := by decide +kernel
theorem dL_fits_14 : decode cL_fits 14 = .ok (.ireturn, 1) := by decide +kernel
theorem dL_fits_15 : decode cL_fits 15 = .ok (.iconst 0, 1) := by decide +kernel
theorem dL_fits_16 : decode cL_fits 16 = .ok (.ireturn, 1) := by decide +kernel
theorem dL_weighed_0 : decode cL_weighed 0 = .ok (.aload 5, 2) := by decide +kernel
theorem dL_weighed_2 : decode cL_weighed 2 = .ok (.iconst 0, 1) := by decide +kernel
theorem dL_weighed_3 : decode cL_weighed 3 = .ok (.aload_n 0, 1) := by decide +kernel
theorem dL_weighed_4 : decode cL_weighed 4 = .ok (.iload_n 1, 1) := by decide +kernel
theorem dL_weighed_5 : decode cL_weighed 5 = .ok (.iload_n 2, 1) := by decide +kernel
theorem dL_weighed_6 : decode cL_weighed 6 = .ok (.iload_n 3, 1) := by decide +kernel
theorem dL_weighed_7 : decode cL_weighed 7 = .ok (.iload 4, 2) := by decide +kernel
theorem dL_weighed_9 : decode cL_weighed 9 = .ok (.invokevirtual 90, 3) := by decide +kernel
theorem dL_weighed_12 : decode cL_weighed 12 = .ok (.i2l, 1) := by decide +kernel
theorem dL_weighed_13 : decode cL_weighed 13 = .ok (.lastore, 1) := by decide +kernel
theorem dL_weighed_14 : decode cL_weighed 14 = .ok (.goto 7, 3) := by decide +kernel
theorem dL_weighed_17 : decode cL_weighed 17 = .ok (.astore 6, 2) := by decide +kernel
theorem dL_weighed_19 : decode cL_weighed 19 = .ok (.iconst 1, 1) := by decide +kernel
theorem dL_weighed_20 : decode cL_weighed 20 = .ok (.ireturn, 1) := by decide +kernel
theorem dL_weighed_21 : decode cL_weighed 21 = .ok (.iconst 0, 1) := by decide +kernel
theorem dL_weighed_22 : decode cL_weighed 22 = .ok (.ireturn, 1) := by decide +kernel
theorem dL_gust_0 : decode cL_gust 0 = .ok (.aload_n 3, 1) := by decide +kernel
theorem dL_gust_1 : decode cL_gust 1 = .ok (.iconst 0, 1) := by decide +kernel
theorem dL_gust_2 : decode cL_gust 2 = .ok (.aload_n 0, 1) := by decide +kernel
theorem dL_gust_3 : decode cL_gust 3 = .ok (.iload_n 1, 1) := by decide +kernel
theorem dL_gust_4 : decode cL_gust 4 = .ok (.iload_n 2, 1) := by decide +kernel
theorem dL_gust_5 : decode cL_gust 5 = .ok (.invokevirtual 93, 3) := by decide +kernel
theorem dL_gust_8 : decode cL_gust 8 = .ok (.i2l, 1) := by decide +kernel
theorem dL_gust_9 : decode cL_gust 9 = .ok (.lastore, 1) := by decide +kernel
theorem dL_gust_10 : decode cL_gust 10 = .ok (.goto 7, 3) := by decide +kernel
theorem dL_gust_13 : decode cL_gust 13 = .ok (.astore 4, 2) := by decide +kernel
theorem dL_gust_15 : decode cL_gust 15 = .ok (.iconst 1, 1) := by decide +kernel
theorem dL_gust_16 : decode cL_gust 16 = .ok (.ireturn, 1) := by decide +kernel
theorem dL_gust_17 : decode cL_gust 17 = .ok (.iconst 0, 1) := by decide +kernel
theorem dL_gust_18 : decode cL_gust 18 = .ok (.ireturn, 1) := by decide +kernel
theorem dL_calm_0 : decode cL_calm 0 = .ok (.aload 4, 2) := by decide +kernel
theorem dL_calm_2 : decode cL_calm 2 = .ok (.iconst 0, 1) := by decide +kernel
theorem dL_calm_3 : decode cL_calm 3 = .ok (.aload_n 0, 1) := by decide +kernel
theorem dL_calm_4 : decode cL_calm 4 = .ok (.iload_n 1, 1) := by decide +kernel
theorem dL_calm_5 : decode cL_calm 5 = .ok (.iload_n 2, 1) := by decide +kernel
theorem dL_calm_6 : decode cL_calm 6 = .ok (.iload_n 3, 1) := by decide +kernel
theorem dL_calm_7 : decode cL_calm 7 = .ok (.invokevirtual 96, 3) := by decide +kernel
theorem dL_calm_10 : decode cL_calm 10 = .ok (.lastore, 1) := by decide +kernel
theorem dL_calm_11 : decode cL_calm 11 = .ok (.goto 11, 3) := by decide +kernel
theorem dL_calm_14 : decode cL_calm 14 = .ok (.astore 5, 2) := by decide +kernel
theorem dL_calm_16 : decode cL_calm 16 = .ok (.iconst 1, 1) := by decide +kernel
theorem dL_calm_17 : decode cL_calm 17 = .ok (.ireturn, 1) := by decide +kernel
theorem dL_calm_18 : decode cL_calm 18 = .ok (.astore 5, 2) := by decide +kernel
theorem dL_calm_20 : decode cL_calm 20 = .ok (.iconst 2, 1) := by decide +kernel
theorem dL_calm_21 : decode cL_calm 21 = .ok (.ireturn, 1) := by decide +kernel
theorem dL_calm_22 : decode cL_calm 22 = .ok (.iconst 0, 1) := by decide +kernel
theorem dL_calm_23 : decode cL_calm 23 = .ok (.ireturn, 1) := by decide +kernel
theorem dL_view_0 : decode cL_view 0 = .ok (.aload 4, 2) := by decide +kernel
theorem dL_view_2 : decode cL_view 2 = .ok (.iconst 0, 1) := by decide +kernel
theorem dL_view_3 : decode cL_view 3 = .ok (.aload_n 0, 1) := by decide +kernel
theorem dL_view_4 : decode cL_view 4 = .ok (.iload_n 1, 1) := by decide +kernel
theorem dL_view_5 : decode cL_view 5 = .ok (.iload_n 2, 1) := by decide +kernel
theorem dL_view_6 : decode cL_view 6 = .ok (.iload_n 3, 1) := by decide +kernel
theorem dL_view_7 : decode cL_view 7 = .ok (.invokevirtual 100, 3) := by decide +kernel
theorem dL_view_10 : decode cL_view 10 = .ok (.i2l, 1) := by decide +kernel
theorem dL_view_11 : decode cL_view 11 = .ok (.lastore, 1) := by decide +kernel
theorem dL_view_12 : decode cL_view 12 = .ok (.goto 7, 3) := by decide +kernel
theorem dL_view_15 : decode cL_view 15 = .ok (.astore 5, 2) := by decide +kernel
theorem dL_view_17 : decode cL_view 17 = .ok (.iconst 1, 1) := by decide +kernel
theorem dL_view_18 : decode cL_view 18 = .ok (.ireturn, 1) := by decide +kernel
theorem dL_view_19 : decode cL_view 19 = .ok (.iconst 0, 1) := by decide +kernel
theorem dL_view_20 : decode cL_view 20 = .ok (.ireturn, 1) := by decide +kernel
theorem dL_debt_0 : decode cL_debt 0 = .ok (.aload 5, 2) := by decide +kernel
theorem dL_debt_2 : decode cL_debt 2 = .ok (.iconst 0, 1) := by decide +kernel
theorem dL_debt_3 : decode cL_debt 3 = .ok (.aload_n 0, 1) := by decide +kernel
theorem dL_debt_4 : decode cL_debt 4 = .ok (.iload_n 1, 1) := by decide +kernel
theorem dL_debt_5 : decode cL_debt 5 = .ok (.iload_n 2, 1) := by decide +kernel
theorem dL_debt_6 : decode cL_debt 6 = .ok (.iload_n 3, 1) := by decide +kernel
theorem dL_debt_7 : decode cL_debt 7 = .ok (.iload 4, 2) := by decide +kernel
theorem dL_debt_9 : decode cL_debt 9 = .ok (.invokevirtual 103, 3) := by decide +kernel
theorem dL_debt_12 : decode cL_debt 12 = .ok (.i2l, 1) := by decide +kernel
theorem dL_debt_13 : decode cL_debt 13 = .ok (.lastore, 1) := by decide +kernel
theorem dL_debt_14 : decode cL_debt 14 = .ok (.goto 11, 3) := by decide +kernel
theorem dL_debt_17 : decode cL_debt 17 = .ok (.astore 6, 2) := by decide +kernel
theorem dL_debt_19 : decode cL_debt 19 = .ok (.iconst 1, 1) := by decide +kernel
theorem dL_debt_20 : decode cL_debt 20 = .ok (.ireturn, 1) := by decide +kernel
theorem dL_debt_21 : decode cL_debt 21 = .ok (.astore 6, 2) := by decide +kernel
theorem dL_debt_23 : decode cL_debt 23 = .ok (.iconst 2, 1) := by decide +kernel
theorem dL_debt_24 : decode cL_debt 24 = .ok (.ireturn, 1) := by decide +kernel
theorem dL_debt_25 : decode cL_debt 25 = .ok (.iconst 0, 1) := by decide +kernel
theorem dL_debt_26 : decode cL_debt 26 = .ok (.ireturn, 1) := by decide +kernel
theorem dL_rich_0 : decode cL_rich 0 = .ok (.aload_n 3, 1) := by decide +kernel
theorem dL_rich_1 : decode cL_rich 1 = .ok (.iconst 0, 1) := by decide +kernel
theorem dL_rich_2 : decode cL_rich 2 = .ok (.aload_n 0, 1) := by decide +kernel
theorem dL_rich_3 : decode cL_rich 3 = .ok (.iload_n 1, 1) := by decide +kernel
theorem dL_rich_4 : decode cL_rich 4 = .ok (.iload_n 2, 1) := by decide +kernel
theorem dL_rich_5 : decode cL_rich 5 = .ok (.invokevirtual 106, 3) := by decide +kernel
theorem dL_rich_8 : decode cL_rich 8 = .ok (.i2l, 1) := by decide +kernel
theorem dL_rich_9 : decode cL_rich 9 = .ok (.lastore, 1) := by decide +kernel
theorem dL_rich_10 : decode cL_rich 10 = .ok (.goto 7, 3) := by decide +kernel
theorem dL_rich_13 : decode cL_rich 13 = .ok (.astore 4, 2) := by decide +kernel
theorem dL_rich_15 : decode cL_rich 15 = .ok (.iconst 1, 1) := by decide +kernel
theorem dL_rich_16 : decode cL_rich 16 = .ok (.ireturn, 1) := by decide +kernel
theorem dL_rich_17 : decode cL_rich 17 = .ok (.iconst 0, 1) := by decide +kernel
theorem dL_rich_18 : decode cL_rich 18 = .ok (.ireturn, 1) := by decide +kernel
theorem dL_week_0 : decode cL_week 0 = .ok (.aload_n 3, 1) := by decide +kernel
theorem dL_week_1 : decode cL_week 1 = .ok (.iconst 0, 1) := by decide +kernel
theorem dL_week_2 : decode cL_week 2 = .ok (.aload_n 0, 1) := by decide +kernel
theorem dL_week_3 : decode cL_week 3 = .ok (.iload_n 1, 1) := by decide +kernel
theorem dL_week_4 : decode cL_week 4 = .ok (.iload_n 2, 1) := by decide +kernel
theorem dL_week_5 : decode cL_week 5 = .ok (.invokevirtual 109, 3) := by decide +kernel
theorem dL_week_8 : decode cL_week 8 = .ok (.i2l, 1) := by decide +kernel
theorem dL_week_9 : decode cL_week 9 = .ok (.lastore, 1) := by decide +kernel
theorem dL_week_10 : decode cL_week 10 = .ok (.goto 7, 3) := by decide +kernel
theorem dL_week_13 : decode cL_week 13 = .ok (.astore 4, 2) := by decide +kernel
theorem dL_week_15 : decode cL_week 15 = .ok (.iconst 1, 1) := by decide +kernel
theorem dL_week_16 : decode cL_week 16 = .ok (.ireturn, 1) := by decide +kernel
theorem dL_week_17 : decode cL_week 17 = .ok (.iconst 0, 1) := by decide +kernel
theorem dL_week_18 : decode cL_week 18 = .ok (.ireturn, 1) := by decide +kernel
theorem dL_law_0 : decode cL_law 0 = .ok (.new 8, 3) := by decide +kernel
theorem dL_law_3 : decode cL_law 3 = .ok (.dup, 1) := by decide +kernel
theorem dL_law_4 : decode cL_law 4 = .ok (.invokespecial 112, 3) := by decide +kernel
theorem dL_law_7 : decode cL_law 7 = .ok (.astore_n 1, 1) := by decide +kernel
theorem dL_law_8 : decode cL_law 8 = .ok (.new 113, 3) := by decide +kernel
theorem dL_law_11 : decode cL_law 11 = .ok (.dup, 1) := by decide +kernel
theorem dL_law_12 : decode cL_law 12 = .ok (.invokespecial 115, 3) := by decide +kernel
theorem dL_law_15 : decode cL_law 15 = .ok (.astore_n 2, 1) := by decide +kernel
theorem dL_law_16 : decode cL_law 16 = .ok (.iconst 1, 1) := by decide +kernel
theorem dL_law_17 : decode cL_law 17 = .ok (.newarray .long, 2) := by decide +kernel
theorem dL_law_19 : decode cL_law 19 = .ok (.astore_n 3, 1) := by decide +kernel
theorem dL_law_20 : decode cL_law 20 = .ok (.iconst 0, 1) := by decide +kernel
theorem dL_law_21 : decode cL_law 21 = .ok (.istore 4, 2) := by decide +kernel
theorem dL_law_23 : decode cL_law 23 = .ok (.iload 4, 2) := by decide +kernel
theorem dL_law_25 : decode cL_law 25 = .ok (.aload_n 0, 1) := by decide +kernel
theorem dL_law_26 : decode cL_law 26 = .ok (.arraylength, 1) := by decide +kernel
theorem dL_law_27 : decode cL_law 27 = .ok (.bipush 6, 2) := by decide +kernel
theorem dL_law_29 : decode cL_law 29 = .ok (.isub, 1) := by decide +kernel
theorem dL_law_30 : decode cL_law 30 = .ok (.if_icmp .gt 2658, 3) := by decide +kernel
theorem dL_law_33 : decode cL_law 33 = .ok (.aload_n 0, 1) := by decide +kernel
theorem dL_law_34 : decode cL_law 34 = .ok (.iload 4, 2) := by decide +kernel
theorem dL_law_36 : decode cL_law 36 = .ok (.iaload, 1) := by decide +kernel
theorem dL_law_37 : decode cL_law 37 = .ok (.bipush 63, 2) := by decide +kernel
theorem dL_law_39 : decode cL_law 39 = .ok (.iand, 1) := by decide +kernel
theorem dL_law_40 : decode cL_law 40 = .ok (.tableswitch 2642 0 36 #[164, 237, 293, 306, 362, 430, 498, 578, 677, 745, 813, 897, 965, 1052, 1144, 1157, 1237, 1317, 1397, 1489, 1597, 1653, 1745, 1798, 1811, 1867, 1935, 2015, 2071, 2163, 2231, 2310, 2390, 2482, 2550, 2618, 2629], 164) := by decide +kernel
theorem dL_law_204 : decode cL_law 204 = .ok (.aload_n 1, 1) := by decide +kernel
theorem dL_law_205 : decode cL_law 205 = .ok (.aload_n 0, 1) := by decide +kernel
theorem dL_law_206 : decode cL_law 206 = .ok (.iload 4, 2) := by decide +kernel
theorem dL_law_208 : decode cL_law 208 = .ok (.iconst 1, 1) := by decide +kernel
theorem dL_law_209 : decode cL_law 209 = .ok (.iadd, 1) := by decide +kernel
theorem dL_law_210 : decode cL_law 210 = .ok (.iaload, 1) := by decide +kernel
theorem dL_law_211 : decode cL_law 211 = .ok (.aload_n 0, 1) := by decide +kernel
theorem dL_law_212 : decode cL_law 212 = .ok (.iload 4, 2) := by decide +kernel
theorem dL_law_214 : decode cL_law 214 = .ok (.iconst 2, 1) := by decide +kernel
theorem dL_law_215 : decode cL_law 215 = .ok (.iadd, 1) := by decide +kernel
theorem dL_law_216 : decode cL_law 216 = .ok (.iaload, 1) := by decide +kernel
theorem dL_law_217 : decode cL_law 217 = .ok (.aload_n 0, 1) := by decide +kernel
theorem dL_law_218 : decode cL_law 218 = .ok (.iload 4, 2) := by decide +kernel
theorem dL_law_220 : decode cL_law 220 = .ok (.iconst 3, 1) := by decide +kernel
theorem dL_law_221 : decode cL_law 221 = .ok (.iadd, 1) := by decide +kernel
theorem dL_law_222 : decode cL_law 222 = .ok (.iaload, 1) := by decide +kernel
theorem dL_law_223 : decode cL_law 223 = .ok (.aload_n 0, 1) := by decide +kernel
theorem dL_law_224 : decode cL_law 224 = .ok (.iload 4, 2) := by decide +kernel
theorem dL_law_226 : decode cL_law 226 = .ok (.iconst 4, 1) := by decide +kernel
theorem dL_law_227 : decode cL_law 227 = .ok (.iadd, 1) := by decide +kernel
theorem dL_law_228 : decode cL_law 228 = .ok (.iaload, 1) := by decide +kernel
theorem dL_law_229 : decode cL_law 229 = .ok (.aload_n 0, 1) := by decide +kernel
theorem dL_law_230 : decode cL_law 230 = .ok (.iload 4, 2) := by decide +kernel
theorem dL_law_232 : decode cL_law 232 = .ok (.iconst 5, 1) := by decide +kernel
theorem dL_law_233 : decode cL_law 233 = .ok (.iadd, 1) := by decide +kernel
theorem dL_law_234 : decode cL_law 234 = .ok (.iaload, 1) := by decide +kernel
theorem dL_law_235 : decode cL_law 235 = .ok (.invokevirtual 116, 3) := by decide +kernel
theorem dL_law_238 : decode cL_law 238 = .ok (.aload_n 2, 1) := by decide +kernel
theorem dL_law_239 : decode cL_law 239 = .ok (.aload_n 0, 1) := by decide +kernel
theorem dL_law_240 : decode cL_law 240 = .ok (.iload 4, 2) := by decide +kernel
theorem dL_law_242 : decode cL_law 242 = .ok (.iconst 1, 1) := by decide +kernel
theorem dL_law_243 : decode cL_law 243 = .ok (.iadd, 1) := by decide +kernel
theorem dL_law_244 : decode cL_law 244 = .ok (.iaload, 1) := by decide +kernel
theorem dL_law_245 : decode cL_law 245 = .ok (.aload_n 0, 1) := by decide +kernel
theorem dL_law_246 : decode cL_law 246 = .ok (.iload 4, 2) := by decide +kernel
theorem dL_law_248 : decode cL_law 248 = .ok (.iconst 2, 1) := by decide +kernel
theorem dL_law_249 : decode cL_law 249 = .ok (.iadd, 1) := by decide +kernel
theorem dL_law_250 : decode cL_law 250 = .ok (.iaload, 1) := by decide +kernel
theorem dL_law_251 : decode cL_law 251 = .ok (.aload_n 0, 1) := by decide +kernel
theorem dL_law_252 : decode cL_law 252 = .ok (.iload 4, 2) := by decide +kernel
theorem dL_law_254 : decode cL_law 254 = .ok (.iconst 3, 1) := by decide +kernel
theorem dL_law_255 : decode cL_law 255 = .ok (.iadd, 1) := by decide +kernel
theorem dL_law_256 : decode cL_law 256 = .ok (.iaload, 1) := by decide +kernel
theorem dL_law_257 : decode cL_law 257 = .ok (.aload_n 0, 1) := by decide +kernel
theorem dL_law_258 : decode cL_law 258 = .ok (.iload 4, 2) := by decide +kernel
theorem dL_law_260 : decode cL_law 260 = .ok (.iconst 4, 1) := by decide +kernel
theorem dL_law_261 : decode cL_law 261 = .ok (.iadd, 1) := by decide +kernel
theorem dL_law_262 : decode cL_law 262 = .ok (.iaload, 1) := by decide +kernel
theorem dL_law_263 : decode cL_law 263 = .ok (.aload_n 0, 1) := by decide +kernel
theorem dL_law_264 : decode cL_law 264 = .ok (.iload 4, 2) := by decide +kernel
theorem dL_law_266 : decode cL_law 266 = .ok (.iconst 5, 1) := by decide +kernel
theorem dL_law_267 : decode cL_law 267 = .ok (.iadd, 1) := by decide +kernel
theorem dL_law_268 : decode cL_law 268 = .ok (.iaload, 1) := by decide +kernel
theorem dL_law_269 : decode cL_law 269 = .ok (.invokevirtual 120, 3) := by decide +kernel
theorem dL_law_272 : decode cL_law 272 = .ok (.if_icmp .eq 2410, 3) := by decide +kernel
theorem dL_law_275 : decode cL_law 275 = .ok (.iconst 0, 1) := by decide +kernel
theorem dL_law_276 : decode cL_law 276 = .ok (.ireturn, 1) := by decide +kernel
theorem dL_law_277 : decode cL_law 277 = .ok (.aload_n 1, 1) := by decide +kernel
theorem dL_law_278 : decode cL_law 278 = .ok (.aload_n 0, 1) := by decide +kernel
theorem dL_law_279 : decode cL_law 279 = .ok (.iload 4, 2) := by decide +kernel
theorem dL_law_281 : decode cL_law 281 = .ok (.iconst 1, 1) := by decide +kernel
theorem dL_law_282 : decode cL_law 282 = .ok (.iadd, 1) := by decide +kernel
theorem dL_law_283 : decode cL_law 283 = .ok (.iaload, 1) := by decide +kernel
theorem dL_law_284 : decode cL_law 284 = .ok (.aload_n 3, 1) := by decide +kernel
theorem dL_law_285 : decode cL_law 285 = .ok (.invokestatic 121, 3) := by decide +kernel
theorem dL_law_288 : decode cL_law 288 = .ok (.istore 5, 2) := by decide +kernel
theorem dL_law_290 : decode cL_law 290 = .ok (.aload_n 2, 1) := by decide +kernel
theorem dL_law_291 : decode cL_law 291 = .ok (.aload_n 0, 1) := by decide +kernel
theorem dL_law_292 : decode cL_law 292 = .ok (.iload 4, 2) := by decide +kernel
theorem dL_law_294 : decode cL_law 294 = .ok (.iconst 1, 1) := by decide +kernel
theorem dL_law_295 : decode cL_law 295 = .ok (.iadd, 1) := by decide +kernel
theorem dL_law_296 : decode cL_law 296 = .ok (.iaload, 1) := by decide +kernel
theorem dL_law_297 : decode cL_law 297 = .ok (.invokevirtual 126, 3) := by decide +kernel
theorem dL_law_300 : decode cL_law 300 = .ok (.istore 6, 2) := by decide +kernel
theorem dL_law_302 : decode cL_law 302 = .ok (.aload_n 2, 1) := by decide +kernel
theorem dL_law_303 : decode cL_law 303 = .ok (.invokevirtual 127, 3) := by decide +kernel
theorem dL_law_306 : decode cL_law 306 = .ok (.iload 5, 2) := by decide +kernel
theorem dL_law_308 : decode cL_law 308 = .ok (.if_icmp .eq 5, 3) := by decide +kernel
theorem dL_law_311 : decode cL_law 311 = .ok (.iconst 0, 1) := by decide +kernel
theorem dL_law_312 : decode cL_law 312 = .ok (.ireturn, 1) := by decide +kernel
theorem dL_law_313 : decode cL_law 313 = .ok (.iload 5, 2) := by decide +kernel
theorem dL_law_315 : decode cL_law 315 = .ok (.ifCond .ne 15, 3) := by decide +kernel
theorem dL_law_318 : decode cL_law 318 = .ok (.aload_n 3, 1) := by decide +kernel
theorem dL_law_319 : decode cL_law 319 = .ok (.iconst 0, 1) := by decide +kernel
theorem dL_law_320 : decode cL_law 320 = .ok (.laload, 1) := by decide +kernel
theorem dL_law_321 : decode cL_law 321 = .ok (.iload 6, 2) := by decide +kernel
theorem dL_law_323 : decode cL_law 323 = .ok (.i2l, 1) := by decide +kernel
theorem dL_law_324 : decode cL_law 324 = .ok (.lcmp, 1) := by decide +kernel
theorem dL_law_325 : decode cL_law 325 = .ok (.ifCond .eq 5, 3) := by decide +kernel
theorem dL_law_328 : decode cL_law 328 = .ok (.iconst 0, 1) := by decide +kernel
theorem dL_law_329 : decode cL_law 329 = .ok (.ireturn, 1) := by decide +kernel
theorem dL_law_330 : decode cL_law 330 = .ok (.goto 2352, 3) := by decide +kernel
theorem dL_law_333 : decode cL_law 333 = .ok (.aload_n 1, 1) := by decide +kernel
theorem dL_law_334 : decode cL_law 334 = .ok (.invokevirtual 131, 3) := by decide +kernel
theorem dL_law_337 : decode cL_law 337 = .ok (.aload_n 2, 1) := by decide +kernel
theorem dL_law_338 : decode cL_law 338 = .ok (.invokevirtual 134, 3) := by decide +kernel
theorem dL_law_341 : decode cL_law 341 = .ok (.if_icmp .eq 2341, 3) := by decide +kernel
theorem dL_law_344 : decode cL_law 344 = .ok (.iconst 0, 1) := by decide +kernel
theorem dL_law_345 : decode cL_law 345 = .ok (.ireturn, 1) := by decide +kernel
theorem dL_law_346 : decode cL_law 346 = .ok (.aload_n 1, 1) := by decide +kernel
theorem dL_law_347 : decode cL_law 347 = .ok (.aload_n 0, 1) := by decide +kernel
theorem dL_law_348 : decode cL_law 348 = .ok (.iload 4, 2) := by decide +kernel
theorem dL_law_350 : decode cL_law 350 = .ok (.iconst 1, 1) := by decide +kernel
theorem dL_law_351 : decode cL_law 351 = .ok (.iadd, 1) := by decide +kernel
theorem dL_law_352 : decode cL_law 352 = .ok (.iaload, 1) := by decide +kernel
theorem dL_law_353 : decode cL_law 353 = .ok (.aload_n 3, 1) := by decide +kernel
theorem dL_law_354 : decode cL_law 354 = .ok (.invokestatic 135, 3) := by decide +kernel
theorem dL_law_357 : decode cL_law 357 = .ok (.istore 5, 2) := by decide +kernel
theorem dL_law_359 : decode cL_law 359 = .ok (.aload_n 2, 1) := by decide +kernel
theorem dL_law_360 : decode cL_law 360 = .ok (.aload_n 0, 1) := by decide +kernel
theorem dL_law_361 : decode cL_law 361 = .ok (.iload 4, 2) := by decide +kernel
theorem dL_law_363 : decode cL_law 363 = .ok (.iconst 1, 1) := by decide +kernel
theorem dL_law_364 : decode cL_law 364 = .ok (.iadd, 1) := by decide +kernel
theorem dL_law_365 : decode cL_law 365 = .ok (.iaload, 1) := by decide +kernel
theorem dL_law_366 : decode cL_law 366 = .ok (.invokevirtual 137, 3) := by decide +kernel
theorem dL_law_369 : decode cL_law 369 = .ok (.istore 6, 2) := by decide +kernel
theorem dL_law_371 : decode cL_law 371 = .ok (.aload_n 2, 1) := by decide +kernel
theorem dL_law_372 : decode cL_law 372 = .ok (.invokevirtual 127, 3) := by decide +kernel
theorem dL_law_375 : decode cL_law 375 = .ok (.iload 5, 2) := by decide +kernel
theorem dL_law_377 : decode cL_law 377 = .ok (.if_icmp .eq 5, 3) := by decide +kernel
theorem dL_law_380 : decode cL_law 380 = .ok (.iconst 0, 1) := by decide +kernel
theorem dL_law_381 : decode cL_law 381 = .ok (.ireturn, 1) := by decide +kernel
theorem dL_law_382 : decode cL_law 382 = .ok (.iload 5, 2) := by decide +kernel
theorem dL_law_384 : decode cL_law 384 = .ok (.ifCond .ne 15, 3) := by decide +kernel
theorem dL_law_387 : decode cL_law 387 = .ok (.aload_n 3, 1) := by decide +kernel
theorem dL_law_388 : decode cL_law 388 = .ok (.iconst 0, 1) := by decide +kernel
theorem dL_law_389 : decode cL_law 389 = .ok (.laload, 1) := by decide +kernel
theorem dL_law_390 : decode cL_law 390 = .ok (.iload 6, 2) := by decide +kernel
theorem dL_law_392 : decode cL_law 392 = .ok (.i2l, 1) := by decide +kernel
theorem dL_law_393 : decode cL_law 393 = .ok (.lcmp, 1) := by decide +kernel
theorem dL_law_394 : decode cL_law 394 = .ok (.ifCond .eq 5, 3) := by decide +kernel
theorem dL_law_397 : decode cL_law 397 = .ok (.iconst 0, 1) := by decide +kernel
theorem dL_law_398 : decode cL_law 398 = .ok (.ireturn, 1) := by decide +kernel
theorem dL_law_399 : decode cL_law 399 = .ok (.goto 2283, 3) := by decide +kernel
theorem dL_law_402 : decode cL_law 402 = .ok (.aload_n 1, 1) := by decide +kernel
theorem dL_law_403 : decode cL_law 403 = .ok (.aload_n 0, 1) := by decide +kernel
theorem dL_law_404 : decode cL_law 404 = .ok (.iload 4, 2) := by decide +kernel
theorem dL_law_406 : decode cL_law 406 = .ok (.iconst 1, 1) := by decide +kernel
theorem dL_law_407 : decode cL_law 407 = .ok (.iadd, 1) := by decide +kernel
theorem dL_law_408 : decode cL_law 408 = .ok (.iaload, 1) := by decide +kernel
theorem dL_law_409 : decode cL_law 409 = .ok (.aload_n 0, 1) := by decide +kernel
theorem dL_law_410 : decode cL_law 410 = .ok (.iload 4, 2) := by decide +kernel
theorem dL_law_412 : decode cL_law 412 = .ok (.iconst 2, 1) := by decide +kernel
theorem dL_law_413 : decode cL_law 413 = .ok (.iadd, 1) := by decide +kernel
theorem dL_law_414 : decode cL_law 414 = .ok (.iaload, 1) := by decide +kernel
theorem dL_law_415 : decode cL_law 415 = .ok (.aload_n 3, 1) := by decide +kernel
theorem dL_law_416 : decode cL_law 416 = .ok (.invokestatic 138, 3) := by decide +kernel
theorem dL_law_419 : decode cL_law 419 = .ok (.istore 5, 2) := by decide +kernel
theorem dL_law_421 : decode cL_law 421 = .ok (.aload_n 2, 1) := by decide +kernel
theorem dL_law_422 : decode cL_law 422 = .ok (.aload_n 0, 1) := by decide +kernel
theorem dL_law_423 : decode cL_law 423 = .ok (.iload 4, 2) := by decide +kernel
theorem dL_law_425 : decode cL_law 425 = .ok (.iconst 1, 1) := by decide +kernel
theorem dL_law_426 : decode cL_law 426 = .ok (.iadd, 1) := by decide +kernel
theorem dL_law_427 : decode cL_law 427 = .ok (.iaload, 1) := by decide +kernel
theorem dL_law_428 : decode cL_law 428 = .ok (.aload_n 0, 1) := by decide +kernel
theorem dL_law_429 : decode cL_law 429 = .ok (.iload 4, 2) := by decide +kernel
theorem dL_law_431 : decode cL_law 431 = .ok (.iconst 2, 1) := by decide +kernel
theorem dL_law_432 : decode cL_law 432 = .ok (.iadd, 1) := by decide +kernel
theorem dL_law_433 : decode cL_law 433 = .ok (.iaload, 1) := by decide +kernel
theorem dL_law_434 : decode cL_law 434 = .ok (.invokevirtual 141, 3) := by decide +kernel
theorem dL_law_437 : decode cL_law 437 = .ok (.istore 6, 2) := by decide +kernel
theorem dL_law_439 : decode cL_law 439 = .ok (.aload_n 2, 1) := by decide +kernel
theorem dL_law_440 : decode cL_law 440 = .ok (.invokevirtual 127, 3) := by decide +kernel
theorem dL_law_443 : decode cL_law 443 = .ok (.iload 5, 2) := by decide +kernel
theorem dL_law_445 : decode cL_law 445 = .ok (.if_icmp .eq 5, 3) := by decide +kernel
theorem dL_law_448 : decode cL_law 448 = .ok (.iconst 0, 1) := by decide +kernel
theorem dL_law_449 : decode cL_law 449 = .ok (.ireturn, 1) := by decide +kernel
theorem dL_law_450 : decode cL_law 450 = .ok (.iload 5, 2) := by decide +kernel
theorem dL_law_452 : decode cL_law 452 = .ok (.ifCond .ne 15, 3) := by decide +kernel
theorem dL_law_455 : decode cL_law 455 = .ok (.aload_n 3, 1) := by decide +kernel
theorem dL_law_456 : decode cL_law 456 = .ok (.iconst 0, 1) := by decide +kernel
theorem dL_law_457 : decode cL_law 457 = .ok (.laload, 1) := by decide +kernel
theorem dL_law_458 : decode cL_law 458 = .ok (.iload 6, 2) := by decide +kernel
theorem dL_law_460 : decode cL_law 460 = .ok (.i2l, 1) := by decide +kernel
theorem dL_law_461 : decode cL_law 461 = .ok (.lcmp, 1) := by decide +kernel
theorem dL_law_462 : decode cL_law 462 = .ok (.ifCond .eq 5, 3) := by decide +kernel
theorem dL_law_465 : decode cL_law 465 = .ok (.iconst 0, 1) := by decide +kernel
theorem dL_law_466 : decode cL_law 466 = .ok (.ireturn, 1) := by decide +kernel
theorem dL_law_467 : decode cL_law 467 = .ok (.goto 2215, 3) := by decide +kernel
theorem dL_law_470 : decode cL_law 470 = .ok (.aload_n 1, 1) := by decide +kernel
theorem dL_law_471 : decode cL_law 471 = .ok (.aload_n 0, 1) := by decide +kernel
theorem dL_law_472 : decode cL_law 472 = .ok (.iload 4, 2) := by decide +kernel
theorem dL_law_474 : decode cL_law 474 = .ok (.iconst 1, 1) := by decide +kernel
theorem dL_law_475 : decode cL_law 475 = .ok (.iadd, 1) := by decide +kernel
theorem dL_law_476 : decode cL_law 476 = .ok (.iaload, 1) := by decide +kernel
theorem dL_law_477 : decode cL_law 477 = .ok (.aload_n 0, 1) := by decide +kernel
theorem dL_law_478 : decode cL_law 478 = .ok (.iload 4, 2) := by decide +kernel
theorem dL_law_480 : decode cL_law 480 = .ok (.iconst 2, 1) := by decide +kernel
theorem dL_law_481 : decode cL_law 481 = .ok (.iadd, 1) := by decide +kernel
theorem dL_law_482 : decode cL_law 482 = .ok (.iaload, 1) := by decide +kernel
theorem dL_law_483 : decode cL_law 483 = .ok (.aload_n 3, 1) := by decide +kernel
theorem dL_law_484 : decode cL_law 484 = .ok (.invokestatic 142, 3) := by decide +kernel
theorem dL_law_487 : decode cL_law 487 = .ok (.istore 5, 2) := by decide +kernel
theorem dL_law_489 : decode cL_law 489 = .ok (.aload_n 2, 1) := by decide +kernel
theorem dL_law_490 : decode cL_law 490 = .ok (.aload_n 0, 1) := by decide +kernel
theorem dL_law_491 : decode cL_law 491 = .ok (.iload 4, 2) := by decide +kernel
theorem dL_law_493 : decode cL_law 493 = .ok (.iconst 1, 1) := by decide +kernel
theorem dL_law_494 : decode cL_law 494 = .ok (.iadd, 1) := by decide +kernel
theorem dL_law_495 : decode cL_law 495 = .ok (.iaload, 1) := by decide +kernel
theorem dL_law_496 : decode cL_law 496 = .ok (.aload_n 0, 1) := by decide +kernel
theorem dL_law_497 : decode cL_law 497 = .ok (.iload 4, 2) := by decide +kernel
theorem dL_law_499 : decode cL_law 499 = .ok (.iconst 2, 1) := by decide +kernel
theorem dL_law_500 : decode cL_law 500 = .ok (.iadd, 1) := by decide +kernel
theorem dL_law_501 : decode cL_law 501 = .ok (.iaload, 1) := by decide +kernel
theorem dL_law_502 : decode cL_law 502 = .ok (.invokevirtual 144, 3) := by decide +kernel
theorem dL_law_505 : decode cL_law 505 = .ok (.istore 6, 2) := by decide +kernel
theorem dL_law_507 : decode cL_law 507 = .ok (.aload_n 2, 1) := by decide +kernel
theorem dL_law_508 : decode cL_law 508 = .ok (.invokevirtual 127, 3) := by decide +kernel
theorem dL_law_511 : decode cL_law 511 = .ok (.iload 5, 2) := by decide +kernel
theorem dL_law_513 : decode cL_law 513 = .ok (.if_icmp .eq 5, 3) := by decide +kernel
theorem dL_law_516 : decode cL_law 516 = .ok (.iconst 0, 1) := by decide +kernel
theorem dL_law_517 : decode cL_law 517 = .ok (.ireturn, 1) := by decide +kernel
theorem dL_law_518 : decode cL_law 518 = .ok (.iload 5, 2) := by decide +kernel
theorem dL_law_520 : decode cL_law 520 = .ok (.ifCond .ne 15, 3) := by decide +kernel
theorem dL_law_523 : decode cL_law 523 = .ok (.aload_n 3, 1) := by decide +kernel
theorem dL_law_524 : decode cL_law 524 = .ok (.iconst 0, 1) := by decide +kernel
theorem dL_law_525 : decode cL_law 525 = .ok (.laload, 1) := by decide +kernel
theorem dL_law_526 : decode cL_law 526 = .ok (.iload 6, 2) := by decide +kernel
theorem dL_law_528 : decode cL_law 528 = .ok (.i2l, 1) := by decide +kernel
theorem dL_law_529 : decode cL_law 529 = .ok (.lcmp, 1) := by decide +kernel
theorem dL_law_530 : decode cL_law 530 = .ok (.ifCond .eq 5, 3) := by decide +kernel
theorem dL_law_533 : decode cL_law 533 = .ok (.iconst 0, 1) := by decide +kernel
theorem dL_law_534 : decode cL_law 534 = .ok (.ireturn, 1) := by decide +kernel
theorem dL_law_535 : decode cL_law 535 = .ok (.goto 2147, 3) := by decide +kernel
theorem dL_law_538 : decode cL_law 538 = .ok (.aload_n 1, 1) := by decide +kernel
theorem dL_law_539 : decode cL_law 539 = .ok (.aload_n 0, 1) := by decide +kernel
theorem dL_law_540 : decode cL_law 540 = .ok (.iload 4, 2) := by decide +kernel
theorem dL_law_542 : decode cL_law 542 = .ok (.iconst 1, 1) := by decide +kernel
theorem dL_law_543 : decode cL_law 543 = .ok (.iadd, 1) := by decide +kernel
theorem dL_law_544 : decode cL_law 544 = .ok (.iaload, 1) := by decide +kernel
theorem dL_law_545 : decode cL_law 545 = .ok (.aload_n 0, 1) := by decide +kernel
theorem dL_law_546 : decode cL_law 546 = .ok (.iload 4, 2) := by decide +kernel
theorem dL_law_548 : decode cL_law 548 = .ok (.iconst 2, 1) := by decide +kernel
theorem dL_law_549 : decode cL_law 549 = .ok (.iadd, 1) := by decide +kernel
theorem dL_law_550 : decode cL_law 550 = .ok (.iaload, 1) := by decide +kernel
theorem dL_law_551 : decode cL_law 551 = .ok (.aload_n 0, 1) := by decide +kernel
theorem dL_law_552 : decode cL_law 552 = .ok (.iload 4, 2) := by decide +kernel
theorem dL_law_554 : decode cL_law 554 = .ok (.iconst 3, 1) := by decide +kernel
theorem dL_law_555 : decode cL_law 555 = .ok (.iadd, 1) := by decide +kernel
theorem dL_law_556 : decode cL_law 556 = .ok (.iaload, 1) := by decide +kernel
theorem dL_law_557 : decode cL_law 557 = .ok (.aload_n 3, 1) := by decide +kernel
theorem dL_law_558 : decode cL_law 558 = .ok (.invokestatic 145, 3) := by decide +kernel
theorem dL_law_561 : decode cL_law 561 = .ok (.istore 5, 2) := by decide +kernel
theorem dL_law_563 : decode cL_law 563 = .ok (.aload_n 2, 1) := by decide +kernel
theorem dL_law_564 : decode cL_law 564 = .ok (.aload_n 0, 1) := by decide +kernel
theorem dL_law_565 : decode cL_law 565 = .ok (.iload 4, 2) := by decide +kernel
theorem dL_law_567 : decode cL_law 567 = .ok (.iconst 1, 1) := by decide +kernel
theorem dL_law_568 : decode cL_law 568 = .ok (.iadd, 1) := by decide +kernel
theorem dL_law_569 : decode cL_law 569 = .ok (.iaload, 1) := by decide +kernel
theorem dL_law_570 : decode cL_law 570 = .ok (.aload_n 0, 1) := by decide +kernel
theorem dL_law_571 : decode cL_law 571 = .ok (.iload 4, 2) := by decide +kernel
theorem dL_law_573 : decode cL_law 573 = .ok (.iconst 2, 1) := by decide +kernel
theorem dL_law_574 : decode cL_law 574 = .ok (.iadd, 1) := by decide +kernel
theorem dL_law_575 : decode cL_law 575 = .ok (.iaload, 1) := by decide +kernel
theorem dL_law_576 : decode cL_law 576 = .ok (.aload_n 0, 1) := by decide +kernel
theorem dL_law_577 : decode cL_law 577 = .ok (.iload 4, 2) := by decide +kernel
theorem dL_law_579 : decode cL_law 579 = .ok (.iconst 3, 1) := by decide +kernel
theorem dL_law_580 : decode cL_law 580 = .ok (.iadd, 1) := by decide +kernel
theorem dL_law_581 : decode cL_law 581 = .ok (.iaload, 1) := by decide +kernel
theorem dL_law_582 : decode cL_law 582 = .ok (.invokevirtual 148, 3) := by decide +kernel
theorem dL_law_585 : decode cL_law 585 = .ok (.istore 6, 2) := by decide +kernel
theorem dL_law_587 : decode cL_law 587 = .ok (.aload_n 2, 1) := by decide +kernel
theorem dL_law_588 : decode cL_law 588 = .ok (.invokevirtual 127, 3) := by decide +kernel
theorem dL_law_591 : decode cL_law 591 = .ok (.iload 5, 2) := by decide +kernel
theorem dL_law_593 : decode cL_law 593 = .ok (.if_icmp .eq 5, 3) := by decide +kernel
theorem dL_law_596 : decode cL_law 596 = .ok (.iconst 0, 1) := by decide +kernel
theorem dL_law_597 : decode cL_law 597 = .ok (.ireturn, 1) := by decide +kernel
theorem dL_law_598 : decode cL_law 598 = .ok (.iload 5, 2) := by decide +kernel
theorem dL_law_600 : decode cL_law 600 = .ok (.ifCond .ne 15, 3) := by decide +kernel
theorem dL_law_603 : decode cL_law 603 = .ok (.aload_n 3, 1) := by decide +kernel
theorem dL_law_604 : decode cL_law 604 = .ok (.iconst 0, 1) := by decide +kernel
theorem dL_law_605 : decode cL_law 605 = .ok (.laload, 1) := by decide +kernel
theorem dL_law_606 : decode cL_law 606 = .ok (.iload 6, 2) := by decide +kernel
theorem dL_law_608 : decode cL_law 608 = .ok (.i2l, 1) := by decide +kernel
theorem dL_law_609 : decode cL_law 609 = .ok (.lcmp, 1) := by decide +kernel
theorem dL_law_610 : decode cL_law 610 = .ok (.ifCond .eq 5, 3) := by decide +kernel
theorem dL_law_613 : decode cL_law 613 = .ok (.iconst 0, 1) := by decide +kernel
theorem dL_law_614 : decode cL_law 614 = .ok (.ireturn, 1) := by decide +kernel
theorem dL_law_615 : decode cL_law 615 = .ok (.goto 2067, 3) := by decide +kernel
theorem dL_law_618 : decode cL_law 618 = .ok (.aload_n 1, 1) := by decide +kernel
theorem dL_law_619 : decode cL_law 619 = .ok (.aload_n 0, 1) := by decide +kernel
theorem dL_law_620 : decode cL_law 620 = .ok (.iload 4, 2) := by decide +kernel
theorem dL_law_622 : decode cL_law 622 = .ok (.iconst 1, 1) := by decide +kernel
theorem dL_law_623 : decode cL_law 623 = .ok (.iadd, 1) := by decide +kernel
theorem dL_law_624 : decode cL_law 624 = .ok (.iaload, 1) := by decide +kernel
theorem dL_law_625 : decode cL_law 625 = .ok (.aload_n 0, 1) := by decide +kernel
theorem dL_law_626 : decode cL_law 626 = .ok (.iload 4, 2) := by decide +kernel
theorem dL_law_628 : decode cL_law 628 = .ok (.iconst 2, 1) := by decide +kernel
theorem dL_law_629 : decode cL_law 629 = .ok (.iadd, 1) := by decide +kernel
theorem dL_law_630 : decode cL_law 630 = .ok (.iaload, 1) := by decide +kernel
theorem dL_law_631 : decode cL_law 631 = .ok (.aload_n 0, 1) := by decide +kernel
theorem dL_law_632 : decode cL_law 632 = .ok (.iload 4, 2) := by decide +kernel
theorem dL_law_634 : decode cL_law 634 = .ok (.iconst 3, 1) := by decide +kernel
theorem dL_law_635 : decode cL_law 635 = .ok (.iadd, 1) := by decide +kernel
theorem dL_law_636 : decode cL_law 636 = .ok (.iaload, 1) := by decide +kernel
theorem dL_law_637 : decode cL_law 637 = .ok (.aload_n 0, 1) := by decide +kernel
theorem dL_law_638 : decode cL_law 638 = .ok (.iload 4, 2) := by decide +kernel
theorem dL_law_640 : decode cL_law 640 = .ok (.iconst 4, 1) := by decide +kernel
theorem dL_law_641 : decode cL_law 641 = .ok (.iadd, 1) := by decide +kernel
theorem dL_law_642 : decode cL_law 642 = .ok (.iaload, 1) := by decide +kernel
theorem dL_law_643 : decode cL_law 643 = .ok (.aload_n 3, 1) := by decide +kernel
theorem dL_law_644 : decode cL_law 644 = .ok (.invokestatic 149, 3) := by decide +kernel
theorem dL_law_647 : decode cL_law 647 = .ok (.istore 5, 2) := by decide +kernel
theorem dL_law_649 : decode cL_law 649 = .ok (.aload_n 2, 1) := by decide +kernel
theorem dL_law_650 : decode cL_law 650 = .ok (.aload_n 0, 1) := by decide +kernel
theorem dL_law_651 : decode cL_law 651 = .ok (.iload 4, 2) := by decide +kernel
theorem dL_law_653 : decode cL_law 653 = .ok (.iconst 1, 1) := by decide +kernel
theorem dL_law_654 : decode cL_law 654 = .ok (.iadd, 1) := by decide +kernel
theorem dL_law_655 : decode cL_law 655 = .ok (.iaload, 1) := by decide +kernel
theorem dL_law_656 : decode cL_law 656 = .ok (.aload_n 0, 1) := by decide +kernel
theorem dL_law_657 : decode cL_law 657 = .ok (.iload 4, 2) := by decide +kernel
theorem dL_law_659 : decode cL_law 659 = .ok (.iconst 2, 1) := by decide +kernel
theorem dL_law_660 : decode cL_law 660 = .ok (.iadd, 1) := by decide +kernel
theorem dL_law_661 : decode cL_law 661 = .ok (.iaload, 1) := by decide +kernel
theorem dL_law_662 : decode cL_law 662 = .ok (.aload_n 0, 1) := by decide +kernel
theorem dL_law_663 : decode cL_law 663 = .ok (.iload 4, 2) := by decide +kernel
theorem dL_law_665 : decode cL_law 665 = .ok (.iconst 3, 1) := by decide +kernel
theorem dL_law_666 : decode cL_law 666 = .ok (.iadd, 1) := by decide +kernel
theorem dL_law_667 : decode cL_law 667 = .ok (.iaload, 1) := by decide +kernel
theorem dL_law_668 : decode cL_law 668 = .ok (.aload_n 0, 1) := by decide +kernel
theorem dL_law_669 : decode cL_law 669 = .ok (.iload 4, 2) := by decide +kernel
theorem dL_law_671 : decode cL_law 671 = .ok (.iconst 4, 1) := by decide +kernel
theorem dL_law_672 : decode cL_law 672 = .ok (.iadd, 1) := by decide +kernel
theorem dL_law_673 : decode cL_law 673 = .ok (.iaload, 1) := by decide +kernel
theorem dL_law_674 : decode cL_law 674 = .ok (.invokevirtual 152, 3) := by decide +kernel
theorem dL_law_677 : decode cL_law 677 = .ok (.istore 6, 2) := by decide +kernel
theorem dL_law_679 : decode cL_law 679 = .ok (.aload_n 2, 1) := by decide +kernel
theorem dL_law_680 : decode cL_law 680 = .ok (.invokevirtual 127, 3) := by decide +kernel
theorem dL_law_683 : decode cL_law 683 = .ok (.iload 5, 2) := by decide +kernel
theorem dL_law_685 : decode cL_law 685 = .ok (.if_icmp .eq 5, 3) := by decide +kernel
theorem dL_law_688 : decode cL_law 688 = .ok (.iconst 0, 1) := by decide +kernel
theorem dL_law_689 : decode cL_law 689 = .ok (.ireturn, 1) := by decide +kernel
theorem dL_law_690 : decode cL_law 690 = .ok (.iload 5, 2) := by decide +kernel
theorem dL_law_692 : decode cL_law 692 = .ok (.ifCond .ne 22, 3) := by decide +kernel
theorem dL_law_695 : decode cL_law 695 = .ok (.aload_n 3, 1) := by decide +kernel
theorem dL_law_696 : decode cL_law 696 = .ok (.iconst 0, 1) := by decide +kernel
theorem dL_law_697 : decode cL_law 697 = .ok (.laload, 1) := by decide +kernel
theorem dL_law_698 : decode cL_law 698 = .ok (.iload 6, 2) := by decide +kernel
theorem dL_law_700 : decode cL_law 700 = .ok (.ifCond .eq 7, 3) := by decide +kernel
theorem dL_law_703 : decode cL_law 703 = .ok (.lconst 1, 1) := by decide +kernel
theorem dL_law_704 : decode cL_law 704 = .ok (.goto 4, 3) := by decide +kernel
theorem dL_law_707 : decode cL_law 707 = .ok (.lconst 0, 1) := by decide +kernel
theorem dL_law_708 : decode cL_law 708 = .ok (.lcmp, 1) := by decide +kernel
theorem dL_law_709 : decode cL_law 709 = .ok (.ifCond .eq 5, 3) := by decide +kernel
theorem dL_law_712 : decode cL_law 712 = .ok (.iconst 0, 1) := by decide +kernel
theorem dL_law_713 : decode cL_law 713 = .ok (.ireturn, 1) := by decide +kernel
theorem dL_law_714 : decode cL_law 714 = .ok (.goto 1968, 3) := by decide +kernel
theorem dL_law_717 : decode cL_law 717 = .ok (.aload_n 1, 1) := by decide +kernel
theorem dL_law_718 : decode cL_law 718 = .ok (.aload_n 0, 1) := by decide +kernel
theorem dL_law_719 : decode cL_law 719 = .ok (.iload 4, 2) := by decide +kernel
theorem dL_law_721 : decode cL_law 721 = .ok (.iconst 1, 1) := by decide +kernel
theorem dL_law_722 : decode cL_law 722 = .ok (.iadd, 1) := by decide +kernel
theorem dL_law_723 : decode cL_law 723 = .ok (.iaload, 1) := by decide +kernel
theorem dL_law_724 : decode cL_law 724 = .ok (.aload_n 0, 1) := by decide +kernel
theorem dL_law_725 : decode cL_law 725 = .ok (.iload 4, 2) := by decide +kernel
theorem dL_law_727 : decode cL_law 727 = .ok (.iconst 2, 1) := by decide +kernel
theorem dL_law_728 : decode cL_law 728 = .ok (.iadd, 1) := by decide +kernel
theorem dL_law_729 : decode cL_law 729 = .ok (.iaload, 1) := by decide +kernel
theorem dL_law_730 : decode cL_law 730 = .ok (.aload_n 3, 1) := by decide +kernel
theorem dL_law_731 : decode cL_law 731 = .ok (.invokestatic 153, 3) := by decide +kernel
theorem dL_law_734 : decode cL_law 734 = .ok (.istore 5, 2) := by decide +kernel
theorem dL_law_736 : decode cL_law 736 = .ok (.aload_n 2, 1) := by decide +kernel
theorem dL_law_737 : decode cL_law 737 = .ok (.aload_n 0, 1) := by decide +kernel
theorem dL_law_738 : decode cL_law 738 = .ok (.iload 4, 2) := by decide +kernel
theorem dL_law_740 : decode cL_law 740 = .ok (.iconst 1, 1) := by decide +kernel
theorem dL_law_741 : decode cL_law 741 = .ok (.iadd, 1) := by decide +kernel
theorem dL_law_742 : decode cL_law 742 = .ok (.iaload, 1) := by decide +kernel
theorem dL_law_743 : decode cL_law 743 = .ok (.aload_n 0, 1) := by decide +kernel
theorem dL_law_744 : decode cL_law 744 = .ok (.iload 4, 2) := by decide +kernel
theorem dL_law_746 : decode cL_law 746 = .ok (.iconst 2, 1) := by decide +kernel
theorem dL_law_747 : decode cL_law 747 = .ok (.iadd, 1) := by decide +kernel
theorem dL_law_748 : decode cL_law 748 = .ok (.iaload, 1) := by decide +kernel
theorem dL_law_749 : decode cL_law 749 = .ok (.invokevirtual 155, 3) := by decide +kernel
theorem dL_law_752 : decode cL_law 752 = .ok (.istore 6, 2) := by decide +kernel
theorem dL_law_754 : decode cL_law 754 = .ok (.aload_n 2, 1) := by decide +kernel
theorem dL_law_755 : decode cL_law 755 = .ok (.invokevirtual 127, 3) := by decide +kernel
theorem dL_law_758 : decode cL_law 758 = .ok (.iload 5, 2) := by decide +kernel
theorem dL_law_760 : decode cL_law 760 = .ok (.if_icmp .eq 5, 3) := by decide +kernel
theorem dL_law_763 : decode cL_law 763 = .ok (.iconst 0, 1) := by decide +kernel
theorem dL_law_764 : decode cL_law 764 = .ok (.ireturn, 1) := by decide +kernel
theorem dL_law_765 : decode cL_law 765 = .ok (.iload 5, 2) := by decide +kernel
theorem dL_law_767 : decode cL_law 767 = .ok (.ifCond .ne 15, 3) := by decide +kernel
theorem dL_law_770 : decode cL_law 770 = .ok (.aload_n 3, 1) := by decide +kernel
theorem dL_law_771 : decode cL_law 771 = .ok (.iconst 0, 1) := by decide +kernel
theorem dL_law_772 : decode cL_law 772 = .ok (.laload, 1) := by decide +kernel
theorem dL_law_773 : decode cL_law 773 = .ok (.iload 6, 2) := by decide +kernel
theorem dL_law_775 : decode cL_law 775 = .ok (.i2l, 1) := by decide +kernel
theorem dL_law_776 : decode cL_law 776 = .ok (.lcmp, 1) := by decide +kernel
theorem dL_law_777 : decode cL_law 777 = .ok (.ifCond .eq 5, 3) := by decide +kernel
theorem dL_law_780 : decode cL_law 780 = .ok (.iconst 0, 1) := by decide +kernel
theorem dL_law_781 : decode cL_law 781 = .ok (.ireturn, 1) := by decide +kernel
theorem dL_law_782 : decode cL_law 782 = .ok (.goto 1900, 3) := by decide +kernel
theorem dL_law_785 : decode cL_law 785 = .ok (.aload_n 1, 1) := by decide +kernel
theorem dL_law_786 : decode cL_law 786 = .ok (.aload_n 0, 1) := by decide +kernel
theorem dL_law_787 : decode cL_law 787 = .ok (.iload 4, 2) := by decide +kernel
theorem dL_law_789 : decode cL_law 789 = .ok (.iconst 1, 1) := by decide +kernel
theorem dL_law_790 : decode cL_law 790 = .ok (.iadd, 1) := by decide +kernel
theorem dL_law_791 : decode cL_law 791 = .ok (.iaload, 1) := by decide +kernel
theorem dL_law_792 : decode cL_law 792 = .ok (.aload_n 0, 1) := by decide +kernel
theorem dL_law_793 : decode cL_law 793 = .ok (.iload 4, 2) := by decide +kernel
theorem dL_law_795 : decode cL_law 795 = .ok (.iconst 2, 1) := by decide +kernel
theorem dL_law_796 : decode cL_law 796 = .ok (.iadd, 1) := by decide +kernel
theorem dL_law_797 : decode cL_law 797 = .ok (.iaload, 1) := by decide +kernel
theorem dL_law_798 : decode cL_law 798 = .ok (.aload_n 3, 1) := by decide +kernel
theorem dL_law_799 : decode cL_law 799 = .ok (.invokestatic 156, 3) := by decide +kernel
theorem dL_law_802 : decode cL_law 802 = .ok (.istore 5, 2) := by decide +kernel
theorem dL_law_804 : decode cL_law 804 = .ok (.aload_n 2, 1) := by decide +kernel
theorem dL_law_805 : decode cL_law 805 = .ok (.aload_n 0, 1) := by decide +kernel
theorem dL_law_806 : decode cL_law 806 = .ok (.iload 4, 2) := by decide +kernel
theorem dL_law_808 : decode cL_law 808 = .ok (.iconst 1, 1) := by decide +kernel
theorem dL_law_809 : decode cL_law 809 = .ok (.iadd, 1) := by decide +kernel
theorem dL_law_810 : decode cL_law 810 = .ok (.iaload, 1) := by decide +kernel
theorem dL_law_811 : decode cL_law 811 = .ok (.aload_n 0, 1) := by decide +kernel
theorem dL_law_812 : decode cL_law 812 = .ok (.iload 4, 2) := by decide +kernel
theorem dL_law_814 : decode cL_law 814 = .ok (.iconst 2, 1) := by decide +kernel
theorem dL_law_815 : decode cL_law 815 = .ok (.iadd, 1) := by decide +kernel
theorem dL_law_816 : decode cL_law 816 = .ok (.iaload, 1) := by decide +kernel
theorem dL_law_817 : decode cL_law 817 = .ok (.invokevirtual 158, 3) := by decide +kernel
theorem dL_law_820 : decode cL_law 820 = .ok (.istore 6, 2) := by decide +kernel
theorem dL_law_822 : decode cL_law 822 = .ok (.aload_n 2, 1) := by decide +kernel
theorem dL_law_823 : decode cL_law 823 = .ok (.invokevirtual 127, 3) := by decide +kernel
theorem dL_law_826 : decode cL_law 826 = .ok (.iload 5, 2) := by decide +kernel
theorem dL_law_828 : decode cL_law 828 = .ok (.if_icmp .eq 5, 3) := by decide +kernel
theorem dL_law_831 : decode cL_law 831 = .ok (.iconst 0, 1) := by decide +kernel
theorem dL_law_832 : decode cL_law 832 = .ok (.ireturn, 1) := by decide +kernel
theorem dL_law_833 : decode cL_law 833 = .ok (.iload 5, 2) := by decide +kernel
theorem dL_law_835 : decode cL_law 835 = .ok (.ifCond .ne 15, 3) := by decide +kernel
theorem dL_law_838 : decode cL_law 838 = .ok (.aload_n 3, 1) := by decide +kernel
theorem dL_law_839 : decode cL_law 839 = .ok (.iconst 0, 1) := by decide +kernel
theorem dL_law_840 : decode cL_law 840 = .ok (.laload, 1) := by decide +kernel
theorem dL_law_841 : decode cL_law 841 = .ok (.iload 6, 2) := by decide +kernel
theorem dL_law_843 : decode cL_law 843 = .ok (.i2l, 1) := by decide +kernel
theorem dL_law_844 : decode cL_law 844 = .ok (.lcmp, 1) := by decide +kernel
theorem dL_law_845 : decode cL_law 845 = .ok (.ifCond .eq 5, 3) := by decide +kernel
theorem dL_law_848 : decode cL_law 848 = .ok (.iconst 0, 1) := by decide +kernel
theorem dL_law_849 : decode cL_law 849 = .ok (.ireturn, 1) := by decide +kernel
theorem dL_law_850 : decode cL_law 850 = .ok (.goto 1832, 3) := by decide +kernel
theorem dL_law_853 : decode cL_law 853 = .ok (.aload_n 1, 1) := by decide +kernel
theorem dL_law_854 : decode cL_law 854 = .ok (.aload_n 0, 1) := by decide +kernel
theorem dL_law_855 : decode cL_law 855 = .ok (.iload 4, 2) := by decide +kernel
theorem dL_law_857 : decode cL_law 857 = .ok (.iconst 1, 1) := by decide +kernel
theorem dL_law_858 : decode cL_law 858 = .ok (.iadd, 1) := by decide +kernel
theorem dL_law_859 : decode cL_law 859 = .ok (.iaload, 1) := by decide +kernel
theorem dL_law_860 : decode cL_law 860 = .ok (.aload_n 0, 1) := by decide +kernel
theorem dL_law_861 : decode cL_law 861 = .ok (.iload 4, 2) := by decide +kernel
theorem dL_law_863 : decode cL_law 863 = .ok (.iconst 2, 1) := by decide +kernel
theorem dL_law_864 : decode cL_law 864 = .ok (.iadd, 1) := by decide +kernel
theorem dL_law_865 : decode cL_law 865 = .ok (.iaload, 1) := by decide +kernel
theorem dL_law_866 : decode cL_law 866 = .ok (.ifCond .eq 7, 3) := by decide +kernel
theorem dL_law_869 : decode cL_law 869 = .ok (.iconst 1, 1) := by decide +kernel
theorem dL_law_870 : decode cL_law 870 = .ok (.goto 4, 3) := by decide +kernel
theorem dL_law_873 : decode cL_law 873 = .ok (.iconst 0, 1) := by decide +kernel
theorem dL_law_874 : decode cL_law 874 = .ok (.aload_n 3, 1) := by decide +kernel
theorem dL_law_875 : decode cL_law 875 = .ok (.invokestatic 159, 3) := by decide +kernel
theorem dL_law_878 : decode cL_law 878 = .ok (.istore 5, 2) := by decide +kernel
theorem dL_law_880 : decode cL_law 880 = .ok (.aload_n 2, 1) := by decide +kernel
theorem dL_law_881 : decode cL_law 881 = .ok (.aload_n 0, 1) := by decide +kernel
theorem dL_law_882 : decode cL_law 882 = .ok (.iload 4, 2) := by decide +kernel
theorem dL_law_884 : decode cL_law 884 = .ok (.iconst 1, 1) := by decide +kernel
theorem dL_law_885 : decode cL_law 885 = .ok (.iadd, 1) := by decide +kernel
theorem dL_law_886 : decode cL_law 886 = .ok (.iaload, 1) := by decide +kernel
theorem dL_law_887 : decode cL_law 887 = .ok (.aload_n 0, 1) := by decide +kernel
theorem dL_law_888 : decode cL_law 888 = .ok (.iload 4, 2) := by decide +kernel
theorem dL_law_890 : decode cL_law 890 = .ok (.iconst 2, 1) := by decide +kernel
theorem dL_law_891 : decode cL_law 891 = .ok (.iadd, 1) := by decide +kernel
theorem dL_law_892 : decode cL_law 892 = .ok (.iaload, 1) := by decide +kernel
theorem dL_law_893 : decode cL_law 893 = .ok (.ifCond .eq 7, 3) := by decide +kernel
theorem dL_law_896 : decode cL_law 896 = .ok (.iconst 1, 1) := by decide +kernel
theorem dL_law_897 : decode cL_law 897 = .ok (.goto 4, 3) := by decide +kernel
theorem dL_law_900 : decode cL_law 900 = .ok (.iconst 0, 1) := by decide +kernel
theorem dL_law_901 : decode cL_law 901 = .ok (.invokevirtual 162, 3) := by decide +kernel
theorem dL_law_904 : decode cL_law 904 = .ok (.istore 6, 2) := by decide +kernel
theorem dL_law_906 : decode cL_law 906 = .ok (.aload_n 2, 1) := by decide +kernel
theorem dL_law_907 : decode cL_law 907 = .ok (.invokevirtual 127, 3) := by decide +kernel
theorem dL_law_910 : decode cL_law 910 = .ok (.iload 5, 2) := by decide +kernel
theorem dL_law_912 : decode cL_law 912 = .ok (.if_icmp .eq 5, 3) := by decide +kernel
theorem dL_law_915 : decode cL_law 915 = .ok (.iconst 0, 1) := by decide +kernel
theorem dL_law_916 : decode cL_law 916 = .ok (.ireturn, 1) := by decide +kernel
theorem dL_law_917 : decode cL_law 917 = .ok (.iload 5, 2) := by decide +kernel
theorem dL_law_919 : decode cL_law 919 = .ok (.ifCond .ne 15, 3) := by decide +kernel
theorem dL_law_922 : decode cL_law 922 = .ok (.aload_n 3, 1) := by decide +kernel
theorem dL_law_923 : decode cL_law 923 = .ok (.iconst 0, 1) := by decide +kernel
theorem dL_law_924 : decode cL_law 924 = .ok (.laload, 1) := by decide +kernel
theorem dL_law_925 : decode cL_law 925 = .ok (.iload 6, 2) := by decide +kernel
theorem dL_law_927 : decode cL_law 927 = .ok (.i2l, 1) := by decide +kernel
theorem dL_law_928 : decode cL_law 928 = .ok (.lcmp, 1) := by decide +kernel
theorem dL_law_929 : decode cL_law 929 = .ok (.ifCond .eq 5, 3) := by decide +kernel
theorem dL_law_932 : decode cL_law 932 = .ok (.iconst 0, 1) := by decide +kernel
theorem dL_law_933 : decode cL_law 933 = .ok (.ireturn, 1) := by decide +kernel
theorem dL_law_934 : decode cL_law 934 = .ok (.goto 1748, 3) := by decide +kernel
theorem dL_law_937 : decode cL_law 937 = .ok (.aload_n 1, 1) := by decide +kernel
theorem dL_law_938 : decode cL_law 938 = .ok (.aload_n 0, 1) := by decide +kernel
theorem dL_law_939 : decode cL_law 939 = .ok (.iload 4, 2) := by decide +kernel
theorem dL_law_941 : decode cL_law 941 = .ok (.iconst 1, 1) := by decide +kernel
theorem dL_law_942 : decode cL_law 942 = .ok (.iadd, 1) := by decide +kernel
theorem dL_law_943 : decode cL_law 943 = .ok (.iaload, 1) := by decide +kernel
theorem dL_law_944 : decode cL_law 944 = .ok (.aload_n 0, 1) := by decide +kernel
theorem dL_law_945 : decode cL_law 945 = .ok (.iload 4, 2) := by decide +kernel
theorem dL_law_947 : decode cL_law 947 = .ok (.iconst 2, 1) := by decide +kernel
theorem dL_law_948 : decode cL_law 948 = .ok (.iadd, 1) := by decide +kernel
theorem dL_law_949 : decode cL_law 949 = .ok (.iaload, 1) := by decide +kernel
theorem dL_law_950 : decode cL_law 950 = .ok (.aload_n 3, 1) := by decide +kernel
theorem dL_law_951 : decode cL_law 951 = .ok (.invokestatic 163, 3) := by decide +kernel
theorem dL_law_954 : decode cL_law 954 = .ok (.istore 5, 2) := by decide +kernel
theorem dL_law_956 : decode cL_law 956 = .ok (.aload_n 2, 1) := by decide +kernel
theorem dL_law_957 : decode cL_law 957 = .ok (.aload_n 0, 1) := by decide +kernel
theorem dL_law_958 : decode cL_law 958 = .ok (.iload 4, 2) := by decide +kernel
theorem dL_law_960 : decode cL_law 960 = .ok (.iconst 1, 1) := by decide +kernel
theorem dL_law_961 : decode cL_law 961 = .ok (.iadd, 1) := by decide +kernel
theorem dL_law_962 : decode cL_law 962 = .ok (.iaload, 1) := by decide +kernel
theorem dL_law_963 : decode cL_law 963 = .ok (.aload_n 0, 1) := by decide +kernel
theorem dL_law_964 : decode cL_law 964 = .ok (.iload 4, 2) := by decide +kernel
theorem dL_law_966 : decode cL_law 966 = .ok (.iconst 2, 1) := by decide +kernel
theorem dL_law_967 : decode cL_law 967 = .ok (.iadd, 1) := by decide +kernel
theorem dL_law_968 : decode cL_law 968 = .ok (.iaload, 1) := by decide +kernel
theorem dL_law_969 : decode cL_law 969 = .ok (.invokevirtual 165, 3) := by decide +kernel
theorem dL_law_972 : decode cL_law 972 = .ok (.istore 6, 2) := by decide +kernel
theorem dL_law_974 : decode cL_law 974 = .ok (.aload_n 2, 1) := by decide +kernel
theorem dL_law_975 : decode cL_law 975 = .ok (.invokevirtual 127, 3) := by decide +kernel
theorem dL_law_978 : decode cL_law 978 = .ok (.iload 5, 2) := by decide +kernel
theorem dL_law_980 : decode cL_law 980 = .ok (.if_icmp .eq 5, 3) := by decide +kernel
theorem dL_law_983 : decode cL_law 983 = .ok (.iconst 0, 1) := by decide +kernel
theorem dL_law_984 : decode cL_law 984 = .ok (.ireturn, 1) := by decide +kernel
theorem dL_law_985 : decode cL_law 985 = .ok (.iload 5, 2) := by decide +kernel
theorem dL_law_987 : decode cL_law 987 = .ok (.ifCond .ne 15, 3) := by decide +kernel
theorem dL_law_990 : decode cL_law 990 = .ok (.aload_n 3, 1) := by decide +kernel
theorem dL_law_991 : decode cL_law 991 = .ok (.iconst 0, 1) := by decide +kernel
theorem dL_law_992 : decode cL_law 992 = .ok (.laload, 1) := by decide +kernel
theorem dL_law_993 : decode cL_law 993 = .ok (.iload 6, 2) := by decide +kernel
theorem dL_law_995 : decode cL_law 995 = .ok (.i2l, 1) := by decide +kernel
theorem dL_law_996 : decode cL_law 996 = .ok (.lcmp, 1) := by decide +kernel
theorem dL_law_997 : decode cL_law 997 = .ok (.ifCond .eq 5, 3) := by decide +kernel
theorem dL_law_1000 : decode cL_law 1000 = .ok (.iconst 0, 1) := by decide +kernel
theorem dL_law_1001 : decode cL_law 1001 = .ok (.ireturn, 1) := by decide +kernel
theorem dL_law_1002 : decode cL_law 1002 = .ok (.goto 1680, 3) := by decide +kernel
theorem dL_law_1005 : decode cL_law 1005 = .ok (.aload_n 1, 1) := by decide +kernel
theorem dL_law_1006 : decode cL_law 1006 = .ok (.aload_n 0, 1) := by decide +kernel
theorem dL_law_1007 : decode cL_law 1007 = .ok (.iload 4, 2) := by decide +kernel
theorem dL_law_1009 : decode cL_law 1009 = .ok (.iconst 1, 1) := by decide +kernel
theorem dL_law_1010 : decode cL_law 1010 = .ok (.iadd, 1) := by decide +kernel
theorem dL_law_1011 : decode cL_law 1011 = .ok (.iaload, 1) := by decide +kernel
theorem dL_law_1012 : decode cL_law 1012 = .ok (.aload_n 0, 1) := by decide +kernel
theorem dL_law_1013 : decode cL_law 1013 = .ok (.iload 4, 2) := by decide +kernel
theorem dL_law_1015 : decode cL_law 1015 = .ok (.iconst 2, 1) := by decide +kernel
theorem dL_law_1016 : decode cL_law 1016 = .ok (.iadd, 1) := by decide +kernel
theorem dL_law_1017 : decode cL_law 1017 = .ok (.iaload, 1) := by decide +kernel
theorem dL_law_1018 : decode cL_law 1018 = .ok (.aload_n 0, 1) := by decide +kernel
theorem dL_law_1019 : decode cL_law 1019 = .ok (.iload 4, 2) := by decide +kernel
theorem dL_law_1021 : decode cL_law 1021 = .ok (.iconst 3, 1) := by decide +kernel
theorem dL_law_1022 : decode cL_law 1022 = .ok (.iadd, 1) := by decide +kernel
theorem dL_law_1023 : decode cL_law 1023 = .ok (.iaload, 1) := by decide +kernel
theorem dL_law_1024 : decode cL_law 1024 = .ok (.aload_n 3, 1) := by decide +kernel
theorem dL_law_1025 : decode cL_law 1025 = .ok (.invokestatic 166, 3) := by decide +kernel
theorem dL_law_1028 : decode cL_law 1028 = .ok (.istore 5, 2) := by decide +kernel
theorem dL_law_1030 : decode cL_law 1030 = .ok (.aload_n 2, 1) := by decide +kernel
theorem dL_law_1031 : decode cL_law 1031 = .ok (.aload_n 0, 1) := by decide +kernel
theorem dL_law_1032 : decode cL_law 1032 = .ok (.iload 4, 2) := by decide +kernel
theorem dL_law_1034 : decode cL_law 1034 = .ok (.iconst 1, 1) := by decide +kernel
theorem dL_law_1035 : decode cL_law 1035 = .ok (.iadd, 1) := by decide +kernel
theorem dL_law_1036 : decode cL_law 1036 = .ok (.iaload, 1) := by decide +kernel
theorem dL_law_1037 : decode cL_law 1037 = .ok (.aload_n 0, 1) := by decide +kernel
theorem dL_law_1038 : decode cL_law 1038 = .ok (.iload 4, 2) := by decide +kernel
theorem dL_law_1040 : decode cL_law 1040 = .ok (.iconst 2, 1) := by decide +kernel
theorem dL_law_1041 : decode cL_law 1041 = .ok (.iadd, 1) := by decide +kernel
theorem dL_law_1042 : decode cL_law 1042 = .ok (.iaload, 1) := by decide +kernel
theorem dL_law_1043 : decode cL_law 1043 = .ok (.aload_n 0, 1) := by decide +kernel
theorem dL_law_1044 : decode cL_law 1044 = .ok (.iload 4, 2) := by decide +kernel
theorem dL_law_1046 : decode cL_law 1046 = .ok (.iconst 3, 1) := by decide +kernel
theorem dL_law_1047 : decode cL_law 1047 = .ok (.iadd, 1) := by decide +kernel
theorem dL_law_1048 : decode cL_law 1048 = .ok (.iaload, 1) := by decide +kernel
theorem dL_law_1049 : decode cL_law 1049 = .ok (.invokevirtual 168, 3) := by decide +kernel
theorem dL_law_1052 : decode cL_law 1052 = .ok (.istore 6, 2) := by decide +kernel
theorem dL_law_1054 : decode cL_law 1054 = .ok (.aload_n 2, 1) := by decide +kernel
theorem dL_law_1055 : decode cL_law 1055 = .ok (.invokevirtual 127, 3) := by decide +kernel
theorem dL_law_1058 : decode cL_law 1058 = .ok (.iload 5, 2) := by decide +kernel
theorem dL_law_1060 : decode cL_law 1060 = .ok (.if_icmp .eq 5, 3) := by decide +kernel
theorem dL_law_1063 : decode cL_law 1063 = .ok (.iconst 0, 1) := by decide +kernel
theorem dL_law_1064 : decode cL_law 1064 = .ok (.ireturn, 1) := by decide +kernel
theorem dL_law_1065 : decode cL_law 1065 = .ok (.iload 5, 2) := by decide +kernel
theorem dL_law_1067 : decode cL_law 1067 = .ok (.ifCond .ne 22, 3) := by decide +kernel
theorem dL_law_1070 : decode cL_law 1070 = .ok (.aload_n 3, 1) := by decide +kernel
theorem dL_law_1071 : decode cL_law 1071 = .ok (.iconst 0, 1) := by decide +kernel
theorem dL_law_1072 : decode cL_law 1072 = .ok (.laload, 1) := by decide +kernel
theorem dL_law_1073 : decode cL_law 1073 = .ok (.iload 6, 2) := by decide +kernel
theorem dL_law_1075 : decode cL_law 1075 = .ok (.ifCond .eq 7, 3) := by decide +kernel
theorem dL_law_1078 : decode cL_law 1078 = .ok (.lconst 1, 1) := by decide +kernel
theorem dL_law_1079 : decode cL_law 1079 = .ok (.goto 4, 3) := by decide +kernel
theorem dL_law_1082 : decode cL_law 1082 = .ok (.lconst 0, 1) := by decide +kernel
theorem dL_law_1083 : decode cL_law 1083 = .ok (.lcmp, 1) := by decide +kernel
theorem dL_law_1084 : decode cL_law 1084 = .ok (.ifCond .eq 5, 3) := by decide +kernel
theorem dL_law_1087 : decode cL_law 1087 = .ok (.iconst 0, 1) := by decide +kernel
theorem dL_law_1088 : decode cL_law 1088 = .ok (.ireturn, 1) := by decide +kernel
theorem dL_law_1089 : decode cL_law 1089 = .ok (.goto 1593, 3) := by decide +kernel
theorem dL_law_1092 : decode cL_law 1092 = .ok (.aload_n 1, 1) := by decide +kernel
theorem dL_law_1093 : decode cL_law 1093 = .ok (.aload_n 0, 1) := by decide +kernel
theorem dL_law_1094 : decode cL_law 1094 = .ok (.iload 4, 2) := by decide +kernel
theorem dL_law_1096 : decode cL_law 1096 = .ok (.iconst 1, 1) := by decide +kernel
theorem dL_law_1097 : decode cL_law 1097 = .ok (.iadd, 1) := by decide +kernel
theorem dL_law_1098 : decode cL_law 1098 = .ok (.iaload, 1) := by decide +kernel
theorem dL_law_1099 : decode cL_law 1099 = .ok (.aload_n 0, 1) := by decide +kernel
theorem dL_law_1100 : decode cL_law 1100 = .ok (.iload 4, 2) := by decide +kernel
theorem dL_law_1102 : decode cL_law 1102 = .ok (.iconst 2, 1) := by decide +kernel
theorem dL_law_1103 : decode cL_law 1103 = .ok (.iadd, 1) := by decide +kernel
theorem dL_law_1104 : decode cL_law 1104 = .ok (.iaload, 1) := by decide +kernel
theorem dL_law_1105 : decode cL_law 1105 = .ok (.aload_n 0, 1) := by decide +kernel
theorem dL_law_1106 : decode cL_law 1106 = .ok (.iload 4, 2) := by decide +kernel
theorem dL_law_1108 : decode cL_law 1108 = .ok (.iconst 3, 1) := by decide +kernel
theorem dL_law_1109 : decode cL_law 1109 = .ok (.iadd, 1) := by decide +kernel
theorem dL_law_1110 : decode cL_law 1110 = .ok (.iaload, 1) := by decide +kernel
theorem dL_law_1111 : decode cL_law 1111 = .ok (.aload_n 0, 1) := by decide +kernel
theorem dL_law_1112 : decode cL_law 1112 = .ok (.iload 4, 2) := by decide +kernel
theorem dL_law_1114 : decode cL_law 1114 = .ok (.iconst 4, 1) := by decide +kernel
theorem dL_law_1115 : decode cL_law 1115 = .ok (.iadd, 1) := by decide +kernel
theorem dL_law_1116 : decode cL_law 1116 = .ok (.iaload, 1) := by decide +kernel
theorem dL_law_1117 : decode cL_law 1117 = .ok (.aload_n 3, 1) := by decide +kernel
theorem dL_law_1118 : decode cL_law 1118 = .ok (.invokestatic 169, 3) := by decide +kernel
theorem dL_law_1121 : decode cL_law 1121 = .ok (.istore 5, 2) := by decide +kernel
theorem dL_law_1123 : decode cL_law 1123 = .ok (.aload_n 2, 1) := by decide +kernel
theorem dL_law_1124 : decode cL_law 1124 = .ok (.aload_n 0, 1) := by decide +kernel
theorem dL_law_1125 : decode cL_law 1125 = .ok (.iload 4, 2) := by decide +kernel
theorem dL_law_1127 : decode cL_law 1127 = .ok (.iconst 1, 1) := by decide +kernel
theorem dL_law_1128 : decode cL_law 1128 = .ok (.iadd, 1) := by decide +kernel
theorem dL_law_1129 : decode cL_law 1129 = .ok (.iaload, 1) := by decide +kernel
theorem dL_law_1130 : decode cL_law 1130 = .ok (.aload_n 0, 1) := by decide +kernel
theorem dL_law_1131 : decode cL_law 1131 = .ok (.iload 4, 2) := by decide +kernel
theorem dL_law_1133 : decode cL_law 1133 = .ok (.iconst 2, 1) := by decide +kernel
theorem dL_law_1134 : decode cL_law 1134 = .ok (.iadd, 1) := by decide +kernel
theorem dL_law_1135 : decode cL_law 1135 = .ok (.iaload, 1) := by decide +kernel
theorem dL_law_1136 : decode cL_law 1136 = .ok (.aload_n 0, 1) := by decide +kernel
theorem dL_law_1137 : decode cL_law 1137 = .ok (.iload 4, 2) := by decide +kernel
theorem dL_law_1139 : decode cL_law 1139 = .ok (.iconst 3, 1) := by decide +kernel
theorem dL_law_1140 : decode cL_law 1140 = .ok (.iadd, 1) := by decide +kernel
theorem dL_law_1141 : decode cL_law 1141 = .ok (.iaload, 1) := by decide +kernel
theorem dL_law_1142 : decode cL_law 1142 = .ok (.aload_n 0, 1) := by decide +kernel
theorem dL_law_1143 : decode cL_law 1143 = .ok (.iload 4, 2) := by decide +kernel
theorem dL_law_1145 : decode cL_law 1145 = .ok (.iconst 4, 1) := by decide +kernel
theorem dL_law_1146 : decode cL_law 1146 = .ok (.iadd, 1) := by decide +kernel
theorem dL_law_1147 : decode cL_law 1147 = .ok (.iaload, 1) := by decide +kernel
theorem dL_law_1148 : decode cL_law 1148 = .ok (.invokevirtual 171, 3) := by decide +kernel
theorem dL_law_1151 : decode cL_law 1151 = .ok (.istore 6, 2) := by decide +kernel
theorem dL_law_1153 : decode cL_law 1153 = .ok (.aload_n 2, 1) := by decide +kernel
theorem dL_law_1154 : decode cL_law 1154 = .ok (.invokevirtual 127, 3) := by decide +kernel
theorem dL_law_1157 : decode cL_law 1157 = .ok (.iload 5, 2) := by decide +kernel
theorem dL_law_1159 : decode cL_law 1159 = .ok (.if_icmp .eq 5, 3) := by decide +kernel
theorem dL_law_1162 : decode cL_law 1162 = .ok (.iconst 0, 1) := by decide +kernel
theorem dL_law_1163 : decode cL_law 1163 = .ok (.ireturn, 1) := by decide +kernel
theorem dL_law_1164 : decode cL_law 1164 = .ok (.iload 5, 2) := by decide +kernel
theorem dL_law_1166 : decode cL_law 1166 = .ok (.ifCond .ne 15, 3) := by decide +kernel
theorem dL_law_1169 : decode cL_law 1169 = .ok (.aload_n 3, 1) := by decide +kernel
theorem dL_law_1170 : decode cL_law 1170 = .ok (.iconst 0, 1) := by decide +kernel
theorem dL_law_1171 : decode cL_law 1171 = .ok (.laload, 1) := by decide +kernel
theorem dL_law_1172 : decode cL_law 1172 = .ok (.iload 6, 2) := by decide +kernel
theorem dL_law_1174 : decode cL_law 1174 = .ok (.i2l, 1) := by decide +kernel
theorem dL_law_1175 : decode cL_law 1175 = .ok (.lcmp, 1) := by decide +kernel
theorem dL_law_1176 : decode cL_law 1176 = .ok (.ifCond .eq 5, 3) := by decide +kernel
theorem dL_law_1179 : decode cL_law 1179 = .ok (.iconst 0, 1) := by decide +kernel
theorem dL_law_1180 : decode cL_law 1180 = .ok (.ireturn, 1) := by decide +kernel
theorem dL_law_1181 : decode cL_law 1181 = .ok (.goto 1501, 3) := by decide +kernel
theorem dL_law_1184 : decode cL_law 1184 = .ok (.aload_n 1, 1) := by decide +kernel
theorem dL_law_1185 : decode cL_law 1185 = .ok (.invokevirtual 172, 3) := by decide +kernel
theorem dL_law_1188 : decode cL_law 1188 = .ok (.aload_n 2, 1) := by decide +kernel
theorem dL_law_1189 : decode cL_law 1189 = .ok (.invokevirtual 175, 3) := by decide +kernel
theorem dL_law_1192 : decode cL_law 1192 = .ok (.if_icmp .eq 1490, 3) := by decide +kernel
theorem dL_law_1195 : decode cL_law 1195 = .ok (.iconst 0, 1) := by decide +kernel
theorem dL_law_1196 : decode cL_law 1196 = .ok (.ireturn, 1) := by decide +kernel
theorem dL_law_1197 : decode cL_law 1197 = .ok (.aload_n 1, 1) := by decide +kernel
theorem dL_law_1198 : decode cL_law 1198 = .ok (.aload_n 0, 1) := by decide +kernel
theorem dL_law_1199 : decode cL_law 1199 = .ok (.iload 4, 2) := by decide +kernel
theorem dL_law_1201 : decode cL_law 1201 = .ok (.iconst 1, 1) := by decide +kernel
theorem dL_law_1202 : decode cL_law 1202 = .ok (.iadd, 1) := by decide +kernel
theorem dL_law_1203 : decode cL_law 1203 = .ok (.iaload, 1) := by decide +kernel
theorem dL_law_1204 : decode cL_law 1204 = .ok (.aload_n 0, 1) := by decide +kernel
theorem dL_law_1205 : decode cL_law 1205 = .ok (.iload 4, 2) := by decide +kernel
theorem dL_law_1207 : decode cL_law 1207 = .ok (.iconst 2, 1) := by decide +kernel
theorem dL_law_1208 : decode cL_law 1208 = .ok (.iadd, 1) := by decide +kernel
theorem dL_law_1209 : decode cL_law 1209 = .ok (.iaload, 1) := by decide +kernel
theorem dL_law_1210 : decode cL_law 1210 = .ok (.aload_n 0, 1) := by decide +kernel
theorem dL_law_1211 : decode cL_law 1211 = .ok (.iload 4, 2) := by decide +kernel
theorem dL_law_1213 : decode cL_law 1213 = .ok (.iconst 3, 1) := by decide +kernel
theorem dL_law_1214 : decode cL_law 1214 = .ok (.iadd, 1) := by decide +kernel
theorem dL_law_1215 : decode cL_law 1215 = .ok (.iaload, 1) := by decide +kernel
theorem dL_law_1216 : decode cL_law 1216 = .ok (.aload_n 3, 1) := by decide +kernel
theorem dL_law_1217 : decode cL_law 1217 = .ok (.invokestatic 176, 3) := by decide +kernel
theorem dL_law_1220 : decode cL_law 1220 = .ok (.istore 5, 2) := by decide +kernel
theorem dL_law_1222 : decode cL_law 1222 = .ok (.aload_n 2, 1) := by decide +kernel
theorem dL_law_1223 : decode cL_law 1223 = .ok (.aload_n 0, 1) := by decide +kernel
theorem dL_law_1224 : decode cL_law 1224 = .ok (.iload 4, 2) := by decide +kernel
theorem dL_law_1226 : decode cL_law 1226 = .ok (.iconst 1, 1) := by decide +kernel
theorem dL_law_1227 : decode cL_law 1227 = .ok (.iadd, 1) := by decide +kernel
theorem dL_law_1228 : decode cL_law 1228 = .ok (.iaload, 1) := by decide +kernel
theorem dL_law_1229 : decode cL_law 1229 = .ok (.aload_n 0, 1) := by decide +kernel
theorem dL_law_1230 : decode cL_law 1230 = .ok (.iload 4, 2) := by decide +kernel
theorem dL_law_1232 : decode cL_law 1232 = .ok (.iconst 2, 1) := by decide +kernel
theorem dL_law_1233 : decode cL_law 1233 = .ok (.iadd, 1) := by decide +kernel
theorem dL_law_1234 : decode cL_law 1234 = .ok (.iaload, 1) := by decide +kernel
theorem dL_law_1235 : decode cL_law 1235 = .ok (.aload_n 0, 1) := by decide +kernel
theorem dL_law_1236 : decode cL_law 1236 = .ok (.iload 4, 2) := by decide +kernel
theorem dL_law_1238 : decode cL_law 1238 = .ok (.iconst 3, 1) := by decide +kernel
theorem dL_law_1239 : decode cL_law 1239 = .ok (.iadd, 1) := by decide +kernel
theorem dL_law_1240 : decode cL_law 1240 = .ok (.iaload, 1) := by decide +kernel
theorem dL_law_1241 : decode cL_law 1241 = .ok (.invokevirtual 178, 3) := by decide +kernel
theorem dL_law_1244 : decode cL_law 1244 = .ok (.istore 6, 2) := by decide +kernel
theorem dL_law_1246 : decode cL_law 1246 = .ok (.aload_n 2, 1) := by decide +kernel
theorem dL_law_1247 : decode cL_law 1247 = .ok (.invokevirtual 127, 3) := by decide +kernel
theorem dL_law_1250 : decode cL_law 1250 = .ok (.iload 5, 2) := by decide +kernel
theorem dL_law_1252 : decode cL_law 1252 = .ok (.if_icmp .eq 5, 3) := by decide +kernel
theorem dL_law_1255 : decode cL_law 1255 = .ok (.iconst 0, 1) := by decide +kernel
theorem dL_law_1256 : decode cL_law 1256 = .ok (.ireturn, 1) := by decide +kernel
theorem dL_law_1257 : decode cL_law 1257 = .ok (.iload 5, 2) := by decide +kernel
theorem dL_law_1259 : decode cL_law 1259 = .ok (.ifCond .ne 15, 3) := by decide +kernel
theorem dL_law_1262 : decode cL_law 1262 = .ok (.aload_n 3, 1) := by decide +kernel
theorem dL_law_1263 : decode cL_law 1263 = .ok (.iconst 0, 1) := by decide +kernel
theorem dL_law_1264 : decode cL_law 1264 = .ok (.laload, 1) := by decide +kernel
theorem dL_law_1265 : decode cL_law 1265 = .ok (.iload 6, 2) := by decide +kernel
theorem dL_law_1267 : decode cL_law 1267 = .ok (.i2l, 1) := by decide +kernel
theorem dL_law_1268 : decode cL_law 1268 = .ok (.lcmp, 1) := by decide +kernel
theorem dL_law_1269 : decode cL_law 1269 = .ok (.ifCond .eq 5, 3) := by decide +kernel
theorem dL_law_1272 : decode cL_law 1272 = .ok (.iconst 0, 1) := by decide +kernel
theorem dL_law_1273 : decode cL_law 1273 = .ok (.ireturn, 1) := by decide +kernel
theorem dL_law_1274 : decode cL_law 1274 = .ok (.goto 1408, 3) := by decide +kernel
theorem dL_law_1277 : decode cL_law 1277 = .ok (.aload_n 1, 1) := by decide +kernel
theorem dL_law_1278 : decode cL_law 1278 = .ok (.aload_n 0, 1) := by decide +kernel
theorem dL_law_1279 : decode cL_law 1279 = .ok (.iload 4, 2) := by decide +kernel
theorem dL_law_1281 : decode cL_law 1281 = .ok (.iconst 1, 1) := by decide +kernel
theorem dL_law_1282 : decode cL_law 1282 = .ok (.iadd, 1) := by decide +kernel
theorem dL_law_1283 : decode cL_law 1283 = .ok (.iaload, 1) := by decide +kernel
theorem dL_law_1284 : decode cL_law 1284 = .ok (.aload_n 0, 1) := by decide +kernel
theorem dL_law_1285 : decode cL_law 1285 = .ok (.iload 4, 2) := by decide +kernel
theorem dL_law_1287 : decode cL_law 1287 = .ok (.iconst 2, 1) := by decide +kernel
theorem dL_law_1288 : decode cL_law 1288 = .ok (.iadd, 1) := by decide +kernel
theorem dL_law_1289 : decode cL_law 1289 = .ok (.iaload, 1) := by decide +kernel
theorem dL_law_1290 : decode cL_law 1290 = .ok (.aload_n 0, 1) := by decide +kernel
theorem dL_law_1291 : decode cL_law 1291 = .ok (.iload 4, 2) := by decide +kernel
theorem dL_law_1293 : decode cL_law 1293 = .ok (.iconst 3, 1) := by decide +kernel
theorem dL_law_1294 : decode cL_law 1294 = .ok (.iadd, 1) := by decide +kernel
theorem dL_law_1295 : decode cL_law 1295 = .ok (.iaload, 1) := by decide +kernel
theorem dL_law_1296 : decode cL_law 1296 = .ok (.aload_n 3, 1) := by decide +kernel
theorem dL_law_1297 : decode cL_law 1297 = .ok (.invokestatic 179, 3) := by decide +kernel
theorem dL_law_1300 : decode cL_law 1300 = .ok (.istore 5, 2) := by decide +kernel
theorem dL_law_1302 : decode cL_law 1302 = .ok (.aload_n 2, 1) := by decide +kernel
theorem dL_law_1303 : decode cL_law 1303 = .ok (.aload_n 0, 1) := by decide +kernel
theorem dL_law_1304 : decode cL_law 1304 = .ok (.iload 4, 2) := by decide +kernel
theorem dL_law_1306 : decode cL_law 1306 = .ok (.iconst 1, 1) := by decide +kernel
theorem dL_law_1307 : decode cL_law 1307 = .ok (.iadd, 1) := by decide +kernel
theorem dL_law_1308 : decode cL_law 1308 = .ok (.iaload, 1) := by decide +kernel
theorem dL_law_1309 : decode cL_law 1309 = .ok (.aload_n 0, 1) := by decide +kernel
theorem dL_law_1310 : decode cL_law 1310 = .ok (.iload 4, 2) := by decide +kernel
theorem dL_law_1312 : decode cL_law 1312 = .ok (.iconst 2, 1) := by decide +kernel
theorem dL_law_1313 : decode cL_law 1313 = .ok (.iadd, 1) := by decide +kernel
theorem dL_law_1314 : decode cL_law 1314 = .ok (.iaload, 1) := by decide +kernel
theorem dL_law_1315 : decode cL_law 1315 = .ok (.aload_n 0, 1) := by decide +kernel
theorem dL_law_1316 : decode cL_law 1316 = .ok (.iload 4, 2) := by decide +kernel
theorem dL_law_1318 : decode cL_law 1318 = .ok (.iconst 3, 1) := by decide +kernel
theorem dL_law_1319 : decode cL_law 1319 = .ok (.iadd, 1) := by decide +kernel
theorem dL_law_1320 : decode cL_law 1320 = .ok (.iaload, 1) := by decide +kernel
theorem dL_law_1321 : decode cL_law 1321 = .ok (.invokevirtual 181, 3) := by decide +kernel
theorem dL_law_1324 : decode cL_law 1324 = .ok (.istore 6, 2) := by decide +kernel
theorem dL_law_1326 : decode cL_law 1326 = .ok (.aload_n 2, 1) := by decide +kernel
theorem dL_law_1327 : decode cL_law 1327 = .ok (.invokevirtual 127, 3) := by decide +kernel
theorem dL_law_1330 : decode cL_law 1330 = .ok (.iload 5, 2) := by decide +kernel
theorem dL_law_1332 : decode cL_law 1332 = .ok (.if_icmp .eq 5, 3) := by decide +kernel
theorem dL_law_1335 : decode cL_law 1335 = .ok (.iconst 0, 1) := by decide +kernel
theorem dL_law_1336 : decode cL_law 1336 = .ok (.ireturn, 1) := by decide +kernel
theorem dL_law_1337 : decode cL_law 1337 = .ok (.iload 5, 2) := by decide +kernel
theorem dL_law_1339 : decode cL_law 1339 = .ok (.ifCond .ne 15, 3) := by decide +kernel
theorem dL_law_1342 : decode cL_law 1342 = .ok (.aload_n 3, 1) := by decide +kernel
theorem dL_law_1343 : decode cL_law 1343 = .ok (.iconst 0, 1) := by decide +kernel
theorem dL_law_1344 : decode cL_law 1344 = .ok (.laload, 1) := by decide +kernel
theorem dL_law_1345 : decode cL_law 1345 = .ok (.iload 6, 2) := by decide +kernel
theorem dL_law_1347 : decode cL_law 1347 = .ok (.i2l, 1) := by decide +kernel
theorem dL_law_1348 : decode cL_law 1348 = .ok (.lcmp, 1) := by decide +kernel
theorem dL_law_1349 : decode cL_law 1349 = .ok (.ifCond .eq 5, 3) := by decide +kernel
theorem dL_law_1352 : decode cL_law 1352 = .ok (.iconst 0, 1) := by decide +kernel
theorem dL_law_1353 : decode cL_law 1353 = .ok (.ireturn, 1) := by decide +kernel
theorem dL_law_1354 : decode cL_law 1354 = .ok (.goto 1328, 3) := by decide +kernel
theorem dL_law_1357 : decode cL_law 1357 = .ok (.aload_n 1, 1) := by decide +kernel
theorem dL_law_1358 : decode cL_law 1358 = .ok (.aload_n 0, 1) := by decide +kernel
theorem dL_law_1359 : decode cL_law 1359 = .ok (.iload 4, 2) := by decide +kernel
theorem dL_law_1361 : decode cL_law 1361 = .ok (.iconst 1, 1) := by decide +kernel
theorem dL_law_1362 : decode cL_law 1362 = .ok (.iadd, 1) := by decide +kernel
theorem dL_law_1363 : decode cL_law 1363 = .ok (.iaload, 1) := by decide +kernel
theorem dL_law_1364 : decode cL_law 1364 = .ok (.aload_n 0, 1) := by decide +kernel
theorem dL_law_1365 : decode cL_law 1365 = .ok (.iload 4, 2) := by decide +kernel
theorem dL_law_1367 : decode cL_law 1367 = .ok (.iconst 2, 1) := by decide +kernel
theorem dL_law_1368 : decode cL_law 1368 = .ok (.iadd, 1) := by decide +kernel
theorem dL_law_1369 : decode cL_law 1369 = .ok (.iaload, 1) := by decide +kernel
theorem dL_law_1370 : decode cL_law 1370 = .ok (.aload_n 0, 1) := by decide +kernel
theorem dL_law_1371 : decode cL_law 1371 = .ok (.iload 4, 2) := by decide +kernel
theorem dL_law_1373 : decode cL_law 1373 = .ok (.iconst 3, 1) := by decide +kernel
theorem dL_law_1374 : decode cL_law 1374 = .ok (.iadd, 1) := by decide +kernel
theorem dL_law_1375 : decode cL_law 1375 = .ok (.iaload, 1) := by decide +kernel
theorem dL_law_1376 : decode cL_law 1376 = .ok (.aload_n 3, 1) := by decide +kernel
theorem dL_law_1377 : decode cL_law 1377 = .ok (.invokestatic 182, 3) := by decide +kernel
theorem dL_law_1380 : decode cL_law 1380 = .ok (.istore 5, 2) := by decide +kernel
theorem dL_law_1382 : decode cL_law 1382 = .ok (.aload_n 2, 1) := by decide +kernel
theorem dL_law_1383 : decode cL_law 1383 = .ok (.aload_n 0, 1) := by decide +kernel
theorem dL_law_1384 : decode cL_law 1384 = .ok (.iload 4, 2) := by decide +kernel
theorem dL_law_1386 : decode cL_law 1386 = .ok (.iconst 1, 1) := by decide +kernel
theorem dL_law_1387 : decode cL_law 1387 = .ok (.iadd, 1) := by decide +kernel
theorem dL_law_1388 : decode cL_law 1388 = .ok (.iaload, 1) := by decide +kernel
theorem dL_law_1389 : decode cL_law 1389 = .ok (.aload_n 0, 1) := by decide +kernel
theorem dL_law_1390 : decode cL_law 1390 = .ok (.iload 4, 2) := by decide +kernel
theorem dL_law_1392 : decode cL_law 1392 = .ok (.iconst 2, 1) := by decide +kernel
theorem dL_law_1393 : decode cL_law 1393 = .ok (.iadd, 1) := by decide +kernel
theorem dL_law_1394 : decode cL_law 1394 = .ok (.iaload, 1) := by decide +kernel
theorem dL_law_1395 : decode cL_law 1395 = .ok (.aload_n 0, 1) := by decide +kernel
theorem dL_law_1396 : decode cL_law 1396 = .ok (.iload 4, 2) := by decide +kernel
theorem dL_law_1398 : decode cL_law 1398 = .ok (.iconst 3, 1) := by decide +kernel
theorem dL_law_1399 : decode cL_law 1399 = .ok (.iadd, 1) := by decide +kernel
theorem dL_law_1400 : decode cL_law 1400 = .ok (.iaload, 1) := by decide +kernel
theorem dL_law_1401 : decode cL_law 1401 = .ok (.invokevirtual 184, 3) := by decide +kernel
theorem dL_law_1404 : decode cL_law 1404 = .ok (.istore 6, 2) := by decide +kernel
theorem dL_law_1406 : decode cL_law 1406 = .ok (.aload_n 2, 1) := by decide +kernel
theorem dL_law_1407 : decode cL_law 1407 = .ok (.invokevirtual 127, 3) := by decide +kernel
theorem dL_law_1410 : decode cL_law 1410 = .ok (.iload 5, 2) := by decide +kernel
theorem dL_law_1412 : decode cL_law 1412 = .ok (.if_icmp .eq 5, 3) := by decide +kernel
theorem dL_law_1415 : decode cL_law 1415 = .ok (.iconst 0, 1) := by decide +kernel
theorem dL_law_1416 : decode cL_law 1416 = .ok (.ireturn, 1) := by decide +kernel
theorem dL_law_1417 : decode cL_law 1417 = .ok (.iload 5, 2) := by decide +kernel
theorem dL_law_1419 : decode cL_law 1419 = .ok (.ifCond .ne 15, 3) := by decide +kernel
theorem dL_law_1422 : decode cL_law 1422 = .ok (.aload_n 3, 1) := by decide +kernel
theorem dL_law_1423 : decode cL_law 1423 = .ok (.iconst 0, 1) := by decide +kernel
theorem dL_law_1424 : decode cL_law 1424 = .ok (.laload, 1) := by decide +kernel
theorem dL_law_1425 : decode cL_law 1425 = .ok (.iload 6, 2) := by decide +kernel
theorem dL_law_1427 : decode cL_law 1427 = .ok (.i2l, 1) := by decide +kernel
theorem dL_law_1428 : decode cL_law 1428 = .ok (.lcmp, 1) := by decide +kernel
theorem dL_law_1429 : decode cL_law 1429 = .ok (.ifCond .eq 5, 3) := by decide +kernel
theorem dL_law_1432 : decode cL_law 1432 = .ok (.iconst 0, 1) := by decide +kernel
theorem dL_law_1433 : decode cL_law 1433 = .ok (.ireturn, 1) := by decide +kernel
theorem dL_law_1434 : decode cL_law 1434 = .ok (.goto 1248, 3) := by decide +kernel
theorem dL_law_1437 : decode cL_law 1437 = .ok (.aload_n 1, 1) := by decide +kernel
theorem dL_law_1438 : decode cL_law 1438 = .ok (.aload_n 0, 1) := by decide +kernel
theorem dL_law_1439 : decode cL_law 1439 = .ok (.iload 4, 2) := by decide +kernel
theorem dL_law_1441 : decode cL_law 1441 = .ok (.iconst 1, 1) := by decide +kernel
theorem dL_law_1442 : decode cL_law 1442 = .ok (.iadd, 1) := by decide +kernel
theorem dL_law_1443 : decode cL_law 1443 = .ok (.iaload, 1) := by decide +kernel
theorem dL_law_1444 : decode cL_law 1444 = .ok (.aload_n 0, 1) := by decide +kernel
theorem dL_law_1445 : decode cL_law 1445 = .ok (.iload 4, 2) := by decide +kernel
theorem dL_law_1447 : decode cL_law 1447 = .ok (.iconst 2, 1) := by decide +kernel
theorem dL_law_1448 : decode cL_law 1448 = .ok (.iadd, 1) := by decide +kernel
theorem dL_law_1449 : decode cL_law 1449 = .ok (.iaload, 1) := by decide +kernel
theorem dL_law_1450 : decode cL_law 1450 = .ok (.aload_n 0, 1) := by decide +kernel
theorem dL_law_1451 : decode cL_law 1451 = .ok (.iload 4, 2) := by decide +kernel
theorem dL_law_1453 : decode cL_law 1453 = .ok (.iconst 3, 1) := by decide +kernel
theorem dL_law_1454 : decode cL_law 1454 = .ok (.iadd, 1) := by decide +kernel
theorem dL_law_1455 : decode cL_law 1455 = .ok (.iaload, 1) := by decide +kernel
theorem dL_law_1456 : decode cL_law 1456 = .ok (.aload_n 0, 1) := by decide +kernel
theorem dL_law_1457 : decode cL_law 1457 = .ok (.iload 4, 2) := by decide +kernel
theorem dL_law_1459 : decode cL_law 1459 = .ok (.iconst 4, 1) := by decide +kernel
theorem dL_law_1460 : decode cL_law 1460 = .ok (.iadd, 1) := by decide +kernel
theorem dL_law_1461 : decode cL_law 1461 = .ok (.iaload, 1) := by decide +kernel
theorem dL_law_1462 : decode cL_law 1462 = .ok (.aload_n 3, 1) := by decide +kernel
theorem dL_law_1463 : decode cL_law 1463 = .ok (.invokestatic 185, 3) := by decide +kernel
theorem dL_law_1466 : decode cL_law 1466 = .ok (.istore 5, 2) := by decide +kernel
theorem dL_law_1468 : decode cL_law 1468 = .ok (.aload_n 2, 1) := by decide +kernel
theorem dL_law_1469 : decode cL_law 1469 = .ok (.aload_n 0, 1) := by decide +kernel
theorem dL_law_1470 : decode cL_law 1470 = .ok (.iload 4, 2) := by decide +kernel
theorem dL_law_1472 : decode cL_law 1472 = .ok (.iconst 1, 1) := by decide +kernel
theorem dL_law_1473 : decode cL_law 1473 = .ok (.iadd, 1) := by decide +kernel
theorem dL_law_1474 : decode cL_law 1474 = .ok (.iaload, 1) := by decide +kernel
theorem dL_law_1475 : decode cL_law 1475 = .ok (.aload_n 0, 1) := by decide +kernel
theorem dL_law_1476 : decode cL_law 1476 = .ok (.iload 4, 2) := by decide +kernel
theorem dL_law_1478 : decode cL_law 1478 = .ok (.iconst 2, 1) := by decide +kernel
theorem dL_law_1479 : decode cL_law 1479 = .ok (.iadd, 1) := by decide +kernel
theorem dL_law_1480 : decode cL_law 1480 = .ok (.iaload, 1) := by decide +kernel
theorem dL_law_1481 : decode cL_law 1481 = .ok (.aload_n 0, 1) := by decide +kernel
theorem dL_law_1482 : decode cL_law 1482 = .ok (.iload 4, 2) := by decide +kernel
theorem dL_law_1484 : decode cL_law 1484 = .ok (.iconst 3, 1) := by decide +kernel
theorem dL_law_1485 : decode cL_law 1485 = .ok (.iadd, 1) := by decide +kernel
theorem dL_law_1486 : decode cL_law 1486 = .ok (.iaload, 1) := by decide +kernel
theorem dL_law_1487 : decode cL_law 1487 = .ok (.aload_n 0, 1) := by decide +kernel
theorem dL_law_1488 : decode cL_law 1488 = .ok (.iload 4, 2) := by decide +kernel
theorem dL_law_1490 : decode cL_law 1490 = .ok (.iconst 4, 1) := by decide +kernel
theorem dL_law_1491 : decode cL_law 1491 = .ok (.iadd, 1) := by decide +kernel
theorem dL_law_1492 : decode cL_law 1492 = .ok (.iaload, 1) := by decide +kernel
theorem dL_law_1493 : decode cL_law 1493 = .ok (.invokevirtual 187, 3) := by decide +kernel
theorem dL_law_1496 : decode cL_law 1496 = .ok (.istore 6, 2) := by decide +kernel
theorem dL_law_1498 : decode cL_law 1498 = .ok (.aload_n 2, 1) := by decide +kernel
theorem dL_law_1499 : decode cL_law 1499 = .ok (.invokevirtual 127, 3) := by decide +kernel
theorem dL_law_1502 : decode cL_law 1502 = .ok (.iload 5, 2) := by decide +kernel
theorem dL_law_1504 : decode cL_law 1504 = .ok (.if_icmp .eq 5, 3) := by decide +kernel
theorem dL_law_1507 : decode cL_law 1507 = .ok (.iconst 0, 1) := by decide +kernel
theorem dL_law_1508 : decode cL_law 1508 = .ok (.ireturn, 1) := by decide +kernel
theorem dL_law_1509 : decode cL_law 1509 = .ok (.iload 5, 2) := by decide +kernel
theorem dL_law_1511 : decode cL_law 1511 = .ok (.ifCond .ne 15, 3) := by decide +kernel
theorem dL_law_1514 : decode cL_law 1514 = .ok (.aload_n 3, 1) := by decide +kernel
theorem dL_law_1515 : decode cL_law 1515 = .ok (.iconst 0, 1) := by decide +kernel
theorem dL_law_1516 : decode cL_law 1516 = .ok (.laload, 1) := by decide +kernel
theorem dL_law_1517 : decode cL_law 1517 = .ok (.iload 6, 2) := by decide +kernel
theorem dL_law_1519 : decode cL_law 1519 = .ok (.i2l, 1) := by decide +kernel
theorem dL_law_1520 : decode cL_law 1520 = .ok (.lcmp, 1) := by decide +kernel
theorem dL_law_1521 : decode cL_law 1521 = .ok (.ifCond .eq 5, 3) := by decide +kernel
theorem dL_law_1524 : decode cL_law 1524 = .ok (.iconst 0, 1) := by decide +kernel
theorem dL_law_1525 : decode cL_law 1525 = .ok (.ireturn, 1) := by decide +kernel
theorem dL_law_1526 : decode cL_law 1526 = .ok (.goto 1156, 3) := by decide +kernel
theorem dL_law_1529 : decode cL_law 1529 = .ok (.aload_n 1, 1) := by decide +kernel
theorem dL_law_1530 : decode cL_law 1530 = .ok (.aload_n 0, 1) := by decide +kernel
theorem dL_law_1531 : decode cL_law 1531 = .ok (.iload 4, 2) := by decide +kernel
theorem dL_law_1533 : decode cL_law 1533 = .ok (.iconst 1, 1) := by decide +kernel
theorem dL_law_1534 : decode cL_law 1534 = .ok (.iadd, 1) := by decide +kernel
theorem dL_law_1535 : decode cL_law 1535 = .ok (.iaload, 1) := by decide +kernel
theorem dL_law_1536 : decode cL_law 1536 = .ok (.aload_n 0, 1) := by decide +kernel
theorem dL_law_1537 : decode cL_law 1537 = .ok (.iload 4, 2) := by decide +kernel
theorem dL_law_1539 : decode cL_law 1539 = .ok (.iconst 2, 1) := by decide +kernel
theorem dL_law_1540 : decode cL_law 1540 = .ok (.iadd, 1) := by decide +kernel
theorem dL_law_1541 : decode cL_law 1541 = .ok (.iaload, 1) := by decide +kernel
theorem dL_law_1542 : decode cL_law 1542 = .ok (.aload_n 0, 1) := by decide +kernel
theorem dL_law_1543 : decode cL_law 1543 = .ok (.iload 4, 2) := by decide +kernel
theorem dL_law_1545 : decode cL_law 1545 = .ok (.iconst 3, 1) := by decide +kernel
theorem dL_law_1546 : decode cL_law 1546 = .ok (.iadd, 1) := by decide +kernel
theorem dL_law_1547 : decode cL_law 1547 = .ok (.iaload, 1) := by decide +kernel
theorem dL_law_1548 : decode cL_law 1548 = .ok (.aload_n 0, 1) := by decide +kernel
theorem dL_law_1549 : decode cL_law 1549 = .ok (.iload 4, 2) := by decide +kernel
theorem dL_law_1551 : decode cL_law 1551 = .ok (.iconst 4, 1) := by decide +kernel
theorem dL_law_1552 : decode cL_law 1552 = .ok (.iadd, 1) := by decide +kernel
theorem dL_law_1553 : decode cL_law 1553 = .ok (.iaload, 1) := by decide +kernel
theorem dL_law_1554 : decode cL_law 1554 = .ok (.ifCond .eq 7, 3) := by decide +kernel
theorem dL_law_1557 : decode cL_law 1557 = .ok (.iconst 1, 1) := by decide +kernel
theorem dL_law_1558 : decode cL_law 1558 = .ok (.goto 4, 3) := by decide +kernel
theorem dL_law_1561 : decode cL_law 1561 = .ok (.iconst 0, 1) := by decide +kernel
theorem dL_law_1562 : decode cL_law 1562 = .ok (.aload_n 3, 1) := by decide +kernel
theorem dL_law_1563 : decode cL_law 1563 = .ok (.invokestatic 188, 3) := by decide +kernel
theorem dL_law_1566 : decode cL_law 1566 = .ok (.istore 5, 2) := by decide +kernel
theorem dL_law_1568 : decode cL_law 1568 = .ok (.aload_n 2, 1) := by decide +kernel
theorem dL_law_1569 : decode cL_law 1569 = .ok (.aload_n 0, 1) := by decide +kernel
theorem dL_law_1570 : decode cL_law 1570 = .ok (.iload 4, 2) := by decide +kernel
theorem dL_law_1572 : decode cL_law 1572 = .ok (.iconst 1, 1) := by decide +kernel
theorem dL_law_1573 : decode cL_law 1573 = .ok (.iadd, 1) := by decide +kernel
theorem dL_law_1574 : decode cL_law 1574 = .ok (.iaload, 1) := by decide +kernel
theorem dL_law_1575 : decode cL_law 1575 = .ok (.aload_n 0, 1) := by decide +kernel
theorem dL_law_1576 : decode cL_law 1576 = .ok (.iload 4, 2) := by decide +kernel
theorem dL_law_1578 : decode cL_law 1578 = .ok (.iconst 2, 1) := by decide +kernel
theorem dL_law_1579 : decode cL_law 1579 = .ok (.iadd, 1) := by decide +kernel
theorem dL_law_1580 : decode cL_law 1580 = .ok (.iaload, 1) := by decide +kernel
theorem dL_law_1581 : decode cL_law 1581 = .ok (.aload_n 0, 1) := by decide +kernel
theorem dL_law_1582 : decode cL_law 1582 = .ok (.iload 4, 2) := by decide +kernel
theorem dL_law_1584 : decode cL_law 1584 = .ok (.iconst 3, 1) := by decide +kernel
theorem dL_law_1585 : decode cL_law 1585 = .ok (.iadd, 1) := by decide +kernel
theorem dL_law_1586 : decode cL_law 1586 = .ok (.iaload, 1) := by decide +kernel
theorem dL_law_1587 : decode cL_law 1587 = .ok (.aload_n 0, 1) := by decide +kernel
theorem dL_law_1588 : decode cL_law 1588 = .ok (.iload 4, 2) := by decide +kernel
theorem dL_law_1590 : decode cL_law 1590 = .ok (.iconst 4, 1) := by decide +kernel
theorem dL_law_1591 : decode cL_law 1591 = .ok (.iadd, 1) := by decide +kernel
theorem dL_law_1592 : decode cL_law 1592 = .ok (.iaload, 1) := by decide +kernel
theorem dL_law_1593 : decode cL_law 1593 = .ok (.ifCond .eq 7, 3) := by decide +kernel
theorem dL_law_1596 : decode cL_law 1596 = .ok (.iconst 1, 1) := by decide +kernel
theorem dL_law_1597 : decode cL_law 1597 = .ok (.goto 4, 3) := by decide +kernel
theorem dL_law_1600 : decode cL_law 1600 = .ok (.iconst 0, 1) := by decide +kernel
theorem dL_law_1601 : decode cL_law 1601 = .ok (.invokevirtual 191, 3) := by decide +kernel
theorem dL_law_1604 : decode cL_law 1604 = .ok (.istore 6, 2) := by decide +kernel
theorem dL_law_1606 : decode cL_law 1606 = .ok (.aload_n 2, 1) := by decide +kernel
theorem dL_law_1607 : decode cL_law 1607 = .ok (.invokevirtual 127, 3) := by decide +kernel
theorem dL_law_1610 : decode cL_law 1610 = .ok (.iload 5, 2) := by decide +kernel
theorem dL_law_1612 : decode cL_law 1612 = .ok (.if_icmp .eq 5, 3) := by decide +kernel
theorem dL_law_1615 : decode cL_law 1615 = .ok (.iconst 0, 1) := by decide +kernel
theorem dL_law_1616 : decode cL_law 1616 = .ok (.ireturn, 1) := by decide +kernel
theorem dL_law_1617 : decode cL_law 1617 = .ok (.iload 5, 2) := by decide +kernel
theorem dL_law_1619 : decode cL_law 1619 = .ok (.ifCond .ne 15, 3) := by decide +kernel
theorem dL_law_1622 : decode cL_law 1622 = .ok (.aload_n 3, 1) := by decide +kernel
theorem dL_law_1623 : decode cL_law 1623 = .ok (.iconst 0, 1) := by decide +kernel
theorem dL_law_1624 : decode cL_law 1624 = .ok (.laload, 1) := by decide +kernel
theorem dL_law_1625 : decode cL_law 1625 = .ok (.iload 6, 2) := by decide +kernel
theorem dL_law_1627 : decode cL_law 1627 = .ok (.i2l, 1) := by decide +kernel
theorem dL_law_1628 : decode cL_law 1628 = .ok (.lcmp, 1) := by decide +kernel
theorem dL_law_1629 : decode cL_law 1629 = .ok (.ifCond .eq 5, 3) := by decide +kernel
theorem dL_law_1632 : decode cL_law 1632 = .ok (.iconst 0, 1) := by decide +kernel
theorem dL_law_1633 : decode cL_law 1633 = .ok (.ireturn, 1) := by decide +kernel
theorem dL_law_1634 : decode cL_law 1634 = .ok (.goto 1048, 3) := by decide +kernel
theorem dL_law_1637 : decode cL_law 1637 = .ok (.aload_n 1, 1) := by decide +kernel
theorem dL_law_1638 : decode cL_law 1638 = .ok (.aload_n 0, 1) := by decide +kernel
theorem dL_law_1639 : decode cL_law 1639 = .ok (.iload 4, 2) := by decide +kernel
theorem dL_law_1641 : decode cL_law 1641 = .ok (.iconst 1, 1) := by decide +kernel
theorem dL_law_1642 : decode cL_law 1642 = .ok (.iadd, 1) := by decide +kernel
theorem dL_law_1643 : decode cL_law 1643 = .ok (.iaload, 1) := by decide +kernel
theorem dL_law_1644 : decode cL_law 1644 = .ok (.aload_n 3, 1) := by decide +kernel
theorem dL_law_1645 : decode cL_law 1645 = .ok (.invokestatic 192, 3) := by decide +kernel
theorem dL_law_1648 : decode cL_law 1648 = .ok (.istore 5, 2) := by decide +kernel
theorem dL_law_1650 : decode cL_law 1650 = .ok (.aload_n 2, 1) := by decide +kernel
theorem dL_law_1651 : decode cL_law 1651 = .ok (.aload_n 0, 1) := by decide +kernel
theorem dL_law_1652 : decode cL_law 1652 = .ok (.iload 4, 2) := by decide +kernel
theorem dL_law_1654 : decode cL_law 1654 = .ok (.iconst 1, 1) := by decide +kernel
theorem dL_law_1655 : decode cL_law 1655 = .ok (.iadd, 1) := by decide +kernel
theorem dL_law_1656 : decode cL_law 1656 = .ok (.iaload, 1) := by decide +kernel
theorem dL_law_1657 : decode cL_law 1657 = .ok (.invokevirtual 194, 3) := by decide +kernel
theorem dL_law_1660 : decode cL_law 1660 = .ok (.istore 6, 2) := by decide +kernel
theorem dL_law_1662 : decode cL_law 1662 = .ok (.aload_n 2, 1) := by decide +kernel
theorem dL_law_1663 : decode cL_law 1663 = .ok (.invokevirtual 127, 3) := by decide +kernel
theorem dL_law_1666 : decode cL_law 1666 = .ok (.iload 5, 2) := by decide +kernel
theorem dL_law_1668 : decode cL_law 1668 = .ok (.if_icmp .eq 5, 3) := by decide +kernel
theorem dL_law_1671 : decode cL_law 1671 = .ok (.iconst 0, 1) := by decide +kernel
theorem dL_law_1672 : decode cL_law 1672 = .ok (.ireturn, 1) := by decide +kernel
theorem dL_law_1673 : decode cL_law 1673 = .ok (.iload 5, 2) := by decide +kernel
theorem dL_law_1675 : decode cL_law 1675 = .ok (.ifCond .ne 15, 3) := by decide +kernel
theorem dL_law_1678 : decode cL_law 1678 = .ok (.aload_n 3, 1) := by decide +kernel
theorem dL_law_1679 : decode cL_law 1679 = .ok (.iconst 0, 1) := by decide +kernel
theorem dL_law_1680 : decode cL_law 1680 = .ok (.laload, 1) := by decide +kernel
theorem dL_law_1681 : decode cL_law 1681 = .ok (.iload 6, 2) := by decide +kernel
theorem dL_law_1683 : decode cL_law 1683 = .ok (.i2l, 1) := by decide +kernel
theorem dL_law_1684 : decode cL_law 1684 = .ok (.lcmp, 1) := by decide +kernel
theorem dL_law_1685 : decode cL_law 1685 = .ok (.ifCond .eq 5, 3) := by decide +kernel
theorem dL_law_1688 : decode cL_law 1688 = .ok (.iconst 0, 1) := by decide +kernel
theorem dL_law_1689 : decode cL_law 1689 = .ok (.ireturn, 1) := by decide +kernel
theorem dL_law_1690 : decode cL_law 1690 = .ok (.goto 992, 3) := by decide +kernel
theorem dL_law_1693 : decode cL_law 1693 = .ok (.aload_n 1, 1) := by decide +kernel
theorem dL_law_1694 : decode cL_law 1694 = .ok (.aload_n 0, 1) := by decide +kernel
theorem dL_law_1695 : decode cL_law 1695 = .ok (.iload 4, 2) := by decide +kernel
theorem dL_law_1697 : decode cL_law 1697 = .ok (.iconst 1, 1) := by decide +kernel
theorem dL_law_1698 : decode cL_law 1698 = .ok (.iadd, 1) := by decide +kernel
theorem dL_law_1699 : decode cL_law 1699 = .ok (.iaload, 1) := by decide +kernel
theorem dL_law_1700 : decode cL_law 1700 = .ok (.aload_n 0, 1) := by decide +kernel
theorem dL_law_1701 : decode cL_law 1701 = .ok (.iload 4, 2) := by decide +kernel
theorem dL_law_1703 : decode cL_law 1703 = .ok (.iconst 2, 1) := by decide +kernel
theorem dL_law_1704 : decode cL_law 1704 = .ok (.iadd, 1) := by decide +kernel
theorem dL_law_1705 : decode cL_law 1705 = .ok (.iaload, 1) := by decide +kernel
theorem dL_law_1706 : decode cL_law 1706 = .ok (.aload_n 0, 1) := by decide +kernel
theorem dL_law_1707 : decode cL_law 1707 = .ok (.iload 4, 2) := by decide +kernel
theorem dL_law_1709 : decode cL_law 1709 = .ok (.iconst 3, 1) := by decide +kernel
theorem dL_law_1710 : decode cL_law 1710 = .ok (.iadd, 1) := by decide +kernel
theorem dL_law_1711 : decode cL_law 1711 = .ok (.iaload, 1) := by decide +kernel
theorem dL_law_1712 : decode cL_law 1712 = .ok (.aload_n 0, 1) := by decide +kernel
theorem dL_law_1713 : decode cL_law 1713 = .ok (.iload 4, 2) := by decide +kernel
theorem dL_law_1715 : decode cL_law 1715 = .ok (.iconst 4, 1) := by decide +kernel
theorem dL_law_1716 : decode cL_law 1716 = .ok (.iadd, 1) := by decide +kernel
theorem dL_law_1717 : decode cL_law 1717 = .ok (.iaload, 1) := by decide +kernel
theorem dL_law_1718 : decode cL_law 1718 = .ok (.aload_n 3, 1) := by decide +kernel
theorem dL_law_1719 : decode cL_law 1719 = .ok (.invokestatic 195, 3) := by decide +kernel
theorem dL_law_1722 : decode cL_law 1722 = .ok (.istore 5, 2) := by decide +kernel
theorem dL_law_1724 : decode cL_law 1724 = .ok (.aload_n 2, 1) := by decide +kernel
theorem dL_law_1725 : decode cL_law 1725 = .ok (.aload_n 0, 1) := by decide +kernel
theorem dL_law_1726 : decode cL_law 1726 = .ok (.iload 4, 2) := by decide +kernel
theorem dL_law_1728 : decode cL_law 1728 = .ok (.iconst 1, 1) := by decide +kernel
theorem dL_law_1729 : decode cL_law 1729 = .ok (.iadd, 1) := by decide +kernel
theorem dL_law_1730 : decode cL_law 1730 = .ok (.iaload, 1) := by decide +kernel
theorem dL_law_1731 : decode cL_law 1731 = .ok (.aload_n 0, 1) := by decide +kernel
theorem dL_law_1732 : decode cL_law 1732 = .ok (.iload 4, 2) := by decide +kernel
theorem dL_law_1734 : decode cL_law 1734 = .ok (.iconst 2, 1) := by decide +kernel
theorem dL_law_1735 : decode cL_law 1735 = .ok (.iadd, 1) := by decide +kernel
theorem dL_law_1736 : decode cL_law 1736 = .ok (.iaload, 1) := by decide +kernel
theorem dL_law_1737 : decode cL_law 1737 = .ok (.aload_n 0, 1) := by decide +kernel
theorem dL_law_1738 : decode cL_law 1738 = .ok (.iload 4, 2) := by decide +kernel
theorem dL_law_1740 : decode cL_law 1740 = .ok (.iconst 3, 1) := by decide +kernel
theorem dL_law_1741 : decode cL_law 1741 = .ok (.iadd, 1) := by decide +kernel
theorem dL_law_1742 : decode cL_law 1742 = .ok (.iaload, 1) := by decide +kernel
theorem dL_law_1743 : decode cL_law 1743 = .ok (.aload_n 0, 1) := by decide +kernel
theorem dL_law_1744 : decode cL_law 1744 = .ok (.iload 4, 2) := by decide +kernel
theorem dL_law_1746 : decode cL_law 1746 = .ok (.iconst 4, 1) := by decide +kernel
theorem dL_law_1747 : decode cL_law 1747 = .ok (.iadd, 1) := by decide +kernel
theorem dL_law_1748 : decode cL_law 1748 = .ok (.iaload, 1) := by decide +kernel
theorem dL_law_1749 : decode cL_law 1749 = .ok (.invokevirtual 197, 3) := by decide +kernel
theorem dL_law_1752 : decode cL_law 1752 = .ok (.istore 6, 2) := by decide +kernel
theorem dL_law_1754 : decode cL_law 1754 = .ok (.aload_n 2, 1) := by decide +kernel
theorem dL_law_1755 : decode cL_law 1755 = .ok (.invokevirtual 127, 3) := by decide +kernel
theorem dL_law_1758 : decode cL_law 1758 = .ok (.iload 5, 2) := by decide +kernel
theorem dL_law_1760 : decode cL_law 1760 = .ok (.if_icmp .eq 5, 3) := by decide +kernel
theorem dL_law_1763 : decode cL_law 1763 = .ok (.iconst 0, 1) := by decide +kernel
theorem dL_law_1764 : decode cL_law 1764 = .ok (.ireturn, 1) := by decide +kernel
theorem dL_law_1765 : decode cL_law 1765 = .ok (.iload 5, 2) := by decide +kernel
theorem dL_law_1767 : decode cL_law 1767 = .ok (.ifCond .ne 15, 3) := by decide +kernel
theorem dL_law_1770 : decode cL_law 1770 = .ok (.aload_n 3, 1) := by decide +kernel
theorem dL_law_1771 : decode cL_law 1771 = .ok (.iconst 0, 1) := by decide +kernel
theorem dL_law_1772 : decode cL_law 1772 = .ok (.laload, 1) := by decide +kernel
theorem dL_law_1773 : decode cL_law 1773 = .ok (.iload 6, 2) := by decide +kernel
theorem dL_law_1775 : decode cL_law 1775 = .ok (.i2l, 1) := by decide +kernel
theorem dL_law_1776 : decode cL_law 1776 = .ok (.lcmp, 1) := by decide +kernel
theorem dL_law_1777 : decode cL_law 1777 = .ok (.ifCond .eq 5, 3) := by decide +kernel
theorem dL_law_1780 : decode cL_law 1780 = .ok (.iconst 0, 1) := by decide +kernel
theorem dL_law_1781 : decode cL_law 1781 = .ok (.ireturn, 1) := by decide +kernel
theorem dL_law_1782 : decode cL_law 1782 = .ok (.goto 900, 3) := by decide +kernel
theorem dL_law_1785 : decode cL_law 1785 = .ok (.aload_n 1, 1) := by decide +kernel
theorem dL_law_1786 : decode cL_law 1786 = .ok (.aload_n 0, 1) := by decide +kernel
theorem dL_law_1787 : decode cL_law 1787 = .ok (.iload 4, 2) := by decide +kernel
theorem dL_law_1789 : decode cL_law 1789 = .ok (.iconst 1, 1) := by decide +kernel
theorem dL_law_1790 : decode cL_law 1790 = .ok (.iadd, 1) := by decide +kernel
theorem dL_law_1791 : decode cL_law 1791 = .ok (.iaload, 1) := by decide +kernel
theorem dL_law_1792 : decode cL_law 1792 = .ok (.aload_n 0, 1) := by decide +kernel
theorem dL_law_1793 : decode cL_law 1793 = .ok (.iload 4, 2) := by decide +kernel
theorem dL_law_1795 : decode cL_law 1795 = .ok (.iconst 2, 1) := by decide +kernel
theorem dL_law_1796 : decode cL_law 1796 = .ok (.iadd, 1) := by decide +kernel
theorem dL_law_1797 : decode cL_law 1797 = .ok (.iaload, 1) := by decide +kernel
theorem dL_law_1798 : decode cL_law 1798 = .ok (.ifCond .eq 7, 3) := by decide +kernel
theorem dL_law_1801 : decode cL_law 1801 = .ok (.iconst 1, 1) := by decide +kernel
theorem dL_law_1802 : decode cL_law 1802 = .ok (.goto 4, 3) := by decide +kernel
theorem dL_law_1805 : decode cL_law 1805 = .ok (.iconst 0, 1) := by decide +kernel
theorem dL_law_1806 : decode cL_law 1806 = .ok (.invokevirtual 198, 3) := by decide +kernel
theorem dL_law_1809 : decode cL_law 1809 = .ok (.aload_n 2, 1) := by decide +kernel
theorem dL_law_1810 : decode cL_law 1810 = .ok (.aload_n 0, 1) := by decide +kernel
theorem dL_law_1811 : decode cL_law 1811 = .ok (.iload 4, 2) := by decide +kernel
theorem dL_law_1813 : decode cL_law 1813 = .ok (.iconst 1, 1) := by decide +kernel
theorem dL_law_1814 : decode cL_law 1814 = .ok (.iadd, 1) := by decide +kernel
theorem dL_law_1815 : decode cL_law 1815 = .ok (.iaload, 1) := by decide +kernel
theorem dL_law_1816 : decode cL_law 1816 = .ok (.aload_n 0, 1) := by decide +kernel
theorem dL_law_1817 : decode cL_law 1817 = .ok (.iload 4, 2) := by decide +kernel
theorem dL_law_1819 : decode cL_law 1819 = .ok (.iconst 2, 1) := by decide +kernel
theorem dL_law_1820 : decode cL_law 1820 = .ok (.iadd, 1) := by decide +kernel
theorem dL_law_1821 : decode cL_law 1821 = .ok (.iaload, 1) := by decide +kernel
theorem dL_law_1822 : decode cL_law 1822 = .ok (.ifCond .eq 7, 3) := by decide +kernel
theorem dL_law_1825 : decode cL_law 1825 = .ok (.iconst 1, 1) := by decide +kernel
theorem dL_law_1826 : decode cL_law 1826 = .ok (.goto 4, 3) := by decide +kernel
theorem dL_law_1829 : decode cL_law 1829 = .ok (.iconst 0, 1) := by decide +kernel
theorem dL_law_1830 : decode cL_law 1830 = .ok (.invokevirtual 201, 3) := by decide +kernel
theorem dL_law_1833 : decode cL_law 1833 = .ok (.if_icmp .eq 849, 3) := by decide +kernel
theorem dL_law_1836 : decode cL_law 1836 = .ok (.iconst 0, 1) := by decide +kernel
theorem dL_law_1837 : decode cL_law 1837 = .ok (.ireturn, 1) := by decide +kernel
theorem dL_law_1838 : decode cL_law 1838 = .ok (.aload_n 1, 1) := by decide +kernel
theorem dL_law_1839 : decode cL_law 1839 = .ok (.invokevirtual 202, 3) := by decide +kernel
theorem dL_law_1842 : decode cL_law 1842 = .ok (.aload_n 2, 1) := by decide +kernel
theorem dL_law_1843 : decode cL_law 1843 = .ok (.invokevirtual 205, 3) := by decide +kernel
theorem dL_law_1846 : decode cL_law 1846 = .ok (.if_icmp .eq 836, 3) := by decide +kernel
theorem dL_law_1849 : decode cL_law 1849 = .ok (.iconst 0, 1) := by decide +kernel
theorem dL_law_1850 : decode cL_law 1850 = .ok (.ireturn, 1) := by decide +kernel
theorem dL_law_1851 : decode cL_law 1851 = .ok (.aload_n 1, 1) := by decide +kernel
theorem dL_law_1852 : decode cL_law 1852 = .ok (.aload_n 0, 1) := by decide +kernel
theorem dL_law_1853 : decode cL_law 1853 = .ok (.iload 4, 2) := by decide +kernel
theorem dL_law_1855 : decode cL_law 1855 = .ok (.iconst 1, 1) := by decide +kernel
theorem dL_law_1856 : decode cL_law 1856 = .ok (.iadd, 1) := by decide +kernel
theorem dL_law_1857 : decode cL_law 1857 = .ok (.iaload, 1) := by decide +kernel
theorem dL_law_1858 : decode cL_law 1858 = .ok (.aload_n 3, 1) := by decide +kernel
theorem dL_law_1859 : decode cL_law 1859 = .ok (.invokestatic 206, 3) := by decide +kernel
theorem dL_law_1862 : decode cL_law 1862 = .ok (.istore 5, 2) := by decide +kernel
theorem dL_law_1864 : decode cL_law 1864 = .ok (.aload_n 2, 1) := by decide +kernel
theorem dL_law_1865 : decode cL_law 1865 = .ok (.aload_n 0, 1) := by decide +kernel
theorem dL_law_1866 : decode cL_law 1866 = .ok (.iload 4, 2) := by decide +kernel
theorem dL_law_1868 : decode cL_law 1868 = .ok (.iconst 1, 1) := by decide +kernel
theorem dL_law_1869 : decode cL_law 1869 = .ok (.iadd, 1) := by decide +kernel
theorem dL_law_1870 : decode cL_law 1870 = .ok (.iaload, 1) := by decide +kernel
theorem dL_law_1871 : decode cL_law 1871 = .ok (.invokevirtual 208, 3) := by decide +kernel
theorem dL_law_1874 : decode cL_law 1874 = .ok (.istore 6, 2) := by decide +kernel
theorem dL_law_1876 : decode cL_law 1876 = .ok (.aload_n 2, 1) := by decide +kernel
theorem dL_law_1877 : decode cL_law 1877 = .ok (.invokevirtual 127, 3) := by decide +kernel
theorem dL_law_1880 : decode cL_law 1880 = .ok (.iload 5, 2) := by decide +kernel
theorem dL_law_1882 : decode cL_law 1882 = .ok (.if_icmp .eq 5, 3) := by decide +kernel
theorem dL_law_1885 : decode cL_law 1885 = .ok (.iconst 0, 1) := by decide +kernel
theorem dL_law_1886 : decode cL_law 1886 = .ok (.ireturn, 1) := by decide +kernel
theorem dL_law_1887 : decode cL_law 1887 = .ok (.iload 5, 2) := by decide +kernel
theorem dL_law_1889 : decode cL_law 1889 = .ok (.ifCond .ne 15, 3) := by decide +kernel
theorem dL_law_1892 : decode cL_law 1892 = .ok (.aload_n 3, 1) := by decide +kernel
theorem dL_law_1893 : decode cL_law 1893 = .ok (.iconst 0, 1) := by decide +kernel
theorem dL_law_1894 : decode cL_law 1894 = .ok (.laload, 1) := by decide +kernel
theorem dL_law_1895 : decode cL_law 1895 = .ok (.iload 6, 2) := by decide +kernel
theorem dL_law_1897 : decode cL_law 1897 = .ok (.i2l, 1) := by decide +kernel
theorem dL_law_1898 : decode cL_law 1898 = .ok (.lcmp, 1) := by decide +kernel
theorem dL_law_1899 : decode cL_law 1899 = .ok (.ifCond .eq 5, 3) := by decide +kernel
theorem dL_law_1902 : decode cL_law 1902 = .ok (.iconst 0, 1) := by decide +kernel
theorem dL_law_1903 : decode cL_law 1903 = .ok (.ireturn, 1) := by decide +kernel
theorem dL_law_1904 : decode cL_law 1904 = .ok (.goto 778, 3) := by decide +kernel
theorem dL_law_1907 : decode cL_law 1907 = .ok (.aload_n 1, 1) := by decide +kernel
theorem dL_law_1908 : decode cL_law 1908 = .ok (.aload_n 0, 1) := by decide +kernel
theorem dL_law_1909 : decode cL_law 1909 = .ok (.iload 4, 2) := by decide +kernel
theorem dL_law_1911 : decode cL_law 1911 = .ok (.iconst 1, 1) := by decide +kernel
theorem dL_law_1912 : decode cL_law 1912 = .ok (.iadd, 1) := by decide +kernel
theorem dL_law_1913 : decode cL_law 1913 = .ok (.iaload, 1) := by decide +kernel
theorem dL_law_1914 : decode cL_law 1914 = .ok (.aload_n 0, 1) := by decide +kernel
theorem dL_law_1915 : decode cL_law 1915 = .ok (.iload 4, 2) := by decide +kernel
theorem dL_law_1917 : decode cL_law 1917 = .ok (.iconst 2, 1) := by decide +kernel
theorem dL_law_1918 : decode cL_law 1918 = .ok (.iadd, 1) := by decide +kernel
theorem dL_law_1919 : decode cL_law 1919 = .ok (.iaload, 1) := by decide +kernel
theorem dL_law_1920 : decode cL_law 1920 = .ok (.aload_n 3, 1) := by decide +kernel
theorem dL_law_1921 : decode cL_law 1921 = .ok (.invokestatic 209, 3) := by decide +kernel
theorem dL_law_1924 : decode cL_law 1924 = .ok (.istore 5, 2) := by decide +kernel
theorem dL_law_1926 : decode cL_law 1926 = .ok (.aload_n 2, 1) := by decide +kernel
theorem dL_law_1927 : decode cL_law 1927 = .ok (.aload_n 0, 1) := by decide +kernel
theorem dL_law_1928 : decode cL_law 1928 = .ok (.iload 4, 2) := by decide +kernel
theorem dL_law_1930 : decode cL_law 1930 = .ok (.iconst 1, 1) := by decide +kernel
theorem dL_law_1931 : decode cL_law 1931 = .ok (.iadd, 1) := by decide +kernel
theorem dL_law_1932 : decode cL_law 1932 = .ok (.iaload, 1) := by decide +kernel
theorem dL_law_1933 : decode cL_law 1933 = .ok (.aload_n 0, 1) := by decide +kernel
theorem dL_law_1934 : decode cL_law 1934 = .ok (.iload 4, 2) := by decide +kernel
theorem dL_law_1936 : decode cL_law 1936 = .ok (.iconst 2, 1) := by decide +kernel
theorem dL_law_1937 : decode cL_law 1937 = .ok (.iadd, 1) := by decide +kernel
theorem dL_law_1938 : decode cL_law 1938 = .ok (.iaload, 1) := by decide +kernel
theorem dL_law_1939 : decode cL_law 1939 = .ok (.invokevirtual 211, 3) := by decide +kernel
theorem dL_law_1942 : decode cL_law 1942 = .ok (.istore 6, 2) := by decide +kernel
theorem dL_law_1944 : decode cL_law 1944 = .ok (.aload_n 2, 1) := by decide +kernel
theorem dL_law_1945 : decode cL_law 1945 = .ok (.invokevirtual 127, 3) := by decide +kernel
theorem dL_law_1948 : decode cL_law 1948 = .ok (.iload 5, 2) := by decide +kernel
theorem dL_law_1950 : decode cL_law 1950 = .ok (.if_icmp .eq 5, 3) := by decide +kernel
theorem dL_law_1953 : decode cL_law 1953 = .ok (.iconst 0, 1) := by decide +kernel
theorem dL_law_1954 : decode cL_law 1954 = .ok (.ireturn, 1) := by decide +kernel
theorem dL_law_1955 : decode cL_law 1955 = .ok (.iload 5, 2) := by decide +kernel
theorem dL_law_1957 : decode cL_law 1957 = .ok (.ifCond .ne 15, 3) := by decide +kernel
theorem dL_law_1960 : decode cL_law 1960 = .ok (.aload_n 3, 1) := by decide +kernel
theorem dL_law_1961 : decode cL_law 1961 = .ok (.iconst 0, 1) := by decide +kernel
theorem dL_law_1962 : decode cL_law 1962 = .ok (.laload, 1) := by decide +kernel
theorem dL_law_1963 : decode cL_law 1963 = .ok (.iload 6, 2) := by decide +kernel
theorem dL_law_1965 : decode cL_law 1965 = .ok (.i2l, 1) := by decide +kernel
theorem dL_law_1966 : decode cL_law 1966 = .ok (.lcmp, 1) := by decide +kernel
theorem dL_law_1967 : decode cL_law 1967 = .ok (.ifCond .eq 5, 3) := by decide +kernel
theorem dL_law_1970 : decode cL_law 1970 = .ok (.iconst 0, 1) := by decide +kernel
theorem dL_law_1971 : decode cL_law 1971 = .ok (.ireturn, 1) := by decide +kernel
theorem dL_law_1972 : decode cL_law 1972 = .ok (.goto 710, 3) := by decide +kernel
theorem dL_law_1975 : decode cL_law 1975 = .ok (.aload_n 1, 1) := by decide +kernel
theorem dL_law_1976 : decode cL_law 1976 = .ok (.aload_n 0, 1) := by decide +kernel
theorem dL_law_1977 : decode cL_law 1977 = .ok (.iload 4, 2) := by decide +kernel
theorem dL_law_1979 : decode cL_law 1979 = .ok (.iconst 1, 1) := by decide +kernel
theorem dL_law_1980 : decode cL_law 1980 = .ok (.iadd, 1) := by decide +kernel
theorem dL_law_1981 : decode cL_law 1981 = .ok (.iaload, 1) := by decide +kernel
theorem dL_law_1982 : decode cL_law 1982 = .ok (.aload_n 0, 1) := by decide +kernel
theorem dL_law_1983 : decode cL_law 1983 = .ok (.iload 4, 2) := by decide +kernel
theorem dL_law_1985 : decode cL_law 1985 = .ok (.iconst 2, 1) := by decide +kernel
theorem dL_law_1986 : decode cL_law 1986 = .ok (.iadd, 1) := by decide +kernel
theorem dL_law_1987 : decode cL_law 1987 = .ok (.iaload, 1) := by decide +kernel
theorem dL_law_1988 : decode cL_law 1988 = .ok (.aload_n 0, 1) := by decide +kernel
theorem dL_law_1989 : decode cL_law 1989 = .ok (.iload 4, 2) := by decide +kernel
theorem dL_law_1991 : decode cL_law 1991 = .ok (.iconst 3, 1) := by decide +kernel
theorem dL_law_1992 : decode cL_law 1992 = .ok (.iadd, 1) := by decide +kernel
theorem dL_law_1993 : decode cL_law 1993 = .ok (.iaload, 1) := by decide +kernel
theorem dL_law_1994 : decode cL_law 1994 = .ok (.aload_n 3, 1) := by decide +kernel
theorem dL_law_1995 : decode cL_law 1995 = .ok (.invokestatic 212, 3) := by decide +kernel
theorem dL_law_1998 : decode cL_law 1998 = .ok (.istore 5, 2) := by decide +kernel
theorem dL_law_2000 : decode cL_law 2000 = .ok (.aload_n 2, 1) := by decide +kernel
theorem dL_law_2001 : decode cL_law 2001 = .ok (.aload_n 0, 1) := by decide +kernel
theorem dL_law_2002 : decode cL_law 2002 = .ok (.iload 4, 2) := by decide +kernel
theorem dL_law_2004 : decode cL_law 2004 = .ok (.iconst 1, 1) := by decide +kernel
theorem dL_law_2005 : decode cL_law 2005 = .ok (.iadd, 1) := by decide +kernel
theorem dL_law_2006 : decode cL_law 2006 = .ok (.iaload, 1) := by decide +kernel
theorem dL_law_2007 : decode cL_law 2007 = .ok (.aload_n 0, 1) := by decide +kernel
theorem dL_law_2008 : decode cL_law 2008 = .ok (.iload 4, 2) := by decide +kernel
theorem dL_law_2010 : decode cL_law 2010 = .ok (.iconst 2, 1) := by decide +kernel
theorem dL_law_2011 : decode cL_law 2011 = .ok (.iadd, 1) := by decide +kernel
theorem dL_law_2012 : decode cL_law 2012 = .ok (.iaload, 1) := by decide +kernel
theorem dL_law_2013 : decode cL_law 2013 = .ok (.aload_n 0, 1) := by decide +kernel
theorem dL_law_2014 : decode cL_law 2014 = .ok (.iload 4, 2) := by decide +kernel
theorem dL_law_2016 : decode cL_law 2016 = .ok (.iconst 3, 1) := by decide +kernel
theorem dL_law_2017 : decode cL_law 2017 = .ok (.iadd, 1) := by decide +kernel
theorem dL_law_2018 : decode cL_law 2018 = .ok (.iaload, 1) := by decide +kernel
theorem dL_law_2019 : decode cL_law 2019 = .ok (.invokevirtual 214, 3) := by decide +kernel
theorem dL_law_2022 : decode cL_law 2022 = .ok (.istore 6, 2) := by decide +kernel
theorem dL_law_2024 : decode cL_law 2024 = .ok (.aload_n 2, 1) := by decide +kernel
theorem dL_law_2025 : decode cL_law 2025 = .ok (.invokevirtual 127, 3) := by decide +kernel
theorem dL_law_2028 : decode cL_law 2028 = .ok (.iload 5, 2) := by decide +kernel
theorem dL_law_2030 : decode cL_law 2030 = .ok (.if_icmp .eq 5, 3) := by decide +kernel
theorem dL_law_2033 : decode cL_law 2033 = .ok (.iconst 0, 1) := by decide +kernel
theorem dL_law_2034 : decode cL_law 2034 = .ok (.ireturn, 1) := by decide +kernel
theorem dL_law_2035 : decode cL_law 2035 = .ok (.iload 5, 2) := by decide +kernel
theorem dL_law_2037 : decode cL_law 2037 = .ok (.ifCond .ne 15, 3) := by decide +kernel
theorem dL_law_2040 : decode cL_law 2040 = .ok (.aload_n 3, 1) := by decide +kernel
theorem dL_law_2041 : decode cL_law 2041 = .ok (.iconst 0, 1) := by decide +kernel
theorem dL_law_2042 : decode cL_law 2042 = .ok (.laload, 1) := by decide +kernel
theorem dL_law_2043 : decode cL_law 2043 = .ok (.iload 6, 2) := by decide +kernel
theorem dL_law_2045 : decode cL_law 2045 = .ok (.i2l, 1) := by decide +kernel
theorem dL_law_2046 : decode cL_law 2046 = .ok (.lcmp, 1) := by decide +kernel
theorem dL_law_2047 : decode cL_law 2047 = .ok (.ifCond .eq 5, 3) := by decide +kernel
theorem dL_law_2050 : decode cL_law 2050 = .ok (.iconst 0, 1) := by decide +kernel
theorem dL_law_2051 : decode cL_law 2051 = .ok (.ireturn, 1) := by decide +kernel
theorem dL_law_2052 : decode cL_law 2052 = .ok (.goto 630, 3) := by decide +kernel
theorem dL_law_2055 : decode cL_law 2055 = .ok (.aload_n 1, 1) := by decide +kernel
theorem dL_law_2056 : decode cL_law 2056 = .ok (.aload_n 0, 1) := by decide +kernel
theorem dL_law_2057 : decode cL_law 2057 = .ok (.iload 4, 2) := by decide +kernel
theorem dL_law_2059 : decode cL_law 2059 = .ok (.iconst 1, 1) := by decide +kernel
theorem dL_law_2060 : decode cL_law 2060 = .ok (.iadd, 1) := by decide +kernel
theorem dL_law_2061 : decode cL_law 2061 = .ok (.iaload, 1) := by decide +kernel
theorem dL_law_2062 : decode cL_law 2062 = .ok (.aload_n 3, 1) := by decide +kernel
theorem dL_law_2063 : decode cL_law 2063 = .ok (.invokestatic 215, 3) := by decide +kernel
theorem dL_law_2066 : decode cL_law 2066 = .ok (.istore 5, 2) := by decide +kernel
theorem dL_law_2068 : decode cL_law 2068 = .ok (.aload_n 2, 1) := by decide +kernel
theorem dL_law_2069 : decode cL_law 2069 = .ok (.aload_n 0, 1) := by decide +kernel
theorem dL_law_2070 : decode cL_law 2070 = .ok (.iload 4, 2) := by decide +kernel
theorem dL_law_2072 : decode cL_law 2072 = .ok (.iconst 1, 1) := by decide +kernel
theorem dL_law_2073 : decode cL_law 2073 = .ok (.iadd, 1) := by decide +kernel
theorem dL_law_2074 : decode cL_law 2074 = .ok (.iaload, 1) := by decide +kernel
theorem dL_law_2075 : decode cL_law 2075 = .ok (.invokevirtual 217, 3) := by decide +kernel
theorem dL_law_2078 : decode cL_law 2078 = .ok (.istore 6, 2) := by decide +kernel
theorem dL_law_2080 : decode cL_law 2080 = .ok (.aload_n 2, 1) := by decide +kernel
theorem dL_law_2081 : decode cL_law 2081 = .ok (.invokevirtual 127, 3) := by decide +kernel
theorem dL_law_2084 : decode cL_law 2084 = .ok (.iload 5, 2) := by decide +kernel
theorem dL_law_2086 : decode cL_law 2086 = .ok (.if_icmp .eq 5, 3) := by decide +kernel
theorem dL_law_2089 : decode cL_law 2089 = .ok (.iconst 0, 1) := by decide +kernel
theorem dL_law_2090 : decode cL_law 2090 = .ok (.ireturn, 1) := by decide +kernel
theorem dL_law_2091 : decode cL_law 2091 = .ok (.iload 5, 2) := by decide +kernel
theorem dL_law_2093 : decode cL_law 2093 = .ok (.ifCond .ne 15, 3) := by decide +kernel
theorem dL_law_2096 : decode cL_law 2096 = .ok (.aload_n 3, 1) := by decide +kernel
theorem dL_law_2097 : decode cL_law 2097 = .ok (.iconst 0, 1) := by decide +kernel
theorem dL_law_2098 : decode cL_law 2098 = .ok (.laload, 1) := by decide +kernel
theorem dL_law_2099 : decode cL_law 2099 = .ok (.iload 6, 2) := by decide +kernel
theorem dL_law_2101 : decode cL_law 2101 = .ok (.i2l, 1) := by decide +kernel
theorem dL_law_2102 : decode cL_law 2102 = .ok (.lcmp, 1) := by decide +kernel
theorem dL_law_2103 : decode cL_law 2103 = .ok (.ifCond .eq 5, 3) := by decide +kernel
theorem dL_law_2106 : decode cL_law 2106 = .ok (.iconst 0, 1) := by decide +kernel
theorem dL_law_2107 : decode cL_law 2107 = .ok (.ireturn, 1) := by decide +kernel
theorem dL_law_2108 : decode cL_law 2108 = .ok (.goto 574, 3) := by decide +kernel
theorem dL_law_2111 : decode cL_law 2111 = .ok (.aload_n 1, 1) := by decide +kernel
theorem dL_law_2112 : decode cL_law 2112 = .ok (.aload_n 0, 1) := by decide +kernel
theorem dL_law_2113 : decode cL_law 2113 = .ok (.iload 4, 2) := by decide +kernel
theorem dL_law_2115 : decode cL_law 2115 = .ok (.iconst 1, 1) := by decide +kernel
theorem dL_law_2116 : decode cL_law 2116 = .ok (.iadd, 1) := by decide +kernel
theorem dL_law_2117 : decode cL_law 2117 = .ok (.iaload, 1) := by decide +kernel
theorem dL_law_2118 : decode cL_law 2118 = .ok (.aload_n 0, 1) := by decide +kernel
theorem dL_law_2119 : decode cL_law 2119 = .ok (.iload 4, 2) := by decide +kernel
theorem dL_law_2121 : decode cL_law 2121 = .ok (.iconst 2, 1) := by decide +kernel
theorem dL_law_2122 : decode cL_law 2122 = .ok (.iadd, 1) := by decide +kernel
theorem dL_law_2123 : decode cL_law 2123 = .ok (.iaload, 1) := by decide +kernel
theorem dL_law_2124 : decode cL_law 2124 = .ok (.aload_n 0, 1) := by decide +kernel
theorem dL_law_2125 : decode cL_law 2125 = .ok (.iload 4, 2) := by decide +kernel
theorem dL_law_2127 : decode cL_law 2127 = .ok (.iconst 3, 1) := by decide +kernel
theorem dL_law_2128 : decode cL_law 2128 = .ok (.iadd, 1) := by decide +kernel
theorem dL_law_2129 : decode cL_law 2129 = .ok (.iaload, 1) := by decide +kernel
theorem dL_law_2130 : decode cL_law 2130 = .ok (.aload_n 0, 1) := by decide +kernel
theorem dL_law_2131 : decode cL_law 2131 = .ok (.iload 4, 2) := by decide +kernel
theorem dL_law_2133 : decode cL_law 2133 = .ok (.iconst 4, 1) := by decide +kernel
theorem dL_law_2134 : decode cL_law 2134 = .ok (.iadd, 1) := by decide +kernel
theorem dL_law_2135 : decode cL_law 2135 = .ok (.iaload, 1) := by decide +kernel
theorem dL_law_2136 : decode cL_law 2136 = .ok (.aload_n 3, 1) := by decide +kernel
theorem dL_law_2137 : decode cL_law 2137 = .ok (.invokestatic 218, 3) := by decide +kernel
theorem dL_law_2140 : decode cL_law 2140 = .ok (.istore 5, 2) := by decide +kernel
theorem dL_law_2142 : decode cL_law 2142 = .ok (.aload_n 2, 1) := by decide +kernel
theorem dL_law_2143 : decode cL_law 2143 = .ok (.aload_n 0, 1) := by decide +kernel
theorem dL_law_2144 : decode cL_law 2144 = .ok (.iload 4, 2) := by decide +kernel
theorem dL_law_2146 : decode cL_law 2146 = .ok (.iconst 1, 1) := by decide +kernel
theorem dL_law_2147 : decode cL_law 2147 = .ok (.iadd, 1) := by decide +kernel
theorem dL_law_2148 : decode cL_law 2148 = .ok (.iaload, 1) := by decide +kernel
theorem dL_law_2149 : decode cL_law 2149 = .ok (.aload_n 0, 1) := by decide +kernel
theorem dL_law_2150 : decode cL_law 2150 = .ok (.iload 4, 2) := by decide +kernel
theorem dL_law_2152 : decode cL_law 2152 = .ok (.iconst 2, 1) := by decide +kernel
theorem dL_law_2153 : decode cL_law 2153 = .ok (.iadd, 1) := by decide +kernel
theorem dL_law_2154 : decode cL_law 2154 = .ok (.iaload, 1) := by decide +kernel
theorem dL_law_2155 : decode cL_law 2155 = .ok (.aload_n 0, 1) := by decide +kernel
theorem dL_law_2156 : decode cL_law 2156 = .ok (.iload 4, 2) := by decide +kernel
theorem dL_law_2158 : decode cL_law 2158 = .ok (.iconst 3, 1) := by decide +kernel
theorem dL_law_2159 : decode cL_law 2159 = .ok (.iadd, 1) := by decide +kernel
theorem dL_law_2160 : decode cL_law 2160 = .ok (.iaload, 1) := by decide +kernel
theorem dL_law_2161 : decode cL_law 2161 = .ok (.aload_n 0, 1) := by decide +kernel
theorem dL_law_2162 : decode cL_law 2162 = .ok (.iload 4, 2) := by decide +kernel
theorem dL_law_2164 : decode cL_law 2164 = .ok (.iconst 4, 1) := by decide +kernel
theorem dL_law_2165 : decode cL_law 2165 = .ok (.iadd, 1) := by decide +kernel
theorem dL_law_2166 : decode cL_law 2166 = .ok (.iaload, 1) := by decide +kernel
theorem dL_law_2167 : decode cL_law 2167 = .ok (.invokevirtual 220, 3) := by decide +kernel
theorem dL_law_2170 : decode cL_law 2170 = .ok (.istore 6, 2) := by decide +kernel
theorem dL_law_2172 : decode cL_law 2172 = .ok (.aload_n 2, 1) := by decide +kernel
theorem dL_law_2173 : decode cL_law 2173 = .ok (.invokevirtual 127, 3) := by decide +kernel
theorem dL_law_2176 : decode cL_law 2176 = .ok (.iload 5, 2) := by decide +kernel
theorem dL_law_2178 : decode cL_law 2178 = .ok (.if_icmp .eq 5, 3) := by decide +kernel
theorem dL_law_2181 : decode cL_law 2181 = .ok (.iconst 0, 1) := by decide +kernel
theorem dL_law_2182 : decode cL_law 2182 = .ok (.ireturn, 1) := by decide +kernel
theorem dL_law_2183 : decode cL_law 2183 = .ok (.iload 5, 2) := by decide +kernel
theorem dL_law_2185 : decode cL_law 2185 = .ok (.ifCond .ne 15, 3) := by decide +kernel
theorem dL_law_2188 : decode cL_law 2188 = .ok (.aload_n 3, 1) := by decide +kernel
theorem dL_law_2189 : decode cL_law 2189 = .ok (.iconst 0, 1) := by decide +kernel
theorem dL_law_2190 : decode cL_law 2190 = .ok (.laload, 1) := by decide +kernel
theorem dL_law_2191 : decode cL_law 2191 = .ok (.iload 6, 2) := by decide +kernel
theorem dL_law_2193 : decode cL_law 2193 = .ok (.i2l, 1) := by decide +kernel
theorem dL_law_2194 : decode cL_law 2194 = .ok (.lcmp, 1) := by decide +kernel
theorem dL_law_2195 : decode cL_law 2195 = .ok (.ifCond .eq 5, 3) := by decide +kernel
theorem dL_law_2198 : decode cL_law 2198 = .ok (.iconst 0, 1) := by decide +kernel
theorem dL_law_2199 : decode cL_law 2199 = .ok (.ireturn, 1) := by decide +kernel
theorem dL_law_2200 : decode cL_law 2200 = .ok (.goto 482, 3) := by decide +kernel
theorem dL_law_2203 : decode cL_law 2203 = .ok (.aload_n 1, 1) := by decide +kernel
theorem dL_law_2204 : decode cL_law 2204 = .ok (.aload_n 0, 1) := by decide +kernel
theorem dL_law_2205 : decode cL_law 2205 = .ok (.iload 4, 2) := by decide +kernel
theorem dL_law_2207 : decode cL_law 2207 = .ok (.iconst 1, 1) := by decide +kernel
theorem dL_law_2208 : decode cL_law 2208 = .ok (.iadd, 1) := by decide +kernel
theorem dL_law_2209 : decode cL_law 2209 = .ok (.iaload, 1) := by decide +kernel
theorem dL_law_2210 : decode cL_law 2210 = .ok (.aload_n 0, 1) := by decide +kernel
theorem dL_law_2211 : decode cL_law 2211 = .ok (.iload 4, 2) := by decide +kernel
theorem dL_law_2213 : decode cL_law 2213 = .ok (.iconst 2, 1) := by decide +kernel
theorem dL_law_2214 : decode cL_law 2214 = .ok (.iadd, 1) := by decide +kernel
theorem dL_law_2215 : decode cL_law 2215 = .ok (.iaload, 1) := by decide +kernel
theorem dL_law_2216 : decode cL_law 2216 = .ok (.aload_n 3, 1) := by decide +kernel
theorem dL_law_2217 : decode cL_law 2217 = .ok (.invokestatic 221, 3) := by decide +kernel
theorem dL_law_2220 : decode cL_law 2220 = .ok (.istore 5, 2) := by decide +kernel
theorem dL_law_2222 : decode cL_law 2222 = .ok (.aload_n 2, 1) := by decide +kernel
theorem dL_law_2223 : decode cL_law 2223 = .ok (.aload_n 0, 1) := by decide +kernel
theorem dL_law_2224 : decode cL_law 2224 = .ok (.iload 4, 2) := by decide +kernel
theorem dL_law_2226 : decode cL_law 2226 = .ok (.iconst 1, 1) := by decide +kernel
theorem dL_law_2227 : decode cL_law 2227 = .ok (.iadd, 1) := by decide +kernel
theorem dL_law_2228 : decode cL_law 2228 = .ok (.iaload, 1) := by decide +kernel
theorem dL_law_2229 : decode cL_law 2229 = .ok (.aload_n 0, 1) := by decide +kernel
theorem dL_law_2230 : decode cL_law 2230 = .ok (.iload 4, 2) := by decide +kernel
theorem dL_law_2232 : decode cL_law 2232 = .ok (.iconst 2, 1) := by decide +kernel
theorem dL_law_2233 : decode cL_law 2233 = .ok (.iadd, 1) := by decide +kernel
theorem dL_law_2234 : decode cL_law 2234 = .ok (.iaload, 1) := by decide +kernel
theorem dL_law_2235 : decode cL_law 2235 = .ok (.invokevirtual 223, 3) := by decide +kernel
theorem dL_law_2238 : decode cL_law 2238 = .ok (.istore 6, 2) := by decide +kernel
theorem dL_law_2240 : decode cL_law 2240 = .ok (.aload_n 2, 1) := by decide +kernel
theorem dL_law_2241 : decode cL_law 2241 = .ok (.invokevirtual 127, 3) := by decide +kernel
theorem dL_law_2244 : decode cL_law 2244 = .ok (.iload 5, 2) := by decide +kernel
theorem dL_law_2246 : decode cL_law 2246 = .ok (.if_icmp .eq 5, 3) := by decide +kernel
theorem dL_law_2249 : decode cL_law 2249 = .ok (.iconst 0, 1) := by decide +kernel
theorem dL_law_2250 : decode cL_law 2250 = .ok (.ireturn, 1) := by decide +kernel
theorem dL_law_2251 : decode cL_law 2251 = .ok (.iload 5, 2) := by decide +kernel
theorem dL_law_2253 : decode cL_law 2253 = .ok (.ifCond .ne 15, 3) := by decide +kernel
theorem dL_law_2256 : decode cL_law 2256 = .ok (.aload_n 3, 1) := by decide +kernel
theorem dL_law_2257 : decode cL_law 2257 = .ok (.iconst 0, 1) := by decide +kernel
theorem dL_law_2258 : decode cL_law 2258 = .ok (.laload, 1) := by decide +kernel
theorem dL_law_2259 : decode cL_law 2259 = .ok (.iload 6, 2) := by decide +kernel
theorem dL_law_2261 : decode cL_law 2261 = .ok (.i2l, 1) := by decide +kernel
theorem dL_law_2262 : decode cL_law 2262 = .ok (.lcmp, 1) := by decide +kernel
theorem dL_law_2263 : decode cL_law 2263 = .ok (.ifCond .eq 5, 3) := by decide +kernel
theorem dL_law_2266 : decode cL_law 2266 = .ok (.iconst 0, 1) := by decide +kernel
theorem dL_law_2267 : decode cL_law 2267 = .ok (.ireturn, 1) := by decide +kernel
theorem dL_law_2268 : decode cL_law 2268 = .ok (.goto 414, 3) := by decide +kernel
theorem dL_law_2271 : decode cL_law 2271 = .ok (.aload_n 1, 1) := by decide +kernel
theorem dL_law_2272 : decode cL_law 2272 = .ok (.aload_n 0, 1) := by decide +kernel
theorem dL_law_2273 : decode cL_law 2273 = .ok (.iload 4, 2) := by decide +kernel
theorem dL_law_2275 : decode cL_law 2275 = .ok (.iconst 1, 1) := by decide +kernel
theorem dL_law_2276 : decode cL_law 2276 = .ok (.iadd, 1) := by decide +kernel
theorem dL_law_2277 : decode cL_law 2277 = .ok (.iaload, 1) := by decide +kernel
theorem dL_law_2278 : decode cL_law 2278 = .ok (.aload_n 0, 1) := by decide +kernel
theorem dL_law_2279 : decode cL_law 2279 = .ok (.iload 4, 2) := by decide +kernel
theorem dL_law_2281 : decode cL_law 2281 = .ok (.iconst 2, 1) := by decide +kernel
theorem dL_law_2282 : decode cL_law 2282 = .ok (.iadd, 1) := by decide +kernel
theorem dL_law_2283 : decode cL_law 2283 = .ok (.iaload, 1) := by decide +kernel
theorem dL_law_2284 : decode cL_law 2284 = .ok (.aload_n 0, 1) := by decide +kernel
theorem dL_law_2285 : decode cL_law 2285 = .ok (.iload 4, 2) := by decide +kernel
theorem dL_law_2287 : decode cL_law 2287 = .ok (.iconst 3, 1) := by decide +kernel
theorem dL_law_2288 : decode cL_law 2288 = .ok (.iadd, 1) := by decide +kernel
theorem dL_law_2289 : decode cL_law 2289 = .ok (.iaload, 1) := by decide +kernel
theorem dL_law_2290 : decode cL_law 2290 = .ok (.aload_n 3, 1) := by decide +kernel
theorem dL_law_2291 : decode cL_law 2291 = .ok (.invokestatic 224, 3) := by decide +kernel
theorem dL_law_2294 : decode cL_law 2294 = .ok (.istore 5, 2) := by decide +kernel
theorem dL_law_2296 : decode cL_law 2296 = .ok (.aload_n 2, 1) := by decide +kernel
theorem dL_law_2297 : decode cL_law 2297 = .ok (.aload_n 0, 1) := by decide +kernel
theorem dL_law_2298 : decode cL_law 2298 = .ok (.iload 4, 2) := by decide +kernel
theorem dL_law_2300 : decode cL_law 2300 = .ok (.iconst 1, 1) := by decide +kernel
theorem dL_law_2301 : decode cL_law 2301 = .ok (.iadd, 1) := by decide +kernel
theorem dL_law_2302 : decode cL_law 2302 = .ok (.iaload, 1) := by decide +kernel
theorem dL_law_2303 : decode cL_law 2303 = .ok (.aload_n 0, 1) := by decide +kernel
theorem dL_law_2304 : decode cL_law 2304 = .ok (.iload 4, 2) := by decide +kernel
theorem dL_law_2306 : decode cL_law 2306 = .ok (.iconst 2, 1) := by decide +kernel
theorem dL_law_2307 : decode cL_law 2307 = .ok (.iadd, 1) := by decide +kernel
theorem dL_law_2308 : decode cL_law 2308 = .ok (.iaload, 1) := by decide +kernel
theorem dL_law_2309 : decode cL_law 2309 = .ok (.aload_n 0, 1) := by decide +kernel
theorem dL_law_2310 : decode cL_law 2310 = .ok (.iload 4, 2) := by decide +kernel
theorem dL_law_2312 : decode cL_law 2312 = .ok (.iconst 3, 1) := by decide +kernel
theorem dL_law_2313 : decode cL_law 2313 = .ok (.iadd, 1) := by decide +kernel
theorem dL_law_2314 : decode cL_law 2314 = .ok (.iaload, 1) := by decide +kernel
theorem dL_law_2315 : decode cL_law 2315 = .ok (.invokevirtual 226, 3) := by decide +kernel
theorem dL_law_2318 : decode cL_law 2318 = .ok (.lstore 6, 2) := by decide +kernel
theorem dL_law_2320 : decode cL_law 2320 = .ok (.aload_n 2, 1) := by decide +kernel
theorem dL_law_2321 : decode cL_law 2321 = .ok (.invokevirtual 127, 3) := by decide +kernel
theorem dL_law_2324 : decode cL_law 2324 = .ok (.iload 5, 2) := by decide +kernel
theorem dL_law_2326 : decode cL_law 2326 = .ok (.if_icmp .eq 5, 3) := by decide +kernel
theorem dL_law_2329 : decode cL_law 2329 = .ok (.iconst 0, 1) := by decide +kernel
theorem dL_law_2330 : decode cL_law 2330 = .ok (.ireturn, 1) := by decide +kernel
theorem dL_law_2331 : decode cL_law 2331 = .ok (.iload 5, 2) := by decide +kernel
theorem dL_law_2333 : decode cL_law 2333 = .ok (.ifCond .ne 14, 3) := by decide +kernel
theorem dL_law_2336 : decode cL_law 2336 = .ok (.aload_n 3, 1) := by decide +kernel
theorem dL_law_2337 : decode cL_law 2337 = .ok (.iconst 0, 1) := by decide +kernel
theorem dL_law_2338 : decode cL_law 2338 = .ok (.laload, 1) := by decide +kernel
theorem dL_law_2339 : decode cL_law 2339 = .ok (.lload 6, 2) := by decide +kernel
theorem dL_law_2341 : decode cL_law 2341 = .ok (.lcmp, 1) := by decide +kernel
theorem dL_law_2342 : decode cL_law 2342 = .ok (.ifCond .eq 5, 3) := by decide +kernel
theorem dL_law_2345 : decode cL_law 2345 = .ok (.iconst 0, 1) := by decide +kernel
theorem dL_law_2346 : decode cL_law 2346 = .ok (.ireturn, 1) := by decide +kernel
theorem dL_law_2347 : decode cL_law 2347 = .ok (.goto 335, 3) := by decide +kernel
theorem dL_law_2350 : decode cL_law 2350 = .ok (.aload_n 1, 1) := by decide +kernel
theorem dL_law_2351 : decode cL_law 2351 = .ok (.aload_n 0, 1) := by decide +kernel
theorem dL_law_2352 : decode cL_law 2352 = .ok (.iload 4, 2) := by decide +kernel
theorem dL_law_2354 : decode cL_law 2354 = .ok (.iconst 1, 1) := by decide +kernel
theorem dL_law_2355 : decode cL_law 2355 = .ok (.iadd, 1) := by decide +kernel
theorem dL_law_2356 : decode cL_law 2356 = .ok (.iaload, 1) := by decide +kernel
theorem dL_law_2357 : decode cL_law 2357 = .ok (.aload_n 0, 1) := by decide +kernel
theorem dL_law_2358 : decode cL_law 2358 = .ok (.iload 4, 2) := by decide +kernel
theorem dL_law_2360 : decode cL_law 2360 = .ok (.iconst 2, 1) := by decide +kernel
theorem dL_law_2361 : decode cL_law 2361 = .ok (.iadd, 1) := by decide +kernel
theorem dL_law_2362 : decode cL_law 2362 = .ok (.iaload, 1) := by decide +kernel
theorem dL_law_2363 : decode cL_law 2363 = .ok (.aload_n 0, 1) := by decide +kernel
theorem dL_law_2364 : decode cL_law 2364 = .ok (.iload 4, 2) := by decide +kernel
theorem dL_law_2366 : decode cL_law 2366 = .ok (.iconst 3, 1) := by decide +kernel
theorem dL_law_2367 : decode cL_law 2367 = .ok (.iadd, 1) := by decide +kernel
theorem dL_law_2368 : decode cL_law 2368 = .ok (.iaload, 1) := by decide +kernel
theorem dL_law_2369 : decode cL_law 2369 = .ok (.aload_n 3, 1) := by decide +kernel
theorem dL_law_2370 : decode cL_law 2370 = .ok (.invokestatic 227, 3) := by decide +kernel
theorem dL_law_2373 : decode cL_law 2373 = .ok (.istore 5, 2) := by decide +kernel
theorem dL_law_2375 : decode cL_law 2375 = .ok (.aload_n 2, 1) := by decide +kernel
theorem dL_law_2376 : decode cL_law 2376 = .ok (.aload_n 0, 1) := by decide +kernel
theorem dL_law_2377 : decode cL_law 2377 = .ok (.iload 4, 2) := by decide +kernel
theorem dL_law_2379 : decode cL_law 2379 = .ok (.iconst 1, 1) := by decide +kernel
theorem dL_law_2380 : decode cL_law 2380 = .ok (.iadd, 1) := by decide +kernel
theorem dL_law_2381 : decode cL_law 2381 = .ok (.iaload, 1) := by decide +kernel
theorem dL_law_2382 : decode cL_law 2382 = .ok (.aload_n 0, 1) := by decide +kernel
theorem dL_law_2383 : decode cL_law 2383 = .ok (.iload 4, 2) := by decide +kernel
theorem dL_law_2385 : decode cL_law 2385 = .ok (.iconst 2, 1) := by decide +kernel
theorem dL_law_2386 : decode cL_law 2386 = .ok (.iadd, 1) := by decide +kernel
theorem dL_law_2387 : decode cL_law 2387 = .ok (.iaload, 1) := by decide +kernel
theorem dL_law_2388 : decode cL_law 2388 = .ok (.aload_n 0, 1) := by decide +kernel
theorem dL_law_2389 : decode cL_law 2389 = .ok (.iload 4, 2) := by decide +kernel
theorem dL_law_2391 : decode cL_law 2391 = .ok (.iconst 3, 1) := by decide +kernel
theorem dL_law_2392 : decode cL_law 2392 = .ok (.iadd, 1) := by decide +kernel
theorem dL_law_2393 : decode cL_law 2393 = .ok (.iaload, 1) := by decide +kernel
theorem dL_law_2394 : decode cL_law 2394 = .ok (.invokevirtual 229, 3) := by decide +kernel
theorem dL_law_2397 : decode cL_law 2397 = .ok (.istore 6, 2) := by decide +kernel
theorem dL_law_2399 : decode cL_law 2399 = .ok (.aload_n 2, 1) := by decide +kernel
theorem dL_law_2400 : decode cL_law 2400 = .ok (.invokevirtual 127, 3) := by decide +kernel
theorem dL_law_2403 : decode cL_law 2403 = .ok (.iload 5, 2) := by decide +kernel
theorem dL_law_2405 : decode cL_law 2405 = .ok (.if_icmp .eq 5, 3) := by decide +kernel
theorem dL_law_2408 : decode cL_law 2408 = .ok (.iconst 0, 1) := by decide +kernel
theorem dL_law_2409 : decode cL_law 2409 = .ok (.ireturn, 1) := by decide +kernel
theorem dL_law_2410 : decode cL_law 2410 = .ok (.iload 5, 2) := by decide +kernel
theorem dL_law_2412 : decode cL_law 2412 = .ok (.ifCond .ne 15, 3) := by decide +kernel
theorem dL_law_2415 : decode cL_law 2415 = .ok (.aload_n 3, 1) := by decide +kernel
theorem dL_law_2416 : decode cL_law 2416 = .ok (.iconst 0, 1) := by decide +kernel
theorem dL_law_2417 : decode cL_law 2417 = .ok (.laload, 1) := by decide +kernel
theorem dL_law_2418 : decode cL_law 2418 = .ok (.iload 6, 2) := by decide +kernel
theorem dL_law_2420 : decode cL_law 2420 = .ok (.i2l, 1) := by decide +kernel
theorem dL_law_2421 : decode cL_law 2421 = .ok (.lcmp, 1) := by decide +kernel
theorem dL_law_2422 : decode cL_law 2422 = .ok (.ifCond .eq 5, 3) := by decide +kernel
theorem dL_law_2425 : decode cL_law 2425 = .ok (.iconst 0, 1) := by decide +kernel
theorem dL_law_2426 : decode cL_law 2426 = .ok (.ireturn, 1) := by decide +kernel
theorem dL_law_2427 : decode cL_law 2427 = .ok (.goto 255, 3) := by decide +kernel
theorem dL_law_2430 : decode cL_law 2430 = .ok (.aload_n 1, 1) := by decide +kernel
theorem dL_law_2431 : decode cL_law 2431 = .ok (.aload_n 0, 1) := by decide +kernel
theorem dL_law_2432 : decode cL_law 2432 = .ok (.iload 4, 2) := by decide +kernel
theorem dL_law_2434 : decode cL_law 2434 = .ok (.iconst 1, 1) := by decide +kernel
theorem dL_law_2435 : decode cL_law 2435 = .ok (.iadd, 1) := by decide +kernel
theorem dL_law_2436 : decode cL_law 2436 = .ok (.iaload, 1) := by decide +kernel
theorem dL_law_2437 : decode cL_law 2437 = .ok (.aload_n 0, 1) := by decide +kernel
theorem dL_law_2438 : decode cL_law 2438 = .ok (.iload 4, 2) := by decide +kernel
theorem dL_law_2440 : decode cL_law 2440 = .ok (.iconst 2, 1) := by decide +kernel
theorem dL_law_2441 : decode cL_law 2441 = .ok (.iadd, 1) := by decide +kernel
theorem dL_law_2442 : decode cL_law 2442 = .ok (.iaload, 1) := by decide +kernel
theorem dL_law_2443 : decode cL_law 2443 = .ok (.aload_n 0, 1) := by decide +kernel
theorem dL_law_2444 : decode cL_law 2444 = .ok (.iload 4, 2) := by decide +kernel
theorem dL_law_2446 : decode cL_law 2446 = .ok (.iconst 3, 1) := by decide +kernel
theorem dL_law_2447 : decode cL_law 2447 = .ok (.iadd, 1) := by decide +kernel
theorem dL_law_2448 : decode cL_law 2448 = .ok (.iaload, 1) := by decide +kernel
theorem dL_law_2449 : decode cL_law 2449 = .ok (.aload_n 0, 1) := by decide +kernel
theorem dL_law_2450 : decode cL_law 2450 = .ok (.iload 4, 2) := by decide +kernel
theorem dL_law_2452 : decode cL_law 2452 = .ok (.iconst 4, 1) := by decide +kernel
theorem dL_law_2453 : decode cL_law 2453 = .ok (.iadd, 1) := by decide +kernel
theorem dL_law_2454 : decode cL_law 2454 = .ok (.iaload, 1) := by decide +kernel
theorem dL_law_2455 : decode cL_law 2455 = .ok (.aload_n 3, 1) := by decide +kernel
theorem dL_law_2456 : decode cL_law 2456 = .ok (.invokestatic 230, 3) := by decide +kernel
theorem dL_law_2459 : decode cL_law 2459 = .ok (.istore 5, 2) := by decide +kernel
theorem dL_law_2461 : decode cL_law 2461 = .ok (.aload_n 2, 1) := by decide +kernel
theorem dL_law_2462 : decode cL_law 2462 = .ok (.aload_n 0, 1) := by decide +kernel
theorem dL_law_2463 : decode cL_law 2463 = .ok (.iload 4, 2) := by decide +kernel
theorem dL_law_2465 : decode cL_law 2465 = .ok (.iconst 1, 1) := by decide +kernel
theorem dL_law_2466 : decode cL_law 2466 = .ok (.iadd, 1) := by decide +kernel
theorem dL_law_2467 : decode cL_law 2467 = .ok (.iaload, 1) := by decide +kernel
theorem dL_law_2468 : decode cL_law 2468 = .ok (.aload_n 0, 1) := by decide +kernel
theorem dL_law_2469 : decode cL_law 2469 = .ok (.iload 4, 2) := by decide +kernel
theorem dL_law_2471 : decode cL_law 2471 = .ok (.iconst 2, 1) := by decide +kernel
theorem dL_law_2472 : decode cL_law 2472 = .ok (.iadd, 1) := by decide +kernel
theorem dL_law_2473 : decode cL_law 2473 = .ok (.iaload, 1) := by decide +kernel
theorem dL_law_2474 : decode cL_law 2474 = .ok (.aload_n 0, 1) := by decide +kernel
theorem dL_law_2475 : decode cL_law 2475 = .ok (.iload 4, 2) := by decide +kernel
theorem dL_law_2477 : decode cL_law 2477 = .ok (.iconst 3, 1) := by decide +kernel
theorem dL_law_2478 : decode cL_law 2478 = .ok (.iadd, 1) := by decide +kernel
theorem dL_law_2479 : decode cL_law 2479 = .ok (.iaload, 1) := by decide +kernel
theorem dL_law_2480 : decode cL_law 2480 = .ok (.aload_n 0, 1) := by decide +kernel
theorem dL_law_2481 : decode cL_law 2481 = .ok (.iload 4, 2) := by decide +kernel
theorem dL_law_2483 : decode cL_law 2483 = .ok (.iconst 4, 1) := by decide +kernel
theorem dL_law_2484 : decode cL_law 2484 = .ok (.iadd, 1) := by decide +kernel
theorem dL_law_2485 : decode cL_law 2485 = .ok (.iaload, 1) := by decide +kernel
theorem dL_law_2486 : decode cL_law 2486 = .ok (.invokevirtual 232, 3) := by decide +kernel
theorem dL_law_2489 : decode cL_law 2489 = .ok (.istore 6, 2) := by decide +kernel
theorem dL_law_2491 : decode cL_law 2491 = .ok (.aload_n 2, 1) := by decide +kernel
theorem dL_law_2492 : decode cL_law 2492 = .ok (.invokevirtual 127, 3) := by decide +kernel
theorem dL_law_2495 : decode cL_law 2495 = .ok (.iload 5, 2) := by decide +kernel
theorem dL_law_2497 : decode cL_law 2497 = .ok (.if_icmp .eq 5, 3) := by decide +kernel
theorem dL_law_2500 : decode cL_law 2500 = .ok (.iconst 0, 1) := by decide +kernel
theorem dL_law_2501 : decode cL_law 2501 = .ok (.ireturn, 1) := by decide +kernel
theorem dL_law_2502 : decode cL_law 2502 = .ok (.iload 5, 2) := by decide +kernel
theorem dL_law_2504 : decode cL_law 2504 = .ok (.ifCond .ne 15, 3) := by decide +kernel
theorem dL_law_2507 : decode cL_law 2507 = .ok (.aload_n 3, 1) := by decide +kernel
theorem dL_law_2508 : decode cL_law 2508 = .ok (.iconst 0, 1) := by decide +kernel
theorem dL_law_2509 : decode cL_law 2509 = .ok (.laload, 1) := by decide +kernel
theorem dL_law_2510 : decode cL_law 2510 = .ok (.iload 6, 2) := by decide +kernel
theorem dL_law_2512 : decode cL_law 2512 = .ok (.i2l, 1) := by decide +kernel
theorem dL_law_2513 : decode cL_law 2513 = .ok (.lcmp, 1) := by decide +kernel
theorem dL_law_2514 : decode cL_law 2514 = .ok (.ifCond .eq 5, 3) := by decide +kernel
theorem dL_law_2517 : decode cL_law 2517 = .ok (.iconst 0, 1) := by decide +kernel
theorem dL_law_2518 : decode cL_law 2518 = .ok (.ireturn, 1) := by decide +kernel
theorem dL_law_2519 : decode cL_law 2519 = .ok (.goto 163, 3) := by decide +kernel
theorem dL_law_2522 : decode cL_law 2522 = .ok (.aload_n 1, 1) := by decide +kernel
theorem dL_law_2523 : decode cL_law 2523 = .ok (.aload_n 0, 1) := by decide +kernel
theorem dL_law_2524 : decode cL_law 2524 = .ok (.iload 4, 2) := by decide +kernel
theorem dL_law_2526 : decode cL_law 2526 = .ok (.iconst 1, 1) := by decide +kernel
theorem dL_law_2527 : decode cL_law 2527 = .ok (.iadd, 1) := by decide +kernel
theorem dL_law_2528 : decode cL_law 2528 = .ok (.iaload, 1) := by decide +kernel
theorem dL_law_2529 : decode cL_law 2529 = .ok (.aload_n 0, 1) := by decide +kernel
theorem dL_law_2530 : decode cL_law 2530 = .ok (.iload 4, 2) := by decide +kernel
theorem dL_law_2532 : decode cL_law 2532 = .ok (.iconst 2, 1) := by decide +kernel
theorem dL_law_2533 : decode cL_law 2533 = .ok (.iadd, 1) := by decide +kernel
theorem dL_law_2534 : decode cL_law 2534 = .ok (.iaload, 1) := by decide +kernel
theorem dL_law_2535 : decode cL_law 2535 = .ok (.aload_n 3, 1) := by decide +kernel
theorem dL_law_2536 : decode cL_law 2536 = .ok (.invokestatic 233, 3) := by decide +kernel
theorem dL_law_2539 : decode cL_law 2539 = .ok (.istore 5, 2) := by decide +kernel
theorem dL_law_2541 : decode cL_law 2541 = .ok (.aload_n 2, 1) := by decide +kernel
theorem dL_law_2542 : decode cL_law 2542 = .ok (.aload_n 0, 1) := by decide +kernel
theorem dL_law_2543 : decode cL_law 2543 = .ok (.iload 4, 2) := by decide +kernel
theorem dL_law_2545 : decode cL_law 2545 = .ok (.iconst 1, 1) := by decide +kernel
theorem dL_law_2546 : decode cL_law 2546 = .ok (.iadd, 1) := by decide +kernel
theorem dL_law_2547 : decode cL_law 2547 = .ok (.iaload, 1) := by decide +kernel
theorem dL_law_2548 : decode cL_law 2548 = .ok (.aload_n 0, 1) := by decide +kernel
theorem dL_law_2549 : decode cL_law 2549 = .ok (.iload 4, 2) := by decide +kernel
theorem dL_law_2551 : decode cL_law 2551 = .ok (.iconst 2, 1) := by decide +kernel
theorem dL_law_2552 : decode cL_law 2552 = .ok (.iadd, 1) := by decide +kernel
theorem dL_law_2553 : decode cL_law 2553 = .ok (.iaload, 1) := by decide +kernel
theorem dL_law_2554 : decode cL_law 2554 = .ok (.invokevirtual 235, 3) := by decide +kernel
theorem dL_law_2557 : decode cL_law 2557 = .ok (.istore 6, 2) := by decide +kernel
theorem dL_law_2559 : decode cL_law 2559 = .ok (.aload_n 2, 1) := by decide +kernel
theorem dL_law_2560 : decode cL_law 2560 = .ok (.invokevirtual 127, 3) := by decide +kernel
theorem dL_law_2563 : decode cL_law 2563 = .ok (.iload 5, 2) := by decide +kernel
theorem dL_law_2565 : decode cL_law 2565 = .ok (.if_icmp .eq 5, 3) := by decide +kernel
theorem dL_law_2568 : decode cL_law 2568 = .ok (.iconst 0, 1) := by decide +kernel
theorem dL_law_2569 : decode cL_law 2569 = .ok (.ireturn, 1) := by decide +kernel
theorem dL_law_2570 : decode cL_law 2570 = .ok (.iload 5, 2) := by decide +kernel
theorem dL_law_2572 : decode cL_law 2572 = .ok (.ifCond .ne 15, 3) := by decide +kernel
theorem dL_law_2575 : decode cL_law 2575 = .ok (.aload_n 3, 1) := by decide +kernel
theorem dL_law_2576 : decode cL_law 2576 = .ok (.iconst 0, 1) := by decide +kernel
theorem dL_law_2577 : decode cL_law 2577 = .ok (.laload, 1) := by decide +kernel
theorem dL_law_2578 : decode cL_law 2578 = .ok (.iload 6, 2) := by decide +kernel
theorem dL_law_2580 : decode cL_law 2580 = .ok (.i2l, 1) := by decide +kernel
theorem dL_law_2581 : decode cL_law 2581 = .ok (.lcmp, 1) := by decide +kernel
theorem dL_law_2582 : decode cL_law 2582 = .ok (.ifCond .eq 5, 3) := by decide +kernel
theorem dL_law_2585 : decode cL_law 2585 = .ok (.iconst 0, 1) := by decide +kernel
theorem dL_law_2586 : decode cL_law 2586 = .ok (.ireturn, 1) := by decide +kernel
theorem dL_law_2587 : decode cL_law 2587 = .ok (.goto 95, 3) := by decide +kernel
theorem dL_law_2590 : decode cL_law 2590 = .ok (.aload_n 1, 1) := by decide +kernel
theorem dL_law_2591 : decode cL_law 2591 = .ok (.aload_n 0, 1) := by decide +kernel
theorem dL_law_2592 : decode cL_law 2592 = .ok (.iload 4, 2) := by decide +kernel
theorem dL_law_2594 : decode cL_law 2594 = .ok (.iconst 1, 1) := by decide +kernel
theorem dL_law_2595 : decode cL_law 2595 = .ok (.iadd, 1) := by decide +kernel
theorem dL_law_2596 : decode cL_law 2596 = .ok (.iaload, 1) := by decide +kernel
theorem dL_law_2597 : decode cL_law 2597 = .ok (.aload_n 0, 1) := by decide +kernel
theorem dL_law_2598 : decode cL_law 2598 = .ok (.iload 4, 2) := by decide +kernel
theorem dL_law_2600 : decode cL_law 2600 = .ok (.iconst 2, 1) := by decide +kernel
theorem dL_law_2601 : decode cL_law 2601 = .ok (.iadd, 1) := by decide +kernel
theorem dL_law_2602 : decode cL_law 2602 = .ok (.iaload, 1) := by decide +kernel
theorem dL_law_2603 : decode cL_law 2603 = .ok (.aload_n 3, 1) := by decide +kernel
theorem dL_law_2604 : decode cL_law 2604 = .ok (.invokestatic 236, 3) := by decide +kernel
theorem dL_law_2607 : decode cL_law 2607 = .ok (.istore 5, 2) := by decide +kernel
theorem dL_law_2609 : decode cL_law 2609 = .ok (.aload_n 2, 1) := by decide +kernel
theorem dL_law_2610 : decode cL_law 2610 = .ok (.aload_n 0, 1) := by decide +kernel
theorem dL_law_2611 : decode cL_law 2611 = .ok (.iload 4, 2) := by decide +kernel
theorem dL_law_2613 : decode cL_law 2613 = .ok (.iconst 1, 1) := by decide +kernel
theorem dL_law_2614 : decode cL_law 2614 = .ok (.iadd, 1) := by decide +kernel
theorem dL_law_2615 : decode cL_law 2615 = .ok (.iaload, 1) := by decide +kernel
theorem dL_law_2616 : decode cL_law 2616 = .ok (.aload_n 0, 1) := by decide +kernel
theorem dL_law_2617 : decode cL_law 2617 = .ok (.iload 4, 2) := by decide +kernel
theorem dL_law_2619 : decode cL_law 2619 = .ok (.iconst 2, 1) := by decide +kernel
theorem dL_law_2620 : decode cL_law 2620 = .ok (.iadd, 1) := by decide +kernel
theorem dL_law_2621 : decode cL_law 2621 = .ok (.iaload, 1) := by decide +kernel
theorem dL_law_2622 : decode cL_law 2622 = .ok (.invokevirtual 238, 3) := by decide +kernel
theorem dL_law_2625 : decode cL_law 2625 = .ok (.istore 6, 2) := by decide +kernel
theorem dL_law_2627 : decode cL_law 2627 = .ok (.aload_n 2, 1) := by decide +kernel
theorem dL_law_2628 : decode cL_law 2628 = .ok (.invokevirtual 127, 3) := by decide +kernel
theorem dL_law_2631 : decode cL_law 2631 = .ok (.iload 5, 2) := by decide +kernel
theorem dL_law_2633 : decode cL_law 2633 = .ok (.if_icmp .eq 5, 3) := by decide +kernel
theorem dL_law_2636 : decode cL_law 2636 = .ok (.iconst 0, 1) := by decide +kernel
theorem dL_law_2637 : decode cL_law 2637 = .ok (.ireturn, 1) := by decide +kernel
theorem dL_law_2638 : decode cL_law 2638 = .ok (.iload 5, 2) := by decide +kernel
theorem dL_law_2640 : decode cL_law 2640 = .ok (.ifCond .ne 15, 3) := by decide +kernel
theorem dL_law_2643 : decode cL_law 2643 = .ok (.aload_n 3, 1) := by decide +kernel
theorem dL_law_2644 : decode cL_law 2644 = .ok (.iconst 0, 1) := by decide +kernel
theorem dL_law_2645 : decode cL_law 2645 = .ok (.laload, 1) := by decide +kernel
theorem dL_law_2646 : decode cL_law 2646 = .ok (.iload 6, 2) := by decide +kernel
theorem dL_law_2648 : decode cL_law 2648 = .ok (.i2l, 1) := by decide +kernel
theorem dL_law_2649 : decode cL_law 2649 = .ok (.lcmp, 1) := by decide +kernel
theorem dL_law_2650 : decode cL_law 2650 = .ok (.ifCond .eq 5, 3) := by decide +kernel
theorem dL_law_2653 : decode cL_law 2653 = .ok (.iconst 0, 1) := by decide +kernel
theorem dL_law_2654 : decode cL_law 2654 = .ok (.ireturn, 1) := by decide +kernel
theorem dL_law_2655 : decode cL_law 2655 = .ok (.goto 27, 3) := by decide +kernel
theorem dL_law_2658 : decode cL_law 2658 = .ok (.aload_n 1, 1) := by decide +kernel
theorem dL_law_2659 : decode cL_law 2659 = .ok (.invokevirtual 239, 3) := by decide +kernel
theorem dL_law_2662 : decode cL_law 2662 = .ok (.aload_n 2, 1) := by decide +kernel
theorem dL_law_2663 : decode cL_law 2663 = .ok (.invokevirtual 242, 3) := by decide +kernel
theorem dL_law_2666 : decode cL_law 2666 = .ok (.goto 16, 3) := by decide +kernel
theorem dL_law_2669 : decode cL_law 2669 = .ok (.aload_n 1, 1) := by decide +kernel
theorem dL_law_2670 : decode cL_law 2670 = .ok (.invokevirtual 243, 3) := by decide +kernel
theorem dL_law_2673 : decode cL_law 2673 = .ok (.aload_n 2, 1) := by decide +kernel
theorem dL_law_2674 : decode cL_law 2674 = .ok (.invokevirtual 247, 3) := by decide +kernel
theorem dL_law_2677 : decode cL_law 2677 = .ok (.if_icmp .eq 5, 3) := by decide +kernel
theorem dL_law_2680 : decode cL_law 2680 = .ok (.iconst 0, 1) := by decide +kernel
theorem dL_law_2681 : decode cL_law 2681 = .ok (.ireturn, 1) := by decide +kernel
theorem dL_law_2682 : decode cL_law 2682 = .ok (.iinc 4 6, 3) := by decide +kernel
theorem dL_law_2685 : decode cL_law 2685 = .ok (.goto (-2662), 3) := by decide +kernel
theorem dL_law_2688 : decode cL_law 2688 = .ok (.iconst 1, 1) := by decide +kernel
theorem dL_law_2689 : decode cL_law 2689 = .ok (.ireturn, 1) := by decide +kernel
