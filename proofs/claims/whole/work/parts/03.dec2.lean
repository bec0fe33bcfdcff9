theorem dX11_begin_15 : decode cX11_begin 15 = .ok (.getfield 95, 3) := by decide +kernel
theorem dX11_begin_18 : decode cX11_begin 18 = .ok (.ifCond .ne 10, 3) := by decide +kernel
theorem dX11_begin_21 : decode cX11_begin 21 = .ok (.aload_n 0, 1) := by decide +kernel
theorem dX11_begin_22 : decode cX11_begin 22 = .ok (.bipush (-11), 2) := by decide +kernel
theorem dX11_begin_24 : decode cX11_begin 24 = .ok (.invokevirtual 118, 3) := by decide +kernel
theorem dX11_begin_27 : decode cX11_begin 27 = .ok (.ireturn, 1) := by decide +kernel
theorem dX11_begin_28 : decode cX11_begin 28 = .ok (.iconst 0, 1) := by decide +kernel
theorem dX11_begin_29 : decode cX11_begin 29 = .ok (.istore_n 1, 1) := by decide +kernel
theorem dX11_begin_30 : decode cX11_begin 30 = .ok (.iconst 1, 1) := by decide +kernel
theorem dX11_begin_31 : decode cX11_begin 31 = .ok (.istore_n 2, 1) := by decide +kernel
theorem dX11_begin_32 : decode cX11_begin 32 = .ok (.iload_n 2, 1) := by decide +kernel
theorem dX11_begin_33 : decode cX11_begin 33 = .ok (.ifCond .eq 110, 3) := by decide +kernel
theorem dX11_begin_36 : decode cX11_begin 36 = .ok (.iconst 0, 1) := by decide +kernel
theorem dX11_begin_37 : decode cX11_begin 37 = .ok (.istore_n 2, 1) := by decide +kernel
theorem dX11_begin_38 : decode cX11_begin 38 = .ok (.iconst 0, 1) := by decide +kernel
theorem dX11_begin_39 : decode cX11_begin 39 = .ok (.istore_n 3, 1) := by decide +kernel
theorem dX11_begin_40 : decode cX11_begin 40 = .ok (.iload_n 3, 1) := by decide +kernel
theorem dX11_begin_41 : decode cX11_begin 41 = .ok (.aload_n 0, 1) := by decide +kernel
theorem dX11_begin_42 : decode cX11_begin 42 = .ok (.getfield 95, 3) := by decide +kernel
theorem dX11_begin_45 : decode cX11_begin 45 = .ok (.if_icmp .ge 95, 3) := by decide +kernel
theorem dX11_begin_48 : decode cX11_begin 48 = .ok (.iload_n 1, 1) := by decide +kernel
theorem dX11_begin_49 : decode cX11_begin 49 = .ok (.iload_n 3, 1) := by decide +kernel
theorem dX11_begin_50 : decode cX11_begin 50 = .ok (.ishr, 1) := by decide +kernel
theorem dX11_begin_51 : decode cX11_begin 51 = .ok (.iconst 1, 1) := by decide +kernel
theorem dX11_begin_52 : decode cX11_begin 52 = .ok (.iand, 1) := by decide +kernel
theorem dX11_begin_53 : decode cX11_begin 53 = .ok (.iconst 1, 1) := by decide +kernel
theorem dX11_begin_54 : decode cX11_begin 54 = .ok (.if_icmp .ne 6, 3) := by decide +kernel
theorem dX11_begin_57 : decode cX11_begin 57 = .ok (.goto 77, 3) := by decide +kernel
theorem dX11_begin_60 : decode cX11_begin 60 = .ok (.iconst 0, 1) := by decide +kernel
theorem dX11_begin_61 : decode cX11_begin 61 = .ok (.istore 4, 2) := by decide +kernel
theorem dX11_begin_63 : decode cX11_begin 63 = .ok (.iconst 0, 1) := by decide +kernel
theorem dX11_begin_64 : decode cX11_begin 64 = .ok (.istore 5, 2) := by decide +kernel
theorem dX11_begin_66 : decode cX11_begin 66 = .ok (.iload 5, 2) := by decide +kernel
theorem dX11_begin_68 : decode cX11_begin 68 = .ok (.bipush 15, 2) := by decide +kernel
theorem dX11_begin_70 : decode cX11_begin 70 = .ok (.if_icmp .ge 48, 3) := by decide +kernel
theorem dX11_begin_73 : decode cX11_begin 73 = .ok (.iload 4, 2) := by decide +kernel
theorem dX11_begin_75 : decode cX11_begin 75 = .ok (.ifCond .ne 30, 3) := by decide +kernel
theorem dX11_begin_78 : decode cX11_begin 78 = .ok (.aload_n 0, 1) := by decide +kernel
theorem dX11_begin_79 : decode cX11_begin 79 = .ok (.iload_n 3, 1) := by decide +kernel
theorem dX11_begin_80 : decode cX11_begin 80 = .ok (.iload 5, 2) := by decide +kernel
theorem dX11_begin_82 : decode cX11_begin 82 = .ok (.invokevirtual 102, 3) := by decide +kernel
theorem dX11_begin_85 : decode cX11_begin 85 = .ok (.ifCond .le 24, 3) := by decide +kernel
theorem dX11_begin_88 : decode cX11_begin 88 = .ok (.iload 5, 2) := by decide +kernel
theorem dX11_begin_90 : decode cX11_begin 90 = .ok (.bipush 11, 2) := by decide +kernel
theorem dX11_begin_92 : decode cX11_begin 92 = .ok (.if_icmp .gt 13, 3) := by decide +kernel
theorem dX11_begin_95 : decode cX11_begin 95 = .ok (.iload_n 1, 1) := by decide +kernel
theorem dX11_begin_96 : decode cX11_begin 96 = .ok (.iload 5, 2) := by decide +kernel
theorem dX11_begin_98 : decode cX11_begin 98 = .ok (.ishr, 1) := by decide +kernel
theorem dX11_begin_99 : decode cX11_begin 99 = .ok (.iconst 1, 1) := by decide +kernel
theorem dX11_begin_100 : decode cX11_begin 100 = .ok (.iand, 1) := by decide +kernel
theorem dX11_begin_101 : decode cX11_begin 101 = .ok (.iconst 1, 1) := by decide +kernel
theorem dX11_begin_102 : decode cX11_begin 102 = .ok (.if_icmp .ne 7, 3) := by decide +kernel
theorem dX11_begin_105 : decode cX11_begin 105 = .ok (.iconst 1, 1) := by decide +kernel
theorem dX11_begin_106 : decode cX11_begin 106 = .ok (.goto 4, 3) := by decide +kernel
theorem dX11_begin_109 : decode cX11_begin 109 = .ok (.iconst 0, 1) := by decide +kernel
theorem dX11_begin_110 : decode cX11_begin 110 = .ok (.istore 4, 2) := by decide +kernel
theorem dX11_begin_112 : decode cX11_begin 112 = .ok (.iinc 5 1, 3) := by decide +kernel
theorem dX11_begin_115 : decode cX11_begin 115 = .ok (.goto (-49), 3) := by decide +kernel
theorem dX11_begin_118 : decode cX11_begin 118 = .ok (.iload 4, 2) := by decide +kernel
theorem dX11_begin_120 : decode cX11_begin 120 = .ok (.ifCond .ne 6, 3) := by decide +kernel
theorem dX11_begin_123 : decode cX11_begin 123 = .ok (.goto 11, 3) := by decide +kernel
theorem dX11_begin_126 : decode cX11_begin 126 = .ok (.iload_n 1, 1) := by decide +kernel
theorem dX11_begin_127 : decode cX11_begin 127 = .ok (.iconst 1, 1) := by decide +kernel
theorem dX11_begin_128 : decode cX11_begin 128 = .ok (.iload_n 3, 1) := by decide +kernel
theorem dX11_begin_129 : decode cX11_begin 129 = .ok (.ishl, 1) := by decide +kernel
theorem dX11_begin_130 : decode cX11_begin 130 = .ok (.ior, 1) := by decide +kernel
theorem dX11_begin_131 : decode cX11_begin 131 = .ok (.istore_n 1, 1) := by decide +kernel
theorem dX11_begin_132 : decode cX11_begin 132 = .ok (.iconst 1, 1) := by decide +kernel
theorem dX11_begin_133 : decode cX11_begin 133 = .ok (.istore_n 2, 1) := by decide +kernel
theorem dX11_begin_134 : decode cX11_begin 134 = .ok (.iinc 3 1, 3) := by decide +kernel
theorem dX11_begin_137 : decode cX11_begin 137 = .ok (.goto (-97), 3) := by decide +kernel
theorem dX11_begin_140 : decode cX11_begin 140 = .ok (.goto (-108), 3) := by decide +kernel
theorem dX11_begin_143 : decode cX11_begin 143 = .ok (.iconst 1, 1) := by decide +kernel
theorem dX11_begin_144 : decode cX11_begin 144 = .ok (.aload_n 0, 1) := by decide +kernel
theorem dX11_begin_145 : decode cX11_begin 145 = .ok (.getfield 95, 3) := by decide +kernel
theorem dX11_begin_148 : decode cX11_begin 148 = .ok (.ishl, 1) := by decide +kernel
theorem dX11_begin_149 : decode cX11_begin 149 = .ok (.iconst 1, 1) := by decide +kernel
theorem dX11_begin_150 : decode cX11_begin 150 = .ok (.isub, 1) := by decide +kernel
theorem dX11_begin_151 : decode cX11_begin 151 = .ok (.iload_n 1, 1) := by decide +kernel
theorem dX11_begin_152 : decode cX11_begin 152 = .ok (.isub, 1) := by decide +kernel
theorem dX11_begin_153 : decode cX11_begin 153 = .ok (.istore_n 3, 1) := by decide +kernel
theorem dX11_begin_154 : decode cX11_begin 154 = .ok (.iload_n 3, 1) := by decide +kernel
theorem dX11_begin_155 : decode cX11_begin 155 = .ok (.ifCond .eq 15, 3) := by decide +kernel
theorem dX11_begin_158 : decode cX11_begin 158 = .ok (.aload_n 0, 1) := by decide +kernel
theorem dX11_begin_159 : decode cX11_begin 159 = .ok (.iload_n 3, 1) := by decide +kernel
theorem dX11_begin_160 : decode cX11_begin 160 = .ok (.putfield 125, 3) := by decide +kernel
theorem dX11_begin_163 : decode cX11_begin 163 = .ok (.aload_n 0, 1) := by decide +kernel
theorem dX11_begin_164 : decode cX11_begin 164 = .ok (.bipush (-7), 2) := by decide +kernel
theorem dX11_begin_166 : decode cX11_begin 166 = .ok (.invokevirtual 118, 3) := by decide +kernel
theorem dX11_begin_169 : decode cX11_begin 169 = .ok (.ireturn, 1) := by decide +kernel
theorem dX11_begin_170 : decode cX11_begin 170 = .ok (.aload_n 0, 1) := by decide +kernel
theorem dX11_begin_171 : decode cX11_begin 171 = .ok (.iconst 1, 1) := by decide +kernel
theorem dX11_begin_172 : decode cX11_begin 172 = .ok (.putfield 114, 3) := by decide +kernel
theorem dX11_begin_175 : decode cX11_begin 175 = .ok (.aload_n 0, 1) := by decide +kernel
theorem dX11_begin_176 : decode cX11_begin 176 = .ok (.getfield 95, 3) := by decide +kernel
theorem dX11_begin_179 : decode cX11_begin 179 = .ok (.ireturn, 1) := by decide +kernel
theorem dX11_anew_0 : decode cX11_anew 0 = .ok (.aload_n 0, 1) := by decide +kernel
theorem dX11_anew_1 : decode cX11_anew 1 = .ok (.iconst 0, 1) := by decide +kernel
theorem dX11_anew_2 : decode cX11_anew 2 = .ok (.putfield 95, 3) := by decide +kernel
theorem dX11_anew_5 : decode cX11_anew 5 = .ok (.iconst 0, 1) := by decide +kernel
theorem dX11_anew_6 : decode cX11_anew 6 = .ok (.istore_n 1, 1) := by decide +kernel
theorem dX11_anew_7 : decode cX11_anew 7 = .ok (.iload_n 1, 1) := by decide +kernel
theorem dX11_anew_8 : decode cX11_anew 8 = .ok (.sipush 180, 3) := by decide +kernel
theorem dX11_anew_11 : decode cX11_anew 11 = .ok (.if_icmp .ge 16, 3) := by decide +kernel
theorem dX11_anew_14 : decode cX11_anew 14 = .ok (.aload_n 0, 1) := by decide +kernel
theorem dX11_anew_15 : decode cX11_anew 15 = .ok (.getfield 13, 3) := by decide +kernel
theorem dX11_anew_18 : decode cX11_anew 18 = .ok (.iload_n 1, 1) := by decide +kernel
theorem dX11_anew_19 : decode cX11_anew 19 = .ok (.iconst 0, 1) := by decide +kernel
theorem dX11_anew_20 : decode cX11_anew 20 = .ok (.iastore, 1) := by decide +kernel
theorem dX11_anew_21 : decode cX11_anew 21 = .ok (.iinc 1 1, 3) := by decide +kernel
theorem dX11_anew_24 : decode cX11_anew 24 = .ok (.goto (-17), 3) := by decide +kernel
theorem dX11_anew_27 : decode cX11_anew 27 = .ok (.iconst 0, 1) := by decide +kernel
theorem dX11_anew_28 : decode cX11_anew 28 = .ok (.istore_n 1, 1) := by decide +kernel
theorem dX11_anew_29 : decode cX11_anew 29 = .ok (.iload_n 1, 1) := by decide +kernel
theorem dX11_anew_30 : decode cX11_anew 30 = .ok (.bipush 15, 2) := by decide +kernel
theorem dX11_anew_32 : decode cX11_anew 32 = .ok (.if_icmp .ge 16, 3) := by decide +kernel
theorem dX11_anew_35 : decode cX11_anew 35 = .ok (.aload_n 0, 1) := by decide +kernel
theorem dX11_anew_36 : decode cX11_anew 36 = .ok (.getfield 16, 3) := by decide +kernel
theorem dX11_anew_39 : decode cX11_anew 39 = .ok (.iload_n 1, 1) := by decide +kernel
theorem dX11_anew_40 : decode cX11_anew 40 = .ok (.lconst 0, 1) := by decide +kernel
theorem dX11_anew_41 : decode cX11_anew 41 = .ok (.lastore, 1) := by decide +kernel
theorem dX11_anew_42 : decode cX11_anew 42 = .ok (.iinc 1 1, 3) := by decide +kernel
theorem dX11_anew_45 : decode cX11_anew 45 = .ok (.goto (-16), 3) := by decide +kernel
theorem dX11_anew_48 : decode cX11_anew 48 = .ok (.iconst 0, 1) := by decide +kernel
theorem dX11_anew_49 : decode cX11_anew 49 = .ok (.istore_n 1, 1) := by decide +kernel
theorem dX11_anew_50 : decode cX11_anew 50 = .ok (.iload_n 1, 1) := by decide +kernel
theorem dX11_anew_51 : decode cX11_anew 51 = .ok (.bipush 12, 2) := by decide +kernel
theorem dX11_anew_53 : decode cX11_anew 53 = .ok (.if_icmp .ge 16, 3) := by decide +kernel
theorem dX11_anew_56 : decode cX11_anew 56 = .ok (.aload_n 0, 1) := by decide +kernel
theorem dX11_anew_57 : decode cX11_anew 57 = .ok (.getfield 20, 3) := by decide +kernel
theorem dX11_anew_60 : decode cX11_anew 60 = .ok (.iload_n 1, 1) := by decide +kernel
theorem dX11_anew_61 : decode cX11_anew 61 = .ok (.lconst 0, 1) := by decide +kernel
theorem dX11_anew_62 : decode cX11_anew 62 = .ok (.lastore, 1) := by decide +kernel
theorem dX11_anew_63 : decode cX11_anew 63 = .ok (.iinc 1 1, 3) := by decide +kernel
theorem dX11_anew_66 : decode cX11_anew 66 = .ok (.goto (-16), 3) := by decide +kernel
theorem dX11_anew_69 : decode cX11_anew 69 = .ok (.aload_n 0, 1) := by decide +kernel
theorem dX11_anew_70 : decode cX11_anew 70 = .ok (.iconst 0, 1) := by decide +kernel
theorem dX11_anew_71 : decode cX11_anew 71 = .ok (.putfield 114, 3) := by decide +kernel
theorem dX11_anew_74 : decode cX11_anew 74 = .ok (.aload_n 0, 1) := by decide +kernel
theorem dX11_anew_75 : decode cX11_anew 75 = .ok (.iconst 0, 1) := by decide +kernel
theorem dX11_anew_76 : decode cX11_anew 76 = .ok (.putfield 128, 3) := by decide +kernel
theorem dX11_anew_79 : decode cX11_anew 79 = .ok (.aload_n 0, 1) := by decide +kernel
theorem dX11_anew_80 : decode cX11_anew 80 = .ok (.lconst 1, 1) := by decide +kernel
theorem dX11_anew_81 : decode cX11_anew 81 = .ok (.putfield 23, 3) := by decide +kernel
theorem dX11_anew_84 : decode cX11_anew 84 = .ok (.aload_n 0, 1) := by decide +kernel
theorem dX11_anew_85 : decode cX11_anew 85 = .ok (.iconst 0, 1) := by decide +kernel
theorem dX11_anew_86 : decode cX11_anew 86 = .ok (.putfield 125, 3) := by decide +kernel
theorem dX11_anew_89 : decode cX11_anew 89 = .ok (.aload_n 0, 1) := by decide +kernel
theorem dX11_anew_90 : decode cX11_anew 90 = .ok (.iconst 0, 1) := by decide +kernel
theorem dX11_anew_91 : decode cX11_anew 91 = .ok (.putfield 131, 3) := by decide +kernel
theorem dX11_anew_94 : decode cX11_anew 94 = .ok (.aload_n 0, 1) := by decide +kernel
theorem dX11_anew_95 : decode cX11_anew 95 = .ok (.iconst 0, 1) := by decide +kernel
theorem dX11_anew_96 : decode cX11_anew 96 = .ok (.putfield 134, 3) := by decide +kernel
theorem dX11_anew_99 : decode cX11_anew 99 = .ok (.aload_n 0, 1) := by decide +kernel
theorem dX11_anew_100 : decode cX11_anew 100 = .ok (.iconst 0, 1) := by decide +kernel
theorem dX11_anew_101 : decode cX11_anew 101 = .ok (.putfield 137, 3) := by decide +kernel
theorem dX11_anew_104 : decode cX11_anew 104 = .ok (.aload_n 0, 1) := by decide +kernel
theorem dX11_anew_105 : decode cX11_anew 105 = .ok (.iconst 0, 1) := by decide +kernel
theorem dX11_anew_106 : decode cX11_anew 106 = .ok (.putfield 140, 3) := by decide +kernel
theorem dX11_anew_109 : decode cX11_anew 109 = .ok (.iconst 0, 1) := by decide +kernel
theorem dX11_anew_110 : decode cX11_anew 110 = .ok (.istore_n 1, 1) := by decide +kernel
theorem dX11_anew_111 : decode cX11_anew 111 = .ok (.iload_n 1, 1) := by decide +kernel
theorem dX11_anew_112 : decode cX11_anew 112 = .ok (.bipush 8, 2) := by decide +kernel
theorem dX11_anew_114 : decode cX11_anew 114 = .ok (.if_icmp .ge 16, 3) := by decide +kernel
theorem dX11_anew_117 : decode cX11_anew 117 = .ok (.aload_n 0, 1) := by decide +kernel
theorem dX11_anew_118 : decode cX11_anew 118 = .ok (.getfield 39, 3) := by decide +kernel
theorem dX11_anew_121 : decode cX11_anew 121 = .ok (.iload_n 1, 1) := by decide +kernel
theorem dX11_anew_122 : decode cX11_anew 122 = .ok (.iconst 0, 1) := by decide +kernel
theorem dX11_anew_123 : decode cX11_anew 123 = .ok (.bastore, 1) := by decide +kernel
theorem dX11_anew_124 : decode cX11_anew 124 = .ok (.iinc 1 1, 3) := by decide +kernel
theorem dX11_anew_127 : decode cX11_anew 127 = .ok (.goto (-16), 3) := by decide +kernel
theorem dX11_anew_130 : decode cX11_anew 130 = .ok (.aload_n 0, 1) := by decide +kernel
theorem dX11_anew_131 : decode cX11_anew 131 = .ok (.iconst 0, 1) := by decide +kernel
theorem dX11_anew_132 : decode cX11_anew 132 = .ok (.putfield 143, 3) := by decide +kernel
theorem dX11_anew_135 : decode cX11_anew 135 = .ok (.iconst 0, 1) := by decide +kernel
theorem dX11_anew_136 : decode cX11_anew 136 = .ok (.ireturn, 1) := by decide +kernel
theorem dX11_as_0 : decode cX11_as 0 = .ok (.aload_n 0, 1) := by decide +kernel
theorem dX11_as_1 : decode cX11_as 1 = .ok (.iload_n 1, 1) := by decide +kernel
theorem dX11_as_2 : decode cX11_as 2 = .ok (.invokevirtual 121, 3) := by decide +kernel
theorem dX11_as_5 : decode cX11_as 5 = .ok (.ifCond .eq 12, 3) := by decide +kernel
theorem dX11_as_8 : decode cX11_as 8 = .ok (.iload_n 2, 1) := by decide +kernel
theorem dX11_as_9 : decode cX11_as 9 = .ok (.iconst 0, 1) := by decide +kernel
theorem dX11_as_10 : decode cX11_as 10 = .ok (.iconst 4, 1) := by decide +kernel
theorem dX11_as_11 : decode cX11_as 11 = .ok (.invokestatic 98, 3) := by decide +kernel
theorem dX11_as_14 : decode cX11_as 14 = .ok (.ifCond .ne 9, 3) := by decide +kernel
theorem dX11_as_17 : decode cX11_as 17 = .ok (.aload_n 0, 1) := by decide +kernel
theorem dX11_as_18 : decode cX11_as 18 = .ok (.iconst (-1), 1) := by decide +kernel
theorem dX11_as_19 : decode cX11_as 19 = .ok (.invokevirtual 118, 3) := by decide +kernel
theorem dX11_as_22 : decode cX11_as 22 = .ok (.ireturn, 1) := by decide +kernel
theorem dX11_as_23 : decode cX11_as 23 = .ok (.aload_n 0, 1) := by decide +kernel
theorem dX11_as_24 : decode cX11_as 24 = .ok (.getfield 7, 3) := by decide +kernel
theorem dX11_as_27 : decode cX11_as 27 = .ok (.iload_n 1, 1) := by decide +kernel
theorem dX11_as_28 : decode cX11_as 28 = .ok (.iaload, 1) := by decide +kernel
theorem dX11_as_29 : decode cX11_as 29 = .ok (.istore_n 3, 1) := by decide +kernel
theorem dX11_as_30 : decode cX11_as 30 = .ok (.iload_n 2, 1) := by decide +kernel
theorem dX11_as_31 : decode cX11_as 31 = .ok (.ifCond .eq 18, 3) := by decide +kernel
theorem dX11_as_34 : decode cX11_as 34 = .ok (.iload_n 2, 1) := by decide +kernel
theorem dX11_as_35 : decode cX11_as 35 = .ok (.iload_n 3, 1) := by decide +kernel
theorem dX11_as_36 : decode cX11_as 36 = .ok (.if_icmp .eq 13, 3) := by decide +kernel
theorem dX11_as_39 : decode cX11_as 39 = .ok (.iload_n 2, 1) := by decide +kernel
theorem dX11_as_40 : decode cX11_as 40 = .ok (.iload_n 3, 1) := by decide +kernel
theorem dX11_as_41 : decode cX11_as 41 = .ok (.if_icmp .ge 12, 3) := by decide +kernel
theorem dX11_as_44 : decode cX11_as 44 = .ok (.iload_n 3, 1) := by decide +kernel
theorem dX11_as_45 : decode cX11_as 45 = .ok (.iconst 4, 1) := by decide +kernel
theorem dX11_as_46 : decode cX11_as 46 = .ok (.if_icmp .ge 7, 3) := by decide +kernel
theorem dX11_as_49 : decode cX11_as 49 = .ok (.iconst 1, 1) := by decide +kernel
theorem dX11_as_50 : decode cX11_as 50 = .ok (.goto 4, 3) := by decide +kernel
theorem dX11_as_53 : decode cX11_as 53 = .ok (.iconst 0, 1) := by decide +kernel
theorem dX11_as_54 : decode cX11_as 54 = .ok (.istore 4, 2) := by decide +kernel
theorem dX11_as_56 : decode cX11_as 56 = .ok (.iload 4, 2) := by decide +kernel
theorem dX11_as_58 : decode cX11_as 58 = .ok (.ifCond .eq 7, 3) := by decide +kernel
theorem dX11_as_61 : decode cX11_as 61 = .ok (.iload_n 1, 1) := by decide +kernel
theorem dX11_as_62 : decode cX11_as 62 = .ok (.goto 9, 3) := by decide +kernel
theorem dX11_as_65 : decode cX11_as 65 = .ok (.aload_n 0, 1) := by decide +kernel
theorem dX11_as_66 : decode cX11_as 66 = .ok (.bipush (-4), 2) := by decide +kernel
theorem dX11_as_68 : decode cX11_as 68 = .ok (.invokevirtual 118, 3) := by decide +kernel
theorem dX11_as_71 : decode cX11_as 71 = .ok (.ireturn, 1) := by decide +kernel
theorem dX11_weight_0 : decode cX11_weight 0 = .ok (.aload_n 0, 1) := by decide +kernel
theorem dX11_weight_1 : decode cX11_weight 1 = .ok (.iload_n 1, 1) := by decide +kernel
theorem dX11_weight_2 : decode cX11_weight 2 = .ok (.invokevirtual 121, 3) := by decide +kernel
theorem dX11_weight_5 : decode cX11_weight 5 = .ok (.ifCond .eq 21, 3) := by decide +kernel
theorem dX11_weight_8 : decode cX11_weight 8 = .ok (.aload_n 0, 1) := by decide +kernel
theorem dX11_weight_9 : decode cX11_weight 9 = .ok (.iload_n 2, 1) := by decide +kernel
theorem dX11_weight_10 : decode cX11_weight 10 = .ok (.invokevirtual 121, 3) := by decide +kernel
theorem dX11_weight_13 : decode cX11_weight 13 = .ok (.ifCond .ne 19, 3) := by decide +kernel
theorem dX11_weight_16 : decode cX11_weight 16 = .ok (.iload_n 2, 1) := by decide +kernel
theorem dX11_weight_17 : decode cX11_weight 17 = .ok (.bipush (-3), 2) := by decide +kernel
theorem dX11_weight_19 : decode cX11_weight 19 = .ok (.iconst (-1), 1) := by decide +kernel
theorem dX11_weight_20 : decode cX11_weight 20 = .ok (.invokestatic 98, 3) := by decide +kernel
theorem dX11_weight_23 : decode cX11_weight 23 = .ok (.ifCond .ne 9, 3) := by decide +kernel
theorem dX11_weight_26 : decode cX11_weight 26 = .ok (.aload_n 0, 1) := by decide +kernel
theorem dX11_weight_27 : decode cX11_weight 27 = .ok (.iconst (-1), 1) := by decide +kernel
theorem dX11_weight_28 : decode cX11_weight 28 = .ok (.invokevirtual 118, 3) := by decide +kernel
theorem dX11_weight_31 : decode cX11_weight 31 = .ok (.ireturn, 1) := by decide +kernel
theorem dX11_weight_32 : decode cX11_weight 32 = .ok (.aload_n 0, 1) := by decide +kernel
theorem dX11_weight_33 : decode cX11_weight 33 = .ok (.iload_n 1, 1) := by decide +kernel
theorem dX11_weight_34 : decode cX11_weight 34 = .ok (.iload_n 2, 1) := by decide +kernel
theorem dX11_weight_35 : decode cX11_weight 35 = .ok (.ifCond .ge 10, 3) := by decide +kernel
theorem dX11_weight_38 : decode cX11_weight 38 = .ok (.bipush 11, 2) := by decide +kernel
theorem dX11_weight_40 : decode cX11_weight 40 = .ok (.iload_n 2, 1) := by decide +kernel
theorem dX11_weight_41 : decode cX11_weight 41 = .ok (.isub, 1) := by decide +kernel
theorem dX11_weight_42 : decode cX11_weight 42 = .ok (.goto 4, 3) := by decide +kernel
theorem dX11_weight_45 : decode cX11_weight 45 = .ok (.iload_n 2, 1) := by decide +kernel
theorem dX11_weight_46 : decode cX11_weight 46 = .ok (.invokevirtual 102, 3) := by decide +kernel
theorem dX11_weight_49 : decode cX11_weight 49 = .ok (.ireturn, 1) := by decide +kernel
theorem dX11_store_0 : decode cX11_store 0 = .ok (.aload_n 0, 1) := by decide +kernel
theorem dX11_store_1 : decode cX11_store 1 = .ok (.getfield 143, 3) := by decide +kernel
theorem dX11_store_4 : decode cX11_store 4 = .ok (.bipush 20, 2) := by decide +kernel
theorem dX11_store_6 : decode cX11_store 6 = .ok (.if_icmp .ne 155, 3) := by decide +kernel
theorem dX11_store_9 : decode cX11_store 9 = .ok (.iconst 0, 1) := by decide +kernel
theorem dX11_store_10 : decode cX11_store 10 = .ok (.istore_n 1, 1) := by decide +kernel
theorem dX11_store_11 : decode cX11_store 11 = .ok (.iload_n 1, 1) := by decide +kernel
theorem dX11_store_12 : decode cX11_store 12 = .ok (.sipush 285, 3) := by decide +kernel
theorem dX11_store_15 : decode cX11_store 15 = .ok (.if_icmp .ge 24, 3) := by decide +kernel
theorem dX11_store_18 : decode cX11_store 18 = .ok (.aload_n 0, 1) := by decide +kernel
theorem dX11_store_19 : decode cX11_store 19 = .ok (.getfield 58, 3) := by decide +kernel
theorem dX11_store_22 : decode cX11_store 22 = .ok (.iload_n 1, 1) := by decide +kernel
theorem dX11_store_23 : decode cX11_store 23 = .ok (.aload_n 0, 1) := by decide +kernel
theorem dX11_store_24 : decode cX11_store 24 = .ok (.getfield 58, 3) := by decide +kernel
theorem dX11_store_27 : decode cX11_store 27 = .ok (.iload_n 1, 1) := by decide +kernel
theorem dX11_store_28 : decode cX11_store 28 = .ok (.bipush 15, 2) := by decide +kernel
theorem dX11_store_30 : decode cX11_store 30 = .ok (.iadd, 1) := by decide +kernel
theorem dX11_store_31 : decode cX11_store 31 = .ok (.laload, 1) := by decide +kernel
theorem dX11_store_32 : decode cX11_store 32 = .ok (.lastore, 1) := by decide +kernel
theorem dX11_store_33 : decode cX11_store 33 = .ok (.iinc 1 1, 3) := by decide +kernel
theorem dX11_store_36 : decode cX11_store 36 = .ok (.goto (-25), 3) := by decide +kernel
theorem dX11_store_39 : decode cX11_store 39 = .ok (.iconst 0, 1) := by decide +kernel
theorem dX11_store_40 : decode cX11_store 40 = .ok (.istore_n 1, 1) := by decide +kernel
theorem dX11_store_41 : decode cX11_store 41 = .ok (.iload_n 1, 1) := by decide +kernel
theorem dX11_store_42 : decode cX11_store 42 = .ok (.sipush 228, 3) := by decide +kernel
theorem dX11_store_45 : decode cX11_store 45 = .ok (.if_icmp .ge 24, 3) := by decide +kernel
theorem dX11_store_48 : decode cX11_store 48 = .ok (.aload_n 0, 1) := by decide +kernel
theorem dX11_store_49 : decode cX11_store 49 = .ok (.getfield 61, 3) := by decide +kernel
theorem dX11_store_52 : decode cX11_store 52 = .ok (.iload_n 1, 1) := by decide +kernel
theorem dX11_store_53 : decode cX11_store 53 = .ok (.aload_n 0, 1) := by decide +kernel
theorem dX11_store_54 : decode cX11_store 54 = .ok (.getfield 61, 3) := by decide +kernel
theorem dX11_store_57 : decode cX11_store 57 = .ok (.iload_n 1, 1) := by decide +kernel
theorem dX11_store_58 : decode cX11_store 58 = .ok (.bipush 12, 2) := by decide +kernel
theorem dX11_store_60 : decode cX11_store 60 = .ok (.iadd, 1) := by decide +kernel
theorem dX11_store_61 : decode cX11_store 61 = .ok (.laload, 1) := by decide +kernel
theorem dX11_store_62 : decode cX11_store 62 = .ok (.lastore, 1) := by decide +kernel
theorem dX11_store_63 : decode cX11_store 63 = .ok (.iinc 1 1, 3) := by decide +kernel
theorem dX11_store_66 : decode cX11_store 66 = .ok (.goto (-25), 3) := by decide +kernel
theorem dX11_store_69 : decode cX11_store 69 = .ok (.iconst 0, 1) := by decide +kernel
theorem dX11_store_70 : decode cX11_store 70 = .ok (.istore_n 1, 1) := by decide +kernel
theorem dX11_store_71 : decode cX11_store 71 = .ok (.iload_n 1, 1) := by decide +kernel
theorem dX11_store_72 : decode cX11_store 72 = .ok (.sipush 228, 3) := by decide +kernel
theorem dX11_store_75 : decode cX11_store 75 = .ok (.if_icmp .ge 24, 3) := by decide +kernel
theorem dX11_store_78 : decode cX11_store 78 = .ok (.aload_n 0, 1) := by decide +kernel
theorem dX11_store_79 : decode cX11_store 79 = .ok (.getfield 67, 3) := by decide +kernel
theorem dX11_store_82 : decode cX11_store 82 = .ok (.iload_n 1, 1) := by decide +kernel
theorem dX11_store_83 : decode cX11_store 83 = .ok (.aload_n 0, 1) := by decide +kernel
theorem dX11_store_84 : decode cX11_store 84 = .ok (.getfield 67, 3) := by decide +kernel
theorem dX11_store_87 : decode cX11_store 87 = .ok (.iload_n 1, 1) := by decide +kernel
theorem dX11_store_88 : decode cX11_store 88 = .ok (.bipush 12, 2) := by decide +kernel
theorem dX11_store_90 : decode cX11_store 90 = .ok (.iadd, 1) := by decide +kernel
theorem dX11_store_91 : decode cX11_store 91 = .ok (.iaload, 1) := by decide +kernel
theorem dX11_store_92 : decode cX11_store 92 = .ok (.iastore, 1) := by decide +kernel
theorem dX11_store_93 : decode cX11_store 93 = .ok (.iinc 1 1, 3) := by decide +kernel
theorem dX11_store_96 : decode cX11_store 96 = .ok (.goto (-25), 3) := by decide +kernel
theorem dX11_store_99 : decode cX11_store 99 = .ok (.iconst 0, 1) := by decide +kernel
theorem dX11_store_100 : decode cX11_store 100 = .ok (.istore_n 1, 1) := by decide +kernel
theorem dX11_store_101 : decode cX11_store 101 = .ok (.iload_n 1, 1) := by decide +kernel
theorem dX11_store_102 : decode cX11_store 102 = .ok (.bipush 19, 2) := by decide +kernel
theorem dX11_store_104 : decode cX11_store 104 = .ok (.if_icmp .ge 23, 3) := by decide +kernel
theorem dX11_store_107 : decode cX11_store 107 = .ok (.aload_n 0, 1) := by decide +kernel
theorem dX11_store_108 : decode cX11_store 108 = .ok (.getfield 64, 3) := by decide +kernel
theorem dX11_store_111 : decode cX11_store 111 = .ok (.iload_n 1, 1) := by decide +kernel
theorem dX11_store_112 : decode cX11_store 112 = .ok (.aload_n 0, 1) := by decide +kernel
theorem dX11_store_113 : decode cX11_store 113 = .ok (.getfield 64, 3) := by decide +kernel
theorem dX11_store_116 : decode cX11_store 116 = .ok (.iload_n 1, 1) := by decide +kernel
theorem dX11_store_117 : decode cX11_store 117 = .ok (.iconst 1, 1) := by decide +kernel
theorem dX11_store_118 : decode cX11_store 118 = .ok (.iadd, 1) := by decide +kernel
theorem dX11_store_119 : decode cX11_store 119 = .ok (.laload, 1) := by decide +kernel
theorem dX11_store_120 : decode cX11_store 120 = .ok (.lastore, 1) := by decide +kernel
theorem dX11_store_121 : decode cX11_store 121 = .ok (.iinc 1 1, 3) := by decide +kernel
theorem dX11_store_124 : decode cX11_store 124 = .ok (.goto (-23), 3) := by decide +kernel
theorem dX11_store_127 : decode cX11_store 127 = .ok (.iconst 0, 1) := by decide +kernel
theorem dX11_store_128 : decode cX11_store 128 = .ok (.istore_n 1, 1) := by decide +kernel
theorem dX11_store_129 : decode cX11_store 129 = .ok (.iload_n 1, 1) := by decide +kernel
theorem dX11_store_130 : decode cX11_store 130 = .ok (.bipush 19, 2) := by decide +kernel
theorem dX11_store_132 : decode cX11_store 132 = .ok (.if_icmp .ge 23, 3) := by decide +kernel
theorem dX11_store_135 : decode cX11_store 135 = .ok (.aload_n 0, 1) := by decide +kernel
theorem dX11_store_136 : decode cX11_store 136 = .ok (.getfield 70, 3) := by decide +kernel
theorem dX11_store_139 : decode cX11_store 139 = .ok (.iload_n 1, 1) := by decide +kernel
theorem dX11_store_140 : decode cX11_store 140 = .ok (.aload_n 0, 1) := by decide +kernel
theorem dX11_store_141 : decode cX11_store 141 = .ok (.getfield 70, 3) := by decide +kernel
theorem dX11_store_144 : decode cX11_store 144 = .ok (.iload_n 1, 1) := by decide +kernel
theorem dX11_store_145 : decode cX11_store 145 = .ok (.iconst 1, 1) := by decide +kernel
theorem dX11_store_146 : decode cX11_store 146 = .ok (.iadd, 1) := by decide +kernel
theorem dX11_store_147 : decode cX11_store 147 = .ok (.iaload, 1) := by decide +kernel
theorem dX11_store_148 : decode cX11_store 148 = .ok (.iastore, 1) := by decide +kernel
theorem dX11_store_149 : decode cX11_store 149 = .ok (.iinc 1 1, 3) := by decide +kernel
theorem dX11_store_152 : decode cX11_store 152 = .ok (.goto (-23), 3) := by decide +kernel
theorem dX11_store_155 : decode cX11_store 155 = .ok (.aload_n 0, 1) := by decide +kernel
theorem dX11_store_156 : decode cX11_store 156 = .ok (.bipush 19, 2) := by decide +kernel
theorem dX11_store_158 : decode cX11_store 158 = .ok (.putfield 143, 3) := by decide +kernel
theorem dX11_store_161 : decode cX11_store 161 = .ok (.iconst 0, 1) := by decide +kernel
theorem dX11_store_162 : decode cX11_store 162 = .ok (.istore_n 1, 1) := by decide +kernel
theorem dX11_store_163 : decode cX11_store 163 = .ok (.iload_n 1, 1) := by decide +kernel
theorem dX11_store_164 : decode cX11_store 164 = .ok (.bipush 15, 2) := by decide +kernel
theorem dX11_store_166 : decode cX11_store 166 = .ok (.if_icmp .ge 29, 3) := by decide +kernel
theorem dX11_store_169 : decode cX11_store 169 = .ok (.aload_n 0, 1) := by decide +kernel
theorem dX11_store_170 : decode cX11_store 170 = .ok (.getfield 58, 3) := by decide +kernel
theorem dX11_store_173 : decode cX11_store 173 = .ok (.bipush 15, 2) := by decide +kernel
theorem dX11_store_175 : decode cX11_store 175 = .ok (.aload_n 0, 1) := by decide +kernel
theorem dX11_store_176 : decode cX11_store 176 = .ok (.getfield 143, 3) := by decide +kernel
theorem dX11_store_179 : decode cX11_store 179 = .ok (.imul, 1) := by decide +kernel
theorem dX11_store_180 : decode cX11_store 180 = .ok (.iload_n 1, 1) := by decide +kernel
theorem dX11_store_181 : decode cX11_store 181 = .ok (.iadd, 1) := by decide +kernel
theorem dX11_store_182 : decode cX11_store 182 = .ok (.aload_n 0, 1) := by decide +kernel
theorem dX11_store_183 : decode cX11_store 183 = .ok (.getfield 16, 3) := by decide +kernel
theorem dX11_store_186 : decode cX11_store 186 = .ok (.iload_n 1, 1) := by decide +kernel
theorem dX11_store_187 : decode cX11_store 187 = .ok (.laload, 1) := by decide +kernel
theorem dX11_store_188 : decode cX11_store 188 = .ok (.lastore, 1) := by decide +kernel
theorem dX11_store_189 : decode cX11_store 189 = .ok (.iinc 1 1, 3) := by decide +kernel
theorem dX11_store_192 : decode cX11_store 192 = .ok (.goto (-29), 3) := by decide +kernel
theorem dX11_store_195 : decode cX11_store 195 = .ok (.iconst 0, 1) := by decide +kernel
theorem dX11_store_196 : decode cX11_store 196 = .ok (.istore_n 1, 1) := by decide +kernel
theorem dX11_store_197 : decode cX11_store 197 = .ok (.iload_n 1, 1) := by decide +kernel
theorem dX11_store_198 : decode cX11_store 198 = .ok (.bipush 12, 2) := by decide +kernel
theorem dX11_store_200 : decode cX11_store 200 = .ok (.if_icmp .ge 29, 3) := by decide +kernel
theorem dX11_store_203 : decode cX11_store 203 = .ok (.aload_n 0, 1) := by decide +kernel
theorem dX11_store_204 : decode cX11_store 204 = .ok (.getfield 61, 3) := by decide +kernel
theorem dX11_store_207 : decode cX11_store 207 = .ok (.bipush 12, 2) := by decide +kernel
theorem dX11_store_209 : decode cX11_store 209 = .ok (.aload_n 0, 1) := by decide +kernel
theorem dX11_store_210 : decode cX11_store 210 = .ok (.getfield 143, 3) := by decide +kernel
theorem dX11_store_213 : decode cX11_store 213 = .ok (.imul, 1) := by decide +kernel
theorem dX11_store_214 : decode cX11_store 214 = .ok (.iload_n 1, 1) := by decide +kernel
theorem dX11_store_215 : decode cX11_store 215 = .ok (.iadd, 1) := by decide +kernel
theorem dX11_store_216 : decode cX11_store 216 = .ok (.aload_n 0, 1) := by decide +kernel
theorem dX11_store_217 : decode cX11_store 217 = .ok (.getfield 20, 3) := by decide +kernel
theorem dX11_store_220 : decode cX11_store 220 = .ok (.iload_n 1, 1) := by decide +kernel
theorem dX11_store_221 : decode cX11_store 221 = .ok (.laload, 1) := by decide +kernel
theorem dX11_store_222 : decode cX11_store 222 = .ok (.lastore, 1) := by decide +kernel
theorem dX11_store_223 : decode cX11_store 223 = .ok (.iinc 1 1, 3) := by decide +kernel
theorem dX11_store_226 : decode cX11_store 226 = .ok (.goto (-29), 3) := by decide +kernel
theorem dX11_store_229 : decode cX11_store 229 = .ok (.iconst 0, 1) := by decide +kernel
theorem dX11_store_230 : decode cX11_store 230 = .ok (.istore_n 1, 1) := by decide +kernel
theorem dX11_store_231 : decode cX11_store 231 = .ok (.iload_n 1, 1) := by decide +kernel
theorem dX11_store_232 : decode cX11_store 232 = .ok (.bipush 12, 2) := by decide +kernel
theorem dX11_store_234 : decode cX11_store 234 = .ok (.if_icmp .ge 29, 3) := by decide +kernel
theorem dX11_store_237 : decode cX11_store 237 = .ok (.aload_n 0, 1) := by decide +kernel
theorem dX11_store_238 : decode cX11_store 238 = .ok (.getfield 67, 3) := by decide +kernel
theorem dX11_store_241 : decode cX11_store 241 = .ok (.bipush 12, 2) := by decide +kernel
theorem dX11_store_243 : decode cX11_store 243 = .ok (.aload_n 0, 1) := by decide +kernel
theorem dX11_store_244 : decode cX11_store 244 = .ok (.getfield 143, 3) := by decide +kernel
theorem dX11_store_247 : decode cX11_store 247 = .ok (.imul, 1) := by decide +kernel
theorem dX11_store_248 : decode cX11_store 248 = .ok (.iload_n 1, 1) := by decide +kernel
theorem dX11_store_249 : decode cX11_store 249 = .ok (.iadd, 1) := by decide +kernel
theorem dX11_store_250 : decode cX11_store 250 = .ok (.aload_n 0, 1) := by decide +kernel
theorem dX11_store_251 : decode cX11_store 251 = .ok (.getfield 30, 3) := by decide +kernel
theorem dX11_store_254 : decode cX11_store 254 = .ok (.iload_n 1, 1) := by decide +kernel
theorem dX11_store_255 : decode cX11_store 255 = .ok (.iaload, 1) := by decide +kernel
theorem dX11_store_256 : decode cX11_store 256 = .ok (.iastore, 1) := by decide +kernel
theorem dX11_store_257 : decode cX11_store 257 = .ok (.iinc 1 1, 3) := by decide +kernel
theorem dX11_store_260 : decode cX11_store 260 = .ok (.goto (-29), 3) := by decide +kernel
theorem dX11_store_263 : decode cX11_store 263 = .ok (.aload_n 0, 1) := by decide +kernel
theorem dX11_store_264 : decode cX11_store 264 = .ok (.getfield 64, 3) := by decide +kernel
theorem dX11_store_267 : decode cX11_store 267 = .ok (.aload_n 0, 1) := by decide +kernel
theorem dX11_store_268 : decode cX11_store 268 = .ok (.getfield 143, 3) := by decide +kernel
theorem dX11_store_271 : decode cX11_store 271 = .ok (.aload_n 0, 1) := by decide +kernel
theorem dX11_store_272 : decode cX11_store 272 = .ok (.getfield 23, 3) := by decide +kernel
theorem dX11_store_275 : decode cX11_store 275 = .ok (.lastore, 1) := by decide +kernel
theorem dX11_store_276 : decode cX11_store 276 = .ok (.aload_n 0, 1) := by decide +kernel
theorem dX11_store_277 : decode cX11_store 277 = .ok (.getfield 70, 3) := by decide +kernel
theorem dX11_store_280 : decode cX11_store 280 = .ok (.aload_n 0, 1) := by decide +kernel
theorem dX11_store_281 : decode cX11_store 281 = .ok (.getfield 143, 3) := by decide +kernel
theorem dX11_store_284 : decode cX11_store 284 = .ok (.aload_n 0, 1) := by decide +kernel
theorem dX11_store_285 : decode cX11_store 285 = .ok (.getfield 131, 3) := by decide +kernel
theorem dX11_store_288 : decode cX11_store 288 = .ok (.iastore, 1) := by decide +kernel
theorem dX11_store_289 : decode cX11_store 289 = .ok (.aload_n 0, 1) := by decide +kernel
theorem dX11_store_290 : decode cX11_store 290 = .ok (.dup, 1) := by decide +kernel
theorem dX11_store_291 : decode cX11_store 291 = .ok (.getfield 143, 3) := by decide +kernel
theorem dX11_store_294 : decode cX11_store 294 = .ok (.iconst 1, 1) := by decide +kernel
theorem dX11_store_295 : decode cX11_store 295 = .ok (.iadd, 1) := by decide +kernel
theorem dX11_store_296 : decode cX11_store 296 = .ok (.putfield 143, 3) := by decide +kernel
theorem dX11_store_299 : decode cX11_store 299 = .ok (.return_, 1) := by decide +kernel
theorem dX11_undo_0 : decode cX11_undo 0 = .ok (.aload_n 0, 1) := by decide +kernel
theorem dX11_undo_1 : decode cX11_undo 1 = .ok (.getfield 143, 3) := by decide +kernel
theorem dX11_undo_4 : decode cX11_undo 4 = .ok (.ifCond .ne 10, 3) := by decide +kernel
theorem dX11_undo_7 : decode cX11_undo 7 = .ok (.aload_n 0, 1) := by decide +kernel
theorem dX11_undo_8 : decode cX11_undo 8 = .ok (.bipush (-11), 2) := by decide +kernel
theorem dX11_undo_10 : decode cX11_undo 10 = .ok (.invokevirtual 118, 3) := by decide +kernel
theorem dX11_undo_13 : decode cX11_undo 13 = .ok (.ireturn, 1) := by decide +kernel
theorem dX11_undo_14 : decode cX11_undo 14 = .ok (.aload_n 0, 1) := by decide +kernel
theorem dX11_undo_15 : decode cX11_undo 15 = .ok (.dup, 1) := by decide +kernel
theorem dX11_undo_16 : decode cX11_undo 16 = .ok (.getfield 143, 3) := by decide +kernel
theorem dX11_undo_19 : decode cX11_undo 19 = .ok (.iconst 1, 1) := by decide +kernel
theorem dX11_undo_20 : decode cX11_undo 20 = .ok (.isub, 1) := by decide +kernel
theorem dX11_undo_21 : decode cX11_undo 21 = .ok (.putfield 143, 3) := by decide +kernel
theorem dX11_undo_24 : decode cX11_undo 24 = .ok (.iconst 0, 1) := by decide +kernel
theorem dX11_undo_25 : decode cX11_undo 25 = .ok (.istore_n 1, 1) := by decide +kernel
theorem dX11_undo_26 : decode cX11_undo 26 = .ok (.iload_n 1, 1) := by decide +kernel
theorem dX11_undo_27 : decode cX11_undo 27 = .ok (.bipush 15, 2) := by decide +kernel
theorem dX11_undo_29 : decode cX11_undo 29 = .ok (.if_icmp .ge 29, 3) := by decide +kernel
theorem dX11_undo_32 : decode cX11_undo 32 = .ok (.aload_n 0, 1) := by decide +kernel
theorem dX11_undo_33 : decode cX11_undo 33 = .ok (.getfield 16, 3) := by decide +kernel
theorem dX11_undo_36 : decode cX11_undo 36 = .ok (.iload_n 1, 1) := by decide +kernel
theorem dX11_undo_37 : decode cX11_undo 37 = .ok (.aload_n 0, 1) := by decide +kernel
theorem dX11_undo_38 : decode cX11_undo 38 = .ok (.getfield 58, 3) := by decide +kernel
theorem dX11_undo_41 : decode cX11_undo 41 = .ok (.bipush 15, 2) := by decide +kernel
theorem dX11_undo_43 : decode cX11_undo 43 = .ok (.aload_n 0, 1) := by decide +kernel
theorem dX11_undo_44 : decode cX11_undo 44 = .ok (.getfield 143, 3) := by decide +kernel
theorem dX11_undo_47 : decode cX11_undo 47 = .ok (.imul, 1) := by decide +kernel
theorem dX11_undo_48 : decode cX11_undo 48 = .ok (.iload_n 1, 1) := by decide +kernel
theorem dX11_undo_49 : decode cX11_undo 49 = .ok (.iadd, 1) := by decide +kernel
theorem dX11_undo_50 : decode cX11_undo 50 = .ok (.laload, 1) := by decide +kernel
theorem dX11_undo_51 : decode cX11_undo 51 = .ok (.lastore, 1) := by decide +kernel
theorem dX11_undo_52 : decode cX11_undo 52 = .ok (.iinc 1 1, 3) := by decide +kernel
theorem dX11_undo_55 : decode cX11_undo 55 = .ok (.goto (-29), 3) := by decide +kernel
theorem dX11_undo_58 : decode cX11_undo 58 = .ok (.iconst 0, 1) := by decide +kernel
theorem dX11_undo_59 : decode cX11_undo 59 = .ok (.istore_n 1, 1) := by decide +kernel
theorem dX11_undo_60 : decode cX11_undo 60 = .ok (.iload_n 1, 1) := by decide +kernel
theorem dX11_undo_61 : decode cX11_undo 61 = .ok (.bipush 12, 2) := by decide +kernel
theorem dX11_undo_63 : decode cX11_undo 63 = .ok (.if_icmp .ge 29, 3) := by decide +kernel
theorem dX11_undo_66 : decode cX11_undo 66 = .ok (.aload_n 0, 1) := by decide +kernel
theorem dX11_undo_67 : decode cX11_undo 67 = .ok (.getfield 20, 3) := by decide +kernel
theorem dX11_undo_70 : decode cX11_undo 70 = .ok (.iload_n 1, 1) := by decide +kernel
theorem dX11_undo_71 : decode cX11_undo 71 = .ok (.aload_n 0, 1) := by decide +kernel
theorem dX11_undo_72 : decode cX11_undo 72 = .ok (.getfield 61, 3) := by decide +kernel
theorem dX11_undo_75 : decode cX11_undo 75 = .ok (.bipush 12, 2) := by decide +kernel
theorem dX11_undo_77 : decode cX11_undo 77 = .ok (.aload_n 0, 1) := by decide +kernel
theorem dX11_undo_78 : decode cX11_undo 78 = .ok (.getfield 143, 3) := by decide +kernel
theorem dX11_undo_81 : decode cX11_undo 81 = .ok (.imul, 1) := by decide +kernel
theorem dX11_undo_82 : decode cX11_undo 82 = .ok (.iload_n 1, 1) := by decide +kernel
theorem dX11_undo_83 : decode cX11_undo 83 = .ok (.iadd, 1) := by decide +kernel
theorem dX11_undo_84 : decode cX11_undo 84 = .ok (.laload, 1) := by decide +kernel
theorem dX11_undo_85 : decode cX11_undo 85 = .ok (.lastore, 1) := by decide +kernel
theorem dX11_undo_86 : decode cX11_undo 86 = .ok (.iinc 1 1, 3) := by decide +kernel
theorem dX11_undo_89 : decode cX11_undo 89 = .ok (.goto (-29), 3) := by decide +kernel
theorem dX11_undo_92 : decode cX11_undo 92 = .ok (.iconst 0, 1) := by decide +kernel
theorem dX11_undo_93 : decode cX11_undo 93 = .ok (.istore_n 1, 1) := by decide +kernel
theorem dX11_undo_94 : decode cX11_undo 94 = .ok (.iload_n 1, 1) := by decide +kernel
theorem dX11_undo_95 : decode cX11_undo 95 = .ok (.bipush 12, 2) := by decide +kernel
theorem dX11_undo_97 : decode cX11_undo 97 = .ok (.if_icmp .ge 29, 3) := by decide +kernel
theorem dX11_undo_100 : decode cX11_undo 100 = .ok (.aload_n 0, 1) := by decide +kernel
theorem dX11_undo_101 : decode cX11_undo 101 = .ok (.getfield 30, 3) := by decide +kernel
theorem dX11_undo_104 : decode cX11_undo 104 = .ok (.iload_n 1, 1) := by decide +kernel
theorem dX11_undo_105 : decode cX11_undo 105 = .ok (.aload_n 0, 1) := by decide +kernel
theorem dX11_undo_106 : decode cX11_undo 106 = .ok (.getfield 67, 3) := by decide +kernel
theorem dX11_undo_109 : decode cX11_undo 109 = .ok (.bipush 12, 2) := by decide +kernel
theorem dX11_undo_111 : decode cX11_undo 111 = .ok (.aload_n 0, 1) := by decide +kernel
theorem dX11_undo_112 : decode cX11_undo 112 = .ok (.getfield 143, 3) := by decide +kernel
theorem dX11_undo_115 : decode cX11_undo 115 = .ok (.imul, 1) := by decide +kernel
theorem dX11_undo_116 : decode cX11_undo 116 = .ok (.iload_n 1, 1) := by decide +kernel
theorem dX11_undo_117 : decode cX11_undo 117 = .ok (.iadd, 1) := by decide +kernel
theorem dX11_undo_118 : decode cX11_undo 118 = .ok (.iaload, 1) := by decide +kernel
theorem dX11_undo_119 : decode cX11_undo 119 = .ok (.iastore, 1) := by decide +kernel
theorem dX11_undo_120 : decode cX11_undo 120 = .ok (.iinc 1 1, 3) := by decide +kernel
theorem dX11_undo_123 : decode cX11_undo 123 = .ok (.goto (-29), 3) := by decide +kernel
theorem dX11_undo_126 : decode cX11_undo 126 = .ok (.aload_n 0, 1) := by decide +kernel
theorem dX11_undo_127 : decode cX11_undo 127 = .ok (.aload_n 0, 1) := by decide +kernel
theorem dX11_undo_128 : decode cX11_undo 128 = .ok (.getfield 64, 3) := by decide +kernel
theorem dX11_undo_131 : decode cX11_undo 131 = .ok (.aload_n 0, 1) := by decide +kernel
theorem dX11_undo_132 : decode cX11_undo 132 = .ok (.getfield 143, 3) := by decide +kernel
theorem dX11_undo_135 : decode cX11_undo 135 = .ok (.laload, 1) := by decide +kernel
theorem dX11_undo_136 : decode cX11_undo 136 = .ok (.putfield 23, 3) := by decide +kernel
theorem dX11_undo_139 : decode cX11_undo 139 = .ok (.aload_n 0, 1) := by decide +kernel
theorem dX11_undo_140 : decode cX11_undo 140 = .ok (.aload_n 0, 1) := by decide +kernel
theorem dX11_undo_141 : decode cX11_undo 141 = .ok (.getfield 70, 3) := by decide +kernel
theorem dX11_undo_144 : decode cX11_undo 144 = .ok (.aload_n 0, 1) := by decide +kernel
theorem dX11_undo_145 : decode cX11_undo 145 = .ok (.getfield 143, 3) := by decide +kernel
theorem dX11_undo_148 : decode cX11_undo 148 = .ok (.iaload, 1) := by decide +kernel
theorem dX11_undo_149 : decode cX11_undo 149 = .ok (.putfield 131, 3) := by decide +kernel
theorem dX11_undo_152 : decode cX11_undo 152 = .ok (.aload_n 0, 1) := by decide +kernel
theorem dX11_undo_153 : decode cX11_undo 153 = .ok (.getfield 143, 3) := by decide +kernel
theorem dX11_undo_156 : decode cX11_undo 156 = .ok (.ireturn, 1) := by decide +kernel
theorem dX11_lay_0 : decode cX11_lay 0 = .ok (.aload_n 0, 1) := by decide +kernel
theorem dX11_lay_1 : decode cX11_lay 1 = .ok (.iload_n 1, 1) := by decide +kernel
theorem dX11_lay_2 : decode cX11_lay 2 = .ok (.invokevirtual 121, 3) := by decide +kernel
theorem dX11_lay_5 : decode cX11_lay 5 = .ok (.ifCond .ne 9, 3) := by decide +kernel
theorem dX11_lay_8 : decode cX11_lay 8 = .ok (.aload_n 0, 1) := by decide +kernel
theorem dX11_lay_9 : decode cX11_lay 9 = .ok (.iconst (-1), 1) := by decide +kernel
theorem dX11_lay_10 : decode cX11_lay 10 = .ok (.invokevirtual 118, 3) := by decide +kernel
theorem dX11_lay_13 : decode cX11_lay 13 = .ok (.ireturn, 1) := by decide +kernel
theorem dX11_lay_14 : decode cX11_lay 14 = .ok (.aload_n 0, 1) := by decide +kernel
theorem dX11_lay_15 : decode cX11_lay 15 = .ok (.getfield 114, 3) := by decide +kernel
theorem dX11_lay_18 : decode cX11_lay 18 = .ok (.ifCond .ne 10, 3) := by decide +kernel
theorem dX11_lay_21 : decode cX11_lay 21 = .ok (.aload_n 0, 1) := by decide +kernel
theorem dX11_lay_22 : decode cX11_lay 22 = .ok (.bipush (-8), 2) := by decide +kernel
theorem dX11_lay_24 : decode cX11_lay 24 = .ok (.invokevirtual 118, 3) := by decide +kernel
theorem dX11_lay_27 : decode cX11_lay 27 = .ok (.ireturn, 1) := by decide +kernel
theorem dX11_lay_28 : decode cX11_lay 28 = .ok (.aload_n 0, 1) := by decide +kernel
theorem dX11_lay_29 : decode cX11_lay 29 = .ok (.getfield 16, 3) := by decide +kernel
theorem dX11_lay_32 : decode cX11_lay 32 = .ok (.iload_n 1, 1) := by decide +kernel
theorem dX11_lay_33 : decode cX11_lay 33 = .ok (.laload, 1) := by decide +kernel
theorem dX11_lay_34 : decode cX11_lay 34 = .ok (.iload_n 2, 1) := by decide +kernel
theorem dX11_lay_35 : decode cX11_lay 35 = .ok (.i2l, 1) := by decide +kernel
theorem dX11_lay_36 : decode cX11_lay 36 = .ok (.ladd, 1) := by decide +kernel
theorem dX11_lay_37 : decode cX11_lay 37 = .ok (.lstore_n 3, 1) := by decide +kernel
theorem dX11_lay_38 : decode cX11_lay 38 = .ok (.lload_n 3, 1) := by decide +kernel
theorem dX11_lay_39 : decode cX11_lay 39 = .ok (.lconst 0, 1) := by decide +kernel
theorem dX11_lay_40 : decode cX11_lay 40 = .ok (.lcmp, 1) := by decide +kernel
theorem dX11_lay_41 : decode cX11_lay 41 = .ok (.ifCond .ge 10, 3) := by decide +kernel
theorem dX11_lay_44 : decode cX11_lay 44 = .ok (.aload_n 0, 1) := by decide +kernel
theorem dX11_lay_45 : decode cX11_lay 45 = .ok (.bipush (-13), 2) := by decide +kernel
theorem dX11_lay_47 : decode cX11_lay 47 = .ok (.invokevirtual 118, 3) := by decide +kernel
theorem dX11_lay_50 : decode cX11_lay 50 = .ok (.ireturn, 1) := by decide +kernel
theorem dX11_lay_51 : decode cX11_lay 51 = .ok (.lload_n 3, 1) := by decide +kernel
theorem dX11_lay_52 : decode cX11_lay 52 = .ok (.ldc2_w 146, 3) := by decide +kernel
theorem dX11_lay_55 : decode cX11_lay 55 = .ok (.lcmp, 1) := by decide +kernel
theorem dX11_lay_56 : decode cX11_lay 56 = .ok (.ifCond .le 10, 3) := by decide +kernel
theorem dX11_lay_59 : decode cX11_lay 59 = .ok (.aload_n 0, 1) := by decide +kernel
theorem dX11_lay_60 : decode cX11_lay 60 = .ok (.bipush (-5), 2) := by decide +kernel
theorem dX11_lay_62 : decode cX11_lay 62 = .ok (.invokevirtual 118, 3) := by decide +kernel
theorem dX11_lay_65 : decode cX11_lay 65 = .ok (.ireturn, 1) := by decide +kernel
theorem dX11_lay_66 : decode cX11_lay 66 = .ok (.aload_n 0, 1) := by decide +kernel
theorem dX11_lay_67 : decode cX11_lay 67 = .ok (.invokevirtual 148, 3) := by decide +kernel
theorem dX11_lay_70 : decode cX11_lay 70 = .ok (.aload_n 0, 1) := by decide +kernel
theorem dX11_lay_71 : decode cX11_lay 71 = .ok (.getfield 16, 3) := by decide +kernel
theorem dX11_lay_74 : decode cX11_lay 74 = .ok (.iload_n 1, 1) := by decide +kernel
theorem dX11_lay_75 : decode cX11_lay 75 = .ok (.lload_n 3, 1) := by decide +kernel
theorem dX11_lay_76 : decode cX11_lay 76 = .ok (.lastore, 1) := by decide +kernel
theorem dX11_lay_77 : decode cX11_lay 77 = .ok (.lload_n 3, 1) := by decide +kernel
theorem dX11_lay_78 : decode cX11_lay 78 = .ok (.l2i, 1) := by decide +kernel
theorem dX11_lay_79 : decode cX11_lay 79 = .ok (.ireturn, 1) := by decide +kernel
theorem dX11_grains_0 : decode cX11_grains 0 = .ok (.aload_n 0, 1) := by decide +kernel
theorem dX11_grains_1 : decode cX11_grains 1 = .ok (.iload_n 1, 1) := by decide +kernel
theorem dX11_grains_2 : decode cX11_grains 2 = .ok (.invokevirtual 121, 3) := by decide +kernel
theorem dX11_grains_5 : decode cX11_grains 5 = .ok (.ifCond .ne 20, 3) := by decide +kernel
theorem dX11_grains_8 : decode cX11_grains 8 = .ok (.iload_n 1, 1) := by decide +kernel
theorem dX11_grains_9 : decode cX11_grains 9 = .ok (.bipush (-3), 2) := by decide +kernel
theorem dX11_grains_11 : decode cX11_grains 11 = .ok (.iconst (-1), 1) := by decide +kernel
theorem dX11_grains_12 : decode cX11_grains 12 = .ok (.invokestatic 98, 3) := by decide +kernel
theorem dX11_grains_15 : decode cX11_grains 15 = .ok (.ifCond .ne 10, 3) := by decide +kernel
theorem dX11_grains_18 : decode cX11_grains 18 = .ok (.aload_n 0, 1) := by decide +kernel
theorem dX11_grains_19 : decode cX11_grains 19 = .ok (.iconst (-1), 1) := by decide +kernel
theorem dX11_grains_20 : decode cX11_grains 20 = .ok (.invokevirtual 118, 3) := by decide +kernel
theorem dX11_grains_23 : decode cX11_grains 23 = .ok (.i2l, 1) := by decide +kernel
theorem dX11_grains_24 : decode cX11_grains 24 = .ok (.lreturn, 1) := by decide +kernel
theorem dX11_grains_25 : decode cX11_grains 25 = .ok (.aload_n 0, 1) := by decide +kernel
theorem dX11_grains_26 : decode cX11_grains 26 = .ok (.getfield 16, 3) := by decide +kernel
theorem dX11_grains_29 : decode cX11_grains 29 = .ok (.iload_n 1, 1) := by decide +kernel
theorem dX11_grains_30 : decode cX11_grains 30 = .ok (.ifCond .ge 10, 3) := by decide +kernel
theorem dX11_grains_33 : decode cX11_grains 33 = .ok (.bipush 11, 2) := by decide +kernel
theorem dX11_grains_35 : decode cX11_grains 35 = .ok (.iload_n 1, 1) := by decide +kernel
theorem dX11_grains_36 : decode cX11_grains 36 = .ok (.isub, 1) := by decide +kernel
theorem dX11_grains_37 : decode cX11_grains 37 = .ok (.goto 4, 3) := by decide +kernel
theorem dX11_grains_40 : decode cX11_grains 40 = .ok (.iload_n 1, 1) := by decide +kernel
theorem dX11_grains_41 : decode cX11_grains 41 = .ok (.laload, 1) := by decide +kernel
theorem dX11_grains_42 : decode cX11_grains 42 = .ok (.lreturn, 1) := by decide +kernel
theorem dX11_due_0 : decode cX11_due 0 = .ok (.aload_n 0, 1) := by decide +kernel
theorem dX11_due_1 : decode cX11_due 1 = .ok (.invokevirtual 151, 3) := by decide +kernel
theorem dX11_due_4 : decode cX11_due 4 = .ok (.ireturn, 1) := by decide +kernel
theorem dX11_times_0 : decode cX11_times 0 = .ok (.aload_n 0, 1) := by decide +kernel
theorem dX11_times_1 : decode cX11_times 1 = .ok (.iload_n 2, 1) := by decide +kernel
theorem dX11_times_2 : decode cX11_times 2 = .ok (.invokevirtual 155, 3) := by decide +kernel
theorem dX11_times_5 : decode cX11_times 5 = .ok (.ifCond .eq 16, 3) := by decide +kernel
theorem dX11_times_8 : decode cX11_times 8 = .ok (.aload_n 1, 1) := by decide +kernel
theorem dX11_times_9 : decode cX11_times 9 = .ok (.iload_n 2, 1) := by decide +kernel
theorem dX11_times_10 : decode cX11_times 10 = .ok (.laload, 1) := by decide +kernel
theorem dX11_times_11 : decode cX11_times 11 = .ok (.aload_n 0, 1) := by decide +kernel
theorem dX11_times_12 : decode cX11_times 12 = .ok (.iload_n 2, 1) := by decide +kernel
theorem dX11_times_13 : decode cX11_times 13 = .ok (.invokevirtual 106, 3) := by decide +kernel
theorem dX11_times_16 : decode cX11_times 16 = .ok (.i2l, 1) := by decide +kernel
theorem dX11_times_17 : decode cX11_times 17 = .ok (.ldiv, 1) := by decide +kernel
theorem dX11_times_18 : decode cX11_times 18 = .ok (.goto 4, 3) := by decide +kernel
theorem dX11_times_21 : decode cX11_times 21 = .ok (.lconst 1, 1) := by decide +kernel
theorem dX11_times_22 : decode cX11_times 22 = .ok (.lreturn, 1) := by decide +kernel
theorem dX11_isTooMuch_0 : decode cX11_isTooMuch 0 = .ok (.aload_n 0, 1) := by decide +kernel
theorem dX11_isTooMuch_1 : decode cX11_isTooMuch 1 = .ok (.aload_n 1, 1) := by decide +kernel
theorem dX11_isTooMuch_2 : decode cX11_isTooMuch 2 = .ok (.iload_n 2, 1) := by decide +kernel
theorem dX11_isTooMuch_3 : decode cX11_isTooMuch 3 = .ok (.invokevirtual 158, 3) := by decide +kernel
theorem dX11_isTooMuch_6 : decode cX11_isTooMuch 6 = .ok (.lstore_n 3, 1) := by decide +kernel
theorem dX11_isTooMuch_7 : decode cX11_isTooMuch 7 = .ok (.iconst 0, 1) := by decide +kernel
theorem dX11_isTooMuch_8 : decode cX11_isTooMuch 8 = .ok (.istore 5, 2) := by decide +kernel
theorem dX11_isTooMuch_10 : decode cX11_isTooMuch 10 = .ok (.iload 5, 2) := by decide +kernel
theorem dX11_isTooMuch_12 : decode cX11_isTooMuch 12 = .ok (.aload_n 0, 1) := by decide +kernel
theorem dX11_isTooMuch_13 : decode cX11_isTooMuch 13 = .ok (.getfield 95, 3) := by decide +kernel
theorem dX11_isTooMuch_16 : decode cX11_isTooMuch 16 = .ok (.if_icmp .ge 39, 3) := by decide +kernel
theorem dX11_isTooMuch_19 : decode cX11_isTooMuch 19 = .ok (.aload_n 1, 1) := by decide +kernel
theorem dX11_isTooMuch_20 : decode cX11_isTooMuch 20 = .ok (.iload 5, 2) := by decide +kernel
theorem dX11_isTooMuch_22 : decode cX11_isTooMuch 22 = .ok (.laload, 1) := by decide +kernel
theorem dX11_isTooMuch_23 : decode cX11_isTooMuch 23 = .ok (.lload_n 3, 1) := by decide +kernel
theorem dX11_isTooMuch_24 : decode cX11_isTooMuch 24 = .ok (.aload_n 0, 1) := by decide +kernel
theorem dX11_isTooMuch_25 : decode cX11_isTooMuch 25 = .ok (.iload_n 2, 1) := by decide +kernel
theorem dX11_isTooMuch_26 : decode cX11_isTooMuch 26 = .ok (.iload 5, 2) := by decide +kernel
theorem dX11_isTooMuch_28 : decode cX11_isTooMuch 28 = .ok (.invokevirtual 102, 3) := by decide +kernel
theorem dX11_isTooMuch_31 : decode cX11_isTooMuch 31 = .ok (.i2l, 1) := by decide +kernel
theorem dX11_isTooMuch_32 : decode cX11_isTooMuch 32 = .ok (.lmul, 1) := by decide +kernel
theorem dX11_isTooMuch_33 : decode cX11_isTooMuch 33 = .ok (.ladd, 1) := by decide +kernel
theorem dX11_isTooMuch_34 : decode cX11_isTooMuch 34 = .ok (.ldc2_w 146, 3) := by decide +kernel
theorem dX11_isTooMuch_37 : decode cX11_isTooMuch 37 = .ok (.lcmp, 1) := by decide +kernel
theorem dX11_isTooMuch_38 : decode cX11_isTooMuch 38 = .ok (.ifCond .le 11, 3) := by decide +kernel
theorem dX11_isTooMuch_41 : decode cX11_isTooMuch 41 = .ok (.iload 5, 2) := by decide +kernel
theorem dX11_isTooMuch_43 : decode cX11_isTooMuch 43 = .ok (.iload_n 2, 1) := by decide +kernel
theorem dX11_isTooMuch_44 : decode cX11_isTooMuch 44 = .ok (.if_icmp .eq 5, 3) := by decide +kernel
theorem dX11_isTooMuch_47 : decode cX11_isTooMuch 47 = .ok (.iconst 1, 1) := by decide +kernel
theorem dX11_isTooMuch_48 : decode cX11_isTooMuch 48 = .ok (.ireturn, 1) := by decide +kernel
theorem dX11_isTooMuch_49 : decode cX11_isTooMuch 49 = .ok (.iinc 5 1, 3) := by decide +kernel
theorem dX11_isTooMuch_52 : decode cX11_isTooMuch 52 = .ok (.goto (-42), 3) := by decide +kernel
theorem dX11_isTooMuch_55 : decode cX11_isTooMuch 55 = .ok (.iconst 0, 1) := by decide +kernel
theorem dX11_isTooMuch_56 : decode cX11_isTooMuch 56 = .ok (.ireturn, 1) := by decide +kernel
theorem dX11_slides_0 : decode cX11_slides 0 = .ok (.aload_n 0, 1) := by decide +kernel
theorem dX11_slides_1 : decode cX11_slides 1 = .ok (.aload_n 1, 1) := by decide +kernel
theorem dX11_slides_2 : decode cX11_slides 2 = .ok (.iload_n 2, 1) := by decide +kernel
theorem dX11_slides_3 : decode cX11_slides 3 = .ok (.invokevirtual 158, 3) := by decide +kernel
theorem dX11_slides_6 : decode cX11_slides 6 = .ok (.lstore_n 3, 1) := by decide +kernel
theorem dX11_slides_7 : decode cX11_slides 7 = .ok (.aload_n 1, 1) := by decide +kernel
theorem dX11_slides_8 : decode cX11_slides 8 = .ok (.iload_n 2, 1) := by decide +kernel
theorem dX11_slides_9 : decode cX11_slides 9 = .ok (.dup2, 1) := by decide +kernel
theorem dX11_slides_10 : decode cX11_slides 10 = .ok (.laload, 1) := by decide +kernel
theorem dX11_slides_11 : decode cX11_slides 11 = .ok (.lload_n 3, 1) := by decide +kernel
theorem dX11_slides_12 : decode cX11_slides 12 = .ok (.aload_n 0, 1) := by decide +kernel
theorem dX11_slides_13 : decode cX11_slides 13 = .ok (.iload_n 2, 1) := by decide +kernel
theorem dX11_slides_14 : decode cX11_slides 14 = .ok (.invokevirtual 106, 3) := by decide +kernel
theorem dX11_slides_17 : decode cX11_slides 17 = .ok (.i2l, 1) := by decide +kernel
theorem dX11_slides_18 : decode cX11_slides 18 = .ok (.lmul, 1) := by decide +kernel
theorem dX11_slides_19 : decode cX11_slides 19 = .ok (.lsub, 1) := by decide +kernel
theorem dX11_slides_20 : decode cX11_slides 20 = .ok (.lastore, 1) := by decide +kernel
theorem dX11_slides_21 : decode cX11_slides 21 = .ok (.iconst 0, 1) := by decide +kernel
theorem dX11_slides_22 : decode cX11_slides 22 = .ok (.istore 5, 2) := by decide +kernel
theorem dX11_slides_24 : decode cX11_slides 24 = .ok (.iload 5, 2) := by decide +kernel
theorem dX11_slides_26 : decode cX11_slides 26 = .ok (.bipush 15, 2) := by decide +kernel
theorem dX11_slides_28 : decode cX11_slides 28 = .ok (.if_icmp .ge 26, 3) := by decide +kernel
theorem dX11_slides_31 : decode cX11_slides 31 = .ok (.aload_n 1, 1) := by decide +kernel
theorem dX11_slides_32 : decode cX11_slides 32 = .ok (.iload 5, 2) := by decide +kernel
theorem dX11_slides_34 : decode cX11_slides 34 = .ok (.dup2, 1) := by decide +kernel
theorem dX11_slides_35 : decode cX11_slides 35 = .ok (.laload, 1) := by decide +kernel
theorem dX11_slides_36 : decode cX11_slides 36 = .ok (.lload_n 3, 1) := by decide +kernel
theorem dX11_slides_37 : decode cX11_slides 37 = .ok (.aload_n 0, 1) := by decide +kernel
theorem dX11_slides_38 : decode cX11_slides 38 = .ok (.iload_n 2, 1) := by decide +kernel
theorem dX11_slides_39 : decode cX11_slides 39 = .ok (.iload 5, 2) := by decide +kernel
theorem dX11_slides_41 : decode cX11_slides 41 = .ok (.invokevirtual 102, 3) := by decide +kernel
theorem dX11_slides_44 : decode cX11_slides 44 = .ok (.i2l, 1) := by decide +kernel
theorem dX11_slides_45 : decode cX11_slides 45 = .ok (.lmul, 1) := by decide +kernel
theorem dX11_slides_46 : decode cX11_slides 46 = .ok (.ladd, 1) := by decide +kernel
theorem dX11_slides_47 : decode cX11_slides 47 = .ok (.lastore, 1) := by decide +kernel
theorem dX11_slides_48 : decode cX11_slides 48 = .ok (.iinc 5 1, 3) := by decide +kernel
theorem dX11_slides_51 : decode cX11_slides 51 = .ok (.goto (-27), 3) := by decide +kernel
theorem dX11_slides_54 : decode cX11_slides 54 = .ok (.lload_n 3, 1) := by decide +kernel
theorem dX11_slides_55 : decode cX11_slides 55 = .ok (.lreturn, 1) := by decide +kernel
theorem dX11_slide_0 : decode cX11_slide 0 = .ok (.aload_n 0, 1) := by decide +kernel
theorem dX11_slide_1 : decode cX11_slide 1 = .ok (.iload_n 1, 1) := by decide +kernel
theorem dX11_slide_2 : decode cX11_slide 2 = .ok (.invokevirtual 121, 3) := by decide +kernel
theorem dX11_slide_5 : decode cX11_slide 5 = .ok (.ifCond .ne 9, 3) := by decide +kernel
theorem dX11_slide_8 : decode cX11_slide 8 = .ok (.aload_n 0, 1) := by decide +kernel
theorem dX11_slide_9 : decode cX11_slide 9 = .ok (.iconst (-1), 1) := by decide +kernel
theorem dX11_slide_10 : decode cX11_slide 10 = .ok (.invokevirtual 118, 3) := by decide +kernel
theorem dX11_slide_13 : decode cX11_slide 13 = .ok (.ireturn, 1) := by decide +kernel
theorem dX11_slide_14 : decode cX11_slide 14 = .ok (.aload_n 0, 1) := by decide +kernel
theorem dX11_slide_15 : decode cX11_slide 15 = .ok (.getfield 16, 3) := by decide +kernel
theorem dX11_slide_18 : decode cX11_slide 18 = .ok (.iload_n 1, 1) := by decide +kernel
theorem dX11_slide_19 : decode cX11_slide 19 = .ok (.laload, 1) := by decide +kernel
theorem dX11_slide_20 : decode cX11_slide 20 = .ok (.aload_n 0, 1) := by decide +kernel
theorem dX11_slide_21 : decode cX11_slide 21 = .ok (.iload_n 1, 1) := by decide +kernel
theorem dX11_slide_22 : decode cX11_slide 22 = .ok (.invokevirtual 106, 3) := by decide +kernel
theorem dX11_slide_25 : decode cX11_slide 25 = .ok (.invokestatic 110, 3) := by decide +kernel
theorem dX11_slide_28 : decode cX11_slide 28 = .ok (.ifCond .ne 10, 3) := by decide +kernel
theorem dX11_slide_31 : decode cX11_slide 31 = .ok (.aload_n 0, 1) := by decide +kernel
theorem dX11_slide_32 : decode cX11_slide 32 = .ok (.bipush (-8), 2) := by decide +kernel
theorem dX11_slide_34 : decode cX11_slide 34 = .ok (.invokevirtual 118, 3) := by decide +kernel
theorem dX11_slide_37 : decode cX11_slide 37 = .ok (.ireturn, 1) := by decide +kernel
theorem dX11_slide_38 : decode cX11_slide 38 = .ok (.aload_n 0, 1) := by decide +kernel
theorem dX11_slide_39 : decode cX11_slide 39 = .ok (.aload_n 0, 1) := by decide +kernel
theorem dX11_slide_40 : decode cX11_slide 40 = .ok (.getfield 16, 3) := by decide +kernel
theorem dX11_slide_43 : decode cX11_slide 43 = .ok (.iload_n 1, 1) := by decide +kernel
theorem dX11_slide_44 : decode cX11_slide 44 = .ok (.invokevirtual 162, 3) := by decide +kernel
theorem dX11_slide_47 : decode cX11_slide 47 = .ok (.ifCond .eq 10, 3) := by decide +kernel
theorem dX11_slide_50 : decode cX11_slide 50 = .ok (.aload_n 0, 1) := by decide +kernel
theorem dX11_slide_51 : decode cX11_slide 51 = .ok (.bipush (-5), 2) := by decide +kernel
theorem dX11_slide_53 : decode cX11_slide 53 = .ok (.invokevirtual 118, 3) := by decide +kernel
theorem dX11_slide_56 : decode cX11_slide 56 = .ok (.ireturn, 1) := by decide +kernel
theorem dX11_slide_57 : decode cX11_slide 57 = .ok (.aload_n 0, 1) := by decide +kernel
theorem dX11_slide_58 : decode cX11_slide 58 = .ok (.invokevirtual 148, 3) := by decide +kernel
theorem dX11_slide_61 : decode cX11_slide 61 = .ok (.aload_n 0, 1) := by decide +kernel
theorem dX11_slide_62 : decode cX11_slide 62 = .ok (.aload_n 0, 1) := by decide +kernel
theorem dX11_slide_63 : decode cX11_slide 63 = .ok (.getfield 16, 3) := by decide +kernel
theorem dX11_slide_66 : decode cX11_slide 66 = .ok (.iload_n 1, 1) := by decide +kernel
theorem dX11_slide_67 : decode cX11_slide 67 = .ok (.invokevirtual 166, 3) := by decide +kernel
theorem dX11_slide_70 : decode cX11_slide 70 = .ok (.lstore_n 2, 1) := by decide +kernel
theorem dX11_slide_71 : decode cX11_slide 71 = .ok (.aload_n 0, 1) := by decide +kernel
theorem dX11_slide_72 : decode cX11_slide 72 = .ok (.getfield 20, 3) := by decide +kernel
theorem dX11_slide_75 : decode cX11_slide 75 = .ok (.iload_n 1, 1) := by decide +kernel
theorem dX11_slide_76 : decode cX11_slide 76 = .ok (.dup2, 1) := by decide +kernel
theorem dX11_slide_77 : decode cX11_slide 77 = .ok (.laload, 1) := by decide +kernel
theorem dX11_slide_78 : decode cX11_slide 78 = .ok (.lload_n 2, 1) := by decide +kernel
theorem dX11_slide_79 : decode cX11_slide 79 = .ok (.ladd, 1) := by decide +kernel
theorem dX11_slide_80 : decode cX11_slide 80 = .ok (.lastore, 1) := by decide +kernel
theorem dX11_slide_81 : decode cX11_slide 81 = .ok (.lload_n 2, 1) := by decide +kernel
theorem dX11_slide_82 : decode cX11_slide 82 = .ok (.l2i, 1) := by decide +kernel
theorem dX11_slide_83 : decode cX11_slide 83 = .ok (.ireturn, 1) := by decide +kernel
theorem dX11_manner_0 : decode cX11_manner 0 = .ok (.iload_n 1, 1) := by decide +kernel
theorem dX11_manner_1 : decode cX11_manner 1 = .ok (.iconst 0, 1) := by decide +kernel
theorem dX11_manner_2 : decode cX11_manner 2 = .ok (.iconst 4, 1) := by decide +kernel
theorem dX11_manner_3 : decode cX11_manner 3 = .ok (.invokestatic 98, 3) := by decide +kernel
theorem dX11_manner_6 : decode cX11_manner 6 = .ok (.ifCond .eq 12, 3) := by decide +kernel
theorem dX11_manner_9 : decode cX11_manner 9 = .ok (.iload_n 1, 1) := by decide +kernel
theorem dX11_manner_10 : decode cX11_manner 10 = .ok (.iconst 3, 1) := by decide +kernel
theorem dX11_manner_11 : decode cX11_manner 11 = .ok (.if_icmp .ne 13, 3) := by decide +kernel
theorem dX11_manner_14 : decode cX11_manner 14 = .ok (.iload_n 2, 1) := by decide +kernel
theorem dX11_manner_15 : decode cX11_manner 15 = .ok (.ifCond .ge 9, 3) := by decide +kernel
theorem dX11_manner_18 : decode cX11_manner 18 = .ok (.aload_n 0, 1) := by decide +kernel
theorem dX11_manner_19 : decode cX11_manner 19 = .ok (.iconst (-1), 1) := by decide +kernel
theorem dX11_manner_20 : decode cX11_manner 20 = .ok (.invokevirtual 118, 3) := by decide +kernel
theorem dX11_manner_23 : decode cX11_manner 23 = .ok (.ireturn, 1) := by decide +kernel
theorem dX11_manner_24 : decode cX11_manner 24 = .ok (.aload_n 0, 1) := by decide +kernel
theorem dX11_manner_25 : decode cX11_manner 25 = .ok (.getfield 114, 3) := by decide +kernel
theorem dX11_manner_28 : decode cX11_manner 28 = .ok (.ifCond .ne 10, 3) := by decide +kernel
theorem dX11_manner_31 : decode cX11_manner 31 = .ok (.aload_n 0, 1) := by decide +kernel
theorem dX11_manner_32 : decode cX11_manner 32 = .ok (.bipush (-8), 2) := by decide +kernel
theorem dX11_manner_34 : decode cX11_manner 34 = .ok (.invokevirtual 118, 3) := by decide +kernel
theorem dX11_manner_37 : decode cX11_manner 37 = .ok (.ireturn, 1) := by decide +kernel
theorem dX11_manner_38 : decode cX11_manner 38 = .ok (.iload_n 1, 1) := by decide +kernel
theorem dX11_manner_39 : decode cX11_manner 39 = .ok (.iconst 2, 1) := by decide +kernel
theorem dX11_manner_40 : decode cX11_manner 40 = .ok (.if_icmp .ne 115, 3) := by decide +kernel
theorem dX11_manner_43 : decode cX11_manner 43 = .ok (.iconst 0, 1) := by decide +kernel
theorem dX11_manner_44 : decode cX11_manner 44 = .ok (.istore_n 3, 1) := by decide +kernel
theorem dX11_manner_45 : decode cX11_manner 45 = .ok (.iconst 0, 1) := by decide +kernel
theorem dX11_manner_46 : decode cX11_manner 46 = .ok (.istore 4, 2) := by decide +kernel
theorem dX11_manner_48 : decode cX11_manner 48 = .ok (.iload 4, 2) := by decide +kernel
theorem dX11_manner_50 : decode cX11_manner 50 = .ok (.aload_n 0, 1) := by decide +kernel
theorem dX11_manner_51 : decode cX11_manner 51 = .ok (.getfield 169, 3) := by decide +kernel
theorem dX11_manner_54 : decode cX11_manner 54 = .ok (.if_icmp .ge 35, 3) := by decide +kernel
theorem dX11_manner_57 : decode cX11_manner 57 = .ok (.aload_n 0, 1) := by decide +kernel
theorem dX11_manner_58 : decode cX11_manner 58 = .ok (.aload_n 0, 1) := by decide +kernel
theorem dX11_manner_59 : decode cX11_manner 59 = .ok (.getfield 55, 3) := by decide +kernel
theorem dX11_manner_62 : decode cX11_manner 62 = .ok (.iload 4, 2) := by decide +kernel
theorem dX11_manner_64 : decode cX11_manner 64 = .ok (.iaload, 1) := by decide +kernel
theorem dX11_manner_65 : decode cX11_manner 65 = .ok (.invokevirtual 121, 3) := by decide +kernel
theorem dX11_manner_68 : decode cX11_manner 68 = .ok (.ifCond .eq 15, 3) := by decide +kernel
theorem dX11_manner_71 : decode cX11_manner 71 = .ok (.iload_n 3, 1) := by decide +kernel
theorem dX11_manner_72 : decode cX11_manner 72 = .ok (.iconst 1, 1) := by decide +kernel
theorem dX11_manner_73 : decode cX11_manner 73 = .ok (.aload_n 0, 1) := by decide +kernel
theorem dX11_manner_74 : decode cX11_manner 74 = .ok (.getfield 55, 3) := by decide +kernel
theorem dX11_manner_77 : decode cX11_manner 77 = .ok (.iload 4, 2) := by decide +kernel
theorem dX11_manner_79 : decode cX11_manner 79 = .ok (.iaload, 1) := by decide +kernel
theorem dX11_manner_80 : decode cX11_manner 80 = .ok (.ishl, 1) := by decide +kernel
theorem dX11_manner_81 : decode cX11_manner 81 = .ok (.ior, 1) := by decide +kernel
theorem dX11_manner_82 : decode cX11_manner 82 = .ok (.istore_n 3, 1) := by decide +kernel
theorem dX11_manner_83 : decode cX11_manner 83 = .ok (.iinc 4 1, 3) := by decide +kernel
theorem dX11_manner_86 : decode cX11_manner 86 = .ok (.goto (-38), 3) := by decide +kernel
theorem dX11_manner_89 : decode cX11_manner 89 = .ok (.aload_n 0, 1) := by decide +kernel
theorem dX11_manner_90 : decode cX11_manner 90 = .ok (.getfield 169, 3) := by decide +kernel
theorem dX11_manner_93 : decode cX11_manner 93 = .ok (.aload_n 0, 1) := by decide +kernel
theorem dX11_manner_94 : decode cX11_manner 94 = .ok (.getfield 95, 3) := by decide +kernel
theorem dX11_manner_97 : decode cX11_manner 97 = .ok (.if_icmp .ne 15, 3) := by decide +kernel
theorem dX11_manner_100 : decode cX11_manner 100 = .ok (.iload_n 3, 1) := by decide +kernel
theorem dX11_manner_101 : decode cX11_manner 101 = .ok (.iconst 1, 1) := by decide +kernel
theorem dX11_manner_102 : decode cX11_manner 102 = .ok (.aload_n 0, 1) := by decide +kernel
theorem dX11_manner_103 : decode cX11_manner 103 = .ok (.getfield 95, 3) := by decide +kernel
theorem dX11_manner_106 : decode cX11_manner 106 = .ok (.ishl, 1) := by decide +kernel
theorem dX11_manner_107 : decode cX11_manner 107 = .ok (.iconst 1, 1) := by decide +kernel
theorem dX11_manner_108 : decode cX11_manner 108 = .ok (.isub, 1) := by decide +kernel
theorem dX11_manner_109 : decode cX11_manner 109 = .ok (.if_icmp .eq 9, 3) := by decide +kernel
theorem dX11_manner_112 : decode cX11_manner 112 = .ok (.aload_n 0, 1) := by decide +kernel
theorem dX11_manner_113 : decode cX11_manner 113 = .ok (.iconst (-1), 1) := by decide +kernel
theorem dX11_manner_114 : decode cX11_manner 114 = .ok (.invokevirtual 118, 3) := by decide +kernel
theorem dX11_manner_117 : decode cX11_manner 117 = .ok (.ireturn, 1) := by decide +kernel
theorem dX11_manner_118 : decode cX11_manner 118 = .ok (.iconst 0, 1) := by decide +kernel
theorem dX11_manner_119 : decode cX11_manner 119 = .ok (.istore 4, 2) := by decide +kernel
theorem dX11_manner_121 : decode cX11_manner 121 = .ok (.iload 4, 2) := by decide +kernel
theorem dX11_manner_123 : decode cX11_manner 123 = .ok (.aload_n 0, 1) := by decide +kernel
theorem dX11_manner_124 : decode cX11_manner 124 = .ok (.getfield 95, 3) := by decide +kernel
theorem dX11_manner_127 : decode cX11_manner 127 = .ok (.if_icmp .ge 23, 3) := by decide +kernel
theorem dX11_manner_130 : decode cX11_manner 130 = .ok (.aload_n 0, 1) := by decide +kernel
theorem dX11_manner_131 : decode cX11_manner 131 = .ok (.getfield 27, 3) := by decide +kernel
theorem dX11_manner_134 : decode cX11_manner 134 = .ok (.iload 4, 2) := by decide +kernel
theorem dX11_manner_136 : decode cX11_manner 136 = .ok (.aload_n 0, 1) := by decide +kernel
theorem dX11_manner_137 : decode cX11_manner 137 = .ok (.getfield 55, 3) := by decide +kernel
theorem dX11_manner_140 : decode cX11_manner 140 = .ok (.iload 4, 2) := by decide +kernel
theorem dX11_manner_142 : decode cX11_manner 142 = .ok (.iaload, 1) := by decide +kernel
theorem dX11_manner_143 : decode cX11_manner 143 = .ok (.iastore, 1) := by decide +kernel
theorem dX11_manner_144 : decode cX11_manner 144 = .ok (.iinc 4 1, 3) := by decide +kernel
theorem dX11_manner_147 : decode cX11_manner 147 = .ok (.goto (-26), 3) := by decide +kernel
theorem dX11_manner_150 : decode cX11_manner 150 = .ok (.aload_n 0, 1) := by decide +kernel
theorem dX11_manner_151 : decode cX11_manner 151 = .ok (.iconst 0, 1) := by decide +kernel
theorem dX11_manner_152 : decode cX11_manner 152 = .ok (.putfield 169, 3) := by decide +kernel
theorem dX11_manner_155 : decode cX11_manner 155 = .ok (.aload_n 0, 1) := by decide +kernel
theorem dX11_manner_156 : decode cX11_manner 156 = .ok (.getfield 128, 3) := by decide +kernel
theorem dX11_manner_159 : decode cX11_manner 159 = .ok (.istore_n 3, 1) := by decide +kernel
theorem dX11_manner_160 : decode cX11_manner 160 = .ok (.aload_n 0, 1) := by decide +kernel
theorem dX11_manner_161 : decode cX11_manner 161 = .ok (.iload_n 1, 1) := by decide +kernel
theorem dX11_manner_162 : decode cX11_manner 162 = .ok (.putfield 128, 3) := by decide +kernel
theorem dX11_manner_165 : decode cX11_manner 165 = .ok (.iload_n 1, 1) := by decide +kernel
theorem dX11_manner_166 : decode cX11_manner 166 = .ok (.iconst 3, 1) := by decide +kernel
theorem dX11_manner_167 : decode cX11_manner 167 = .ok (.if_icmp .ne 9, 3) := by decide +kernel
theorem dX11_manner_170 : decode cX11_manner 170 = .ok (.aload_n 0, 1) := by decide +kernel
theorem dX11_manner_171 : decode cX11_manner 171 = .ok (.iload_n 2, 1) := by decide +kernel
theorem dX11_manner_172 : decode cX11_manner 172 = .ok (.i2l, 1) := by decide +kernel
theorem dX11_manner_173 : decode cX11_manner 173 = .ok (.putfield 23, 3) := by decide +kernel
theorem dX11_manner_176 : decode cX11_manner 176 = .ok (.iload_n 1, 1) := by decide +kernel
theorem dX11_manner_177 : decode cX11_manner 177 = .ok (.iconst 4, 1) := by decide +kernel
theorem dX11_manner_178 : decode cX11_manner 178 = .ok (.if_icmp .ne 8, 3) := by decide +kernel
theorem dX11_manner_181 : decode cX11_manner 181 = .ok (.aload_n 0, 1) := by decide +kernel
theorem dX11_manner_182 : decode cX11_manner 182 = .ok (.iconst 0, 1) := by decide +kernel
theorem dX11_manner_183 : decode cX11_manner 183 = .ok (.putfield 131, 3) := by decide +kernel
theorem dX11_manner_186 : decode cX11_manner 186 = .ok (.aload_n 0, 1) := by decide +kernel
theorem dX11_manner_187 : decode cX11_manner 187 = .ok (.iconst 0, 1) := by decide +kernel
theorem dX11_manner_188 : decode cX11_manner 188 = .ok (.putfield 143, 3) := by decide +kernel
theorem dX11_manner_191 : decode cX11_manner 191 = .ok (.iload_n 3, 1) := by decide +kernel
theorem dX11_manner_192 : decode cX11_manner 192 = .ok (.ireturn, 1) := by decide +kernel
theorem dX11_isAsked_0 : decode cX11_isAsked 0 = .ok (.iconst 0, 1) := by decide +kernel
theorem dX11_isAsked_1 : decode cX11_isAsked 1 = .ok (.istore_n 2, 1) := by decide +kernel
theorem dX11_isAsked_2 : decode cX11_isAsked 2 = .ok (.iload_n 2, 1) := by decide +kernel
theorem dX11_isAsked_3 : decode cX11_isAsked 3 = .ok (.aload_n 0, 1) := by decide +kernel
theorem dX11_isAsked_4 : decode cX11_isAsked 4 = .ok (.getfield 131, 3) := by decide +kernel
theorem dX11_isAsked_7 : decode cX11_isAsked 7 = .ok (.if_icmp .ge 21, 3) := by decide +kernel
theorem dX11_isAsked_10 : decode cX11_isAsked 10 = .ok (.aload_n 0, 1) := by decide +kernel
theorem dX11_isAsked_11 : decode cX11_isAsked 11 = .ok (.getfield 30, 3) := by decide +kernel
theorem dX11_isAsked_14 : decode cX11_isAsked 14 = .ok (.iload_n 2, 1) := by decide +kernel
theorem dX11_isAsked_15 : decode cX11_isAsked 15 = .ok (.iaload, 1) := by decide +kernel
theorem dX11_isAsked_16 : decode cX11_isAsked 16 = .ok (.iload_n 1, 1) := by decide +kernel
theorem dX11_isAsked_17 : decode cX11_isAsked 17 = .ok (.if_icmp .ne 5, 3) := by decide +kernel
theorem dX11_isAsked_20 : decode cX11_isAsked 20 = .ok (.iconst 1, 1) := by decide +kernel
theorem dX11_isAsked_21 : decode cX11_isAsked 21 = .ok (.ireturn, 1) := by decide +kernel
theorem dX11_isAsked_22 : decode cX11_isAsked 22 = .ok (.iinc 2 1, 3) := by decide +kernel
theorem dX11_isAsked_25 : decode cX11_isAsked 25 = .ok (.goto (-23), 3) := by decide +kernel
theorem dX11_isAsked_28 : decode cX11_isAsked 28 = .ok (.iconst 0, 1) := by decide +kernel
theorem dX11_isAsked_29 : decode cX11_isAsked 29 = .ok (.ireturn, 1) := by decide +kernel
theorem dX11_next_0 : decode cX11_next 0 = .ok (.iconst (-1), 1) := by decide +kernel
theorem dX11_next_1 : decode cX11_next 1 = .ok (.istore_n 1, 1) := by decide +kernel
theorem dX11_next_2 : decode cX11_next 2 = .ok (.aload_n 0, 1) := by decide +kernel
theorem dX11_next_3 : decode cX11_next 3 = .ok (.getfield 128, 3) := by decide +kernel
theorem dX11_next_6 : decode cX11_next 6 = .ok (.tableswitch 261 0 3 #[30, 68, 125, 178], 30) := by decide +kernel
theorem dX11_next_36 : decode cX11_next 36 = .ok (.aload_n 0, 1) := by decide +kernel
theorem dX11_next_37 : decode cX11_next 37 = .ok (.getfield 95, 3) := by decide +kernel
theorem dX11_next_40 : decode cX11_next 40 = .ok (.iconst 1, 1) := by decide +kernel
theorem dX11_next_41 : decode cX11_next 41 = .ok (.isub, 1) := by decide +kernel
theorem dX11_next_42 : decode cX11_next 42 = .ok (.istore_n 2, 1) := by decide +kernel
theorem dX11_next_43 : decode cX11_next 43 = .ok (.iload_n 2, 1) := by decide +kernel
theorem dX11_next_44 : decode cX11_next 44 = .ok (.ifCond .lt 28, 3) := by decide +kernel
theorem dX11_next_47 : decode cX11_next 47 = .ok (.aload_n 0, 1) := by decide +kernel
theorem dX11_next_48 : decode cX11_next 48 = .ok (.getfield 16, 3) := by decide +kernel
theorem dX11_next_51 : decode cX11_next 51 = .ok (.iload_n 2, 1) := by decide +kernel
theorem dX11_next_52 : decode cX11_next 52 = .ok (.laload, 1) := by decide +kernel
theorem dX11_next_53 : decode cX11_next 53 = .ok (.aload_n 0, 1) := by decide +kernel
theorem dX11_next_54 : decode cX11_next 54 = .ok (.iload_n 2, 1) := by decide +kernel
theorem dX11_next_55 : decode cX11_next 55 = .ok (.invokevirtual 106, 3) := by decide +kernel
theorem dX11_next_58 : decode cX11_next 58 = .ok (.invokestatic 110, 3) := by decide +kernel
theorem dX11_next_61 : decode cX11_next 61 = .ok (.ifCond .eq 5, 3) := by decide +kernel
theorem dX11_next_64 : decode cX11_next 64 = .ok (.iload_n 2, 1) := by decide +kernel
theorem dX11_next_65 : decode cX11_next 65 = .ok (.istore_n 1, 1) := by decide +kernel
theorem dX11_next_66 : decode cX11_next 66 = .ok (.iinc 2 (-1), 3) := by decide +kernel
theorem dX11_next_69 : decode cX11_next 69 = .ok (.goto (-26), 3) := by decide +kernel
theorem dX11_next_72 : decode cX11_next 72 = .ok (.iload_n 1, 1) := by decide +kernel
theorem dX11_next_73 : decode cX11_next 73 = .ok (.ireturn, 1) := by decide +kernel
theorem dX11_next_74 : decode cX11_next 74 = .ok (.iconst 0, 1) := by decide +kernel
theorem dX11_next_75 : decode cX11_next 75 = .ok (.istore_n 2, 1) := by decide +kernel
theorem dX11_next_76 : decode cX11_next 76 = .ok (.iload_n 2, 1) := by decide +kernel
theorem dX11_next_77 : decode cX11_next 77 = .ok (.aload_n 0, 1) := by decide +kernel
theorem dX11_next_78 : decode cX11_next 78 = .ok (.getfield 95, 3) := by decide +kernel
theorem dX11_next_81 : decode cX11_next 81 = .ok (.if_icmp .ge 48, 3) := by decide +kernel
theorem dX11_next_84 : decode cX11_next 84 = .ok (.aload_n 0, 1) := by decide +kernel
theorem dX11_next_85 : decode cX11_next 85 = .ok (.getfield 16, 3) := by decide +kernel
theorem dX11_next_88 : decode cX11_next 88 = .ok (.iload_n 2, 1) := by decide +kernel
theorem dX11_next_89 : decode cX11_next 89 = .ok (.laload, 1) := by decide +kernel
theorem dX11_next_90 : decode cX11_next 90 = .ok (.aload_n 0, 1) := by decide +kernel
theorem dX11_next_91 : decode cX11_next 91 = .ok (.iload_n 2, 1) := by decide +kernel
theorem dX11_next_92 : decode cX11_next 92 = .ok (.invokevirtual 106, 3) := by decide +kernel
theorem dX11_next_95 : decode cX11_next 95 = .ok (.invokestatic 110, 3) := by decide +kernel
theorem dX11_next_98 : decode cX11_next 98 = .ok (.ifCond .eq 25, 3) := by decide +kernel
theorem dX11_next_101 : decode cX11_next 101 = .ok (.iload_n 1, 1) := by decide +kernel
theorem dX11_next_102 : decode cX11_next 102 = .ok (.ifCond .lt 19, 3) := by decide +kernel
theorem dX11_next_105 : decode cX11_next 105 = .ok (.aload_n 0, 1) := by decide +kernel
theorem dX11_next_106 : decode cX11_next 106 = .ok (.getfield 16, 3) := by decide +kernel
theorem dX11_next_109 : decode cX11_next 109 = .ok (.iload_n 2, 1) := by decide +kernel
theorem dX11_next_110 : decode cX11_next 110 = .ok (.laload, 1) := by decide +kernel
theorem dX11_next_111 : decode cX11_next 111 = .ok (.aload_n 0, 1) := by decide +kernel
theorem dX11_next_112 : decode cX11_next 112 = .ok (.getfield 16, 3) := by decide +kernel
theorem dX11_next_115 : decode cX11_next 115 = .ok (.iload_n 1, 1) := by decide +kernel
theorem dX11_next_116 : decode cX11_next 116 = .ok (.laload, 1) := by decide +kernel
theorem dX11_next_117 : decode cX11_next 117 = .ok (.lcmp, 1) := by decide +kernel
theorem dX11_next_118 : decode cX11_next 118 = .ok (.ifCond .le 5, 3) := by decide +kernel
theorem dX11_next_121 : decode cX11_next 121 = .ok (.iload_n 2, 1) := by decide +kernel
theorem dX11_next_122 : decode cX11_next 122 = .ok (.istore_n 1, 1) := by decide +kernel
theorem dX11_next_123 : decode cX11_next 123 = .ok (.iinc 2 1, 3) := by decide +kernel
theorem dX11_next_126 : decode cX11_next 126 = .ok (.goto (-50), 3) := by decide +kernel
theorem dX11_next_129 : decode cX11_next 129 = .ok (.iload_n 1, 1) := by decide +kernel
theorem dX11_next_130 : decode cX11_next 130 = .ok (.ireturn, 1) := by decide +kernel
theorem dX11_next_131 : decode cX11_next 131 = .ok (.aload_n 0, 1) := by decide +kernel
theorem dX11_next_132 : decode cX11_next 132 = .ok (.getfield 95, 3) := by decide +kernel
theorem dX11_next_135 : decode cX11_next 135 = .ok (.iconst 1, 1) := by decide +kernel
theorem dX11_next_136 : decode cX11_next 136 = .ok (.isub, 1) := by decide +kernel
theorem dX11_next_137 : decode cX11_next 137 = .ok (.istore_n 2, 1) := by decide +kernel
theorem dX11_next_138 : decode cX11_next 138 = .ok (.iload_n 2, 1) := by decide +kernel
theorem dX11_next_139 : decode cX11_next 139 = .ok (.ifCond .lt 43, 3) := by decide +kernel
theorem dX11_next_142 : decode cX11_next 142 = .ok (.aload_n 0, 1) := by decide +kernel
theorem dX11_next_143 : decode cX11_next 143 = .ok (.getfield 16, 3) := by decide +kernel
theorem dX11_next_146 : decode cX11_next 146 = .ok (.aload_n 0, 1) := by decide +kernel
theorem dX11_next_147 : decode cX11_next 147 = .ok (.getfield 27, 3) := by decide +kernel
theorem dX11_next_150 : decode cX11_next 150 = .ok (.iload_n 2, 1) := by decide +kernel
theorem dX11_next_151 : decode cX11_next 151 = .ok (.iaload, 1) := by decide +kernel
theorem dX11_next_152 : decode cX11_next 152 = .ok (.laload, 1) := by decide +kernel
theorem dX11_next_153 : decode cX11_next 153 = .ok (.aload_n 0, 1) := by decide +kernel
theorem dX11_next_154 : decode cX11_next 154 = .ok (.aload_n 0, 1) := by decide +kernel
theorem dX11_next_155 : decode cX11_next 155 = .ok (.getfield 27, 3) := by decide +kernel
theorem dX11_next_158 : decode cX11_next 158 = .ok (.iload_n 2, 1) := by decide +kernel
theorem dX11_next_159 : decode cX11_next 159 = .ok (.iaload, 1) := by decide +kernel
theorem dX11_next_160 : decode cX11_next 160 = .ok (.invokevirtual 106, 3) := by decide +kernel
theorem dX11_next_163 : decode cX11_next 163 = .ok (.invokestatic 110, 3) := by decide +kernel
theorem dX11_next_166 : decode cX11_next 166 = .ok (.ifCond .eq 10, 3) := by decide +kernel
theorem dX11_next_169 : decode cX11_next 169 = .ok (.aload_n 0, 1) := by decide +kernel
theorem dX11_next_170 : decode cX11_next 170 = .ok (.getfield 27, 3) := by decide +kernel
theorem dX11_next_173 : decode cX11_next 173 = .ok (.iload_n 2, 1) := by decide +kernel
theorem dX11_next_174 : decode cX11_next 174 = .ok (.iaload, 1) := by decide +kernel
theorem dX11_next_175 : decode cX11_next 175 = .ok (.istore_n 1, 1) := by decide +kernel
theorem dX11_next_176 : decode cX11_next 176 = .ok (.iinc 2 (-1), 3) := by decide +kernel
theorem dX11_next_179 : decode cX11_next 179 = .ok (.goto (-41), 3) := by decide +kernel
theorem dX11_next_182 : decode cX11_next 182 = .ok (.iload_n 1, 1) := by decide +kernel
theorem dX11_next_183 : decode cX11_next 183 = .ok (.ireturn, 1) := by decide +kernel
theorem dX11_next_184 : decode cX11_next 184 = .ok (.aload_n 0, 1) := by decide +kernel
theorem dX11_next_185 : decode cX11_next 185 = .ok (.aload_n 0, 1) := by decide +kernel
theorem dX11_next_186 : decode cX11_next 186 = .ok (.getfield 23, 3) := by decide +kernel
theorem dX11_next_189 : decode cX11_next 189 = .ok (.ldc2_w 172, 3) := by decide +kernel
theorem dX11_next_192 : decode cX11_next 192 = .ok (.lmul, 1) := by decide +kernel
theorem dX11_next_193 : decode cX11_next 193 = .ok (.ldc2_w 174, 3) := by decide +kernel
theorem dX11_next_196 : decode cX11_next 196 = .ok (.ladd, 1) := by decide +kernel
theorem dX11_next_197 : decode cX11_next 197 = .ok (.ldc2_w 176, 3) := by decide +kernel
theorem dX11_next_200 : decode cX11_next 200 = .ok (.lrem, 1) := by decide +kernel
theorem dX11_next_201 : decode cX11_next 201 = .ok (.putfield 23, 3) := by decide +kernel
theorem dX11_next_204 : decode cX11_next 204 = .ok (.aload_n 0, 1) := by decide +kernel
theorem dX11_next_205 : decode cX11_next 205 = .ok (.getfield 23, 3) := by decide +kernel
theorem dX11_next_208 : decode cX11_next 208 = .ok (.ldc2_w 178, 3) := by decide +kernel
theorem dX11_next_211 : decode cX11_next 211 = .ok (.ldiv, 1) := by decide +kernel
theorem dX11_next_212 : decode cX11_next 212 = .ok (.aload_n 0, 1) := by decide +kernel
theorem dX11_next_213 : decode cX11_next 213 = .ok (.invokevirtual 151, 3) := by decide +kernel
theorem dX11_next_216 : decode cX11_next 216 = .ok (.i2l, 1) := by decide +kernel
theorem dX11_next_217 : decode cX11_next 217 = .ok (.lrem, 1) := by decide +kernel
theorem dX11_next_218 : decode cX11_next 218 = .ok (.l2i, 1) := by decide +kernel
theorem dX11_next_219 : decode cX11_next 219 = .ok (.istore_n 2, 1) := by decide +kernel
theorem dX11_next_220 : decode cX11_next 220 = .ok (.iconst 0, 1) := by decide +kernel
theorem dX11_next_221 : decode cX11_next 221 = .ok (.istore_n 3, 1) := by decide +kernel
theorem dX11_next_222 : decode cX11_next 222 = .ok (.iload_n 3, 1) := by decide +kernel
theorem dX11_next_223 : decode cX11_next 223 = .ok (.aload_n 0, 1) := by decide +kernel
theorem dX11_next_224 : decode cX11_next 224 = .ok (.getfield 95, 3) := by decide +kernel
theorem dX11_next_227 : decode cX11_next 227 = .ok (.if_icmp .ge 38, 3) := by decide +kernel
theorem dX11_next_230 : decode cX11_next 230 = .ok (.aload_n 0, 1) := by decide +kernel
theorem dX11_next_231 : decode cX11_next 231 = .ok (.getfield 16, 3) := by decide +kernel
theorem dX11_next_234 : decode cX11_next 234 = .ok (.iload_n 3, 1) := by decide +kernel
theorem dX11_next_235 : decode cX11_next 235 = .ok (.laload, 1) := by decide +kernel
theorem dX11_next_236 : decode cX11_next 236 = .ok (.aload_n 0, 1) := by decide +kernel
theorem dX11_next_237 : decode cX11_next 237 = .ok (.iload_n 3, 1) := by decide +kernel
theorem dX11_next_238 : decode cX11_next 238 = .ok (.invokevirtual 106, 3) := by decide +kernel
theorem dX11_next_241 : decode cX11_next 241 = .ok (.invokestatic 110, 3) := by decide +kernel
theorem dX11_next_244 : decode cX11_next 244 = .ok (.ifCond .ne 6, 3) := by decide +kernel
theorem dX11_next_247 : decode cX11_next 247 = .ok (.goto 12, 3) := by decide +kernel
theorem dX11_next_250 : decode cX11_next 250 = .ok (.iload_n 2, 1) := by decide +kernel
theorem dX11_next_251 : decode cX11_next 251 = .ok (.ifCond .ne 5, 3) := by decide +kernel
theorem dX11_next_254 : decode cX11_next 254 = .ok (.iload_n 3, 1) := by decide +kernel
theorem dX11_next_255 : decode cX11_next 255 = .ok (.ireturn, 1) := by decide +kernel
theorem dX11_next_256 : decode cX11_next 256 = .ok (.iinc 2 (-1), 3) := by decide +kernel
theorem dX11_next_259 : decode cX11_next 259 = .ok (.iinc 3 1, 3) := by decide +kernel
theorem dX11_next_262 : decode cX11_next 262 = .ok (.goto (-40), 3) := by decide +kernel
theorem dX11_next_265 : decode cX11_next 265 = .ok (.iload_n 1, 1) := by decide +kernel
theorem dX11_next_266 : decode cX11_next 266 = .ok (.ireturn, 1) := by decide +kernel
theorem dX11_next_267 : decode cX11_next 267 = .ok (.iload_n 1, 1) := by decide +kernel
theorem dX11_next_268 : decode cX11_next 268 = .ok (.ifCond .ge 110, 3) := by decide +kernel
theorem dX11_next_271 : decode cX11_next 271 = .ok (.aload_n 0, 1) := by decide +kernel
theorem dX11_next_272 : decode cX11_next 272 = .ok (.getfield 131, 3) := by decide +kernel
theorem dX11_next_275 : decode cX11_next 275 = .ok (.ifCond .ne 34, 3) := by decide +kernel
theorem dX11_next_278 : decode cX11_next 278 = .ok (.iconst 0, 1) := by decide +kernel
theorem dX11_next_279 : decode cX11_next 279 = .ok (.istore_n 2, 1) := by decide +kernel
theorem dX11_next_280 : decode cX11_next 280 = .ok (.iload_n 2, 1) := by decide +kernel
theorem dX11_next_281 : decode cX11_next 281 = .ok (.aload_n 0, 1) := by decide +kernel
theorem dX11_next_282 : decode cX11_next 282 = .ok (.getfield 95, 3) := by decide +kernel
theorem dX11_next_285 : decode cX11_next 285 = .ok (.if_icmp .ge 16, 3) := by decide +kernel
theorem dX11_next_288 : decode cX11_next 288 = .ok (.aload_n 0, 1) := by decide +kernel
theorem dX11_next_289 : decode cX11_next 289 = .ok (.getfield 30, 3) := by decide +kernel
theorem dX11_next_292 : decode cX11_next 292 = .ok (.iload_n 2, 1) := by decide +kernel
theorem dX11_next_293 : decode cX11_next 293 = .ok (.iload_n 2, 1) := by decide +kernel
theorem dX11_next_294 : decode cX11_next 294 = .ok (.iastore, 1) := by decide +kernel
theorem dX11_next_295 : decode cX11_next 295 = .ok (.iinc 2 1, 3) := by decide +kernel
theorem dX11_next_298 : decode cX11_next 298 = .ok (.goto (-18), 3) := by decide +kernel
theorem dX11_next_301 : decode cX11_next 301 = .ok (.aload_n 0, 1) := by decide +kernel
theorem dX11_next_302 : decode cX11_next 302 = .ok (.aload_n 0, 1) := by decide +kernel
theorem dX11_next_303 : decode cX11_next 303 = .ok (.getfield 95, 3) := by decide +kernel
theorem dX11_next_306 : decode cX11_next 306 = .ok (.putfield 131, 3) := by decide +kernel
theorem dX11_next_309 : decode cX11_next 309 = .ok (.aload_n 0, 1) := by decide +kernel
theorem dX11_next_310 : decode cX11_next 310 = .ok (.getfield 30, 3) := by decide +kernel
theorem dX11_next_313 : decode cX11_next 313 = .ok (.iconst 0, 1) := by decide +kernel
theorem dX11_next_314 : decode cX11_next 314 = .ok (.iaload, 1) := by decide +kernel
theorem dX11_next_315 : decode cX11_next 315 = .ok (.istore_n 2, 1) := by decide +kernel
theorem dX11_next_316 : decode cX11_next 316 = .ok (.iconst 1, 1) := by decide +kernel
theorem dX11_next_317 : decode cX11_next 317 = .ok (.istore_n 3, 1) := by decide +kernel
theorem dX11_next_318 : decode cX11_next 318 = .ok (.iload_n 3, 1) := by decide +kernel
theorem dX11_next_319 : decode cX11_next 319 = .ok (.aload_n 0, 1) := by decide +kernel
theorem dX11_next_320 : decode cX11_next 320 = .ok (.getfield 131, 3) := by decide +kernel
theorem dX11_next_323 : decode cX11_next 323 = .ok (.if_icmp .ge 23, 3) := by decide +kernel
theorem dX11_next_326 : decode cX11_next 326 = .ok (.aload_n 0, 1) := by decide +kernel
theorem dX11_next_327 : decode cX11_next 327 = .ok (.getfield 30, 3) := by decide +kernel
theorem dX11_next_330 : decode cX11_next 330 = .ok (.iload_n 3, 1) := by decide +kernel
theorem dX11_next_331 : decode cX11_next 331 = .ok (.iconst 1, 1) := by decide +kernel
theorem dX11_next_332 : decode cX11_next 332 = .ok (.isub, 1) := by decide +kernel
theorem dX11_next_333 : decode cX11_next 333 = .ok (.aload_n 0, 1) := by decide +kernel
theorem dX11_next_334 : decode cX11_next 334 = .ok (.getfield 30, 3) := by decide +kernel
theorem dX11_next_337 : decode cX11_next 337 = .ok (.iload_n 3, 1) := by decide +kernel
theorem dX11_next_338 : decode cX11_next 338 = .ok (.iaload, 1) := by decide +kernel
theorem dX11_next_339 : decode cX11_next 339 = .ok (.iastore, 1) := by decide +kernel
theorem dX11_next_340 : decode cX11_next 340 = .ok (.iinc 3 1, 3) := by decide +kernel
theorem dX11_next_343 : decode cX11_next 343 = .ok (.goto (-25), 3) := by decide +kernel
theorem dX11_next_346 : decode cX11_next 346 = .ok (.aload_n 0, 1) := by decide +kernel
theorem dX11_next_347 : decode cX11_next 347 = .ok (.dup, 1) := by decide +kernel
theorem dX11_next_348 : decode cX11_next 348 = .ok (.getfield 131, 3) := by decide +kernel
theorem dX11_next_351 : decode cX11_next 351 = .ok (.iconst 1, 1) := by decide +kernel
theorem dX11_next_352 : decode cX11_next 352 = .ok (.isub, 1) := by decide +kernel
theorem dX11_next_353 : decode cX11_next 353 = .ok (.putfield 131, 3) := by decide +kernel
theorem dX11_next_356 : decode cX11_next 356 = .ok (.aload_n 0, 1) := by decide +kernel
theorem dX11_next_357 : decode cX11_next 357 = .ok (.getfield 16, 3) := by decide +kernel
theorem dX11_next_360 : decode cX11_next 360 = .ok (.iload_n 2, 1) := by decide +kernel
theorem dX11_next_361 : decode cX11_next 361 = .ok (.laload, 1) := by decide +kernel
theorem dX11_next_362 : decode cX11_next 362 = .ok (.aload_n 0, 1) := by decide +kernel
theorem dX11_next_363 : decode cX11_next 363 = .ok (.iload_n 2, 1) := by decide +kernel
theorem dX11_next_364 : decode cX11_next 364 = .ok (.invokevirtual 106, 3) := by decide +kernel
theorem dX11_next_367 : decode cX11_next 367 = .ok (.invokestatic 110, 3) := by decide +kernel
theorem dX11_next_370 : decode cX11_next 370 = .ok (.ifCond .eq 5, 3) := by decide +kernel
theorem dX11_next_373 : decode cX11_next 373 = .ok (.iload_n 2, 1) := by decide +kernel
theorem dX11_next_374 : decode cX11_next 374 = .ok (.istore_n 1, 1) := by decide +kernel
theorem dX11_next_375 : decode cX11_next 375 = .ok (.goto (-108), 3) := by decide +kernel
theorem dX11_next_378 : decode cX11_next 378 = .ok (.iload_n 1, 1) := by decide +kernel
theorem dX11_next_379 : decode cX11_next 379 = .ok (.ireturn, 1) := by decide +kernel
theorem dX11_asks_0 : decode cX11_asks 0 = .ok (.aload_n 0, 1) := by decide +kernel
theorem dX11_asks_1 : decode cX11_asks 1 = .ok (.getfield 7, 3) := by decide +kernel
theorem dX11_asks_4 : decode cX11_asks 4 = .ok (.iload_n 1, 1) := by decide +kernel
theorem dX11_asks_5 : decode cX11_asks 5 = .ok (.iaload, 1) := by decide +kernel
theorem dX11_asks_6 : decode cX11_asks 6 = .ok (.iconst 4, 1) := by decide +kernel
theorem dX11_asks_7 : decode cX11_asks 7 = .ok (.if_icmp .ne 89, 3) := by decide +kernel
theorem dX11_asks_10 : decode cX11_asks 10 = .ok (.aload_n 0, 1) := by decide +kernel
theorem dX11_asks_11 : decode cX11_asks 11 = .ok (.getfield 95, 3) := by decide +kernel
theorem dX11_asks_14 : decode cX11_asks 14 = .ok (.iconst 1, 1) := by decide +kernel
theorem dX11_asks_15 : decode cX11_asks 15 = .ok (.isub, 1) := by decide +kernel
theorem dX11_asks_16 : decode cX11_asks 16 = .ok (.istore_n 2, 1) := by decide +kernel
theorem dX11_asks_17 : decode cX11_asks 17 = .ok (.iload_n 2, 1) := by decide +kernel
theorem dX11_asks_18 : decode cX11_asks 18 = .ok (.ifCond .lt 75, 3) := by decide +kernel
theorem dX11_asks_21 : decode cX11_asks 21 = .ok (.aload_n 0, 1) := by decide +kernel
theorem dX11_asks_22 : decode cX11_asks 22 = .ok (.iload_n 1, 1) := by decide +kernel
theorem dX11_asks_23 : decode cX11_asks 23 = .ok (.iload_n 2, 1) := by decide +kernel
theorem dX11_asks_24 : decode cX11_asks 24 = .ok (.invokevirtual 102, 3) := by decide +kernel
theorem dX11_asks_27 : decode cX11_asks 27 = .ok (.ifCond .eq 60, 3) := by decide +kernel
theorem dX11_asks_30 : decode cX11_asks 30 = .ok (.aload_n 0, 1) := by decide +kernel
theorem dX11_asks_31 : decode cX11_asks 31 = .ok (.iload_n 2, 1) := by decide +kernel
theorem dX11_asks_32 : decode cX11_asks 32 = .ok (.invokevirtual 180, 3) := by decide +kernel
theorem dX11_asks_35 : decode cX11_asks 35 = .ok (.ifCond .eq 6, 3) := by decide +kernel
theorem dX11_asks_38 : decode cX11_asks 38 = .ok (.goto 49, 3) := by decide +kernel
theorem dX11_asks_41 : decode cX11_asks 41 = .ok (.aload_n 0, 1) := by decide +kernel
theorem dX11_asks_42 : decode cX11_asks 42 = .ok (.getfield 131, 3) := by decide +kernel
theorem dX11_asks_45 : decode cX11_asks 45 = .ok (.istore_n 3, 1) := by decide +kernel
theorem dX11_asks_46 : decode cX11_asks 46 = .ok (.iload_n 3, 1) := by decide +kernel
theorem dX11_asks_47 : decode cX11_asks 47 = .ok (.ifCond .le 23, 3) := by decide +kernel
theorem dX11_asks_50 : decode cX11_asks 50 = .ok (.aload_n 0, 1) := by decide +kernel
theorem dX11_asks_51 : decode cX11_asks 51 = .ok (.getfield 30, 3) := by decide +kernel
theorem dX11_asks_54 : decode cX11_asks 54 = .ok (.iload_n 3, 1) := by decide +kernel
theorem dX11_asks_55 : decode cX11_asks 55 = .ok (.aload_n 0, 1) := by decide +kernel
theorem dX11_asks_56 : decode cX11_asks 56 = .ok (.getfield 30, 3) := by decide +kernel
theorem dX11_asks_59 : decode cX11_asks 59 = .ok (.iload_n 3, 1) := by decide +kernel
theorem dX11_asks_60 : decode cX11_asks 60 = .ok (.iconst 1, 1) := by decide +kernel
theorem dX11_asks_61 : decode cX11_asks 61 = .ok (.isub, 1) := by decide +kernel
theorem dX11_asks_62 : decode cX11_asks 62 = .ok (.iaload, 1) := by decide +kernel
theorem dX11_asks_63 : decode cX11_asks 63 = .ok (.iastore, 1) := by decide +kernel
theorem dX11_asks_64 : decode cX11_asks 64 = .ok (.iinc 3 (-1), 3) := by decide +kernel
theorem dX11_asks_67 : decode cX11_asks 67 = .ok (.goto (-21), 3) := by decide +kernel
theorem dX11_asks_70 : decode cX11_asks 70 = .ok (.aload_n 0, 1) := by decide +kernel
theorem dX11_asks_71 : decode cX11_asks 71 = .ok (.getfield 30, 3) := by decide +kernel
theorem dX11_asks_74 : decode cX11_asks 74 = .ok (.iconst 0, 1) := by decide +kernel
theorem dX11_asks_75 : decode cX11_asks 75 = .ok (.iload_n 2, 1) := by decide +kernel
theorem dX11_asks_76 : decode cX11_asks 76 = .ok (.iastore, 1) := by decide +kernel
theorem dX11_asks_77 : decode cX11_asks 77 = .ok (.aload_n 0, 1) := by decide +kernel
theorem dX11_asks_78 : decode cX11_asks 78 = .ok (.dup, 1) := by decide +kernel
theorem dX11_asks_79 : decode cX11_asks 79 = .ok (.getfield 131, 3) := by decide +kernel
theorem dX11_asks_82 : decode cX11_asks 82 = .ok (.iconst 1, 1) := by decide +kernel
theorem dX11_asks_83 : decode cX11_asks 83 = .ok (.iadd, 1) := by decide +kernel
theorem dX11_asks_84 : decode cX11_asks 84 = .ok (.putfield 131, 3) := by decide +kernel
theorem dX11_asks_87 : decode cX11_asks 87 = .ok (.iinc 2 (-1), 3) := by decide +kernel
theorem dX11_asks_90 : decode cX11_asks 90 = .ok (.goto (-73), 3) := by decide +kernel
theorem dX11_asks_93 : decode cX11_asks 93 = .ok (.goto 59, 3) := by decide +kernel
theorem dX11_asks_96 : decode cX11_asks 96 = .ok (.iconst 0, 1) := by decide +kernel
theorem dX11_asks_97 : decode cX11_asks 97 = .ok (.istore_n 2, 1) := by decide +kernel
theorem dX11_asks_98 : decode cX11_asks 98 = .ok (.iload_n 2, 1) := by decide +kernel
theorem dX11_asks_99 : decode cX11_asks 99 = .ok (.aload_n 0, 1) := by decide +kernel
theorem dX11_asks_100 : decode cX11_asks 100 = .ok (.getfield 95, 3) := by decide +kernel
theorem dX11_asks_103 : decode cX11_asks 103 = .ok (.if_icmp .ge 49, 3) := by decide +kernel
theorem dX11_asks_106 : decode cX11_asks 106 = .ok (.aload_n 0, 1) := by decide +kernel
theorem dX11_asks_107 : decode cX11_asks 107 = .ok (.iload_n 1, 1) := by decide +kernel
theorem dX11_asks_108 : decode cX11_asks 108 = .ok (.iload_n 2, 1) := by decide +kernel
theorem dX11_asks_109 : decode cX11_asks 109 = .ok (.invokevirtual 102, 3) := by decide +kernel
theorem dX11_asks_112 : decode cX11_asks 112 = .ok (.ifCond .eq 34, 3) := by decide +kernel
theorem dX11_asks_115 : decode cX11_asks 115 = .ok (.aload_n 0, 1) := by decide +kernel
theorem dX11_asks_116 : decode cX11_asks 116 = .ok (.iload_n 2, 1) := by decide +kernel
theorem dX11_asks_117 : decode cX11_asks 117 = .ok (.invokevirtual 180, 3) := by decide +kernel
theorem dX11_asks_120 : decode cX11_asks 120 = .ok (.ifCond .eq 6, 3) := by decide +kernel
theorem dX11_asks_123 : decode cX11_asks 123 = .ok (.goto 23, 3) := by decide +kernel
theorem dX11_asks_126 : decode cX11_asks 126 = .ok (.aload_n 0, 1) := by decide +kernel
theorem dX11_asks_127 : decode cX11_asks 127 = .ok (.getfield 30, 3) := by decide +kernel
theorem dX11_asks_130 : decode cX11_asks 130 = .ok (.aload_n 0, 1) := by decide +kernel
theorem dX11_asks_131 : decode cX11_asks 131 = .ok (.getfield 131, 3) := by decide +kernel
theorem dX11_asks_134 : decode cX11_asks 134 = .ok (.iload_n 2, 1) := by decide +kernel
theorem dX11_asks_135 : decode cX11_asks 135 = .ok (.iastore, 1) := by decide +kernel
theorem dX11_asks_136 : decode cX11_asks 136 = .ok (.aload_n 0, 1) := by decide +kernel
theorem dX11_asks_137 : decode cX11_asks 137 = .ok (.dup, 1) := by decide +kernel
theorem dX11_asks_138 : decode cX11_asks 138 = .ok (.getfield 131, 3) := by decide +kernel
theorem dX11_asks_141 : decode cX11_asks 141 = .ok (.iconst 1, 1) := by decide +kernel
theorem dX11_asks_142 : decode cX11_asks 142 = .ok (.iadd, 1) := by decide +kernel
theorem dX11_asks_143 : decode cX11_asks 143 = .ok (.putfield 131, 3) := by decide +kernel
theorem dX11_asks_146 : decode cX11_asks 146 = .ok (.iinc 2 1, 3) := by decide +kernel
theorem dX11_asks_149 : decode cX11_asks 149 = .ok (.goto (-51), 3) := by decide +kernel
theorem dX11_asks_152 : decode cX11_asks 152 = .ok (.return_, 1) := by decide +kernel
theorem dX11_run_0 : decode cX11_run 0 = .ok (.iload_n 1, 1) := by decide +kernel
theorem dX11_run_1 : decode cX11_run 1 = .ok (.iconst 1, 1) := by decide +kernel
theorem dX11_run_2 : decode cX11_run 2 = .ok (.sipush 5000, 3) := by decide +kernel
theorem dX11_run_5 : decode cX11_run 5 = .ok (.invokestatic 98, 3) := by decide +kernel
theorem dX11_run_8 : decode cX11_run 8 = .ok (.ifCond .ne 9, 3) := by decide +kernel
theorem dX11_run_11 : decode cX11_run 11 = .ok (.aload_n 0, 1) := by decide +kernel
theorem dX11_run_12 : decode cX11_run 12 = .ok (.iconst (-1), 1) := by decide +kernel
theorem dX11_run_13 : decode cX11_run 13 = .ok (.invokevirtual 118, 3) := by decide +kernel
theorem dX11_run_16 : decode cX11_run 16 = .ok (.ireturn, 1) := by decide +kernel
theorem dX11_run_17 : decode cX11_run 17 = .ok (.aload_n 0, 1) := by decide +kernel
theorem dX11_run_18 : decode cX11_run 18 = .ok (.getfield 114, 3) := by decide +kernel
theorem dX11_run_21 : decode cX11_run 21 = .ok (.ifCond .ne 10, 3) := by decide +kernel
theorem dX11_run_24 : decode cX11_run 24 = .ok (.aload_n 0, 1) := by decide +kernel
theorem dX11_run_25 : decode cX11_run 25 = .ok (.bipush (-8), 2) := by decide +kernel
theorem dX11_run_27 : decode cX11_run 27 = .ok (.invokevirtual 118, 3) := by decide +kernel
theorem dX11_run_30 : decode cX11_run 30 = .ok (.ireturn, 1) := by decide +kernel
theorem dX11_run_31 : decode cX11_run 31 = .ok (.aload_n 0, 1) := by decide +kernel
theorem dX11_run_32 : decode cX11_run 32 = .ok (.invokevirtual 148, 3) := by decide +kernel
theorem dX11_run_35 : decode cX11_run 35 = .ok (.iconst 0, 1) := by decide +kernel
theorem dX11_run_36 : decode cX11_run 36 = .ok (.istore_n 2, 1) := by decide +kernel
theorem dX11_run_37 : decode cX11_run 37 = .ok (.aload_n 0, 1) := by decide +kernel
theorem dX11_run_38 : decode cX11_run 38 = .ok (.invokevirtual 151, 3) := by decide +kernel
theorem dX11_run_41 : decode cX11_run 41 = .ok (.ifCond .le 69, 3) := by decide +kernel
theorem dX11_run_44 : decode cX11_run 44 = .ok (.iload_n 2, 1) := by decide +kernel
theorem dX11_run_45 : decode cX11_run 45 = .ok (.iload_n 1, 1) := by decide +kernel
theorem dX11_run_46 : decode cX11_run 46 = .ok (.if_icmp .ge 64, 3) := by decide +kernel
theorem dX11_run_49 : decode cX11_run 49 = .ok (.aload_n 0, 1) := by decide +kernel
theorem dX11_run_50 : decode cX11_run 50 = .ok (.invokevirtual 183, 3) := by decide +kernel
theorem dX11_run_53 : decode cX11_run 53 = .ok (.istore_n 3, 1) := by decide +kernel
theorem dX11_run_54 : decode cX11_run 54 = .ok (.aload_n 0, 1) := by decide +kernel
theorem dX11_run_55 : decode cX11_run 55 = .ok (.aload_n 0, 1) := by decide +kernel
theorem dX11_run_56 : decode cX11_run 56 = .ok (.getfield 16, 3) := by decide +kernel
theorem dX11_run_59 : decode cX11_run 59 = .ok (.iload_n 3, 1) := by decide +kernel
theorem dX11_run_60 : decode cX11_run 60 = .ok (.invokevirtual 162, 3) := by decide +kernel
theorem dX11_run_63 : decode cX11_run 63 = .ok (.ifCond .eq 10, 3) := by decide +kernel
theorem dX11_run_66 : decode cX11_run 66 = .ok (.aload_n 0, 1) := by decide +kernel
theorem dX11_run_67 : decode cX11_run 67 = .ok (.bipush (-5), 2) := by decide +kernel
theorem dX11_run_69 : decode cX11_run 69 = .ok (.invokevirtual 118, 3) := by decide +kernel
theorem dX11_run_72 : decode cX11_run 72 = .ok (.ireturn, 1) := by decide +kernel
theorem dX11_run_73 : decode cX11_run 73 = .ok (.aload_n 0, 1) := by decide +kernel
theorem dX11_run_74 : decode cX11_run 74 = .ok (.getfield 20, 3) := by decide +kernel
theorem dX11_run_77 : decode cX11_run 77 = .ok (.iload_n 3, 1) := by decide +kernel
theorem dX11_run_78 : decode cX11_run 78 = .ok (.dup2, 1) := by decide +kernel
theorem dX11_run_79 : decode cX11_run 79 = .ok (.laload, 1) := by decide +kernel
theorem dX11_run_80 : decode cX11_run 80 = .ok (.aload_n 0, 1) := by decide +kernel
theorem dX11_run_81 : decode cX11_run 81 = .ok (.aload_n 0, 1) := by decide +kernel
theorem dX11_run_82 : decode cX11_run 82 = .ok (.getfield 16, 3) := by decide +kernel
theorem dX11_run_85 : decode cX11_run 85 = .ok (.iload_n 3, 1) := by decide +kernel
theorem dX11_run_86 : decode cX11_run 86 = .ok (.invokevirtual 166, 3) := by decide +kernel
theorem dX11_run_89 : decode cX11_run 89 = .ok (.ladd, 1) := by decide +kernel
theorem dX11_run_90 : decode cX11_run 90 = .ok (.lastore, 1) := by decide +kernel
theorem dX11_run_91 : decode cX11_run 91 = .ok (.aload_n 0, 1) := by decide +kernel
theorem dX11_run_92 : decode cX11_run 92 = .ok (.getfield 128, 3) := by decide +kernel
theorem dX11_run_95 : decode cX11_run 95 = .ok (.iconst 4, 1) := by decide +kernel
theorem dX11_run_96 : decode cX11_run 96 = .ok (.if_icmp .ne 8, 3) := by decide +kernel
theorem dX11_run_99 : decode cX11_run 99 = .ok (.aload_n 0, 1) := by decide +kernel
theorem dX11_run_100 : decode cX11_run 100 = .ok (.iload_n 3, 1) := by decide +kernel
theorem dX11_run_101 : decode cX11_run 101 = .ok (.invokevirtual 186, 3) := by decide +kernel
theorem dX11_run_104 : decode cX11_run 104 = .ok (.iinc 2 1, 3) := by decide +kernel
theorem dX11_run_107 : decode cX11_run 107 = .ok (.goto (-70), 3) := by decide +kernel
theorem dX11_run_110 : decode cX11_run 110 = .ok (.aload_n 0, 1) := by decide +kernel
theorem dX11_run_111 : decode cX11_run 111 = .ok (.invokevirtual 151, 3) := by decide +kernel
theorem dX11_run_114 : decode cX11_run 114 = .ok (.ifCond .le 12, 3) := by decide +kernel
theorem dX11_run_117 : decode cX11_run 117 = .ok (.aload_n 0, 1) := by decide +kernel
theorem dX11_run_118 : decode cX11_run 118 = .ok (.bipush (-9), 2) := by decide +kernel
theorem dX11_run_120 : decode cX11_run 120 = .ok (.invokevirtual 118, 3) := by decide +kernel
theorem dX11_run_123 : decode cX11_run 123 = .ok (.goto 4, 3) := by decide +kernel
theorem dX11_run_126 : decode cX11_run 126 = .ok (.iload_n 2, 1) := by decide +kernel
theorem dX11_run_127 : decode cX11_run 127 = .ok (.ireturn, 1) := by decide +kernel
theorem dX11_odometer_0 : decode cX11_odometer 0 = .ok (.aload_n 0, 1) := by decide +kernel
theorem dX11_odometer_1 : decode cX11_odometer 1 = .ok (.iload_n 1, 1) := by decide +kernel
theorem dX11_odometer_2 : decode cX11_odometer 2 = .ok (.invokevirtual 121, 3) := by decide +kernel
theorem dX11_odometer_5 : decode cX11_odometer 5 = .ok (.ifCond .eq 12, 3) := by decide +kernel
theorem dX11_odometer_8 : decode cX11_odometer 8 = .ok (.aload_n 0, 1) := by decide +kernel
theorem dX11_odometer_9 : decode cX11_odometer 9 = .ok (.getfield 20, 3) := by decide +kernel
theorem dX11_odometer_12 : decode cX11_odometer 12 = .ok (.iload_n 1, 1) := by decide +kernel
theorem dX11_odometer_13 : decode cX11_odometer 13 = .ok (.laload, 1) := by decide +kernel
theorem dX11_odometer_14 : decode cX11_odometer 14 = .ok (.goto 9, 3) := by decide +kernel
theorem dX11_odometer_17 : decode cX11_odometer 17 = .ok (.aload_n 0, 1) := by decide +kernel
theorem dX11_odometer_18 : decode cX11_odometer 18 = .ok (.iconst (-1), 1) := by decide +kernel
theorem dX11_odometer_19 : decode cX11_odometer 19 = .ok (.invokevirtual 118, 3) := by decide +kernel
theorem dX11_odometer_22 : decode cX11_odometer 22 = .ok (.i2l, 1) := by decide +kernel
theorem dX11_odometer_23 : decode cX11_odometer 23 = .ok (.lreturn, 1) := by decide +kernel
theorem dX11_reset_0 : decode cX11_reset 0 = .ok (.iconst 0, 1) := by decide +kernel
theorem dX11_reset_1 : decode cX11_reset 1 = .ok (.istore_n 1, 1) := by decide +kernel
theorem dX11_reset_2 : decode cX11_reset 2 = .ok (.iconst 0, 1) := by decide +kernel
theorem dX11_reset_3 : decode cX11_reset 3 = .ok (.istore_n 2, 1) := by decide +kernel
theorem dX11_reset_4 : decode cX11_reset 4 = .ok (.iload_n 2, 1) := by decide +kernel
theorem dX11_reset_5 : decode cX11_reset 5 = .ok (.bipush 12, 2) := by decide +kernel
theorem dX11_reset_7 : decode cX11_reset 7 = .ok (.if_icmp .ge 35, 3) := by decide +kernel
theorem dX11_reset_10 : decode cX11_reset 10 = .ok (.iload_n 1, 1) := by decide +kernel
theorem dX11_reset_11 : decode cX11_reset 11 = .ok (.aload_n 0, 1) := by decide +kernel
theorem dX11_reset_12 : decode cX11_reset 12 = .ok (.getfield 20, 3) := by decide +kernel
theorem dX11_reset_15 : decode cX11_reset 15 = .ok (.iload_n 2, 1) := by decide +kernel
theorem dX11_reset_16 : decode cX11_reset 16 = .ok (.laload, 1) := by decide +kernel
theorem dX11_reset_17 : decode cX11_reset 17 = .ok (.lconst 0, 1) := by decide +kernel
theorem dX11_reset_18 : decode cX11_reset 18 = .ok (.lcmp, 1) := by decide +kernel
theorem dX11_reset_19 : decode cX11_reset 19 = .ok (.ifCond .eq 7, 3) := by decide +kernel
theorem dX11_reset_22 : decode cX11_reset 22 = .ok (.iconst 1, 1) := by decide +kernel
theorem dX11_reset_23 : decode cX11_reset 23 = .ok (.goto 4, 3) := by decide +kernel
theorem dX11_reset_26 : decode cX11_reset 26 = .ok (.iconst 0, 1) := by decide +kernel
theorem dX11_reset_27 : decode cX11_reset 27 = .ok (.iadd, 1) := by decide +kernel
theorem dX11_reset_28 : decode cX11_reset 28 = .ok (.istore_n 1, 1) := by decide +kernel
theorem dX11_reset_29 : decode cX11_reset 29 = .ok (.aload_n 0, 1) := by decide +kernel
theorem dX11_reset_30 : decode cX11_reset 30 = .ok (.getfield 20, 3) := by decide +kernel
theorem dX11_reset_33 : decode cX11_reset 33 = .ok (.iload_n 2, 1) := by decide +kernel
theorem dX11_reset_34 : decode cX11_reset 34 = .ok (.lconst 0, 1) := by decide +kernel
theorem dX11_reset_35 : decode cX11_reset 35 = .ok (.lastore, 1) := by decide +kernel
theorem dX11_reset_36 : decode cX11_reset 36 = .ok (.iinc 2 1, 3) := by decide +kernel
theorem dX11_reset_39 : decode cX11_reset 39 = .ok (.goto (-35), 3) := by decide +kernel
theorem dX11_reset_42 : decode cX11_reset 42 = .ok (.aload_n 0, 1) := by decide +kernel
theorem dX11_reset_43 : decode cX11_reset 43 = .ok (.iconst 0, 1) := by decide +kernel
theorem dX11_reset_44 : decode cX11_reset 44 = .ok (.putfield 143, 3) := by decide +kernel
theorem dX11_reset_47 : decode cX11_reset 47 = .ok (.iload_n 1, 1) := by decide +kernel
theorem dX11_reset_48 : decode cX11_reset 48 = .ok (.ireturn, 1) := by decide +kernel
theorem dX11_isTwoWay_0 : decode cX11_isTwoWay 0 = .ok (.iconst 0, 1) := by decide +kernel
theorem dX11_isTwoWay_1 : decode cX11_isTwoWay 1 = .ok (.istore_n 1, 1) := by decide +kernel
theorem dX11_isTwoWay_2 : decode cX11_isTwoWay 2 = .ok (.iload_n 1, 1) := by decide +kernel
theorem dX11_isTwoWay_3 : decode cX11_isTwoWay 3 = .ok (.aload_n 0, 1) := by decide +kernel
theorem dX11_isTwoWay_4 : decode cX11_isTwoWay 4 = .ok (.getfield 95, 3) := by decide +kernel
theorem dX11_isTwoWay_7 : decode cX11_isTwoWay 7 = .ok (.if_icmp .ge 39, 3) := by decide +kernel
theorem dX11_isTwoWay_10 : decode cX11_isTwoWay 10 = .ok (.iconst 0, 1) := by decide +kernel
theorem dX11_isTwoWay_11 : decode cX11_isTwoWay 11 = .ok (.istore_n 2, 1) := by decide +kernel
theorem dX11_isTwoWay_12 : decode cX11_isTwoWay 12 = .ok (.iload_n 2, 1) := by decide +kernel
theorem dX11_isTwoWay_13 : decode cX11_isTwoWay 13 = .ok (.iload_n 1, 1) := by decide +kernel
theorem dX11_isTwoWay_14 : decode cX11_isTwoWay 14 = .ok (.if_icmp .ge 26, 3) := by decide +kernel
theorem dX11_isTwoWay_17 : decode cX11_isTwoWay 17 = .ok (.aload_n 0, 1) := by decide +kernel
theorem dX11_isTwoWay_18 : decode cX11_isTwoWay 18 = .ok (.iload_n 1, 1) := by decide +kernel
theorem dX11_isTwoWay_19 : decode cX11_isTwoWay 19 = .ok (.iload_n 2, 1) := by decide +kernel
theorem dX11_isTwoWay_20 : decode cX11_isTwoWay 20 = .ok (.invokevirtual 102, 3) := by decide +kernel
theorem dX11_isTwoWay_23 : decode cX11_isTwoWay 23 = .ok (.aload_n 0, 1) := by decide +kernel
theorem dX11_isTwoWay_24 : decode cX11_isTwoWay 24 = .ok (.iload_n 2, 1) := by decide +kernel
theorem dX11_isTwoWay_25 : decode cX11_isTwoWay 25 = .ok (.iload_n 1, 1) := by decide +kernel
theorem dX11_isTwoWay_26 : decode cX11_isTwoWay 26 = .ok (.invokevirtual 102, 3) := by decide +kernel
theorem dX11_isTwoWay_29 : decode cX11_isTwoWay 29 = .ok (.if_icmp .eq 5, 3) := by decide +kernel
theorem dX11_isTwoWay_32 : decode cX11_isTwoWay 32 = .ok (.iconst 0, 1) := by decide +kernel
theorem dX11_isTwoWay_33 : decode cX11_isTwoWay 33 = .ok (.ireturn, 1) := by decide +kernel
theorem dX11_isTwoWay_34 : decode cX11_isTwoWay 34 = .ok (.iinc 2 1, 3) := by decide +kernel
theorem dX11_isTwoWay_37 : decode cX11_isTwoWay 37 = .ok (.goto (-25), 3) := by decide +kernel
theorem dX11_isTwoWay_40 : decode cX11_isTwoWay 40 = .ok (.iinc 1 1, 3) := by decide +kernel
theorem dX11_isTwoWay_43 : decode cX11_isTwoWay 43 = .ok (.goto (-41), 3) := by decide +kernel
theorem dX11_isTwoWay_46 : decode cX11_isTwoWay 46 = .ok (.iconst 1, 1) := by decide +kernel
theorem dX11_isTwoWay_47 : decode cX11_isTwoWay 47 = .ok (.ireturn, 1) := by decide +kernel
theorem dX11_twoWay_0 : decode cX11_twoWay 0 = .ok (.aload_n 0, 1) := by decide +kernel
theorem dX11_twoWay_1 : decode cX11_twoWay 1 = .ok (.getfield 114, 3) := by decide +kernel
theorem dX11_twoWay_4 : decode cX11_twoWay 4 = .ok (.ifCond .ne 12, 3) := by decide +kernel
theorem dX11_twoWay_7 : decode cX11_twoWay 7 = .ok (.aload_n 0, 1) := by decide +kernel
theorem dX11_twoWay_8 : decode cX11_twoWay 8 = .ok (.bipush (-8), 2) := by decide +kernel
theorem dX11_twoWay_10 : decode cX11_twoWay 10 = .ok (.invokevirtual 118, 3) := by decide +kernel
theorem dX11_twoWay_13 : decode cX11_twoWay 13 = .ok (.goto 15, 3) := by decide +kernel
theorem dX11_twoWay_16 : decode cX11_twoWay 16 = .ok (.aload_n 0, 1) := by decide +kernel
theorem dX11_twoWay_17 : decode cX11_twoWay 17 = .ok (.invokevirtual 190, 3) := by decide +kernel
theorem dX11_twoWay_20 : decode cX11_twoWay 20 = .ok (.ifCond .eq 7, 3) := by decide +kernel
theorem dX11_twoWay_23 : decode cX11_twoWay 23 = .ok (.iconst 1, 1) := by decide +kernel
theorem dX11_twoWay_24 : decode cX11_twoWay 24 = .ok (.goto 4, 3) := by decide +kernel
theorem dX11_twoWay_27 : decode cX11_twoWay 27 = .ok (.iconst 0, 1) := by decide +kernel
theorem dX11_twoWay_28 : decode cX11_twoWay 28 = .ok (.ireturn, 1) := by decide +kernel
theorem dX11_burns_0 : decode cX11_burns 0 = .ok (.iconst 0, 1) := by decide +kernel
theorem dX11_burns_1 : decode cX11_burns 1 = .ok (.istore_n 2, 1) := by decide +kernel
theorem dX11_burns_2 : decode cX11_burns 2 = .ok (.iconst 0, 1) := by decide +kernel
theorem dX11_burns_3 : decode cX11_burns 3 = .ok (.istore_n 3, 1) := by decide +kernel
theorem dX11_burns_4 : decode cX11_burns 4 = .ok (.iconst 0, 1) := by decide +kernel
theorem dX11_burns_5 : decode cX11_burns 5 = .ok (.istore 4, 2) := by decide +kernel
theorem dX11_burns_7 : decode cX11_burns 7 = .ok (.iload 4, 2) := by decide +kernel
theorem dX11_burns_9 : decode cX11_burns 9 = .ok (.aload_n 0, 1) := by decide +kernel
theorem dX11_burns_10 : decode cX11_burns 10 = .ok (.getfield 95, 3) := by decide +kernel
theorem dX11_burns_13 : decode cX11_burns 13 = .ok (.if_icmp .ge 97, 3) := by decide +kernel
theorem dX11_burns_16 : decode cX11_burns 16 = .ok (.lconst 0, 1) := by decide +kernel
theorem dX11_burns_17 : decode cX11_burns 17 = .ok (.lstore 5, 2) := by decide +kernel
theorem dX11_burns_19 : decode cX11_burns 19 = .ok (.iconst 0, 1) := by decide +kernel
theorem dX11_burns_20 : decode cX11_burns 20 = .ok (.istore 7, 2) := by decide +kernel
theorem dX11_burns_22 : decode cX11_burns 22 = .ok (.iload 7, 2) := by decide +kernel
theorem dX11_burns_24 : decode cX11_burns 24 = .ok (.aload_n 0, 1) := by decide +kernel
theorem dX11_burns_25 : decode cX11_burns 25 = .ok (.getfield 95, 3) := by decide +kernel
theorem dX11_burns_28 : decode cX11_burns 28 = .ok (.if_icmp .ge 32, 3) := by decide +kernel
theorem dX11_burns_31 : decode cX11_burns 31 = .ok (.iload_n 2, 1) := by decide +kernel
theorem dX11_burns_32 : decode cX11_burns 32 = .ok (.iload 7, 2) := by decide +kernel
theorem dX11_burns_34 : decode cX11_burns 34 = .ok (.ishr, 1) := by decide +kernel
theorem dX11_burns_35 : decode cX11_burns 35 = .ok (.iconst 1, 1) := by decide +kernel
theorem dX11_burns_36 : decode cX11_burns 36 = .ok (.iand, 1) := by decide +kernel
theorem dX11_burns_37 : decode cX11_burns 37 = .ok (.ifCond .ne 17, 3) := by decide +kernel
theorem dX11_burns_40 : decode cX11_burns 40 = .ok (.lload 5, 2) := by decide +kernel
theorem dX11_burns_42 : decode cX11_burns 42 = .ok (.aload_n 0, 1) := by decide +kernel
theorem dX11_burns_43 : decode cX11_burns 43 = .ok (.iload 4, 2) := by decide +kernel
theorem dX11_burns_45 : decode cX11_burns 45 = .ok (.iload 7, 2) := by decide +kernel
theorem dX11_burns_47 : decode cX11_burns 47 = .ok (.invokevirtual 102, 3) := by decide +kernel
theorem dX11_burns_50 : decode cX11_burns 50 = .ok (.i2l, 1) := by decide +kernel
theorem dX11_burns_51 : decode cX11_burns 51 = .ok (.ladd, 1) := by decide +kernel
theorem dX11_burns_52 : decode cX11_burns 52 = .ok (.lstore 5, 2) := by decide +kernel
theorem dX11_burns_54 : decode cX11_burns 54 = .ok (.iinc 7 1, 3) := by decide +kernel
theorem dX11_burns_57 : decode cX11_burns 57 = .ok (.goto (-35), 3) := by decide +kernel
theorem dX11_burns_60 : decode cX11_burns 60 = .ok (.iload_n 2, 1) := by decide +kernel
theorem dX11_burns_61 : decode cX11_burns 61 = .ok (.iload 4, 2) := by decide +kernel
theorem dX11_burns_63 : decode cX11_burns 63 = .ok (.ishr, 1) := by decide +kernel
theorem dX11_burns_64 : decode cX11_burns 64 = .ok (.iconst 1, 1) := by decide +kernel
theorem dX11_burns_65 : decode cX11_burns 65 = .ok (.iand, 1) := by decide +kernel
theorem dX11_burns_66 : decode cX11_burns 66 = .ok (.iconst 1, 1) := by decide +kernel
theorem dX11_burns_67 : decode cX11_burns 67 = .ok (.if_icmp .eq 13, 3) := by decide +kernel
theorem dX11_burns_70 : decode cX11_burns 70 = .ok (.aload_n 1, 1) := by decide +kernel
theorem dX11_burns_71 : decode cX11_burns 71 = .ok (.iload 4, 2) := by decide +kernel
theorem dX11_burns_73 : decode cX11_burns 73 = .ok (.laload, 1) := by decide +kernel
theorem dX11_burns_74 : decode cX11_burns 74 = .ok (.lload 5, 2) := by decide +kernel
theorem dX11_burns_76 : decode cX11_burns 76 = .ok (.lcmp, 1) := by decide +kernel
theorem dX11_burns_77 : decode cX11_burns 77 = .ok (.ifCond .ge 9, 3) := by decide +kernel
theorem dX11_burns_80 : decode cX11_burns 80 = .ok (.iinc 4 1, 3) := by decide +kernel
theorem dX11_burns_83 : decode cX11_burns 83 = .ok (.goto (-76), 3) := by decide +kernel
theorem dX11_burns_86 : decode cX11_burns 86 = .ok (.iload_n 2, 1) := by decide +kernel
theorem dX11_burns_87 : decode cX11_burns 87 = .ok (.iconst 1, 1) := by decide +kernel
theorem dX11_burns_88 : decode cX11_burns 88 = .ok (.iload 4, 2) := by decide +kernel
theorem dX11_burns_90 : decode cX11_burns 90 = .ok (.ishl, 1) := by decide +kernel
theorem dX11_burns_91 : decode cX11_burns 91 = .ok (.ior, 1) := by decide +kernel
theorem dX11_burns_92 : decode cX11_burns 92 = .ok (.istore_n 2, 1) := by decide +kernel
theorem dX11_burns_93 : decode cX11_burns 93 = .ok (.aload_n 0, 1) := by decide +kernel
theorem dX11_burns_94 : decode cX11_burns 94 = .ok (.getfield 73, 3) := by decide +kernel
theorem dX11_burns_97 : decode cX11_burns 97 = .ok (.iload_n 3, 1) := by decide +kernel
theorem dX11_burns_98 : decode cX11_burns 98 = .ok (.iload 4, 2) := by decide +kernel
theorem dX11_burns_100 : decode cX11_burns 100 = .ok (.iastore, 1) := by decide +kernel
theorem dX11_burns_101 : decode cX11_burns 101 = .ok (.iinc 3 1, 3) := by decide +kernel
theorem dX11_burns_104 : decode cX11_burns 104 = .ok (.iconst 0, 1) := by decide +kernel
theorem dX11_burns_105 : decode cX11_burns 105 = .ok (.istore 4, 2) := by decide +kernel
theorem dX11_burns_107 : decode cX11_burns 107 = .ok (.goto (-100), 3) := by decide +kernel
theorem dX11_burns_110 : decode cX11_burns 110 = .ok (.iload_n 2, 1) := by decide +kernel
theorem dX11_burns_111 : decode cX11_burns 111 = .ok (.ireturn, 1) := by decide +kernel
theorem dX11_burn_0 : decode cX11_burn 0 = .ok (.aload_n 0, 1) := by decide +kernel
theorem dX11_burn_1 : decode cX11_burn 1 = .ok (.getfield 114, 3) := by decide +kernel
theorem dX11_burn_4 : decode cX11_burn 4 = .ok (.ifCond .eq 10, 3) := by decide +kernel
theorem dX11_burn_7 : decode cX11_burn 7 = .ok (.aload_n 0, 1) := by decide +kernel
theorem dX11_burn_8 : decode cX11_burn 8 = .ok (.invokevirtual 151, 3) := by decide +kernel
theorem dX11_burn_11 : decode cX11_burn 11 = .ok (.ifCond .le 10, 3) := by decide +kernel
theorem dX11_burn_14 : decode cX11_burn 14 = .ok (.aload_n 0, 1) := by decide +kernel
theorem dX11_burn_15 : decode cX11_burn 15 = .ok (.bipush (-8), 2) := by decide +kernel
theorem dX11_burn_17 : decode cX11_burn 17 = .ok (.invokevirtual 118, 3) := by decide +kernel
theorem dX11_burn_20 : decode cX11_burn 20 = .ok (.ireturn, 1) := by decide +kernel
theorem dX11_burn_21 : decode cX11_burn 21 = .ok (.aload_n 0, 1) := by decide +kernel
theorem dX11_burn_22 : decode cX11_burn 22 = .ok (.invokevirtual 190, 3) := by decide +kernel
theorem dX11_burn_25 : decode cX11_burn 25 = .ok (.ifCond .ne 10, 3) := by decide +kernel
theorem dX11_burn_28 : decode cX11_burn 28 = .ok (.aload_n 0, 1) := by decide +kernel
theorem dX11_burn_29 : decode cX11_burn 29 = .ok (.bipush (-12), 2) := by decide +kernel
theorem dX11_burn_31 : decode cX11_burn 31 = .ok (.invokevirtual 118, 3) := by decide +kernel
theorem dX11_burn_34 : decode cX11_burn 34 = .ok (.ireturn, 1) := by decide +kernel
theorem dX11_burn_35 : decode cX11_burn 35 = .ok (.aload_n 0, 1) := by decide +kernel
theorem dX11_burn_36 : decode cX11_burn 36 = .ok (.aload_n 0, 1) := by decide +kernel
theorem dX11_burn_37 : decode cX11_burn 37 = .ok (.getfield 16, 3) := by decide +kernel
theorem dX11_burn_40 : decode cX11_burn 40 = .ok (.invokevirtual 194, 3) := by decide +kernel
theorem dX11_burn_43 : decode cX11_burn 43 = .ok (.istore_n 1, 1) := by decide +kernel
theorem dX11_burn_44 : decode cX11_burn 44 = .ok (.aload_n 0, 1) := by decide +kernel
theorem dX11_burn_45 : decode cX11_burn 45 = .ok (.iconst 0, 1) := by decide +kernel
theorem dX11_burn_46 : decode cX11_burn 46 = .ok (.putfield 134, 3) := by decide +kernel
theorem dX11_burn_49 : decode cX11_burn 49 = .ok (.iconst 0, 1) := by decide +kernel
theorem dX11_burn_50 : decode cX11_burn 50 = .ok (.istore_n 2, 1) := by decide +kernel
theorem dX11_burn_51 : decode cX11_burn 51 = .ok (.iload_n 2, 1) := by decide +kernel
theorem dX11_burn_52 : decode cX11_burn 52 = .ok (.aload_n 0, 1) := by decide +kernel
theorem dX11_burn_53 : decode cX11_burn 53 = .ok (.getfield 95, 3) := by decide +kernel
theorem dX11_burn_56 : decode cX11_burn 56 = .ok (.if_icmp .ge 23, 3) := by decide +kernel
theorem dX11_burn_59 : decode cX11_burn 59 = .ok (.aload_n 0, 1) := by decide +kernel
theorem dX11_burn_60 : decode cX11_burn 60 = .ok (.dup, 1) := by decide +kernel
theorem dX11_burn_61 : decode cX11_burn 61 = .ok (.getfield 134, 3) := by decide +kernel
theorem dX11_burn_64 : decode cX11_burn 64 = .ok (.iload_n 1, 1) := by decide +kernel
theorem dX11_burn_65 : decode cX11_burn 65 = .ok (.iload_n 2, 1) := by decide +kernel
theorem dX11_burn_66 : decode cX11_burn 66 = .ok (.ishr, 1) := by decide +kernel
theorem dX11_burn_67 : decode cX11_burn 67 = .ok (.iconst 1, 1) := by decide +kernel
theorem dX11_burn_68 : decode cX11_burn 68 = .ok (.iand, 1) := by decide +kernel
theorem dX11_burn_69 : decode cX11_burn 69 = .ok (.iadd, 1) := by decide +kernel
theorem dX11_burn_70 : decode cX11_burn 70 = .ok (.putfield 134, 3) := by decide +kernel
theorem dX11_burn_73 : decode cX11_burn 73 = .ok (.iinc 2 1, 3) := by decide +kernel
theorem dX11_burn_76 : decode cX11_burn 76 = .ok (.goto (-25), 3) := by decide +kernel
theorem dX11_burn_79 : decode cX11_burn 79 = .ok (.iconst 0, 1) := by decide +kernel
theorem dX11_burn_80 : decode cX11_burn 80 = .ok (.istore_n 2, 1) := by decide +kernel
theorem dX11_burn_81 : decode cX11_burn 81 = .ok (.iload_n 2, 1) := by decide +kernel
theorem dX11_burn_82 : decode cX11_burn 82 = .ok (.aload_n 0, 1) := by decide +kernel
theorem dX11_burn_83 : decode cX11_burn 83 = .ok (.getfield 134, 3) := by decide +kernel
theorem dX11_burn_86 : decode cX11_burn 86 = .ok (.if_icmp .ge 21, 3) := by decide +kernel
theorem dX11_burn_89 : decode cX11_burn 89 = .ok (.aload_n 0, 1) := by decide +kernel
theorem dX11_burn_90 : decode cX11_burn 90 = .ok (.getfield 33, 3) := by decide +kernel
theorem dX11_burn_93 : decode cX11_burn 93 = .ok (.iload_n 2, 1) := by decide +kernel
theorem dX11_burn_94 : decode cX11_burn 94 = .ok (.aload_n 0, 1) := by decide +kernel
theorem dX11_burn_95 : decode cX11_burn 95 = .ok (.getfield 73, 3) := by decide +kernel
theorem dX11_burn_98 : decode cX11_burn 98 = .ok (.iload_n 2, 1) := by decide +kernel
theorem dX11_burn_99 : decode cX11_burn 99 = .ok (.iaload, 1) := by decide +kernel
theorem dX11_burn_100 : decode cX11_burn 100 = .ok (.iastore, 1) := by decide +kernel
theorem dX11_burn_101 : decode cX11_burn 101 = .ok (.iinc 2 1, 3) := by decide +kernel
theorem dX11_burn_104 : decode cX11_burn 104 = .ok (.goto (-23), 3) := by decide +kernel
theorem dX11_burn_107 : decode cX11_burn 107 = .ok (.aload_n 0, 1) := by decide +kernel
theorem dX11_burn_108 : decode cX11_burn 108 = .ok (.iconst 1, 1) := by decide +kernel
theorem dX11_burn_109 : decode cX11_burn 109 = .ok (.aload_n 0, 1) := by decide +kernel
theorem dX11_burn_110 : decode cX11_burn 110 = .ok (.getfield 95, 3) := by decide +kernel
theorem dX11_burn_113 : decode cX11_burn 113 = .ok (.ishl, 1) := by decide +kernel
theorem dX11_burn_114 : decode cX11_burn 114 = .ok (.iconst 1, 1) := by decide +kernel
theorem dX11_burn_115 : decode cX11_burn 115 = .ok (.isub, 1) := by decide +kernel
theorem dX11_burn_116 : decode cX11_burn 116 = .ok (.iload_n 1, 1) := by decide +kernel
theorem dX11_burn_117 : decode cX11_burn 117 = .ok (.isub, 1) := by decide +kernel
theorem dX11_burn_118 : decode cX11_burn 118 = .ok (.putfield 137, 3) := by decide +kernel
theorem dX11_burn_121 : decode cX11_burn 121 = .ok (.aload_n 0, 1) := by decide +kernel
theorem dX11_burn_122 : decode cX11_burn 122 = .ok (.getfield 137, 3) := by decide +kernel
theorem dX11_burn_125 : decode cX11_burn 125 = .ok (.ifCond .ne 7, 3) := by decide +kernel
theorem dX11_burn_128 : decode cX11_burn 128 = .ok (.iconst 1, 1) := by decide +kernel
theorem dX11_burn_129 : decode cX11_burn 129 = .ok (.goto 4, 3) := by decide +kernel
theorem dX11_burn_132 : decode cX11_burn 132 = .ok (.iconst 0, 1) := by decide +kernel
theorem dX11_burn_133 : decode cX11_burn 133 = .ok (.ireturn, 1) := by decide +kernel
theorem dX11_burnt_0 : decode cX11_burnt 0 = .ok (.iload_n 1, 1) := by decide +kernel
theorem dX11_burnt_1 : decode cX11_burnt 1 = .ok (.iconst (-1), 1) := by decide +kernel
theorem dX11_burnt_2 : decode cX11_burnt 2 = .ok (.aload_n 0, 1) := by decide +kernel
theorem dX11_burnt_3 : decode cX11_burnt 3 = .ok (.getfield 134, 3) := by decide +kernel
theorem dX11_burnt_6 : decode cX11_burnt 6 = .ok (.iconst 1, 1) := by decide +kernel
theorem dX11_burnt_7 : decode cX11_burnt 7 = .ok (.isub, 1) := by decide +kernel
theorem dX11_burnt_8 : decode cX11_burnt 8 = .ok (.invokestatic 98, 3) := by decide +kernel
theorem dX11_burnt_11 : decode cX11_burnt 11 = .ok (.ifCond .ne 10, 3) := by decide +kernel
theorem dX11_burnt_14 : decode cX11_burnt 14 = .ok (.aload_n 0, 1) := by decide +kernel
theorem dX11_burnt_15 : decode cX11_burnt 15 = .ok (.bipush (-11), 2) := by decide +kernel
theorem dX11_burnt_17 : decode cX11_burnt 17 = .ok (.invokevirtual 118, 3) := by decide +kernel
theorem dX11_burnt_20 : decode cX11_burnt 20 = .ok (.ireturn, 1) := by decide +kernel
theorem dX11_burnt_21 : decode cX11_burnt 21 = .ok (.iload_n 1, 1) := by decide +kernel
theorem dX11_burnt_22 : decode cX11_burnt 22 = .ok (.ifCond .ge 10, 3) := by decide +kernel
theorem dX11_burnt_25 : decode cX11_burnt 25 = .ok (.aload_n 0, 1) := by decide +kernel
theorem dX11_burnt_26 : decode cX11_burnt 26 = .ok (.getfield 137, 3) := by decide +kernel
theorem dX11_burnt_29 : decode cX11_burnt 29 = .ok (.goto 9, 3) := by decide +kernel
theorem dX11_burnt_32 : decode cX11_burnt 32 = .ok (.aload_n 0, 1) := by decide +kernel
theorem dX11_burnt_33 : decode cX11_burnt 33 = .ok (.getfield 33, 3) := by decide +kernel
theorem dX11_burnt_36 : decode cX11_burnt 36 = .ok (.iload_n 1, 1) := by decide +kernel
theorem dX11_burnt_37 : decode cX11_burnt 37 = .ok (.iaload, 1) := by decide +kernel
theorem dX11_burnt_38 : decode cX11_burnt 38 = .ok (.ireturn, 1) := by decide +kernel
theorem dX11_isSlot_0 : decode cX11_isSlot 0 = .ok (.iload_n 0, 1) := by decide +kernel
theorem dX11_isSlot_1 : decode cX11_isSlot 1 = .ok (.iconst 0, 1) := by decide +kernel
theorem dX11_isSlot_2 : decode cX11_isSlot 2 = .ok (.bipush 7, 2) := by decide +kernel
theorem dX11_isSlot_4 : decode cX11_isSlot 4 = .ok (.invokestatic 98, 3) := by decide +kernel
theorem dX11_isSlot_7 : decode cX11_isSlot 7 = .ok (.ireturn, 1) := by decide +kernel
theorem dX11_stored_0 : decode cX11_stored 0 = .ok (.lconst 0, 1) := by decide +kernel
theorem dX11_stored_1 : decode cX11_stored 1 = .ok (.lstore_n 3, 1) := by decide +kernel
theorem dX11_stored_2 : decode cX11_stored 2 = .ok (.iconst 0, 1) := by decide +kernel
theorem dX11_stored_3 : decode cX11_stored 3 = .ok (.istore 5, 2) := by decide +kernel
theorem dX11_stored_5 : decode cX11_stored 5 = .ok (.iload 5, 2) := by decide +kernel
theorem dX11_stored_7 : decode cX11_stored 7 = .ok (.bipush 12, 2) := by decide +kernel
theorem dX11_stored_9 : decode cX11_stored 9 = .ok (.if_icmp .ge 53, 3) := by decide +kernel
theorem dX11_stored_12 : decode cX11_stored 12 = .ok (.aload_n 0, 1) := by decide +kernel
theorem dX11_stored_13 : decode cX11_stored 13 = .ok (.getfield 36, 3) := by decide +kernel
theorem dX11_stored_16 : decode cX11_stored 16 = .ok (.bipush 12, 2) := by decide +kernel
theorem dX11_stored_18 : decode cX11_stored 18 = .ok (.iload_n 1, 1) := by decide +kernel
theorem dX11_stored_19 : decode cX11_stored 19 = .ok (.imul, 1) := by decide +kernel
theorem dX11_stored_20 : decode cX11_stored 20 = .ok (.iload 5, 2) := by decide +kernel
theorem dX11_stored_22 : decode cX11_stored 22 = .ok (.iadd, 1) := by decide +kernel
theorem dX11_stored_23 : decode cX11_stored 23 = .ok (.iload 5, 2) := by decide +kernel
theorem dX11_stored_25 : decode cX11_stored 25 = .ok (.aload_n 0, 1) := by decide +kernel
theorem dX11_stored_26 : decode cX11_stored 26 = .ok (.getfield 95, 3) := by decide +kernel
theorem dX11_stored_29 : decode cX11_stored 29 = .ok (.if_icmp .ge 10, 3) := by decide +kernel
theorem dX11_stored_32 : decode cX11_stored 32 = .ok (.aload_n 2, 1) := by decide +kernel
theorem dX11_stored_33 : decode cX11_stored 33 = .ok (.iload 5, 2) := by decide +kernel
theorem dX11_stored_35 : decode cX11_stored 35 = .ok (.laload, 1) := by decide +kernel
theorem dX11_stored_36 : decode cX11_stored 36 = .ok (.goto 4, 3) := by decide +kernel
theorem dX11_stored_39 : decode cX11_stored 39 = .ok (.lconst 0, 1) := by decide +kernel
theorem dX11_stored_40 : decode cX11_stored 40 = .ok (.lastore, 1) := by decide +kernel
theorem dX11_stored_41 : decode cX11_stored 41 = .ok (.lload_n 3, 1) := by decide +kernel
theorem dX11_stored_42 : decode cX11_stored 42 = .ok (.aload_n 0, 1) := by decide +kernel
theorem dX11_stored_43 : decode cX11_stored 43 = .ok (.getfield 36, 3) := by decide +kernel
theorem dX11_stored_46 : decode cX11_stored 46 = .ok (.bipush 12, 2) := by decide +kernel
theorem dX11_stored_48 : decode cX11_stored 48 = .ok (.iload_n 1, 1) := by decide +kernel
theorem dX11_stored_49 : decode cX11_stored 49 = .ok (.imul, 1) := by decide +kernel
theorem dX11_stored_50 : decode cX11_stored 50 = .ok (.iload 5, 2) := by decide +kernel
theorem dX11_stored_52 : decode cX11_stored 52 = .ok (.iadd, 1) := by decide +kernel
theorem dX11_stored_53 : decode cX11_stored 53 = .ok (.laload, 1) := by decide +kernel
theorem dX11_stored_54 : decode cX11_stored 54 = .ok (.ladd, 1) := by decide +kernel
theorem dX11_stored_55 : decode cX11_stored 55 = .ok (.lstore_n 3, 1) := by decide +kernel
theorem dX11_stored_56 : decode cX11_stored 56 = .ok (.iinc 5 1, 3) := by decide +kernel
theorem dX11_stored_59 : decode cX11_stored 59 = .ok (.goto (-54), 3) := by decide +kernel
theorem dX11_stored_62 : decode cX11_stored 62 = .ok (.aload_n 0, 1) := by decide +kernel
theorem dX11_stored_63 : decode cX11_stored 63 = .ok (.getfield 39, 3) := by decide +kernel
theorem dX11_stored_66 : decode cX11_stored 66 = .ok (.iload_n 1, 1) := by decide +kernel
theorem dX11_stored_67 : decode cX11_stored 67 = .ok (.iconst 1, 1) := by decide +kernel
theorem dX11_stored_68 : decode cX11_stored 68 = .ok (.bastore, 1) := by decide +kernel
theorem dX11_stored_69 : decode cX11_stored 69 = .ok (.lload_n 3, 1) := by decide +kernel
theorem dX11_stored_70 : decode cX11_stored 70 = .ok (.l2i, 1) := by decide +kernel
theorem dX11_stored_71 : decode cX11_stored 71 = .ok (.ireturn, 1) := by decide +kernel
theorem dX11_keep_0 : decode cX11_keep 0 = .ok (.iload_n 1, 1) := by decide +kernel
theorem dX11_keep_1 : decode cX11_keep 1 = .ok (.invokestatic 198, 3) := by decide +kernel
theorem dX11_keep_4 : decode cX11_keep 4 = .ok (.ifCond .ne 9, 3) := by decide +kernel
theorem dX11_keep_7 : decode cX11_keep 7 = .ok (.aload_n 0, 1) := by decide +kernel
theorem dX11_keep_8 : decode cX11_keep 8 = .ok (.iconst (-1), 1) := by decide +kernel
theorem dX11_keep_9 : decode cX11_keep 9 = .ok (.invokevirtual 118, 3) := by decide +kernel
theorem dX11_keep_12 : decode cX11_keep 12 = .ok (.ireturn, 1) := by decide +kernel
theorem dX11_keep_13 : decode cX11_keep 13 = .ok (.aload_n 0, 1) := by decide +kernel
theorem dX11_keep_14 : decode cX11_keep 14 = .ok (.getfield 114, 3) := by decide +kernel
theorem dX11_keep_17 : decode cX11_keep 17 = .ok (.ifCond .ne 10, 3) := by decide +kernel
theorem dX11_keep_20 : decode cX11_keep 20 = .ok (.aload_n 0, 1) := by decide +kernel
theorem dX11_keep_21 : decode cX11_keep 21 = .ok (.bipush (-8), 2) := by decide +kernel
theorem dX11_keep_23 : decode cX11_keep 23 = .ok (.invokevirtual 118, 3) := by decide +kernel
theorem dX11_keep_26 : decode cX11_keep 26 = .ok (.ireturn, 1) := by decide +kernel
theorem dX11_keep_27 : decode cX11_keep 27 = .ok (.aload_n 0, 1) := by decide +kernel
theorem dX11_keep_28 : decode cX11_keep 28 = .ok (.iload_n 1, 1) := by decide +kernel
theorem dX11_keep_29 : decode cX11_keep 29 = .ok (.aload_n 0, 1) := by decide +kernel
theorem dX11_keep_30 : decode cX11_keep 30 = .ok (.getfield 16, 3) := by decide +kernel
theorem dX11_keep_33 : decode cX11_keep 33 = .ok (.invokevirtual 201, 3) := by decide +kernel
theorem dX11_keep_36 : decode cX11_keep 36 = .ok (.ireturn, 1) := by decide +kernel
theorem dX11_bring_0 : decode cX11_bring 0 = .ok (.iload_n 1, 1) := by decide +kernel
theorem dX11_bring_1 : decode cX11_bring 1 = .ok (.invokestatic 198, 3) := by decide +kernel
theorem dX11_bring_4 : decode cX11_bring 4 = .ok (.ifCond .ne 9, 3) := by decide +kernel
theorem dX11_bring_7 : decode cX11_bring 7 = .ok (.aload_n 0, 1) := by decide +kernel
theorem dX11_bring_8 : decode cX11_bring 8 = .ok (.iconst (-1), 1) := by decide +kernel
theorem dX11_bring_9 : decode cX11_bring 9 = .ok (.invokevirtual 118, 3) := by decide +kernel
theorem dX11_bring_12 : decode cX11_bring 12 = .ok (.ireturn, 1) := by decide +kernel
theorem dX11_bring_13 : decode cX11_bring 13 = .ok (.aload_n 0, 1) := by decide +kernel
theorem dX11_bring_14 : decode cX11_bring 14 = .ok (.getfield 39, 3) := by decide +kernel
theorem dX11_bring_17 : decode cX11_bring 17 = .ok (.iload_n 1, 1) := by decide +kernel
theorem dX11_bring_18 : decode cX11_bring 18 = .ok (.baload, 1) := by decide +kernel
theorem dX11_bring_19 : decode cX11_bring 19 = .ok (.ifCond .ne 10, 3) := by decide +kernel
theorem dX11_bring_22 : decode cX11_bring 22 = .ok (.aload_n 0, 1) := by decide +kernel
theorem dX11_bring_23 : decode cX11_bring 23 = .ok (.bipush (-11), 2) := by decide +kernel
theorem dX11_bring_25 : decode cX11_bring 25 = .ok (.invokevirtual 118, 3) := by decide +kernel
theorem dX11_bring_28 : decode cX11_bring 28 = .ok (.ireturn, 1) := by decide +kernel
theorem dX11_bring_29 : decode cX11_bring 29 = .ok (.aload_n 0, 1) := by decide +kernel
theorem dX11_bring_30 : decode cX11_bring 30 = .ok (.getfield 114, 3) := by decide +kernel
theorem dX11_bring_33 : decode cX11_bring 33 = .ok (.ifCond .ne 10, 3) := by decide +kernel
theorem dX11_bring_36 : decode cX11_bring 36 = .ok (.aload_n 0, 1) := by decide +kernel
theorem dX11_bring_37 : decode cX11_bring 37 = .ok (.bipush (-8), 2) := by decide +kernel
theorem dX11_bring_39 : decode cX11_bring 39 = .ok (.invokevirtual 118, 3) := by decide +kernel
theorem dX11_bring_42 : decode cX11_bring 42 = .ok (.ireturn, 1) := by decide +kernel
theorem dX11_bring_43 : decode cX11_bring 43 = .ok (.lconst 0, 1) := by decide +kernel
theorem dX11_bring_44 : decode cX11_bring 44 = .ok (.lstore_n 2, 1) := by decide +kernel
theorem dX11_bring_45 : decode cX11_bring 45 = .ok (.iconst 0, 1) := by decide +kernel
theorem dX11_bring_46 : decode cX11_bring 46 = .ok (.istore 4, 2) := by decide +kernel
theorem dX11_bring_48 : decode cX11_bring 48 = .ok (.iload 4, 2) := by decide +kernel
theorem dX11_bring_50 : decode cX11_bring 50 = .ok (.aload_n 0, 1) := by decide +kernel
theorem dX11_bring_51 : decode cX11_bring 51 = .ok (.getfield 95, 3) := by decide +kernel
theorem dX11_bring_54 : decode cX11_bring 54 = .ok (.if_icmp .ge 38, 3) := by decide +kernel
theorem dX11_bring_57 : decode cX11_bring 57 = .ok (.aload_n 0, 1) := by decide +kernel
theorem dX11_bring_58 : decode cX11_bring 58 = .ok (.getfield 16, 3) := by decide +kernel
theorem dX11_bring_61 : decode cX11_bring 61 = .ok (.iload 4, 2) := by decide +kernel
theorem dX11_bring_63 : decode cX11_bring 63 = .ok (.aload_n 0, 1) := by decide +kernel
theorem dX11_bring_64 : decode cX11_bring 64 = .ok (.getfield 36, 3) := by decide +kernel
theorem dX11_bring_67 : decode cX11_bring 67 = .ok (.bipush 12, 2) := by decide +kernel
theorem dX11_bring_69 : decode cX11_bring 69 = .ok (.iload_n 1, 1) := by decide +kernel
theorem dX11_bring_70 : decode cX11_bring 70 = .ok (.imul, 1) := by decide +kernel
theorem dX11_bring_71 : decode cX11_bring 71 = .ok (.iload 4, 2) := by decide +kernel
theorem dX11_bring_73 : decode cX11_bring 73 = .ok (.iadd, 1) := by decide +kernel
theorem dX11_bring_74 : decode cX11_bring 74 = .ok (.laload, 1) := by decide +kernel
theorem dX11_bring_75 : decode cX11_bring 75 = .ok (.lastore, 1) := by decide +kernel
theorem dX11_bring_76 : decode cX11_bring 76 = .ok (.lload_n 2, 1) := by decide +kernel
theorem dX11_bring_77 : decode cX11_bring 77 = .ok (.aload_n 0, 1) := by decide +kernel
theorem dX11_bring_78 : decode cX11_bring 78 = .ok (.getfield 16, 3) := by decide +kernel
theorem dX11_bring_81 : decode cX11_bring 81 = .ok (.iload 4, 2) := by decide +kernel
theorem dX11_bring_83 : decode cX11_bring 83 = .ok (.laload, 1) := by decide +kernel
theorem dX11_bring_84 : decode cX11_bring 84 = .ok (.ladd, 1) := by decide +kernel
theorem dX11_bring_85 : decode cX11_bring 85 = .ok (.lstore_n 2, 1) := by decide +kernel
theorem dX11_bring_86 : decode cX11_bring 86 = .ok (.iinc 4 1, 3) := by decide +kernel
theorem dX11_bring_89 : decode cX11_bring 89 = .ok (.goto (-41), 3) := by decide +kernel
theorem dX11_bring_92 : decode cX11_bring 92 = .ok (.aload_n 0, 1) := by decide +kernel
theorem dX11_bring_93 : decode cX11_bring 93 = .ok (.iconst 0, 1) := by decide +kernel
theorem dX11_bring_94 : decode cX11_bring 94 = .ok (.putfield 143, 3) := by decide +kernel
theorem dX11_bring_97 : decode cX11_bring 97 = .ok (.lload_n 2, 1) := by decide +kernel
theorem dX11_bring_98 : decode cX11_bring 98 = .ok (.l2i, 1) := by decide +kernel
theorem dX11_bring_99 : decode cX11_bring 99 = .ok (.ireturn, 1) := by decide +kernel
theorem dX11_settles_0 : decode cX11_settles 0 = .ok (.bipush 12, 2) := by decide +kernel
theorem dX11_settles_2 : decode cX11_settles 2 = .ok (.istore_n 1, 1) := by decide +kernel
theorem dX11_settles_3 : decode cX11_settles 3 = .ok (.iload_n 1, 1) := by decide +kernel
theorem dX11_settles_4 : decode cX11_settles 4 = .ok (.bipush 15, 2) := by decide +kernel
theorem dX11_settles_6 : decode cX11_settles 6 = .ok (.if_icmp .ge 16, 3) := by decide +kernel
theorem dX11_settles_9 : decode cX11_settles 9 = .ok (.aload_n 0, 1) := by decide +kernel
theorem dX11_settles_10 : decode cX11_settles 10 = .ok (.getfield 76, 3) := by decide +kernel
theorem dX11_settles_13 : decode cX11_settles 13 = .ok (.iload_n 1, 1) := by decide +kernel
theorem dX11_settles_14 : decode cX11_settles 14 = .ok (.lconst 0, 1) := by decide +kernel
theorem dX11_settles_15 : decode cX11_settles 15 = .ok (.lastore, 1) := by decide +kernel
theorem dX11_settles_16 : decode cX11_settles 16 = .ok (.iinc 1 1, 3) := by decide +kernel
theorem dX11_settles_19 : decode cX11_settles 19 = .ok (.goto (-16), 3) := by decide +kernel
theorem dX11_settles_22 : decode cX11_settles 22 = .ok (.iconst 0, 1) := by decide +kernel
theorem dX11_settles_23 : decode cX11_settles 23 = .ok (.istore_n 1, 1) := by decide +kernel
theorem dX11_settles_24 : decode cX11_settles 24 = .ok (.iload_n 1, 1) := by decide +kernel
theorem dX11_settles_25 : decode cX11_settles 25 = .ok (.aload_n 0, 1) := by decide +kernel
theorem dX11_settles_26 : decode cX11_settles 26 = .ok (.getfield 95, 3) := by decide +kernel
theorem dX11_settles_29 : decode cX11_settles 29 = .ok (.if_icmp .ge 24, 3) := by decide +kernel
theorem dX11_settles_32 : decode cX11_settles 32 = .ok (.aload_n 0, 1) := by decide +kernel
theorem dX11_settles_33 : decode cX11_settles 33 = .ok (.getfield 76, 3) := by decide +kernel
theorem dX11_settles_36 : decode cX11_settles 36 = .ok (.iload_n 1, 1) := by decide +kernel
theorem dX11_settles_37 : decode cX11_settles 37 = .ok (.laload, 1) := by decide +kernel
theorem dX11_settles_38 : decode cX11_settles 38 = .ok (.ldc2_w 146, 3) := by decide +kernel
theorem dX11_settles_41 : decode cX11_settles 41 = .ok (.lcmp, 1) := by decide +kernel
theorem dX11_settles_42 : decode cX11_settles 42 = .ok (.ifCond .le 5, 3) := by decide +kernel
theorem dX11_settles_45 : decode cX11_settles 45 = .ok (.iconst 0, 1) := by decide +kernel
theorem dX11_settles_46 : decode cX11_settles 46 = .ok (.ireturn, 1) := by decide +kernel
theorem dX11_settles_47 : decode cX11_settles 47 = .ok (.iinc 1 1, 3) := by decide +kernel
theorem dX11_settles_50 : decode cX11_settles 50 = .ok (.goto (-26), 3) := by decide +kernel
theorem dX11_settles_53 : decode cX11_settles 53 = .ok (.iconst 0, 1) := by decide +kernel
theorem dX11_settles_54 : decode cX11_settles 54 = .ok (.istore_n 1, 1) := by decide +kernel
theorem dX11_settles_55 : decode cX11_settles 55 = .ok (.iconst 0, 1) := by decide +kernel
theorem dX11_settles_56 : decode cX11_settles 56 = .ok (.istore_n 2, 1) := by decide +kernel
theorem dX11_settles_57 : decode cX11_settles 57 = .ok (.iload_n 2, 1) := by decide +kernel
theorem dX11_settles_58 : decode cX11_settles 58 = .ok (.aload_n 0, 1) := by decide +kernel
theorem dX11_settles_59 : decode cX11_settles 59 = .ok (.getfield 95, 3) := by decide +kernel
theorem dX11_settles_62 : decode cX11_settles 62 = .ok (.if_icmp .ge 65, 3) := by decide +kernel
theorem dX11_settles_65 : decode cX11_settles 65 = .ok (.aload_n 0, 1) := by decide +kernel
theorem dX11_settles_66 : decode cX11_settles 66 = .ok (.getfield 76, 3) := by decide +kernel
theorem dX11_settles_69 : decode cX11_settles 69 = .ok (.iload_n 2, 1) := by decide +kernel
theorem dX11_settles_70 : decode cX11_settles 70 = .ok (.laload, 1) := by decide +kernel
theorem dX11_settles_71 : decode cX11_settles 71 = .ok (.aload_n 0, 1) := by decide +kernel
theorem dX11_settles_72 : decode cX11_settles 72 = .ok (.iload_n 2, 1) := by decide +kernel
theorem dX11_settles_73 : decode cX11_settles 73 = .ok (.invokevirtual 106, 3) := by decide +kernel
theorem dX11_settles_76 : decode cX11_settles 76 = .ok (.invokestatic 110, 3) := by decide +kernel
theorem dX11_settles_79 : decode cX11_settles 79 = .ok (.ifCond .ne 9, 3) := by decide +kernel
theorem dX11_settles_82 : decode cX11_settles 82 = .ok (.iinc 2 1, 3) := by decide +kernel
theorem dX11_settles_85 : decode cX11_settles 85 = .ok (.goto (-28), 3) := by decide +kernel
theorem dX11_settles_88 : decode cX11_settles 88 = .ok (.iload_n 1, 1) := by decide +kernel
theorem dX11_settles_89 : decode cX11_settles 89 = .ok (.sipush 20000, 3) := by decide +kernel
theorem dX11_settles_92 : decode cX11_settles 92 = .ok (.if_icmp .eq 15, 3) := by decide +kernel
theorem dX11_settles_95 : decode cX11_settles 95 = .ok (.aload_n 0, 1) := by decide +kernel
theorem dX11_settles_96 : decode cX11_settles 96 = .ok (.aload_n 0, 1) := by decide +kernel
theorem dX11_settles_97 : decode cX11_settles 97 = .ok (.getfield 76, 3) := by decide +kernel
theorem dX11_settles_100 : decode cX11_settles 100 = .ok (.iload_n 2, 1) := by decide +kernel
theorem dX11_settles_101 : decode cX11_settles 101 = .ok (.invokevirtual 162, 3) := by decide +kernel
theorem dX11_settles_104 : decode cX11_settles 104 = .ok (.ifCond .eq 5, 3) := by decide +kernel
theorem dX11_settles_107 : decode cX11_settles 107 = .ok (.iconst 0, 1) := by decide +kernel
theorem dX11_settles_108 : decode cX11_settles 108 = .ok (.ireturn, 1) := by decide +kernel
theorem dX11_settles_109 : decode cX11_settles 109 = .ok (.aload_n 0, 1) := by decide +kernel
theorem dX11_settles_110 : decode cX11_settles 110 = .ok (.aload_n 0, 1) := by decide +kernel
theorem dX11_settles_111 : decode cX11_settles 111 = .ok (.getfield 76, 3) := by decide +kernel
theorem dX11_settles_114 : decode cX11_settles 114 = .ok (.iload_n 2, 1) := by decide +kernel
theorem dX11_settles_115 : decode cX11_settles 115 = .ok (.invokevirtual 166, 3) := by decide +kernel
theorem dX11_settles_118 : decode cX11_settles 118 = .ok (.lstore_n 3, 1) := by decide +kernel
theorem dX11_settles_119 : decode cX11_settles 119 = .ok (.iinc 1 1, 3) := by decide +kernel
theorem dX11_settles_122 : decode cX11_settles 122 = .ok (.iconst 0, 1) := by decide +kernel
theorem dX11_settles_123 : decode cX11_settles 123 = .ok (.istore_n 2, 1) := by decide +kernel
theorem dX11_settles_124 : decode cX11_settles 124 = .ok (.goto (-67), 3) := by decide +kernel
theorem dX11_settles_127 : decode cX11_settles 127 = .ok (.iconst 1, 1) := by decide +kernel
theorem dX11_settles_128 : decode cX11_settles 128 = .ok (.ireturn, 1) := by decide +kernel
theorem dX11_plus_0 : decode cX11_plus 0 = .ok (.iload_n 1, 1) := by decide +kernel
theorem dX11_plus_1 : decode cX11_plus 1 = .ok (.invokestatic 198, 3) := by decide +kernel
theorem dX11_plus_4 : decode cX11_plus 4 = .ok (.ifCond .eq 17, 3) := by decide +kernel
theorem dX11_plus_7 : decode cX11_plus 7 = .ok (.iload_n 2, 1) := by decide +kernel
theorem dX11_plus_8 : decode cX11_plus 8 = .ok (.invokestatic 198, 3) := by decide +kernel
theorem dX11_plus_11 : decode cX11_plus 11 = .ok (.ifCond .eq 10, 3) := by decide +kernel
theorem dX11_plus_14 : decode cX11_plus 14 = .ok (.iload_n 3, 1) := by decide +kernel
theorem dX11_plus_15 : decode cX11_plus 15 = .ok (.invokestatic 198, 3) := by decide +kernel
theorem dX11_plus_18 : decode cX11_plus 18 = .ok (.ifCond .ne 9, 3) := by decide +kernel
theorem dX11_plus_21 : decode cX11_plus 21 = .ok (.aload_n 0, 1) := by decide +kernel
theorem dX11_plus_22 : decode cX11_plus 22 = .ok (.iconst (-1), 1) := by decide +kernel
theorem dX11_plus_23 : decode cX11_plus 23 = .ok (.invokevirtual 118, 3) := by decide +kernel
theorem dX11_plus_26 : decode cX11_plus 26 = .ok (.ireturn, 1) := by decide +kernel
theorem dX11_plus_27 : decode cX11_plus 27 = .ok (.aload_n 0, 1) := by decide +kernel
theorem dX11_plus_28 : decode cX11_plus 28 = .ok (.getfield 39, 3) := by decide +kernel
theorem dX11_plus_31 : decode cX11_plus 31 = .ok (.iload_n 1, 1) := by decide +kernel
theorem dX11_plus_32 : decode cX11_plus 32 = .ok (.baload, 1) := by decide +kernel
theorem dX11_plus_33 : decode cX11_plus 33 = .ok (.ifCond .eq 12, 3) := by decide +kernel
theorem dX11_plus_36 : decode cX11_plus 36 = .ok (.aload_n 0, 1) := by decide +kernel
theorem dX11_plus_37 : decode cX11_plus 37 = .ok (.getfield 39, 3) := by decide +kernel
theorem dX11_plus_40 : decode cX11_plus 40 = .ok (.iload_n 2, 1) := by decide +kernel
theorem dX11_plus_41 : decode cX11_plus 41 = .ok (.baload, 1) := by decide +kernel
theorem dX11_plus_42 : decode cX11_plus 42 = .ok (.ifCond .ne 10, 3) := by decide +kernel
theorem dX11_plus_45 : decode cX11_plus 45 = .ok (.aload_n 0, 1) := by decide +kernel
theorem dX11_plus_46 : decode cX11_plus 46 = .ok (.bipush (-11), 2) := by decide +kernel
theorem dX11_plus_48 : decode cX11_plus 48 = .ok (.invokevirtual 118, 3) := by decide +kernel
theorem dX11_plus_51 : decode cX11_plus 51 = .ok (.ireturn, 1) := by decide +kernel
theorem dX11_plus_52 : decode cX11_plus 52 = .ok (.aload_n 0, 1) := by decide +kernel
theorem dX11_plus_53 : decode cX11_plus 53 = .ok (.getfield 114, 3) := by decide +kernel
theorem dX11_plus_56 : decode cX11_plus 56 = .ok (.ifCond .ne 10, 3) := by decide +kernel
theorem dX11_plus_59 : decode cX11_plus 59 = .ok (.aload_n 0, 1) := by decide +kernel
theorem dX11_plus_60 : decode cX11_plus 60 = .ok (.bipush (-8), 2) := by decide +kernel
theorem dX11_plus_62 : decode cX11_plus 62 = .ok (.invokevirtual 118, 3) := by decide +kernel
theorem dX11_plus_65 : decode cX11_plus 65 = .ok (.ireturn, 1) := by decide +kernel
theorem dX11_plus_66 : decode cX11_plus 66 = .ok (.iconst 0, 1) := by decide +kernel
theorem dX11_plus_67 : decode cX11_plus 67 = .ok (.istore 4, 2) := by decide +kernel
theorem dX11_plus_69 : decode cX11_plus 69 = .ok (.iload 4, 2) := by decide +kernel
theorem dX11_plus_71 : decode cX11_plus 71 = .ok (.aload_n 0, 1) := by decide +kernel
theorem dX11_plus_72 : decode cX11_plus 72 = .ok (.getfield 95, 3) := by decide +kernel
theorem dX11_plus_75 : decode cX11_plus 75 = .ok (.if_icmp .ge 41, 3) := by decide +kernel
theorem dX11_plus_78 : decode cX11_plus 78 = .ok (.aload_n 0, 1) := by decide +kernel
theorem dX11_plus_79 : decode cX11_plus 79 = .ok (.getfield 76, 3) := by decide +kernel
theorem dX11_plus_82 : decode cX11_plus 82 = .ok (.iload 4, 2) := by decide +kernel
theorem dX11_plus_84 : decode cX11_plus 84 = .ok (.aload_n 0, 1) := by decide +kernel
theorem dX11_plus_85 : decode cX11_plus 85 = .ok (.getfield 36, 3) := by decide +kernel
theorem dX11_plus_88 : decode cX11_plus 88 = .ok (.bipush 12, 2) := by decide +kernel
theorem dX11_plus_90 : decode cX11_plus 90 = .ok (.iload_n 1, 1) := by decide +kernel
theorem dX11_plus_91 : decode cX11_plus 91 = .ok (.imul, 1) := by decide +kernel
theorem dX11_plus_92 : decode cX11_plus 92 = .ok (.iload 4, 2) := by decide +kernel
theorem dX11_plus_94 : decode cX11_plus 94 = .ok (.iadd, 1) := by decide +kernel
theorem dX11_plus_95 : decode cX11_plus 95 = .ok (.laload, 1) := by decide +kernel
theorem dX11_plus_96 : decode cX11_plus 96 = .ok (.aload_n 0, 1) := by decide +kernel
theorem dX11_plus_97 : decode cX11_plus 97 = .ok (.getfield 36, 3) := by decide +kernel
theorem dX11_plus_100 : decode cX11_plus 100 = .ok (.bipush 12, 2) := by decide +kernel
theorem dX11_plus_102 : decode cX11_plus 102 = .ok (.iload_n 2, 1) := by decide +kernel
theorem dX11_plus_103 : decode cX11_plus 103 = .ok (.imul, 1) := by decide +kernel
theorem dX11_plus_104 : decode cX11_plus 104 = .ok (.iload 4, 2) := by decide +kernel
theorem dX11_plus_106 : decode cX11_plus 106 = .ok (.iadd, 1) := by decide +kernel
theorem dX11_plus_107 : decode cX11_plus 107 = .ok (.laload, 1) := by decide +kernel
theorem dX11_plus_108 : decode cX11_plus 108 = .ok (.ladd, 1) := by decide +kernel
theorem dX11_plus_109 : decode cX11_plus 109 = .ok (.lastore, 1) := by decide +kernel
theorem dX11_plus_110 : decode cX11_plus 110 = .ok (.iinc 4 1, 3) := by decide +kernel
theorem dX11_plus_113 : decode cX11_plus 113 = .ok (.goto (-44), 3) := by decide +kernel
theorem dX11_plus_116 : decode cX11_plus 116 = .ok (.aload_n 0, 1) := by decide +kernel
theorem dX11_plus_117 : decode cX11_plus 117 = .ok (.invokevirtual 205, 3) := by decide +kernel
theorem dX11_plus_120 : decode cX11_plus 120 = .ok (.ifCond .eq 15, 3) := by decide +kernel
theorem dX11_plus_123 : decode cX11_plus 123 = .ok (.aload_n 0, 1) := by decide +kernel
theorem dX11_plus_124 : decode cX11_plus 124 = .ok (.iload_n 3, 1) := by decide +kernel
theorem dX11_plus_125 : decode cX11_plus 125 = .ok (.aload_n 0, 1) := by decide +kernel
theorem dX11_plus_126 : decode cX11_plus 126 = .ok (.getfield 76, 3) := by decide +kernel
theorem dX11_plus_129 : decode cX11_plus 129 = .ok (.invokevirtual 201, 3) := by decide +kernel
theorem dX11_plus_132 : decode cX11_plus 132 = .ok (.goto 9, 3) := by decide +kernel
theorem dX11_plus_135 : decode cX11_plus 135 = .ok (.aload_n 0, 1) := by decide +kernel
theorem dX11_plus_136 : decode cX11_plus 136 = .ok (.bipush (-5), 2) := by decide +kernel
theorem dX11_plus_138 : decode cX11_plus 138 = .ok (.invokevirtual 118, 3) := by decide +kernel
theorem dX11_plus_141 : decode cX11_plus 141 = .ok (.ireturn, 1) := by decide +kernel
theorem dX11_greatest_0 : decode cX11_greatest 0 = .ok (.iconst 0, 1) := by decide +kernel
theorem dX11_greatest_1 : decode cX11_greatest 1 = .ok (.istore_n 1, 1) := by decide +kernel
theorem dX11_greatest_2 : decode cX11_greatest 2 = .ok (.iload_n 1, 1) := by decide +kernel
theorem dX11_greatest_3 : decode cX11_greatest 3 = .ok (.aload_n 0, 1) := by decide +kernel
theorem dX11_greatest_4 : decode cX11_greatest 4 = .ok (.getfield 95, 3) := by decide +kernel
theorem dX11_greatest_7 : decode cX11_greatest 7 = .ok (.if_icmp .ge 27, 3) := by decide +kernel
theorem dX11_greatest_10 : decode cX11_greatest 10 = .ok (.aload_n 0, 1) := by decide +kernel
theorem dX11_greatest_11 : decode cX11_greatest 11 = .ok (.getfield 76, 3) := by decide +kernel
theorem dX11_greatest_14 : decode cX11_greatest 14 = .ok (.iload_n 1, 1) := by decide +kernel
theorem dX11_greatest_15 : decode cX11_greatest 15 = .ok (.ldc2_w 208, 3) := by decide +kernel
theorem dX11_greatest_18 : decode cX11_greatest 18 = .ok (.aload_n 0, 1) := by decide +kernel
theorem dX11_greatest_19 : decode cX11_greatest 19 = .ok (.iload_n 1, 1) := by decide +kernel
theorem dX11_greatest_20 : decode cX11_greatest 20 = .ok (.invokevirtual 106, 3) := by decide +kernel
theorem dX11_greatest_23 : decode cX11_greatest 23 = .ok (.iconst 1, 1) := by decide +kernel
theorem dX11_greatest_24 : decode cX11_greatest 24 = .ok (.isub, 1) := by decide +kernel
theorem dX11_greatest_25 : decode cX11_greatest 25 = .ok (.i2l, 1) := by decide +kernel
theorem dX11_greatest_26 : decode cX11_greatest 26 = .ok (.lmul, 1) := by decide +kernel
theorem dX11_greatest_27 : decode cX11_greatest 27 = .ok (.lastore, 1) := by decide +kernel
theorem dX11_greatest_28 : decode cX11_greatest 28 = .ok (.iinc 1 1, 3) := by decide +kernel
theorem dX11_greatest_31 : decode cX11_greatest 31 = .ok (.goto (-29), 3) := by decide +kernel
theorem dX11_greatest_34 : decode cX11_greatest 34 = .ok (.return_, 1) := by decide +kernel
theorem dX11_nought_0 : decode cX11_nought 0 = .ok (.iload_n 1, 1) := by decide +kernel
theorem dX11_nought_1 : decode cX11_nought 1 = .ok (.invokestatic 198, 3) := by decide +kernel
theorem dX11_nought_4 : decode cX11_nought 4 = .ok (.ifCond .ne 9, 3) := by decide +kernel
theorem dX11_nought_7 : decode cX11_nought 7 = .ok (.aload_n 0, 1) := by decide +kernel
theorem dX11_nought_8 : decode cX11_nought 8 = .ok (.iconst (-1), 1) := by decide +kernel
theorem dX11_nought_9 : decode cX11_nought 9 = .ok (.invokevirtual 118, 3) := by decide +kernel
theorem dX11_nought_12 : decode cX11_nought 12 = .ok (.ireturn, 1) := by decide +kernel
theorem dX11_nought_13 : decode cX11_nought 13 = .ok (.aload_n 0, 1) := by decide +kernel
theorem dX11_nought_14 : decode cX11_nought 14 = .ok (.getfield 114, 3) := by decide +kernel
theorem dX11_nought_17 : decode cX11_nought 17 = .ok (.ifCond .ne 10, 3) := by decide +kernel
theorem dX11_nought_20 : decode cX11_nought 20 = .ok (.aload_n 0, 1) := by decide +kernel
theorem dX11_nought_21 : decode cX11_nought 21 = .ok (.bipush (-8), 2) := by decide +kernel
theorem dX11_nought_23 : decode cX11_nought 23 = .ok (.invokevirtual 118, 3) := by decide +kernel
theorem dX11_nought_26 : decode cX11_nought 26 = .ok (.ireturn, 1) := by decide +kernel
theorem dX11_nought_27 : decode cX11_nought 27 = .ok (.aload_n 0, 1) := by decide +kernel
theorem dX11_nought_28 : decode cX11_nought 28 = .ok (.invokevirtual 190, 3) := by decide +kernel
theorem dX11_nought_31 : decode cX11_nought 31 = .ok (.ifCond .ne 10, 3) := by decide +kernel
theorem dX11_nought_34 : decode cX11_nought 34 = .ok (.aload_n 0, 1) := by decide +kernel
theorem dX11_nought_35 : decode cX11_nought 35 = .ok (.bipush (-12), 2) := by decide +kernel
theorem dX11_nought_37 : decode cX11_nought 37 = .ok (.invokevirtual 118, 3) := by decide +kernel
theorem dX11_nought_40 : decode cX11_nought 40 = .ok (.ireturn, 1) := by decide +kernel
theorem dX11_nought_41 : decode cX11_nought 41 = .ok (.aload_n 0, 1) := by decide +kernel
theorem dX11_nought_42 : decode cX11_nought 42 = .ok (.invokevirtual 210, 3) := by decide +kernel
theorem dX11_nought_45 : decode cX11_nought 45 = .ok (.aload_n 0, 1) := by decide +kernel
theorem dX11_nought_46 : decode cX11_nought 46 = .ok (.invokevirtual 205, 3) := by decide +kernel
theorem dX11_nought_49 : decode cX11_nought 49 = .ok (.ifCond .ne 10, 3) := by decide +kernel
theorem dX11_nought_52 : decode cX11_nought 52 = .ok (.aload_n 0, 1) := by decide +kernel
theorem dX11_nought_53 : decode cX11_nought 53 = .ok (.bipush (-5), 2) := by decide +kernel
theorem dX11_nought_55 : decode cX11_nought 55 = .ok (.invokevirtual 118, 3) := by decide +kernel
theorem dX11_nought_58 : decode cX11_nought 58 = .ok (.ireturn, 1) := by decide +kernel
theorem dX11_nought_59 : decode cX11_nought 59 = .ok (.iconst 0, 1) := by decide +kernel
theorem dX11_nought_60 : decode cX11_nought 60 = .ok (.istore_n 2, 1) := by decide +kernel
theorem dX11_nought_61 : decode cX11_nought 61 = .ok (.iload_n 2, 1) := by decide +kernel
theorem dX11_nought_62 : decode cX11_nought 62 = .ok (.aload_n 0, 1) := by decide +kernel
theorem dX11_nought_63 : decode cX11_nought 63 = .ok (.getfield 95, 3) := by decide +kernel
theorem dX11_nought_66 : decode cX11_nought 66 = .ok (.if_icmp .ge 34, 3) := by decide +kernel
theorem dX11_nought_69 : decode cX11_nought 69 = .ok (.aload_n 0, 1) := by decide +kernel
theorem dX11_nought_70 : decode cX11_nought 70 = .ok (.getfield 76, 3) := by decide +kernel
theorem dX11_nought_73 : decode cX11_nought 73 = .ok (.iload_n 2, 1) := by decide +kernel
theorem dX11_nought_74 : decode cX11_nought 74 = .ok (.ldc2_w 208, 3) := by decide +kernel
theorem dX11_nought_77 : decode cX11_nought 77 = .ok (.aload_n 0, 1) := by decide +kernel
theorem dX11_nought_78 : decode cX11_nought 78 = .ok (.iload_n 2, 1) := by decide +kernel
theorem dX11_nought_79 : decode cX11_nought 79 = .ok (.invokevirtual 106, 3) := by decide +kernel
theorem dX11_nought_82 : decode cX11_nought 82 = .ok (.iconst 1, 1) := by decide +kernel
theorem dX11_nought_83 : decode cX11_nought 83 = .ok (.isub, 1) := by decide +kernel
theorem dX11_nought_84 : decode cX11_nought 84 = .ok (.i2l, 1) := by decide +kernel
theorem dX11_nought_85 : decode cX11_nought 85 = .ok (.lmul, 1) := by decide +kernel
theorem dX11_nought_86 : decode cX11_nought 86 = .ok (.aload_n 0, 1) := by decide +kernel
theorem dX11_nought_87 : decode cX11_nought 87 = .ok (.getfield 76, 3) := by decide +kernel
theorem dX11_nought_90 : decode cX11_nought 90 = .ok (.iload_n 2, 1) := by decide +kernel
theorem dX11_nought_91 : decode cX11_nought 91 = .ok (.laload, 1) := by decide +kernel
theorem dX11_nought_92 : decode cX11_nought 92 = .ok (.lsub, 1) := by decide +kernel
theorem dX11_nought_93 : decode cX11_nought 93 = .ok (.lastore, 1) := by decide +kernel
theorem dX11_nought_94 : decode cX11_nought 94 = .ok (.iinc 2 1, 3) := by decide +kernel
theorem dX11_nought_97 : decode cX11_nought 97 = .ok (.goto (-36), 3) := by decide +kernel
theorem dX11_nought_100 : decode cX11_nought 100 = .ok (.aload_n 0, 1) := by decide +kernel
theorem dX11_nought_101 : decode cX11_nought 101 = .ok (.invokevirtual 205, 3) := by decide +kernel
theorem dX11_nought_104 : decode cX11_nought 104 = .ok (.ifCond .eq 15, 3) := by decide +kernel
theorem dX11_nought_107 : decode cX11_nought 107 = .ok (.aload_n 0, 1) := by decide +kernel
theorem dX11_nought_108 : decode cX11_nought 108 = .ok (.iload_n 1, 1) := by decide +kernel
theorem dX11_nought_109 : decode cX11_nought 109 = .ok (.aload_n 0, 1) := by decide +kernel
theorem dX11_nought_110 : decode cX11_nought 110 = .ok (.getfield 76, 3) := by decide +kernel
theorem dX11_nought_113 : decode cX11_nought 113 = .ok (.invokevirtual 201, 3) := by decide +kernel
theorem dX11_nought_116 : decode cX11_nought 116 = .ok (.goto 9, 3) := by decide +kernel
theorem dX11_nought_119 : decode cX11_nought 119 = .ok (.aload_n 0, 1) := by decide +kernel
theorem dX11_nought_120 : decode cX11_nought 120 = .ok (.bipush (-5), 2) := by decide +kernel
theorem dX11_nought_122 : decode cX11_nought 122 = .ok (.invokevirtual 118, 3) := by decide +kernel
theorem dX11_nought_125 : decode cX11_nought 125 = .ok (.ireturn, 1) := by decide +kernel
theorem dX11_contrary_0 : decode cX11_contrary 0 = .ok (.iload_n 1, 1) := by decide +kernel
theorem dX11_contrary_1 : decode cX11_contrary 1 = .ok (.invokestatic 198, 3) := by decide +kernel
theorem dX11_contrary_4 : decode cX11_contrary 4 = .ok (.ifCond .eq 10, 3) := by decide +kernel
theorem dX11_contrary_7 : decode cX11_contrary 7 = .ok (.iload_n 2, 1) := by decide +kernel
theorem dX11_contrary_8 : decode cX11_contrary 8 = .ok (.invokestatic 198, 3) := by decide +kernel
theorem dX11_contrary_11 : decode cX11_contrary 11 = .ok (.ifCond .ne 9, 3) := by decide +kernel
theorem dX11_contrary_14 : decode cX11_contrary 14 = .ok (.aload_n 0, 1) := by decide +kernel
theorem dX11_contrary_15 : decode cX11_contrary 15 = .ok (.iconst (-1), 1) := by decide +kernel
theorem dX11_contrary_16 : decode cX11_contrary 16 = .ok (.invokevirtual 118, 3) := by decide +kernel
theorem dX11_contrary_19 : decode cX11_contrary 19 = .ok (.ireturn, 1) := by decide +kernel
theorem dX11_contrary_20 : decode cX11_contrary 20 = .ok (.aload_n 0, 1) := by decide +kernel
theorem dX11_contrary_21 : decode cX11_contrary 21 = .ok (.getfield 39, 3) := by decide +kernel
theorem dX11_contrary_24 : decode cX11_contrary 24 = .ok (.iload_n 1, 1) := by decide +kernel
theorem dX11_contrary_25 : decode cX11_contrary 25 = .ok (.baload, 1) := by decide +kernel
theorem dX11_contrary_26 : decode cX11_contrary 26 = .ok (.ifCond .ne 10, 3) := by decide +kernel
theorem dX11_contrary_29 : decode cX11_contrary 29 = .ok (.aload_n 0, 1) := by decide +kernel
theorem dX11_contrary_30 : decode cX11_contrary 30 = .ok (.bipush (-11), 2) := by decide +kernel
theorem dX11_contrary_32 : decode cX11_contrary 32 = .ok (.invokevirtual 118, 3) := by decide +kernel
theorem dX11_contrary_35 : decode cX11_contrary 35 = .ok (.ireturn, 1) := by decide +kernel
theorem dX11_contrary_36 : decode cX11_contrary 36 = .ok (.aload_n 0, 1) := by decide +kernel
theorem dX11_contrary_37 : decode cX11_contrary 37 = .ok (.getfield 114, 3) := by decide +kernel
theorem dX11_contrary_40 : decode cX11_contrary 40 = .ok (.ifCond .ne 10, 3) := by decide +kernel
theorem dX11_contrary_43 : decode cX11_contrary 43 = .ok (.aload_n 0, 1) := by decide +kernel
theorem dX11_contrary_44 : decode cX11_contrary 44 = .ok (.bipush (-8), 2) := by decide +kernel
theorem dX11_contrary_46 : decode cX11_contrary 46 = .ok (.invokevirtual 118, 3) := by decide +kernel
theorem dX11_contrary_49 : decode cX11_contrary 49 = .ok (.ireturn, 1) := by decide +kernel
theorem dX11_contrary_50 : decode cX11_contrary 50 = .ok (.aload_n 0, 1) := by decide +kernel
theorem dX11_contrary_51 : decode cX11_contrary 51 = .ok (.invokevirtual 190, 3) := by decide +kernel
theorem dX11_contrary_54 : decode cX11_contrary 54 = .ok (.ifCond .ne 10, 3) := by decide +kernel
theorem dX11_contrary_57 : decode cX11_contrary 57 = .ok (.aload_n 0, 1) := by decide +kernel
theorem dX11_contrary_58 : decode cX11_contrary 58 = .ok (.bipush (-12), 2) := by decide +kernel
theorem dX11_contrary_60 : decode cX11_contrary 60 = .ok (.invokevirtual 118, 3) := by decide +kernel
theorem dX11_contrary_63 : decode cX11_contrary 63 = .ok (.ireturn, 1) := by decide +kernel
theorem dX11_contrary_64 : decode cX11_contrary 64 = .ok (.aload_n 0, 1) := by decide +kernel
theorem dX11_contrary_65 : decode cX11_contrary 65 = .ok (.invokevirtual 210, 3) := by decide +kernel
theorem dX11_contrary_68 : decode cX11_contrary 68 = .ok (.aload_n 0, 1) := by decide +kernel
theorem dX11_contrary_69 : decode cX11_contrary 69 = .ok (.invokevirtual 205, 3) := by decide +kernel
theorem dX11_contrary_72 : decode cX11_contrary 72 = .ok (.ifCond .ne 10, 3) := by decide +kernel
theorem dX11_contrary_75 : decode cX11_contrary 75 = .ok (.aload_n 0, 1) := by decide +kernel
theorem dX11_contrary_76 : decode cX11_contrary 76 = .ok (.bipush (-5), 2) := by decide +kernel
theorem dX11_contrary_78 : decode cX11_contrary 78 = .ok (.invokevirtual 118, 3) := by decide +kernel
theorem dX11_contrary_81 : decode cX11_contrary 81 = .ok (.ireturn, 1) := by decide +kernel
theorem dX11_contrary_82 : decode cX11_contrary 82 = .ok (.iconst 0, 1) := by decide +kernel
theorem dX11_contrary_83 : decode cX11_contrary 83 = .ok (.istore_n 3, 1) := by decide +kernel
theorem dX11_contrary_84 : decode cX11_contrary 84 = .ok (.iload_n 3, 1) := by decide +kernel
theorem dX11_contrary_85 : decode cX11_contrary 85 = .ok (.aload_n 0, 1) := by decide +kernel
theorem dX11_contrary_86 : decode cX11_contrary 86 = .ok (.getfield 95, 3) := by decide +kernel
theorem dX11_contrary_89 : decode cX11_contrary 89 = .ok (.if_icmp .ge 34, 3) := by decide +kernel
theorem dX11_contrary_92 : decode cX11_contrary 92 = .ok (.aload_n 0, 1) := by decide +kernel
theorem dX11_contrary_93 : decode cX11_contrary 93 = .ok (.getfield 79, 3) := by decide +kernel
theorem dX11_contrary_96 : decode cX11_contrary 96 = .ok (.iload_n 3, 1) := by decide +kernel
theorem dX11_contrary_97 : decode cX11_contrary 97 = .ok (.ldc2_w 208, 3) := by decide +kernel
theorem dX11_contrary_100 : decode cX11_contrary 100 = .ok (.aload_n 0, 1) := by decide +kernel
theorem dX11_contrary_101 : decode cX11_contrary 101 = .ok (.iload_n 3, 1) := by decide +kernel
theorem dX11_contrary_102 : decode cX11_contrary 102 = .ok (.invokevirtual 106, 3) := by decide +kernel
theorem dX11_contrary_105 : decode cX11_contrary 105 = .ok (.iconst 1, 1) := by decide +kernel
theorem dX11_contrary_106 : decode cX11_contrary 106 = .ok (.isub, 1) := by decide +kernel
theorem dX11_contrary_107 : decode cX11_contrary 107 = .ok (.i2l, 1) := by decide +kernel
theorem dX11_contrary_108 : decode cX11_contrary 108 = .ok (.lmul, 1) := by decide +kernel
theorem dX11_contrary_109 : decode cX11_contrary 109 = .ok (.aload_n 0, 1) := by decide +kernel
theorem dX11_contrary_110 : decode cX11_contrary 110 = .ok (.getfield 76, 3) := by decide +kernel
theorem dX11_contrary_113 : decode cX11_contrary 113 = .ok (.iload_n 3, 1) := by decide +kernel
theorem dX11_contrary_114 : decode cX11_contrary 114 = .ok (.laload, 1) := by decide +kernel
theorem dX11_contrary_115 : decode cX11_contrary 115 = .ok (.lsub, 1) := by decide +kernel
theorem dX11_contrary_116 : decode cX11_contrary 116 = .ok (.lastore, 1) := by decide +kernel
theorem dX11_contrary_117 : decode cX11_contrary 117 = .ok (.iinc 3 1, 3) := by decide +kernel
theorem dX11_contrary_120 : decode cX11_contrary 120 = .ok (.goto (-36), 3) := by decide +kernel
theorem dX11_contrary_123 : decode cX11_contrary 123 = .ok (.iconst 0, 1) := by decide +kernel
theorem dX11_contrary_124 : decode cX11_contrary 124 = .ok (.istore_n 3, 1) := by decide +kernel
theorem dX11_contrary_125 : decode cX11_contrary 125 = .ok (.iload_n 3, 1) := by decide +kernel
theorem dX11_contrary_126 : decode cX11_contrary 126 = .ok (.aload_n 0, 1) := by decide +kernel
theorem dX11_contrary_127 : decode cX11_contrary 127 = .ok (.getfield 95, 3) := by decide +kernel
theorem dX11_contrary_130 : decode cX11_contrary 130 = .ok (.if_icmp .ge 26, 3) := by decide +kernel
theorem dX11_contrary_133 : decode cX11_contrary 133 = .ok (.aload_n 0, 1) := by decide +kernel
theorem dX11_contrary_134 : decode cX11_contrary 134 = .ok (.getfield 76, 3) := by decide +kernel
theorem dX11_contrary_137 : decode cX11_contrary 137 = .ok (.iload_n 3, 1) := by decide +kernel
theorem dX11_contrary_138 : decode cX11_contrary 138 = .ok (.aload_n 0, 1) := by decide +kernel
theorem dX11_contrary_139 : decode cX11_contrary 139 = .ok (.getfield 36, 3) := by decide +kernel
theorem dX11_contrary_142 : decode cX11_contrary 142 = .ok (.bipush 12, 2) := by decide +kernel
theorem dX11_contrary_144 : decode cX11_contrary 144 = .ok (.iload_n 1, 1) := by decide +kernel
theorem dX11_contrary_145 : decode cX11_contrary 145 = .ok (.imul, 1) := by decide +kernel
theorem dX11_contrary_146 : decode cX11_contrary 146 = .ok (.iload_n 3, 1) := by decide +kernel
theorem dX11_contrary_147 : decode cX11_contrary 147 = .ok (.iadd, 1) := by decide +kernel
theorem dX11_contrary_148 : decode cX11_contrary 148 = .ok (.laload, 1) := by decide +kernel
theorem dX11_contrary_149 : decode cX11_contrary 149 = .ok (.lastore, 1) := by decide +kernel
theorem dX11_contrary_150 : decode cX11_contrary 150 = .ok (.iinc 3 1, 3) := by decide +kernel
theorem dX11_contrary_153 : decode cX11_contrary 153 = .ok (.goto (-28), 3) := by decide +kernel
theorem dX11_contrary_156 : decode cX11_contrary 156 = .ok (.aload_n 0, 1) := by decide +kernel
theorem dX11_contrary_157 : decode cX11_contrary 157 = .ok (.invokevirtual 205, 3) := by decide +kernel
theorem dX11_contrary_160 : decode cX11_contrary 160 = .ok (.ifCond .ne 10, 3) := by decide +kernel
theorem dX11_contrary_163 : decode cX11_contrary 163 = .ok (.aload_n 0, 1) := by decide +kernel
theorem dX11_contrary_164 : decode cX11_contrary 164 = .ok (.bipush (-5), 2) := by decide +kernel
theorem dX11_contrary_166 : decode cX11_contrary 166 = .ok (.invokevirtual 118, 3) := by decide +kernel
theorem dX11_contrary_169 : decode cX11_contrary 169 = .ok (.ireturn, 1) := by decide +kernel
theorem dX11_contrary_170 : decode cX11_contrary 170 = .ok (.iconst 0, 1) := by decide +kernel
theorem dX11_contrary_171 : decode cX11_contrary 171 = .ok (.istore_n 3, 1) := by decide +kernel
theorem dX11_contrary_172 : decode cX11_contrary 172 = .ok (.iload_n 3, 1) := by decide +kernel
theorem dX11_contrary_173 : decode cX11_contrary 173 = .ok (.aload_n 0, 1) := by decide +kernel
theorem dX11_contrary_174 : decode cX11_contrary 174 = .ok (.getfield 95, 3) := by decide +kernel
theorem dX11_contrary_177 : decode cX11_contrary 177 = .ok (.if_icmp .ge 32, 3) := by decide +kernel
theorem dX11_contrary_180 : decode cX11_contrary 180 = .ok (.aload_n 0, 1) := by decide +kernel
theorem dX11_contrary_181 : decode cX11_contrary 181 = .ok (.getfield 76, 3) := by decide +kernel
theorem dX11_contrary_184 : decode cX11_contrary 184 = .ok (.iload_n 3, 1) := by decide +kernel
theorem dX11_contrary_185 : decode cX11_contrary 185 = .ok (.ldc2_w 208, 3) := by decide +kernel
theorem dX11_contrary_188 : decode cX11_contrary 188 = .ok (.aload_n 0, 1) := by decide +kernel
theorem dX11_contrary_189 : decode cX11_contrary 189 = .ok (.getfield 79, 3) := by decide +kernel
theorem dX11_contrary_192 : decode cX11_contrary 192 = .ok (.iload_n 3, 1) := by decide +kernel
theorem dX11_contrary_193 : decode cX11_contrary 193 = .ok (.laload, 1) := by decide +kernel
theorem dX11_contrary_194 : decode cX11_contrary 194 = .ok (.lmul, 1) := by decide +kernel
theorem dX11_contrary_195 : decode cX11_contrary 195 = .ok (.aload_n 0, 1) := by decide +kernel
theorem dX11_contrary_196 : decode cX11_contrary 196 = .ok (.getfield 76, 3) := by decide +kernel
theorem dX11_contrary_199 : decode cX11_contrary 199 = .ok (.iload_n 3, 1) := by decide +kernel
theorem dX11_contrary_200 : decode cX11_contrary 200 = .ok (.laload, 1) := by decide +kernel
theorem dX11_contrary_201 : decode cX11_contrary 201 = .ok (.lsub, 1) := by decide +kernel
theorem dX11_contrary_202 : decode cX11_contrary 202 = .ok (.lastore, 1) := by decide +kernel
theorem dX11_contrary_203 : decode cX11_contrary 203 = .ok (.iinc 3 1, 3) := by decide +kernel
theorem dX11_contrary_206 : decode cX11_contrary 206 = .ok (.goto (-34), 3) := by decide +kernel
theorem dX11_contrary_209 : decode cX11_contrary 209 = .ok (.aload_n 0, 1) := by decide +kernel
theorem dX11_contrary_210 : decode cX11_contrary 210 = .ok (.invokevirtual 205, 3) := by decide +kernel
theorem dX11_contrary_213 : decode cX11_contrary 213 = .ok (.ifCond .eq 15, 3) := by decide +kernel
theorem dX11_contrary_216 : decode cX11_contrary 216 = .ok (.aload_n 0, 1) := by decide +kernel
theorem dX11_contrary_217 : decode cX11_contrary 217 = .ok (.iload_n 2, 1) := by decide +kernel
theorem dX11_contrary_218 : decode cX11_contrary 218 = .ok (.aload_n 0, 1) := by decide +kernel
theorem dX11_contrary_219 : decode cX11_contrary 219 = .ok (.getfield 76, 3) := by decide +kernel
theorem dX11_contrary_222 : decode cX11_contrary 222 = .ok (.invokevirtual 201, 3) := by decide +kernel
theorem dX11_contrary_225 : decode cX11_contrary 225 = .ok (.goto 9, 3) := by decide +kernel
theorem dX11_contrary_228 : decode cX11_contrary 228 = .ok (.aload_n 0, 1) := by decide +kernel
theorem dX11_contrary_229 : decode cX11_contrary 229 = .ok (.bipush (-5), 2) := by decide +kernel
theorem dX11_contrary_231 : decode cX11_contrary 231 = .ok (.invokevirtual 118, 3) := by decide +kernel
theorem dX11_contrary_234 : decode cX11_contrary 234 = .ok (.ireturn, 1) := by decide +kernel
theorem dX11_isPrime_0 : decode cX11_isPrime 0 = .ok (.iconst 2, 1) := by decide +kernel
theorem dX11_isPrime_1 : decode cX11_isPrime 1 = .ok (.istore_n 1, 1) := by decide +kernel
theorem dX11_isPrime_2 : decode cX11_isPrime 2 = .ok (.iload_n 1, 1) := by decide +kernel
theorem dX11_isPrime_3 : decode cX11_isPrime 3 = .ok (.iload_n 1, 1) := by decide +kernel
theorem dX11_isPrime_4 : decode cX11_isPrime 4 = .ok (.imul, 1) := by decide +kernel
theorem dX11_isPrime_5 : decode cX11_isPrime 5 = .ok (.iload_n 0, 1) := by decide +kernel
theorem dX11_isPrime_6 : decode cX11_isPrime 6 = .ok (.if_icmp .gt 17, 3) := by decide +kernel
theorem dX11_isPrime_9 : decode cX11_isPrime 9 = .ok (.iload_n 0, 1) := by decide +kernel
theorem dX11_isPrime_10 : decode cX11_isPrime 10 = .ok (.iload_n 1, 1) := by decide +kernel
theorem dX11_isPrime_11 : decode cX11_isPrime 11 = .ok (.irem, 1) := by decide +kernel
theorem dX11_isPrime_12 : decode cX11_isPrime 12 = .ok (.ifCond .ne 5, 3) := by decide +kernel
theorem dX11_isPrime_15 : decode cX11_isPrime 15 = .ok (.iconst 0, 1) := by decide +kernel
theorem dX11_isPrime_16 : decode cX11_isPrime 16 = .ok (.ireturn, 1) := by decide +kernel
theorem dX11_isPrime_17 : decode cX11_isPrime 17 = .ok (.iinc 1 1, 3) := by decide +kernel
theorem dX11_isPrime_20 : decode cX11_isPrime 20 = .ok (.goto (-18), 3) := by decide +kernel
theorem dX11_isPrime_23 : decode cX11_isPrime 23 = .ok (.iload_n 0, 1) := by decide +kernel
theorem dX11_isPrime_24 : decode cX11_isPrime 24 = .ok (.iconst 1, 1) := by decide +kernel
theorem dX11_isPrime_25 : decode cX11_isPrime 25 = .ok (.if_icmp .le 7, 3) := by decide +kernel
theorem dX11_isPrime_28 : decode cX11_isPrime 28 = .ok (.iconst 1, 1) := by decide +kernel
theorem dX11_isPrime_29 : decode cX11_isPrime 29 = .ok (.goto 4, 3) := by decide +kernel
theorem dX11_isPrime_32 : decode cX11_isPrime 32 = .ok (.iconst 0, 1) := by decide +kernel
theorem dX11_isPrime_33 : decode cX11_isPrime 33 = .ok (.ireturn, 1) := by decide +kernel
theorem dX11_many_0 : decode cX11_many 0 = .ok (.iload_n 1, 1) := by decide +kernel
theorem dX11_many_1 : decode cX11_many 1 = .ok (.iconst 2, 1) := by decide +kernel
theorem dX11_many_2 : decode cX11_many 2 = .ok (.sipush 30011, 3) := by decide +kernel
theorem dX11_many_5 : decode cX11_many 5 = .ok (.invokestatic 98, 3) := by decide +kernel
theorem dX11_many_8 : decode cX11_many 8 = .ok (.ifCond .eq 10, 3) := by decide +kernel
theorem dX11_many_11 : decode cX11_many 11 = .ok (.iload_n 1, 1) := by decide +kernel
theorem dX11_many_12 : decode cX11_many 12 = .ok (.invokestatic 213, 3) := by decide +kernel
theorem dX11_many_15 : decode cX11_many 15 = .ok (.ifCond .ne 9, 3) := by decide +kernel
theorem dX11_many_18 : decode cX11_many 18 = .ok (.aload_n 0, 1) := by decide +kernel
theorem dX11_many_19 : decode cX11_many 19 = .ok (.iconst (-1), 1) := by decide +kernel
theorem dX11_many_20 : decode cX11_many 20 = .ok (.invokevirtual 118, 3) := by decide +kernel
theorem dX11_many_23 : decode cX11_many 23 = .ok (.ireturn, 1) := by decide +kernel
theorem dX11_many_24 : decode cX11_many 24 = .ok (.aload_n 0, 1) := by decide +kernel
theorem dX11_many_25 : decode cX11_many 25 = .ok (.getfield 114, 3) := by decide +kernel
theorem dX11_many_28 : decode cX11_many 28 = .ok (.ifCond .ne 10, 3) := by decide +kernel
theorem dX11_many_31 : decode cX11_many 31 = .ok (.aload_n 0, 1) := by decide +kernel
theorem dX11_many_32 : decode cX11_many 32 = .ok (.bipush (-8), 2) := by decide +kernel
theorem dX11_many_34 : decode cX11_many 34 = .ok (.invokevirtual 118, 3) := by decide +kernel
theorem dX11_many_37 : decode cX11_many 37 = .ok (.ireturn, 1) := by decide +kernel
theorem dX11_many_38 : decode cX11_many 38 = .ok (.aload_n 0, 1) := by decide +kernel
theorem dX11_many_39 : decode cX11_many 39 = .ok (.invokevirtual 190, 3) := by decide +kernel
theorem dX11_many_42 : decode cX11_many 42 = .ok (.ifCond .ne 10, 3) := by decide +kernel
theorem dX11_many_45 : decode cX11_many 45 = .ok (.aload_n 0, 1) := by decide +kernel
theorem dX11_many_46 : decode cX11_many 46 = .ok (.bipush (-12), 2) := by decide +kernel
theorem dX11_many_48 : decode cX11_many 48 = .ok (.invokevirtual 118, 3) := by decide +kernel
theorem dX11_many_51 : decode cX11_many 51 = .ok (.ireturn, 1) := by decide +kernel
