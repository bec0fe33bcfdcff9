theorem dX10_way_74 : decode cX10_way 74 = .ok (.iconst 2, 1) := by decide +kernel
theorem dX10_way_75 : decode cX10_way 75 = .ok (.invokevirtual 114, 3) := by decide +kernel
theorem dX10_way_78 : decode cX10_way 78 = .ok (.ifCond .ne 10, 3) := by decide +kernel
theorem dX10_way_81 : decode cX10_way 81 = .ok (.aload_n 0, 1) := by decide +kernel
theorem dX10_way_82 : decode cX10_way 82 = .ok (.bipush (-4), 2) := by decide +kernel
theorem dX10_way_84 : decode cX10_way 84 = .ok (.invokevirtual 96, 3) := by decide +kernel
theorem dX10_way_87 : decode cX10_way 87 = .ok (.ireturn, 1) := by decide +kernel
theorem dX10_way_88 : decode cX10_way 88 = .ok (.iload_n 2, 1) := by decide +kernel
theorem dX10_way_89 : decode cX10_way 89 = .ok (.ifCond .ge 22, 3) := by decide +kernel
theorem dX10_way_92 : decode cX10_way 92 = .ok (.aload_n 0, 1) := by decide +kernel
theorem dX10_way_93 : decode cX10_way 93 = .ok (.getfield 10, 3) := by decide +kernel
theorem dX10_way_96 : decode cX10_way 96 = .ok (.iload_n 1, 1) := by decide +kernel
theorem dX10_way_97 : decode cX10_way 97 = .ok (.iconst 3, 1) := by decide +kernel
theorem dX10_way_98 : decode cX10_way 98 = .ok (.invokevirtual 114, 3) := by decide +kernel
theorem dX10_way_101 : decode cX10_way 101 = .ok (.ifCond .ne 10, 3) := by decide +kernel
theorem dX10_way_104 : decode cX10_way 104 = .ok (.aload_n 0, 1) := by decide +kernel
theorem dX10_way_105 : decode cX10_way 105 = .ok (.bipush (-4), 2) := by decide +kernel
theorem dX10_way_107 : decode cX10_way 107 = .ok (.invokevirtual 96, 3) := by decide +kernel
theorem dX10_way_110 : decode cX10_way 110 = .ok (.ireturn, 1) := by decide +kernel
theorem dX10_way_111 : decode cX10_way 111 = .ok (.aload_n 0, 1) := by decide +kernel
theorem dX10_way_112 : decode cX10_way 112 = .ok (.getfield 10, 3) := by decide +kernel
theorem dX10_way_115 : decode cX10_way 115 = .ok (.iload_n 1, 1) := by decide +kernel
theorem dX10_way_116 : decode cX10_way 116 = .ok (.iload_n 2, 1) := by decide +kernel
theorem dX10_way_117 : decode cX10_way 117 = .ok (.iload_n 3, 1) := by decide +kernel
theorem dX10_way_118 : decode cX10_way 118 = .ok (.invokevirtual 118, 3) := by decide +kernel
theorem dX10_way_121 : decode cX10_way 121 = .ok (.ireturn, 1) := by decide +kernel
theorem dX10_begin_0 : decode cX10_begin 0 = .ok (.aload_n 0, 1) := by decide +kernel
theorem dX10_begin_1 : decode cX10_begin 1 = .ok (.getfield 92, 3) := by decide +kernel
theorem dX10_begin_4 : decode cX10_begin 4 = .ok (.ifCond .eq 10, 3) := by decide +kernel
theorem dX10_begin_7 : decode cX10_begin 7 = .ok (.aload_n 0, 1) := by decide +kernel
theorem dX10_begin_8 : decode cX10_begin 8 = .ok (.bipush (-6), 2) := by decide +kernel
theorem dX10_begin_10 : decode cX10_begin 10 = .ok (.invokevirtual 96, 3) := by decide +kernel
theorem dX10_begin_13 : decode cX10_begin 13 = .ok (.ireturn, 1) := by decide +kernel
theorem dX10_begin_14 : decode cX10_begin 14 = .ok (.aload_n 0, 1) := by decide +kernel
theorem dX10_begin_15 : decode cX10_begin 15 = .ok (.getfield 10, 3) := by decide +kernel
theorem dX10_begin_18 : decode cX10_begin 18 = .ok (.getfield 100, 3) := by decide +kernel
theorem dX10_begin_21 : decode cX10_begin 21 = .ok (.ifCond .ne 10, 3) := by decide +kernel
theorem dX10_begin_24 : decode cX10_begin 24 = .ok (.aload_n 0, 1) := by decide +kernel
theorem dX10_begin_25 : decode cX10_begin 25 = .ok (.bipush (-11), 2) := by decide +kernel
theorem dX10_begin_27 : decode cX10_begin 27 = .ok (.invokevirtual 96, 3) := by decide +kernel
theorem dX10_begin_30 : decode cX10_begin 30 = .ok (.ireturn, 1) := by decide +kernel
theorem dX10_begin_31 : decode cX10_begin 31 = .ok (.aload_n 0, 1) := by decide +kernel
theorem dX10_begin_32 : decode cX10_begin 32 = .ok (.getfield 10, 3) := by decide +kernel
theorem dX10_begin_35 : decode cX10_begin 35 = .ok (.invokevirtual 122, 3) := by decide +kernel
theorem dX10_begin_38 : decode cX10_begin 38 = .ok (.istore_n 1, 1) := by decide +kernel
theorem dX10_begin_39 : decode cX10_begin 39 = .ok (.iload_n 1, 1) := by decide +kernel
theorem dX10_begin_40 : decode cX10_begin 40 = .ok (.ifCond .eq 15, 3) := by decide +kernel
theorem dX10_begin_43 : decode cX10_begin 43 = .ok (.aload_n 0, 1) := by decide +kernel
theorem dX10_begin_44 : decode cX10_begin 44 = .ok (.iload_n 1, 1) := by decide +kernel
theorem dX10_begin_45 : decode cX10_begin 45 = .ok (.putfield 126, 3) := by decide +kernel
theorem dX10_begin_48 : decode cX10_begin 48 = .ok (.aload_n 0, 1) := by decide +kernel
theorem dX10_begin_49 : decode cX10_begin 49 = .ok (.bipush (-7), 2) := by decide +kernel
theorem dX10_begin_51 : decode cX10_begin 51 = .ok (.invokevirtual 96, 3) := by decide +kernel
theorem dX10_begin_54 : decode cX10_begin 54 = .ok (.ireturn, 1) := by decide +kernel
theorem dX10_begin_55 : decode cX10_begin 55 = .ok (.aload_n 0, 1) := by decide +kernel
theorem dX10_begin_56 : decode cX10_begin 56 = .ok (.iconst 1, 1) := by decide +kernel
theorem dX10_begin_57 : decode cX10_begin 57 = .ok (.putfield 92, 3) := by decide +kernel
theorem dX10_begin_60 : decode cX10_begin 60 = .ok (.aload_n 0, 1) := by decide +kernel
theorem dX10_begin_61 : decode cX10_begin 61 = .ok (.getfield 10, 3) := by decide +kernel
theorem dX10_begin_64 : decode cX10_begin 64 = .ok (.getfield 100, 3) := by decide +kernel
theorem dX10_begin_67 : decode cX10_begin 67 = .ok (.ireturn, 1) := by decide +kernel
theorem dX10_anew_0 : decode cX10_anew 0 = .ok (.aload_n 0, 1) := by decide +kernel
theorem dX10_anew_1 : decode cX10_anew 1 = .ok (.getfield 10, 3) := by decide +kernel
theorem dX10_anew_4 : decode cX10_anew 4 = .ok (.invokevirtual 129, 3) := by decide +kernel
theorem dX10_anew_7 : decode cX10_anew 7 = .ok (.aload_n 0, 1) := by decide +kernel
theorem dX10_anew_8 : decode cX10_anew 8 = .ok (.getfield 21, 3) := by decide +kernel
theorem dX10_anew_11 : decode cX10_anew 11 = .ok (.invokevirtual 132, 3) := by decide +kernel
theorem dX10_anew_14 : decode cX10_anew 14 = .ok (.aload_n 0, 1) := by decide +kernel
theorem dX10_anew_15 : decode cX10_anew 15 = .ok (.getfield 33, 3) := by decide +kernel
theorem dX10_anew_18 : decode cX10_anew 18 = .ok (.invokevirtual 133, 3) := by decide +kernel
theorem dX10_anew_21 : decode cX10_anew 21 = .ok (.aload_n 0, 1) := by decide +kernel
theorem dX10_anew_22 : decode cX10_anew 22 = .ok (.getfield 40, 3) := by decide +kernel
theorem dX10_anew_25 : decode cX10_anew 25 = .ok (.invokevirtual 134, 3) := by decide +kernel
theorem dX10_anew_28 : decode cX10_anew 28 = .ok (.aload_n 0, 1) := by decide +kernel
theorem dX10_anew_29 : decode cX10_anew 29 = .ok (.getfield 47, 3) := by decide +kernel
theorem dX10_anew_32 : decode cX10_anew 32 = .ok (.invokevirtual 135, 3) := by decide +kernel
theorem dX10_anew_35 : decode cX10_anew 35 = .ok (.aload_n 0, 1) := by decide +kernel
theorem dX10_anew_36 : decode cX10_anew 36 = .ok (.getfield 54, 3) := by decide +kernel
theorem dX10_anew_39 : decode cX10_anew 39 = .ok (.invokevirtual 136, 3) := by decide +kernel
theorem dX10_anew_42 : decode cX10_anew 42 = .ok (.iconst 0, 1) := by decide +kernel
theorem dX10_anew_43 : decode cX10_anew 43 = .ok (.istore_n 1, 1) := by decide +kernel
theorem dX10_anew_44 : decode cX10_anew 44 = .ok (.iload_n 1, 1) := by decide +kernel
theorem dX10_anew_45 : decode cX10_anew 45 = .ok (.bipush 8, 2) := by decide +kernel
theorem dX10_anew_47 : decode cX10_anew 47 = .ok (.if_icmp .ge 16, 3) := by decide +kernel
theorem dX10_anew_50 : decode cX10_anew 50 = .ok (.aload_n 0, 1) := by decide +kernel
theorem dX10_anew_51 : decode cX10_anew 51 = .ok (.getfield 70, 3) := by decide +kernel
theorem dX10_anew_54 : decode cX10_anew 54 = .ok (.iload_n 1, 1) := by decide +kernel
theorem dX10_anew_55 : decode cX10_anew 55 = .ok (.iconst 0, 1) := by decide +kernel
theorem dX10_anew_56 : decode cX10_anew 56 = .ok (.bastore, 1) := by decide +kernel
theorem dX10_anew_57 : decode cX10_anew 57 = .ok (.iinc 1 1, 3) := by decide +kernel
theorem dX10_anew_60 : decode cX10_anew 60 = .ok (.goto (-16), 3) := by decide +kernel
theorem dX10_anew_63 : decode cX10_anew 63 = .ok (.aload_n 0, 1) := by decide +kernel
theorem dX10_anew_64 : decode cX10_anew 64 = .ok (.iconst 0, 1) := by decide +kernel
theorem dX10_anew_65 : decode cX10_anew 65 = .ok (.putfield 92, 3) := by decide +kernel
theorem dX10_anew_68 : decode cX10_anew 68 = .ok (.aload_n 0, 1) := by decide +kernel
theorem dX10_anew_69 : decode cX10_anew 69 = .ok (.iconst 0, 1) := by decide +kernel
theorem dX10_anew_70 : decode cX10_anew 70 = .ok (.putfield 126, 3) := by decide +kernel
theorem dX10_anew_73 : decode cX10_anew 73 = .ok (.iconst 0, 1) := by decide +kernel
theorem dX10_anew_74 : decode cX10_anew 74 = .ok (.ireturn, 1) := by decide +kernel
theorem dX10_as_0 : decode cX10_as 0 = .ok (.aload_n 0, 1) := by decide +kernel
theorem dX10_as_1 : decode cX10_as 1 = .ok (.getfield 10, 3) := by decide +kernel
theorem dX10_as_4 : decode cX10_as 4 = .ok (.iload_n 1, 1) := by decide +kernel
theorem dX10_as_5 : decode cX10_as 5 = .ok (.invokevirtual 107, 3) := by decide +kernel
theorem dX10_as_8 : decode cX10_as 8 = .ok (.ifCond .eq 12, 3) := by decide +kernel
theorem dX10_as_11 : decode cX10_as 11 = .ok (.iload_n 2, 1) := by decide +kernel
theorem dX10_as_12 : decode cX10_as 12 = .ok (.ifCond .lt 8, 3) := by decide +kernel
theorem dX10_as_15 : decode cX10_as 15 = .ok (.iload_n 2, 1) := by decide +kernel
theorem dX10_as_16 : decode cX10_as 16 = .ok (.iconst 5, 1) := by decide +kernel
theorem dX10_as_17 : decode cX10_as 17 = .ok (.if_icmp .lt 9, 3) := by decide +kernel
theorem dX10_as_20 : decode cX10_as 20 = .ok (.aload_n 0, 1) := by decide +kernel
theorem dX10_as_21 : decode cX10_as 21 = .ok (.iconst (-1), 1) := by decide +kernel
theorem dX10_as_22 : decode cX10_as 22 = .ok (.invokevirtual 96, 3) := by decide +kernel
theorem dX10_as_25 : decode cX10_as 25 = .ok (.ireturn, 1) := by decide +kernel
theorem dX10_as_26 : decode cX10_as 26 = .ok (.aload_n 0, 1) := by decide +kernel
theorem dX10_as_27 : decode cX10_as 27 = .ok (.getfield 10, 3) := by decide +kernel
theorem dX10_as_30 : decode cX10_as 30 = .ok (.iload_n 1, 1) := by decide +kernel
theorem dX10_as_31 : decode cX10_as 31 = .ok (.iload_n 2, 1) := by decide +kernel
theorem dX10_as_32 : decode cX10_as 32 = .ok (.invokevirtual 114, 3) := by decide +kernel
theorem dX10_as_35 : decode cX10_as 35 = .ok (.ifCond .eq 7, 3) := by decide +kernel
theorem dX10_as_38 : decode cX10_as 38 = .ok (.iload_n 1, 1) := by decide +kernel
theorem dX10_as_39 : decode cX10_as 39 = .ok (.goto 9, 3) := by decide +kernel
theorem dX10_as_42 : decode cX10_as 42 = .ok (.aload_n 0, 1) := by decide +kernel
theorem dX10_as_43 : decode cX10_as 43 = .ok (.bipush (-4), 2) := by decide +kernel
theorem dX10_as_45 : decode cX10_as 45 = .ok (.invokevirtual 96, 3) := by decide +kernel
theorem dX10_as_48 : decode cX10_as 48 = .ok (.ireturn, 1) := by decide +kernel
theorem dX10_weight_0 : decode cX10_weight 0 = .ok (.aload_n 0, 1) := by decide +kernel
theorem dX10_weight_1 : decode cX10_weight 1 = .ok (.getfield 10, 3) := by decide +kernel
theorem dX10_weight_4 : decode cX10_weight 4 = .ok (.iload_n 1, 1) := by decide +kernel
theorem dX10_weight_5 : decode cX10_weight 5 = .ok (.invokevirtual 107, 3) := by decide +kernel
theorem dX10_weight_8 : decode cX10_weight 8 = .ok (.ifCond .eq 14, 3) := by decide +kernel
theorem dX10_weight_11 : decode cX10_weight 11 = .ok (.aload_n 0, 1) := by decide +kernel
theorem dX10_weight_12 : decode cX10_weight 12 = .ok (.getfield 10, 3) := by decide +kernel
theorem dX10_weight_15 : decode cX10_weight 15 = .ok (.iload_n 2, 1) := by decide +kernel
theorem dX10_weight_16 : decode cX10_weight 16 = .ok (.invokevirtual 111, 3) := by decide +kernel
theorem dX10_weight_19 : decode cX10_weight 19 = .ok (.ifCond .ne 9, 3) := by decide +kernel
theorem dX10_weight_22 : decode cX10_weight 22 = .ok (.aload_n 0, 1) := by decide +kernel
theorem dX10_weight_23 : decode cX10_weight 23 = .ok (.iconst (-1), 1) := by decide +kernel
theorem dX10_weight_24 : decode cX10_weight 24 = .ok (.invokevirtual 96, 3) := by decide +kernel
theorem dX10_weight_27 : decode cX10_weight 27 = .ok (.ireturn, 1) := by decide +kernel
theorem dX10_weight_28 : decode cX10_weight 28 = .ok (.aload_n 0, 1) := by decide +kernel
theorem dX10_weight_29 : decode cX10_weight 29 = .ok (.getfield 10, 3) := by decide +kernel
theorem dX10_weight_32 : decode cX10_weight 32 = .ok (.iload_n 1, 1) := by decide +kernel
theorem dX10_weight_33 : decode cX10_weight 33 = .ok (.iload_n 2, 1) := by decide +kernel
theorem dX10_weight_34 : decode cX10_weight 34 = .ok (.invokevirtual 137, 3) := by decide +kernel
theorem dX10_weight_37 : decode cX10_weight 37 = .ok (.ireturn, 1) := by decide +kernel
theorem dX10_lay_0 : decode cX10_lay 0 = .ok (.aload_n 0, 1) := by decide +kernel
theorem dX10_lay_1 : decode cX10_lay 1 = .ok (.getfield 10, 3) := by decide +kernel
theorem dX10_lay_4 : decode cX10_lay 4 = .ok (.iload_n 1, 1) := by decide +kernel
theorem dX10_lay_5 : decode cX10_lay 5 = .ok (.invokevirtual 107, 3) := by decide +kernel
theorem dX10_lay_8 : decode cX10_lay 8 = .ok (.ifCond .ne 9, 3) := by decide +kernel
theorem dX10_lay_11 : decode cX10_lay 11 = .ok (.aload_n 0, 1) := by decide +kernel
theorem dX10_lay_12 : decode cX10_lay 12 = .ok (.iconst (-1), 1) := by decide +kernel
theorem dX10_lay_13 : decode cX10_lay 13 = .ok (.invokevirtual 96, 3) := by decide +kernel
theorem dX10_lay_16 : decode cX10_lay 16 = .ok (.ireturn, 1) := by decide +kernel
theorem dX10_lay_17 : decode cX10_lay 17 = .ok (.aload_n 0, 1) := by decide +kernel
theorem dX10_lay_18 : decode cX10_lay 18 = .ok (.getfield 92, 3) := by decide +kernel
theorem dX10_lay_21 : decode cX10_lay 21 = .ok (.ifCond .ne 10, 3) := by decide +kernel
theorem dX10_lay_24 : decode cX10_lay 24 = .ok (.aload_n 0, 1) := by decide +kernel
theorem dX10_lay_25 : decode cX10_lay 25 = .ok (.bipush (-8), 2) := by decide +kernel
theorem dX10_lay_27 : decode cX10_lay 27 = .ok (.invokevirtual 96, 3) := by decide +kernel
theorem dX10_lay_30 : decode cX10_lay 30 = .ok (.ireturn, 1) := by decide +kernel
theorem dX10_lay_31 : decode cX10_lay 31 = .ok (.aload_n 0, 1) := by decide +kernel
theorem dX10_lay_32 : decode cX10_lay 32 = .ok (.getfield 21, 3) := by decide +kernel
theorem dX10_lay_35 : decode cX10_lay 35 = .ok (.getfield 141, 3) := by decide +kernel
theorem dX10_lay_38 : decode cX10_lay 38 = .ok (.iload_n 1, 1) := by decide +kernel
theorem dX10_lay_39 : decode cX10_lay 39 = .ok (.iaload, 1) := by decide +kernel
theorem dX10_lay_40 : decode cX10_lay 40 = .ok (.i2l, 1) := by decide +kernel
theorem dX10_lay_41 : decode cX10_lay 41 = .ok (.iload_n 2, 1) := by decide +kernel
theorem dX10_lay_42 : decode cX10_lay 42 = .ok (.i2l, 1) := by decide +kernel
theorem dX10_lay_43 : decode cX10_lay 43 = .ok (.ladd, 1) := by decide +kernel
theorem dX10_lay_44 : decode cX10_lay 44 = .ok (.lstore_n 3, 1) := by decide +kernel
theorem dX10_lay_45 : decode cX10_lay 45 = .ok (.lload_n 3, 1) := by decide +kernel
theorem dX10_lay_46 : decode cX10_lay 46 = .ok (.lconst 0, 1) := by decide +kernel
theorem dX10_lay_47 : decode cX10_lay 47 = .ok (.lcmp, 1) := by decide +kernel
theorem dX10_lay_48 : decode cX10_lay 48 = .ok (.ifCond .ge 10, 3) := by decide +kernel
theorem dX10_lay_51 : decode cX10_lay 51 = .ok (.aload_n 0, 1) := by decide +kernel
theorem dX10_lay_52 : decode cX10_lay 52 = .ok (.bipush (-13), 2) := by decide +kernel
theorem dX10_lay_54 : decode cX10_lay 54 = .ok (.invokevirtual 96, 3) := by decide +kernel
theorem dX10_lay_57 : decode cX10_lay 57 = .ok (.ireturn, 1) := by decide +kernel
theorem dX10_lay_58 : decode cX10_lay 58 = .ok (.lload_n 3, 1) := by decide +kernel
theorem dX10_lay_59 : decode cX10_lay 59 = .ok (.ldc2_w 144, 3) := by decide +kernel
theorem dX10_lay_62 : decode cX10_lay 62 = .ok (.lcmp, 1) := by decide +kernel
theorem dX10_lay_63 : decode cX10_lay 63 = .ok (.ifCond .le 10, 3) := by decide +kernel
theorem dX10_lay_66 : decode cX10_lay 66 = .ok (.aload_n 0, 1) := by decide +kernel
theorem dX10_lay_67 : decode cX10_lay 67 = .ok (.bipush (-5), 2) := by decide +kernel
theorem dX10_lay_69 : decode cX10_lay 69 = .ok (.invokevirtual 96, 3) := by decide +kernel
theorem dX10_lay_72 : decode cX10_lay 72 = .ok (.ireturn, 1) := by decide +kernel
theorem dX10_lay_73 : decode cX10_lay 73 = .ok (.aload_n 0, 1) := by decide +kernel
theorem dX10_lay_74 : decode cX10_lay 74 = .ok (.getfield 40, 3) := by decide +kernel
theorem dX10_lay_77 : decode cX10_lay 77 = .ok (.aload_n 0, 1) := by decide +kernel
theorem dX10_lay_78 : decode cX10_lay 78 = .ok (.getfield 21, 3) := by decide +kernel
theorem dX10_lay_81 : decode cX10_lay 81 = .ok (.aload_n 0, 1) := by decide +kernel
theorem dX10_lay_82 : decode cX10_lay 82 = .ok (.getfield 33, 3) := by decide +kernel
theorem dX10_lay_85 : decode cX10_lay 85 = .ok (.invokevirtual 146, 3) := by decide +kernel
theorem dX10_lay_88 : decode cX10_lay 88 = .ok (.aload_n 0, 1) := by decide +kernel
theorem dX10_lay_89 : decode cX10_lay 89 = .ok (.getfield 21, 3) := by decide +kernel
theorem dX10_lay_92 : decode cX10_lay 92 = .ok (.getfield 141, 3) := by decide +kernel
theorem dX10_lay_95 : decode cX10_lay 95 = .ok (.iload_n 1, 1) := by decide +kernel
theorem dX10_lay_96 : decode cX10_lay 96 = .ok (.lload_n 3, 1) := by decide +kernel
theorem dX10_lay_97 : decode cX10_lay 97 = .ok (.l2i, 1) := by decide +kernel
theorem dX10_lay_98 : decode cX10_lay 98 = .ok (.iastore, 1) := by decide +kernel
theorem dX10_lay_99 : decode cX10_lay 99 = .ok (.aload_n 0, 1) := by decide +kernel
theorem dX10_lay_100 : decode cX10_lay 100 = .ok (.getfield 21, 3) := by decide +kernel
theorem dX10_lay_103 : decode cX10_lay 103 = .ok (.getfield 141, 3) := by decide +kernel
theorem dX10_lay_106 : decode cX10_lay 106 = .ok (.iload_n 1, 1) := by decide +kernel
theorem dX10_lay_107 : decode cX10_lay 107 = .ok (.iaload, 1) := by decide +kernel
theorem dX10_lay_108 : decode cX10_lay 108 = .ok (.ireturn, 1) := by decide +kernel
theorem dX10_grains_0 : decode cX10_grains 0 = .ok (.aload_n 0, 1) := by decide +kernel
theorem dX10_grains_1 : decode cX10_grains 1 = .ok (.getfield 10, 3) := by decide +kernel
theorem dX10_grains_4 : decode cX10_grains 4 = .ok (.iload_n 1, 1) := by decide +kernel
theorem dX10_grains_5 : decode cX10_grains 5 = .ok (.invokevirtual 107, 3) := by decide +kernel
theorem dX10_grains_8 : decode cX10_grains 8 = .ok (.ifCond .eq 14, 3) := by decide +kernel
theorem dX10_grains_11 : decode cX10_grains 11 = .ok (.aload_n 0, 1) := by decide +kernel
theorem dX10_grains_12 : decode cX10_grains 12 = .ok (.getfield 21, 3) := by decide +kernel
theorem dX10_grains_15 : decode cX10_grains 15 = .ok (.getfield 141, 3) := by decide +kernel
theorem dX10_grains_18 : decode cX10_grains 18 = .ok (.iload_n 1, 1) := by decide +kernel
theorem dX10_grains_19 : decode cX10_grains 19 = .ok (.iaload, 1) := by decide +kernel
theorem dX10_grains_20 : decode cX10_grains 20 = .ok (.i2l, 1) := by decide +kernel
theorem dX10_grains_21 : decode cX10_grains 21 = .ok (.lreturn, 1) := by decide +kernel
theorem dX10_grains_22 : decode cX10_grains 22 = .ok (.aload_n 0, 1) := by decide +kernel
theorem dX10_grains_23 : decode cX10_grains 23 = .ok (.getfield 10, 3) := by decide +kernel
theorem dX10_grains_26 : decode cX10_grains 26 = .ok (.iload_n 1, 1) := by decide +kernel
theorem dX10_grains_27 : decode cX10_grains 27 = .ok (.invokevirtual 150, 3) := by decide +kernel
theorem dX10_grains_30 : decode cX10_grains 30 = .ok (.ifCond .eq 15, 3) := by decide +kernel
theorem dX10_grains_33 : decode cX10_grains 33 = .ok (.aload_n 0, 1) := by decide +kernel
theorem dX10_grains_34 : decode cX10_grains 34 = .ok (.getfield 21, 3) := by decide +kernel
theorem dX10_grains_37 : decode cX10_grains 37 = .ok (.getfield 153, 3) := by decide +kernel
theorem dX10_grains_40 : decode cX10_grains 40 = .ok (.iconst (-1), 1) := by decide +kernel
theorem dX10_grains_41 : decode cX10_grains 41 = .ok (.iload_n 1, 1) := by decide +kernel
theorem dX10_grains_42 : decode cX10_grains 42 = .ok (.isub, 1) := by decide +kernel
theorem dX10_grains_43 : decode cX10_grains 43 = .ok (.laload, 1) := by decide +kernel
theorem dX10_grains_44 : decode cX10_grains 44 = .ok (.lreturn, 1) := by decide +kernel
theorem dX10_grains_45 : decode cX10_grains 45 = .ok (.aload_n 0, 1) := by decide +kernel
theorem dX10_grains_46 : decode cX10_grains 46 = .ok (.iconst (-1), 1) := by decide +kernel
theorem dX10_grains_47 : decode cX10_grains 47 = .ok (.invokevirtual 96, 3) := by decide +kernel
theorem dX10_grains_50 : decode cX10_grains 50 = .ok (.i2l, 1) := by decide +kernel
theorem dX10_grains_51 : decode cX10_grains 51 = .ok (.lreturn, 1) := by decide +kernel
theorem dX10_due_0 : decode cX10_due 0 = .ok (.aload_n 0, 1) := by decide +kernel
theorem dX10_due_1 : decode cX10_due 1 = .ok (.getfield 21, 3) := by decide +kernel
theorem dX10_due_4 : decode cX10_due 4 = .ok (.invokevirtual 157, 3) := by decide +kernel
theorem dX10_due_7 : decode cX10_due 7 = .ok (.ireturn, 1) := by decide +kernel
theorem dX10_slide_0 : decode cX10_slide 0 = .ok (.aload_n 0, 1) := by decide +kernel
theorem dX10_slide_1 : decode cX10_slide 1 = .ok (.getfield 10, 3) := by decide +kernel
theorem dX10_slide_4 : decode cX10_slide 4 = .ok (.iload_n 1, 1) := by decide +kernel
theorem dX10_slide_5 : decode cX10_slide 5 = .ok (.invokevirtual 107, 3) := by decide +kernel
theorem dX10_slide_8 : decode cX10_slide 8 = .ok (.ifCond .ne 9, 3) := by decide +kernel
theorem dX10_slide_11 : decode cX10_slide 11 = .ok (.aload_n 0, 1) := by decide +kernel
theorem dX10_slide_12 : decode cX10_slide 12 = .ok (.iconst (-1), 1) := by decide +kernel
theorem dX10_slide_13 : decode cX10_slide 13 = .ok (.invokevirtual 96, 3) := by decide +kernel
theorem dX10_slide_16 : decode cX10_slide 16 = .ok (.ireturn, 1) := by decide +kernel
theorem dX10_slide_17 : decode cX10_slide 17 = .ok (.aload_n 0, 1) := by decide +kernel
theorem dX10_slide_18 : decode cX10_slide 18 = .ok (.getfield 21, 3) := by decide +kernel
theorem dX10_slide_21 : decode cX10_slide 21 = .ok (.iload_n 1, 1) := by decide +kernel
theorem dX10_slide_22 : decode cX10_slide 22 = .ok (.invokevirtual 160, 3) := by decide +kernel
theorem dX10_slide_25 : decode cX10_slide 25 = .ok (.ifCond .ne 10, 3) := by decide +kernel
theorem dX10_slide_28 : decode cX10_slide 28 = .ok (.aload_n 0, 1) := by decide +kernel
theorem dX10_slide_29 : decode cX10_slide 29 = .ok (.bipush (-8), 2) := by decide +kernel
theorem dX10_slide_31 : decode cX10_slide 31 = .ok (.invokevirtual 96, 3) := by decide +kernel
theorem dX10_slide_34 : decode cX10_slide 34 = .ok (.ireturn, 1) := by decide +kernel
theorem dX10_slide_35 : decode cX10_slide 35 = .ok (.aload_n 0, 1) := by decide +kernel
theorem dX10_slide_36 : decode cX10_slide 36 = .ok (.getfield 21, 3) := by decide +kernel
theorem dX10_slide_39 : decode cX10_slide 39 = .ok (.iload_n 1, 1) := by decide +kernel
theorem dX10_slide_40 : decode cX10_slide 40 = .ok (.invokevirtual 163, 3) := by decide +kernel
theorem dX10_slide_43 : decode cX10_slide 43 = .ok (.ifCond .eq 10, 3) := by decide +kernel
theorem dX10_slide_46 : decode cX10_slide 46 = .ok (.aload_n 0, 1) := by decide +kernel
theorem dX10_slide_47 : decode cX10_slide 47 = .ok (.bipush (-5), 2) := by decide +kernel
theorem dX10_slide_49 : decode cX10_slide 49 = .ok (.invokevirtual 96, 3) := by decide +kernel
theorem dX10_slide_52 : decode cX10_slide 52 = .ok (.ireturn, 1) := by decide +kernel
theorem dX10_slide_53 : decode cX10_slide 53 = .ok (.aload_n 0, 1) := by decide +kernel
theorem dX10_slide_54 : decode cX10_slide 54 = .ok (.getfield 40, 3) := by decide +kernel
theorem dX10_slide_57 : decode cX10_slide 57 = .ok (.aload_n 0, 1) := by decide +kernel
theorem dX10_slide_58 : decode cX10_slide 58 = .ok (.getfield 21, 3) := by decide +kernel
theorem dX10_slide_61 : decode cX10_slide 61 = .ok (.aload_n 0, 1) := by decide +kernel
theorem dX10_slide_62 : decode cX10_slide 62 = .ok (.getfield 33, 3) := by decide +kernel
theorem dX10_slide_65 : decode cX10_slide 65 = .ok (.invokevirtual 146, 3) := by decide +kernel
theorem dX10_slide_68 : decode cX10_slide 68 = .ok (.aload_n 0, 1) := by decide +kernel
theorem dX10_slide_69 : decode cX10_slide 69 = .ok (.getfield 21, 3) := by decide +kernel
theorem dX10_slide_72 : decode cX10_slide 72 = .ok (.iload_n 1, 1) := by decide +kernel
theorem dX10_slide_73 : decode cX10_slide 73 = .ok (.invokevirtual 166, 3) := by decide +kernel
theorem dX10_slide_76 : decode cX10_slide 76 = .ok (.ireturn, 1) := by decide +kernel
theorem dX10_manner_0 : decode cX10_manner 0 = .ok (.iload_n 1, 1) := by decide +kernel
theorem dX10_manner_1 : decode cX10_manner 1 = .ok (.ifCond .lt 17, 3) := by decide +kernel
theorem dX10_manner_4 : decode cX10_manner 4 = .ok (.iload_n 1, 1) := by decide +kernel
theorem dX10_manner_5 : decode cX10_manner 5 = .ok (.iconst 4, 1) := by decide +kernel
theorem dX10_manner_6 : decode cX10_manner 6 = .ok (.if_icmp .gt 12, 3) := by decide +kernel
theorem dX10_manner_9 : decode cX10_manner 9 = .ok (.iload_n 1, 1) := by decide +kernel
theorem dX10_manner_10 : decode cX10_manner 10 = .ok (.iconst 3, 1) := by decide +kernel
theorem dX10_manner_11 : decode cX10_manner 11 = .ok (.if_icmp .ne 13, 3) := by decide +kernel
theorem dX10_manner_14 : decode cX10_manner 14 = .ok (.iload_n 2, 1) := by decide +kernel
theorem dX10_manner_15 : decode cX10_manner 15 = .ok (.ifCond .ge 9, 3) := by decide +kernel
theorem dX10_manner_18 : decode cX10_manner 18 = .ok (.aload_n 0, 1) := by decide +kernel
theorem dX10_manner_19 : decode cX10_manner 19 = .ok (.iconst (-1), 1) := by decide +kernel
theorem dX10_manner_20 : decode cX10_manner 20 = .ok (.invokevirtual 96, 3) := by decide +kernel
theorem dX10_manner_23 : decode cX10_manner 23 = .ok (.ireturn, 1) := by decide +kernel
theorem dX10_manner_24 : decode cX10_manner 24 = .ok (.aload_n 0, 1) := by decide +kernel
theorem dX10_manner_25 : decode cX10_manner 25 = .ok (.getfield 92, 3) := by decide +kernel
theorem dX10_manner_28 : decode cX10_manner 28 = .ok (.ifCond .ne 10, 3) := by decide +kernel
theorem dX10_manner_31 : decode cX10_manner 31 = .ok (.aload_n 0, 1) := by decide +kernel
theorem dX10_manner_32 : decode cX10_manner 32 = .ok (.bipush (-8), 2) := by decide +kernel
theorem dX10_manner_34 : decode cX10_manner 34 = .ok (.invokevirtual 96, 3) := by decide +kernel
theorem dX10_manner_37 : decode cX10_manner 37 = .ok (.ireturn, 1) := by decide +kernel
theorem dX10_manner_38 : decode cX10_manner 38 = .ok (.iload_n 1, 1) := by decide +kernel
theorem dX10_manner_39 : decode cX10_manner 39 = .ok (.iconst 2, 1) := by decide +kernel
theorem dX10_manner_40 : decode cX10_manner 40 = .ok (.if_icmp .ne 26, 3) := by decide +kernel
theorem dX10_manner_43 : decode cX10_manner 43 = .ok (.aload_n 0, 1) := by decide +kernel
theorem dX10_manner_44 : decode cX10_manner 44 = .ok (.getfield 84, 3) := by decide +kernel
theorem dX10_manner_47 : decode cX10_manner 47 = .ok (.aload_n 0, 1) := by decide +kernel
theorem dX10_manner_48 : decode cX10_manner 48 = .ok (.getfield 10, 3) := by decide +kernel
theorem dX10_manner_51 : decode cX10_manner 51 = .ok (.getfield 100, 3) := by decide +kernel
theorem dX10_manner_54 : decode cX10_manner 54 = .ok (.invokevirtual 169, 3) := by decide +kernel
theorem dX10_manner_57 : decode cX10_manner 57 = .ok (.ifCond .ne 9, 3) := by decide +kernel
theorem dX10_manner_60 : decode cX10_manner 60 = .ok (.aload_n 0, 1) := by decide +kernel
theorem dX10_manner_61 : decode cX10_manner 61 = .ok (.iconst (-1), 1) := by decide +kernel
theorem dX10_manner_62 : decode cX10_manner 62 = .ok (.invokevirtual 96, 3) := by decide +kernel
theorem dX10_manner_65 : decode cX10_manner 65 = .ok (.ireturn, 1) := by decide +kernel
theorem dX10_manner_66 : decode cX10_manner 66 = .ok (.aload_n 0, 1) := by decide +kernel
theorem dX10_manner_67 : decode cX10_manner 67 = .ok (.getfield 33, 3) := by decide +kernel
theorem dX10_manner_70 : decode cX10_manner 70 = .ok (.getfield 172, 3) := by decide +kernel
theorem dX10_manner_73 : decode cX10_manner 73 = .ok (.istore_n 3, 1) := by decide +kernel
theorem dX10_manner_74 : decode cX10_manner 74 = .ok (.iload_n 1, 1) := by decide +kernel
theorem dX10_manner_75 : decode cX10_manner 75 = .ok (.iconst 2, 1) := by decide +kernel
theorem dX10_manner_76 : decode cX10_manner 76 = .ok (.if_icmp .ne 21, 3) := by decide +kernel
theorem dX10_manner_79 : decode cX10_manner 79 = .ok (.aload_n 0, 1) := by decide +kernel
theorem dX10_manner_80 : decode cX10_manner 80 = .ok (.getfield 33, 3) := by decide +kernel
theorem dX10_manner_83 : decode cX10_manner 83 = .ok (.aload_n 0, 1) := by decide +kernel
theorem dX10_manner_84 : decode cX10_manner 84 = .ok (.getfield 84, 3) := by decide +kernel
theorem dX10_manner_87 : decode cX10_manner 87 = .ok (.invokevirtual 175, 3) := by decide +kernel
theorem dX10_manner_90 : decode cX10_manner 90 = .ok (.aload_n 0, 1) := by decide +kernel
theorem dX10_manner_91 : decode cX10_manner 91 = .ok (.getfield 84, 3) := by decide +kernel
theorem dX10_manner_94 : decode cX10_manner 94 = .ok (.invokevirtual 179, 3) := by decide +kernel
theorem dX10_manner_97 : decode cX10_manner 97 = .ok (.iload_n 1, 1) := by decide +kernel
theorem dX10_manner_98 : decode cX10_manner 98 = .ok (.iconst 3, 1) := by decide +kernel
theorem dX10_manner_99 : decode cX10_manner 99 = .ok (.if_icmp .ne 12, 3) := by decide +kernel
theorem dX10_manner_102 : decode cX10_manner 102 = .ok (.aload_n 0, 1) := by decide +kernel
theorem dX10_manner_103 : decode cX10_manner 103 = .ok (.getfield 33, 3) := by decide +kernel
theorem dX10_manner_106 : decode cX10_manner 106 = .ok (.iload_n 2, 1) := by decide +kernel
theorem dX10_manner_107 : decode cX10_manner 107 = .ok (.i2l, 1) := by decide +kernel
theorem dX10_manner_108 : decode cX10_manner 108 = .ok (.putfield 180, 3) := by decide +kernel
theorem dX10_manner_111 : decode cX10_manner 111 = .ok (.aload_n 0, 1) := by decide +kernel
theorem dX10_manner_112 : decode cX10_manner 112 = .ok (.getfield 33, 3) := by decide +kernel
theorem dX10_manner_115 : decode cX10_manner 115 = .ok (.iconst 0, 1) := by decide +kernel
theorem dX10_manner_116 : decode cX10_manner 116 = .ok (.putfield 184, 3) := by decide +kernel
theorem dX10_manner_119 : decode cX10_manner 119 = .ok (.aload_n 0, 1) := by decide +kernel
theorem dX10_manner_120 : decode cX10_manner 120 = .ok (.getfield 33, 3) := by decide +kernel
theorem dX10_manner_123 : decode cX10_manner 123 = .ok (.iload_n 1, 1) := by decide +kernel
theorem dX10_manner_124 : decode cX10_manner 124 = .ok (.putfield 172, 3) := by decide +kernel
theorem dX10_manner_127 : decode cX10_manner 127 = .ok (.aload_n 0, 1) := by decide +kernel
theorem dX10_manner_128 : decode cX10_manner 128 = .ok (.getfield 40, 3) := by decide +kernel
theorem dX10_manner_131 : decode cX10_manner 131 = .ok (.invokevirtual 134, 3) := by decide +kernel
theorem dX10_manner_134 : decode cX10_manner 134 = .ok (.iload_n 3, 1) := by decide +kernel
theorem dX10_manner_135 : decode cX10_manner 135 = .ok (.ireturn, 1) := by decide +kernel
theorem dX10_run_0 : decode cX10_run 0 = .ok (.iload_n 1, 1) := by decide +kernel
theorem dX10_run_1 : decode cX10_run 1 = .ok (.iconst 1, 1) := by decide +kernel
theorem dX10_run_2 : decode cX10_run 2 = .ok (.if_icmp .lt 10, 3) := by decide +kernel
theorem dX10_run_5 : decode cX10_run 5 = .ok (.iload_n 1, 1) := by decide +kernel
theorem dX10_run_6 : decode cX10_run 6 = .ok (.sipush 5000, 3) := by decide +kernel
theorem dX10_run_9 : decode cX10_run 9 = .ok (.if_icmp .le 9, 3) := by decide +kernel
theorem dX10_run_12 : decode cX10_run 12 = .ok (.aload_n 0, 1) := by decide +kernel
theorem dX10_run_13 : decode cX10_run 13 = .ok (.iconst (-1), 1) := by decide +kernel
theorem dX10_run_14 : decode cX10_run 14 = .ok (.invokevirtual 96, 3) := by decide +kernel
theorem dX10_run_17 : decode cX10_run 17 = .ok (.ireturn, 1) := by decide +kernel
theorem dX10_run_18 : decode cX10_run 18 = .ok (.aload_n 0, 1) := by decide +kernel
theorem dX10_run_19 : decode cX10_run 19 = .ok (.getfield 92, 3) := by decide +kernel
theorem dX10_run_22 : decode cX10_run 22 = .ok (.ifCond .ne 10, 3) := by decide +kernel
theorem dX10_run_25 : decode cX10_run 25 = .ok (.aload_n 0, 1) := by decide +kernel
theorem dX10_run_26 : decode cX10_run 26 = .ok (.bipush (-8), 2) := by decide +kernel
theorem dX10_run_28 : decode cX10_run 28 = .ok (.invokevirtual 96, 3) := by decide +kernel
theorem dX10_run_31 : decode cX10_run 31 = .ok (.ireturn, 1) := by decide +kernel
theorem dX10_run_32 : decode cX10_run 32 = .ok (.aload_n 0, 1) := by decide +kernel
theorem dX10_run_33 : decode cX10_run 33 = .ok (.getfield 40, 3) := by decide +kernel
theorem dX10_run_36 : decode cX10_run 36 = .ok (.aload_n 0, 1) := by decide +kernel
theorem dX10_run_37 : decode cX10_run 37 = .ok (.getfield 21, 3) := by decide +kernel
theorem dX10_run_40 : decode cX10_run 40 = .ok (.aload_n 0, 1) := by decide +kernel
theorem dX10_run_41 : decode cX10_run 41 = .ok (.getfield 33, 3) := by decide +kernel
theorem dX10_run_44 : decode cX10_run 44 = .ok (.invokevirtual 146, 3) := by decide +kernel
theorem dX10_run_47 : decode cX10_run 47 = .ok (.iconst 0, 1) := by decide +kernel
theorem dX10_run_48 : decode cX10_run 48 = .ok (.istore_n 2, 1) := by decide +kernel
theorem dX10_run_49 : decode cX10_run 49 = .ok (.iload_n 2, 1) := by decide +kernel
theorem dX10_run_50 : decode cX10_run 50 = .ok (.iload_n 1, 1) := by decide +kernel
theorem dX10_run_51 : decode cX10_run 51 = .ok (.if_icmp .ge 59, 3) := by decide +kernel
theorem dX10_run_54 : decode cX10_run 54 = .ok (.aload_n 0, 1) := by decide +kernel
theorem dX10_run_55 : decode cX10_run 55 = .ok (.getfield 33, 3) := by decide +kernel
theorem dX10_run_58 : decode cX10_run 58 = .ok (.invokevirtual 187, 3) := by decide +kernel
theorem dX10_run_61 : decode cX10_run 61 = .ok (.istore_n 3, 1) := by decide +kernel
theorem dX10_run_62 : decode cX10_run 62 = .ok (.iload_n 3, 1) := by decide +kernel
theorem dX10_run_63 : decode cX10_run 63 = .ok (.iconst (-1), 1) := by decide +kernel
theorem dX10_run_64 : decode cX10_run 64 = .ok (.if_icmp .ne 5, 3) := by decide +kernel
theorem dX10_run_67 : decode cX10_run 67 = .ok (.iload_n 2, 1) := by decide +kernel
theorem dX10_run_68 : decode cX10_run 68 = .ok (.ireturn, 1) := by decide +kernel
theorem dX10_run_69 : decode cX10_run 69 = .ok (.aload_n 0, 1) := by decide +kernel
theorem dX10_run_70 : decode cX10_run 70 = .ok (.getfield 21, 3) := by decide +kernel
theorem dX10_run_73 : decode cX10_run 73 = .ok (.iload_n 3, 1) := by decide +kernel
theorem dX10_run_74 : decode cX10_run 74 = .ok (.invokevirtual 163, 3) := by decide +kernel
theorem dX10_run_77 : decode cX10_run 77 = .ok (.ifCond .eq 10, 3) := by decide +kernel
theorem dX10_run_80 : decode cX10_run 80 = .ok (.aload_n 0, 1) := by decide +kernel
theorem dX10_run_81 : decode cX10_run 81 = .ok (.bipush (-5), 2) := by decide +kernel
theorem dX10_run_83 : decode cX10_run 83 = .ok (.invokevirtual 96, 3) := by decide +kernel
theorem dX10_run_86 : decode cX10_run 86 = .ok (.ireturn, 1) := by decide +kernel
theorem dX10_run_87 : decode cX10_run 87 = .ok (.aload_n 0, 1) := by decide +kernel
theorem dX10_run_88 : decode cX10_run 88 = .ok (.getfield 21, 3) := by decide +kernel
theorem dX10_run_91 : decode cX10_run 91 = .ok (.iload_n 3, 1) := by decide +kernel
theorem dX10_run_92 : decode cX10_run 92 = .ok (.invokevirtual 166, 3) := by decide +kernel
theorem dX10_run_95 : decode cX10_run 95 = .ok (.pop, 1) := by decide +kernel
theorem dX10_run_96 : decode cX10_run 96 = .ok (.aload_n 0, 1) := by decide +kernel
theorem dX10_run_97 : decode cX10_run 97 = .ok (.getfield 33, 3) := by decide +kernel
theorem dX10_run_100 : decode cX10_run 100 = .ok (.iload_n 3, 1) := by decide +kernel
theorem dX10_run_101 : decode cX10_run 101 = .ok (.invokevirtual 190, 3) := by decide +kernel
theorem dX10_run_104 : decode cX10_run 104 = .ok (.iinc 2 1, 3) := by decide +kernel
theorem dX10_run_107 : decode cX10_run 107 = .ok (.goto (-58), 3) := by decide +kernel
theorem dX10_run_110 : decode cX10_run 110 = .ok (.aload_n 0, 1) := by decide +kernel
theorem dX10_run_111 : decode cX10_run 111 = .ok (.getfield 21, 3) := by decide +kernel
theorem dX10_run_114 : decode cX10_run 114 = .ok (.invokevirtual 194, 3) := by decide +kernel
theorem dX10_run_117 : decode cX10_run 117 = .ok (.ifCond .eq 7, 3) := by decide +kernel
theorem dX10_run_120 : decode cX10_run 120 = .ok (.iload_n 1, 1) := by decide +kernel
theorem dX10_run_121 : decode cX10_run 121 = .ok (.goto 9, 3) := by decide +kernel
theorem dX10_run_124 : decode cX10_run 124 = .ok (.aload_n 0, 1) := by decide +kernel
theorem dX10_run_125 : decode cX10_run 125 = .ok (.bipush (-9), 2) := by decide +kernel
theorem dX10_run_127 : decode cX10_run 127 = .ok (.invokevirtual 96, 3) := by decide +kernel
theorem dX10_run_130 : decode cX10_run 130 = .ok (.ireturn, 1) := by decide +kernel
theorem dX10_odometer_0 : decode cX10_odometer 0 = .ok (.aload_n 0, 1) := by decide +kernel
theorem dX10_odometer_1 : decode cX10_odometer 1 = .ok (.getfield 10, 3) := by decide +kernel
theorem dX10_odometer_4 : decode cX10_odometer 4 = .ok (.iload_n 1, 1) := by decide +kernel
theorem dX10_odometer_5 : decode cX10_odometer 5 = .ok (.invokevirtual 107, 3) := by decide +kernel
theorem dX10_odometer_8 : decode cX10_odometer 8 = .ok (.ifCond .ne 10, 3) := by decide +kernel
theorem dX10_odometer_11 : decode cX10_odometer 11 = .ok (.aload_n 0, 1) := by decide +kernel
theorem dX10_odometer_12 : decode cX10_odometer 12 = .ok (.iconst (-1), 1) := by decide +kernel
theorem dX10_odometer_13 : decode cX10_odometer 13 = .ok (.invokevirtual 96, 3) := by decide +kernel
theorem dX10_odometer_16 : decode cX10_odometer 16 = .ok (.i2l, 1) := by decide +kernel
theorem dX10_odometer_17 : decode cX10_odometer 17 = .ok (.lreturn, 1) := by decide +kernel
theorem dX10_odometer_18 : decode cX10_odometer 18 = .ok (.aload_n 0, 1) := by decide +kernel
theorem dX10_odometer_19 : decode cX10_odometer 19 = .ok (.getfield 21, 3) := by decide +kernel
theorem dX10_odometer_22 : decode cX10_odometer 22 = .ok (.getfield 198, 3) := by decide +kernel
theorem dX10_odometer_25 : decode cX10_odometer 25 = .ok (.iload_n 1, 1) := by decide +kernel
theorem dX10_odometer_26 : decode cX10_odometer 26 = .ok (.laload, 1) := by decide +kernel
theorem dX10_odometer_27 : decode cX10_odometer 27 = .ok (.lreturn, 1) := by decide +kernel
theorem dX10_reset_0 : decode cX10_reset 0 = .ok (.iconst 0, 1) := by decide +kernel
theorem dX10_reset_1 : decode cX10_reset 1 = .ok (.istore_n 1, 1) := by decide +kernel
theorem dX10_reset_2 : decode cX10_reset 2 = .ok (.iconst 0, 1) := by decide +kernel
theorem dX10_reset_3 : decode cX10_reset 3 = .ok (.istore_n 2, 1) := by decide +kernel
theorem dX10_reset_4 : decode cX10_reset 4 = .ok (.iload_n 2, 1) := by decide +kernel
theorem dX10_reset_5 : decode cX10_reset 5 = .ok (.aload_n 0, 1) := by decide +kernel
theorem dX10_reset_6 : decode cX10_reset 6 = .ok (.getfield 10, 3) := by decide +kernel
theorem dX10_reset_9 : decode cX10_reset 9 = .ok (.getfield 100, 3) := by decide +kernel
theorem dX10_reset_12 : decode cX10_reset 12 = .ok (.if_icmp .ge 36, 3) := by decide +kernel
theorem dX10_reset_15 : decode cX10_reset 15 = .ok (.aload_n 0, 1) := by decide +kernel
theorem dX10_reset_16 : decode cX10_reset 16 = .ok (.getfield 21, 3) := by decide +kernel
theorem dX10_reset_19 : decode cX10_reset 19 = .ok (.getfield 198, 3) := by decide +kernel
theorem dX10_reset_22 : decode cX10_reset 22 = .ok (.iload_n 2, 1) := by decide +kernel
theorem dX10_reset_23 : decode cX10_reset 23 = .ok (.laload, 1) := by decide +kernel
theorem dX10_reset_24 : decode cX10_reset 24 = .ok (.lconst 0, 1) := by decide +kernel
theorem dX10_reset_25 : decode cX10_reset 25 = .ok (.lcmp, 1) := by decide +kernel
theorem dX10_reset_26 : decode cX10_reset 26 = .ok (.ifCond .eq 6, 3) := by decide +kernel
theorem dX10_reset_29 : decode cX10_reset 29 = .ok (.iinc 1 1, 3) := by decide +kernel
theorem dX10_reset_32 : decode cX10_reset 32 = .ok (.aload_n 0, 1) := by decide +kernel
theorem dX10_reset_33 : decode cX10_reset 33 = .ok (.getfield 21, 3) := by decide +kernel
theorem dX10_reset_36 : decode cX10_reset 36 = .ok (.getfield 198, 3) := by decide +kernel
theorem dX10_reset_39 : decode cX10_reset 39 = .ok (.iload_n 2, 1) := by decide +kernel
theorem dX10_reset_40 : decode cX10_reset 40 = .ok (.lconst 0, 1) := by decide +kernel
theorem dX10_reset_41 : decode cX10_reset 41 = .ok (.lastore, 1) := by decide +kernel
theorem dX10_reset_42 : decode cX10_reset 42 = .ok (.iinc 2 1, 3) := by decide +kernel
theorem dX10_reset_45 : decode cX10_reset 45 = .ok (.goto (-41), 3) := by decide +kernel
theorem dX10_reset_48 : decode cX10_reset 48 = .ok (.aload_n 0, 1) := by decide +kernel
theorem dX10_reset_49 : decode cX10_reset 49 = .ok (.getfield 40, 3) := by decide +kernel
theorem dX10_reset_52 : decode cX10_reset 52 = .ok (.invokevirtual 134, 3) := by decide +kernel
theorem dX10_reset_55 : decode cX10_reset 55 = .ok (.iload_n 1, 1) := by decide +kernel
theorem dX10_reset_56 : decode cX10_reset 56 = .ok (.ireturn, 1) := by decide +kernel
theorem dX10_twoWay_0 : decode cX10_twoWay 0 = .ok (.aload_n 0, 1) := by decide +kernel
theorem dX10_twoWay_1 : decode cX10_twoWay 1 = .ok (.getfield 92, 3) := by decide +kernel
theorem dX10_twoWay_4 : decode cX10_twoWay 4 = .ok (.ifCond .ne 10, 3) := by decide +kernel
theorem dX10_twoWay_7 : decode cX10_twoWay 7 = .ok (.aload_n 0, 1) := by decide +kernel
theorem dX10_twoWay_8 : decode cX10_twoWay 8 = .ok (.bipush (-8), 2) := by decide +kernel
theorem dX10_twoWay_10 : decode cX10_twoWay 10 = .ok (.invokevirtual 96, 3) := by decide +kernel
theorem dX10_twoWay_13 : decode cX10_twoWay 13 = .ok (.ireturn, 1) := by decide +kernel
theorem dX10_twoWay_14 : decode cX10_twoWay 14 = .ok (.aload_n 0, 1) := by decide +kernel
theorem dX10_twoWay_15 : decode cX10_twoWay 15 = .ok (.getfield 10, 3) := by decide +kernel
theorem dX10_twoWay_18 : decode cX10_twoWay 18 = .ok (.invokevirtual 201, 3) := by decide +kernel
theorem dX10_twoWay_21 : decode cX10_twoWay 21 = .ok (.ifCond .eq 7, 3) := by decide +kernel
theorem dX10_twoWay_24 : decode cX10_twoWay 24 = .ok (.iconst 1, 1) := by decide +kernel
theorem dX10_twoWay_25 : decode cX10_twoWay 25 = .ok (.goto 4, 3) := by decide +kernel
theorem dX10_twoWay_28 : decode cX10_twoWay 28 = .ok (.iconst 0, 1) := by decide +kernel
theorem dX10_twoWay_29 : decode cX10_twoWay 29 = .ok (.ireturn, 1) := by decide +kernel
theorem dX10_burn_0 : decode cX10_burn 0 = .ok (.aload_n 0, 1) := by decide +kernel
theorem dX10_burn_1 : decode cX10_burn 1 = .ok (.getfield 92, 3) := by decide +kernel
theorem dX10_burn_4 : decode cX10_burn 4 = .ok (.ifCond .eq 13, 3) := by decide +kernel
theorem dX10_burn_7 : decode cX10_burn 7 = .ok (.aload_n 0, 1) := by decide +kernel
theorem dX10_burn_8 : decode cX10_burn 8 = .ok (.getfield 21, 3) := by decide +kernel
theorem dX10_burn_11 : decode cX10_burn 11 = .ok (.invokevirtual 194, 3) := by decide +kernel
theorem dX10_burn_14 : decode cX10_burn 14 = .ok (.ifCond .ne 10, 3) := by decide +kernel
theorem dX10_burn_17 : decode cX10_burn 17 = .ok (.aload_n 0, 1) := by decide +kernel
theorem dX10_burn_18 : decode cX10_burn 18 = .ok (.bipush (-8), 2) := by decide +kernel
theorem dX10_burn_20 : decode cX10_burn 20 = .ok (.invokevirtual 96, 3) := by decide +kernel
theorem dX10_burn_23 : decode cX10_burn 23 = .ok (.ireturn, 1) := by decide +kernel
theorem dX10_burn_24 : decode cX10_burn 24 = .ok (.aload_n 0, 1) := by decide +kernel
theorem dX10_burn_25 : decode cX10_burn 25 = .ok (.getfield 10, 3) := by decide +kernel
theorem dX10_burn_28 : decode cX10_burn 28 = .ok (.invokevirtual 201, 3) := by decide +kernel
theorem dX10_burn_31 : decode cX10_burn 31 = .ok (.ifCond .ne 10, 3) := by decide +kernel
theorem dX10_burn_34 : decode cX10_burn 34 = .ok (.aload_n 0, 1) := by decide +kernel
theorem dX10_burn_35 : decode cX10_burn 35 = .ok (.bipush (-12), 2) := by decide +kernel
theorem dX10_burn_37 : decode cX10_burn 37 = .ok (.invokevirtual 96, 3) := by decide +kernel
theorem dX10_burn_40 : decode cX10_burn 40 = .ok (.ireturn, 1) := by decide +kernel
theorem dX10_burn_41 : decode cX10_burn 41 = .ok (.aload_n 0, 1) := by decide +kernel
theorem dX10_burn_42 : decode cX10_burn 42 = .ok (.getfield 47, 3) := by decide +kernel
theorem dX10_burn_45 : decode cX10_burn 45 = .ok (.aload_n 0, 1) := by decide +kernel
theorem dX10_burn_46 : decode cX10_burn 46 = .ok (.getfield 10, 3) := by decide +kernel
theorem dX10_burn_49 : decode cX10_burn 49 = .ok (.aload_n 0, 1) := by decide +kernel
theorem dX10_burn_50 : decode cX10_burn 50 = .ok (.getfield 21, 3) := by decide +kernel
theorem dX10_burn_53 : decode cX10_burn 53 = .ok (.getfield 141, 3) := by decide +kernel
theorem dX10_burn_56 : decode cX10_burn 56 = .ok (.iconst (-1), 1) := by decide +kernel
theorem dX10_burn_57 : decode cX10_burn 57 = .ok (.invokevirtual 204, 3) := by decide +kernel
theorem dX10_burn_60 : decode cX10_burn 60 = .ok (.aload_n 0, 1) := by decide +kernel
theorem dX10_burn_61 : decode cX10_burn 61 = .ok (.getfield 47, 3) := by decide +kernel
theorem dX10_burn_64 : decode cX10_burn 64 = .ok (.getfield 208, 3) := by decide +kernel
theorem dX10_burn_67 : decode cX10_burn 67 = .ok (.ifCond .ne 7, 3) := by decide +kernel
theorem dX10_burn_70 : decode cX10_burn 70 = .ok (.iconst 1, 1) := by decide +kernel
theorem dX10_burn_71 : decode cX10_burn 71 = .ok (.goto 4, 3) := by decide +kernel
theorem dX10_burn_74 : decode cX10_burn 74 = .ok (.iconst 0, 1) := by decide +kernel
theorem dX10_burn_75 : decode cX10_burn 75 = .ok (.ireturn, 1) := by decide +kernel
theorem dX10_burnt_0 : decode cX10_burnt 0 = .ok (.iload_n 1, 1) := by decide +kernel
theorem dX10_burnt_1 : decode cX10_burnt 1 = .ok (.iconst (-1), 1) := by decide +kernel
theorem dX10_burnt_2 : decode cX10_burnt 2 = .ok (.if_icmp .ne 11, 3) := by decide +kernel
theorem dX10_burnt_5 : decode cX10_burnt 5 = .ok (.aload_n 0, 1) := by decide +kernel
theorem dX10_burnt_6 : decode cX10_burnt 6 = .ok (.getfield 47, 3) := by decide +kernel
theorem dX10_burnt_9 : decode cX10_burnt 9 = .ok (.getfield 208, 3) := by decide +kernel
theorem dX10_burnt_12 : decode cX10_burnt 12 = .ok (.ireturn, 1) := by decide +kernel
theorem dX10_burnt_13 : decode cX10_burnt 13 = .ok (.iload_n 1, 1) := by decide +kernel
theorem dX10_burnt_14 : decode cX10_burnt 14 = .ok (.ifCond .lt 14, 3) := by decide +kernel
theorem dX10_burnt_17 : decode cX10_burnt 17 = .ok (.iload_n 1, 1) := by decide +kernel
theorem dX10_burnt_18 : decode cX10_burnt 18 = .ok (.aload_n 0, 1) := by decide +kernel
theorem dX10_burnt_19 : decode cX10_burnt 19 = .ok (.getfield 47, 3) := by decide +kernel
theorem dX10_burnt_22 : decode cX10_burnt 22 = .ok (.getfield 211, 3) := by decide +kernel
theorem dX10_burnt_25 : decode cX10_burnt 25 = .ok (.if_icmp .lt 10, 3) := by decide +kernel
theorem dX10_burnt_28 : decode cX10_burnt 28 = .ok (.aload_n 0, 1) := by decide +kernel
theorem dX10_burnt_29 : decode cX10_burnt 29 = .ok (.bipush (-11), 2) := by decide +kernel
theorem dX10_burnt_31 : decode cX10_burnt 31 = .ok (.invokevirtual 96, 3) := by decide +kernel
theorem dX10_burnt_34 : decode cX10_burnt 34 = .ok (.ireturn, 1) := by decide +kernel
theorem dX10_burnt_35 : decode cX10_burnt 35 = .ok (.aload_n 0, 1) := by decide +kernel
theorem dX10_burnt_36 : decode cX10_burnt 36 = .ok (.getfield 47, 3) := by decide +kernel
theorem dX10_burnt_39 : decode cX10_burnt 39 = .ok (.getfield 214, 3) := by decide +kernel
theorem dX10_burnt_42 : decode cX10_burnt 42 = .ok (.iload_n 1, 1) := by decide +kernel
theorem dX10_burnt_43 : decode cX10_burnt 43 = .ok (.iaload, 1) := by decide +kernel
theorem dX10_burnt_44 : decode cX10_burnt 44 = .ok (.ireturn, 1) := by decide +kernel
theorem dX10_keep_0 : decode cX10_keep 0 = .ok (.iload_n 1, 1) := by decide +kernel
theorem dX10_keep_1 : decode cX10_keep 1 = .ok (.invokestatic 217, 3) := by decide +kernel
theorem dX10_keep_4 : decode cX10_keep 4 = .ok (.ifCond .ne 9, 3) := by decide +kernel
theorem dX10_keep_7 : decode cX10_keep 7 = .ok (.aload_n 0, 1) := by decide +kernel
theorem dX10_keep_8 : decode cX10_keep 8 = .ok (.iconst (-1), 1) := by decide +kernel
theorem dX10_keep_9 : decode cX10_keep 9 = .ok (.invokevirtual 96, 3) := by decide +kernel
theorem dX10_keep_12 : decode cX10_keep 12 = .ok (.ireturn, 1) := by decide +kernel
theorem dX10_keep_13 : decode cX10_keep 13 = .ok (.aload_n 0, 1) := by decide +kernel
theorem dX10_keep_14 : decode cX10_keep 14 = .ok (.getfield 92, 3) := by decide +kernel
theorem dX10_keep_17 : decode cX10_keep 17 = .ok (.ifCond .ne 10, 3) := by decide +kernel
theorem dX10_keep_20 : decode cX10_keep 20 = .ok (.aload_n 0, 1) := by decide +kernel
theorem dX10_keep_21 : decode cX10_keep 21 = .ok (.bipush (-8), 2) := by decide +kernel
theorem dX10_keep_23 : decode cX10_keep 23 = .ok (.invokevirtual 96, 3) := by decide +kernel
theorem dX10_keep_26 : decode cX10_keep 26 = .ok (.ireturn, 1) := by decide +kernel
theorem dX10_keep_27 : decode cX10_keep 27 = .ok (.aload_n 0, 1) := by decide +kernel
theorem dX10_keep_28 : decode cX10_keep 28 = .ok (.iload_n 1, 1) := by decide +kernel
theorem dX10_keep_29 : decode cX10_keep 29 = .ok (.aload_n 0, 1) := by decide +kernel
theorem dX10_keep_30 : decode cX10_keep 30 = .ok (.getfield 21, 3) := by decide +kernel
theorem dX10_keep_33 : decode cX10_keep 33 = .ok (.invokevirtual 220, 3) := by decide +kernel
theorem dX10_keep_36 : decode cX10_keep 36 = .ok (.ireturn, 1) := by decide +kernel
theorem dX10_bring_0 : decode cX10_bring 0 = .ok (.iload_n 1, 1) := by decide +kernel
theorem dX10_bring_1 : decode cX10_bring 1 = .ok (.invokestatic 217, 3) := by decide +kernel
theorem dX10_bring_4 : decode cX10_bring 4 = .ok (.ifCond .ne 9, 3) := by decide +kernel
theorem dX10_bring_7 : decode cX10_bring 7 = .ok (.aload_n 0, 1) := by decide +kernel
theorem dX10_bring_8 : decode cX10_bring 8 = .ok (.iconst (-1), 1) := by decide +kernel
theorem dX10_bring_9 : decode cX10_bring 9 = .ok (.invokevirtual 96, 3) := by decide +kernel
theorem dX10_bring_12 : decode cX10_bring 12 = .ok (.ireturn, 1) := by decide +kernel
theorem dX10_bring_13 : decode cX10_bring 13 = .ok (.aload_n 0, 1) := by decide +kernel
theorem dX10_bring_14 : decode cX10_bring 14 = .ok (.getfield 70, 3) := by decide +kernel
theorem dX10_bring_17 : decode cX10_bring 17 = .ok (.iload_n 1, 1) := by decide +kernel
theorem dX10_bring_18 : decode cX10_bring 18 = .ok (.baload, 1) := by decide +kernel
theorem dX10_bring_19 : decode cX10_bring 19 = .ok (.ifCond .ne 10, 3) := by decide +kernel
theorem dX10_bring_22 : decode cX10_bring 22 = .ok (.aload_n 0, 1) := by decide +kernel
theorem dX10_bring_23 : decode cX10_bring 23 = .ok (.bipush (-11), 2) := by decide +kernel
theorem dX10_bring_25 : decode cX10_bring 25 = .ok (.invokevirtual 96, 3) := by decide +kernel
theorem dX10_bring_28 : decode cX10_bring 28 = .ok (.ireturn, 1) := by decide +kernel
theorem dX10_bring_29 : decode cX10_bring 29 = .ok (.aload_n 0, 1) := by decide +kernel
theorem dX10_bring_30 : decode cX10_bring 30 = .ok (.getfield 92, 3) := by decide +kernel
theorem dX10_bring_33 : decode cX10_bring 33 = .ok (.ifCond .ne 10, 3) := by decide +kernel
theorem dX10_bring_36 : decode cX10_bring 36 = .ok (.aload_n 0, 1) := by decide +kernel
theorem dX10_bring_37 : decode cX10_bring 37 = .ok (.bipush (-8), 2) := by decide +kernel
theorem dX10_bring_39 : decode cX10_bring 39 = .ok (.invokevirtual 96, 3) := by decide +kernel
theorem dX10_bring_42 : decode cX10_bring 42 = .ok (.ireturn, 1) := by decide +kernel
theorem dX10_bring_43 : decode cX10_bring 43 = .ok (.aload_n 0, 1) := by decide +kernel
theorem dX10_bring_44 : decode cX10_bring 44 = .ok (.getfield 21, 3) := by decide +kernel
theorem dX10_bring_47 : decode cX10_bring 47 = .ok (.aload_n 0, 1) := by decide +kernel
theorem dX10_bring_48 : decode cX10_bring 48 = .ok (.getfield 67, 3) := by decide +kernel
theorem dX10_bring_51 : decode cX10_bring 51 = .ok (.iload_n 1, 1) := by decide +kernel
theorem dX10_bring_52 : decode cX10_bring 52 = .ok (.aaload, 1) := by decide +kernel
theorem dX10_bring_53 : decode cX10_bring 53 = .ok (.invokevirtual 224, 3) := by decide +kernel
theorem dX10_bring_56 : decode cX10_bring 56 = .ok (.aload_n 0, 1) := by decide +kernel
theorem dX10_bring_57 : decode cX10_bring 57 = .ok (.getfield 40, 3) := by decide +kernel
theorem dX10_bring_60 : decode cX10_bring 60 = .ok (.invokevirtual 134, 3) := by decide +kernel
theorem dX10_bring_63 : decode cX10_bring 63 = .ok (.aload_n 0, 1) := by decide +kernel
theorem dX10_bring_64 : decode cX10_bring 64 = .ok (.getfield 21, 3) := by decide +kernel
theorem dX10_bring_67 : decode cX10_bring 67 = .ok (.invokevirtual 228, 3) := by decide +kernel
theorem dX10_bring_70 : decode cX10_bring 70 = .ok (.ireturn, 1) := by decide +kernel
theorem dX10_plus_0 : decode cX10_plus 0 = .ok (.iload_n 1, 1) := by decide +kernel
theorem dX10_plus_1 : decode cX10_plus 1 = .ok (.invokestatic 217, 3) := by decide +kernel
theorem dX10_plus_4 : decode cX10_plus 4 = .ok (.ifCond .eq 17, 3) := by decide +kernel
theorem dX10_plus_7 : decode cX10_plus 7 = .ok (.iload_n 2, 1) := by decide +kernel
theorem dX10_plus_8 : decode cX10_plus 8 = .ok (.invokestatic 217, 3) := by decide +kernel
theorem dX10_plus_11 : decode cX10_plus 11 = .ok (.ifCond .eq 10, 3) := by decide +kernel
theorem dX10_plus_14 : decode cX10_plus 14 = .ok (.iload_n 3, 1) := by decide +kernel
theorem dX10_plus_15 : decode cX10_plus 15 = .ok (.invokestatic 217, 3) := by decide +kernel
theorem dX10_plus_18 : decode cX10_plus 18 = .ok (.ifCond .ne 9, 3) := by decide +kernel
theorem dX10_plus_21 : decode cX10_plus 21 = .ok (.aload_n 0, 1) := by decide +kernel
theorem dX10_plus_22 : decode cX10_plus 22 = .ok (.iconst (-1), 1) := by decide +kernel
theorem dX10_plus_23 : decode cX10_plus 23 = .ok (.invokevirtual 96, 3) := by decide +kernel
theorem dX10_plus_26 : decode cX10_plus 26 = .ok (.ireturn, 1) := by decide +kernel
theorem dX10_plus_27 : decode cX10_plus 27 = .ok (.aload_n 0, 1) := by decide +kernel
theorem dX10_plus_28 : decode cX10_plus 28 = .ok (.getfield 70, 3) := by decide +kernel
theorem dX10_plus_31 : decode cX10_plus 31 = .ok (.iload_n 1, 1) := by decide +kernel
theorem dX10_plus_32 : decode cX10_plus 32 = .ok (.baload, 1) := by decide +kernel
theorem dX10_plus_33 : decode cX10_plus 33 = .ok (.ifCond .eq 12, 3) := by decide +kernel
theorem dX10_plus_36 : decode cX10_plus 36 = .ok (.aload_n 0, 1) := by decide +kernel
theorem dX10_plus_37 : decode cX10_plus 37 = .ok (.getfield 70, 3) := by decide +kernel
theorem dX10_plus_40 : decode cX10_plus 40 = .ok (.iload_n 2, 1) := by decide +kernel
theorem dX10_plus_41 : decode cX10_plus 41 = .ok (.baload, 1) := by decide +kernel
theorem dX10_plus_42 : decode cX10_plus 42 = .ok (.ifCond .ne 10, 3) := by decide +kernel
theorem dX10_plus_45 : decode cX10_plus 45 = .ok (.aload_n 0, 1) := by decide +kernel
theorem dX10_plus_46 : decode cX10_plus 46 = .ok (.bipush (-11), 2) := by decide +kernel
theorem dX10_plus_48 : decode cX10_plus 48 = .ok (.invokevirtual 96, 3) := by decide +kernel
theorem dX10_plus_51 : decode cX10_plus 51 = .ok (.ireturn, 1) := by decide +kernel
theorem dX10_plus_52 : decode cX10_plus 52 = .ok (.aload_n 0, 1) := by decide +kernel
theorem dX10_plus_53 : decode cX10_plus 53 = .ok (.getfield 92, 3) := by decide +kernel
theorem dX10_plus_56 : decode cX10_plus 56 = .ok (.ifCond .ne 10, 3) := by decide +kernel
theorem dX10_plus_59 : decode cX10_plus 59 = .ok (.aload_n 0, 1) := by decide +kernel
theorem dX10_plus_60 : decode cX10_plus 60 = .ok (.bipush (-8), 2) := by decide +kernel
theorem dX10_plus_62 : decode cX10_plus 62 = .ok (.invokevirtual 96, 3) := by decide +kernel
theorem dX10_plus_65 : decode cX10_plus 65 = .ok (.ireturn, 1) := by decide +kernel
theorem dX10_plus_66 : decode cX10_plus 66 = .ok (.iconst 0, 1) := by decide +kernel
theorem dX10_plus_67 : decode cX10_plus 67 = .ok (.istore 4, 2) := by decide +kernel
theorem dX10_plus_69 : decode cX10_plus 69 = .ok (.iload 4, 2) := by decide +kernel
theorem dX10_plus_71 : decode cX10_plus 71 = .ok (.aload_n 0, 1) := by decide +kernel
theorem dX10_plus_72 : decode cX10_plus 72 = .ok (.getfield 10, 3) := by decide +kernel
theorem dX10_plus_75 : decode cX10_plus 75 = .ok (.getfield 100, 3) := by decide +kernel
theorem dX10_plus_78 : decode cX10_plus 78 = .ok (.if_icmp .ge 38, 3) := by decide +kernel
theorem dX10_plus_81 : decode cX10_plus 81 = .ok (.aload_n 0, 1) := by decide +kernel
theorem dX10_plus_82 : decode cX10_plus 82 = .ok (.getfield 25, 3) := by decide +kernel
theorem dX10_plus_85 : decode cX10_plus 85 = .ok (.getfield 141, 3) := by decide +kernel
theorem dX10_plus_88 : decode cX10_plus 88 = .ok (.iload 4, 2) := by decide +kernel
theorem dX10_plus_90 : decode cX10_plus 90 = .ok (.aload_n 0, 1) := by decide +kernel
theorem dX10_plus_91 : decode cX10_plus 91 = .ok (.getfield 67, 3) := by decide +kernel
theorem dX10_plus_94 : decode cX10_plus 94 = .ok (.iload_n 1, 1) := by decide +kernel
theorem dX10_plus_95 : decode cX10_plus 95 = .ok (.aaload, 1) := by decide +kernel
theorem dX10_plus_96 : decode cX10_plus 96 = .ok (.iload 4, 2) := by decide +kernel
theorem dX10_plus_98 : decode cX10_plus 98 = .ok (.iaload, 1) := by decide +kernel
theorem dX10_plus_99 : decode cX10_plus 99 = .ok (.aload_n 0, 1) := by decide +kernel
theorem dX10_plus_100 : decode cX10_plus 100 = .ok (.getfield 67, 3) := by decide +kernel
theorem dX10_plus_103 : decode cX10_plus 103 = .ok (.iload_n 2, 1) := by decide +kernel
theorem dX10_plus_104 : decode cX10_plus 104 = .ok (.aaload, 1) := by decide +kernel
theorem dX10_plus_105 : decode cX10_plus 105 = .ok (.iload 4, 2) := by decide +kernel
theorem dX10_plus_107 : decode cX10_plus 107 = .ok (.iaload, 1) := by decide +kernel
theorem dX10_plus_108 : decode cX10_plus 108 = .ok (.iadd, 1) := by decide +kernel
theorem dX10_plus_109 : decode cX10_plus 109 = .ok (.iastore, 1) := by decide +kernel
theorem dX10_plus_110 : decode cX10_plus 110 = .ok (.iinc 4 1, 3) := by decide +kernel
theorem dX10_plus_113 : decode cX10_plus 113 = .ok (.goto (-44), 3) := by decide +kernel
theorem dX10_plus_116 : decode cX10_plus 116 = .ok (.aload_n 0, 1) := by decide +kernel
theorem dX10_plus_117 : decode cX10_plus 117 = .ok (.iload_n 3, 1) := by decide +kernel
theorem dX10_plus_118 : decode cX10_plus 118 = .ok (.invokevirtual 231, 3) := by decide +kernel
theorem dX10_plus_121 : decode cX10_plus 121 = .ok (.ireturn, 1) := by decide +kernel
theorem dX10_nought_0 : decode cX10_nought 0 = .ok (.iload_n 1, 1) := by decide +kernel
theorem dX10_nought_1 : decode cX10_nought 1 = .ok (.invokestatic 217, 3) := by decide +kernel
theorem dX10_nought_4 : decode cX10_nought 4 = .ok (.ifCond .ne 9, 3) := by decide +kernel
theorem dX10_nought_7 : decode cX10_nought 7 = .ok (.aload_n 0, 1) := by decide +kernel
theorem dX10_nought_8 : decode cX10_nought 8 = .ok (.iconst (-1), 1) := by decide +kernel
theorem dX10_nought_9 : decode cX10_nought 9 = .ok (.invokevirtual 96, 3) := by decide +kernel
theorem dX10_nought_12 : decode cX10_nought 12 = .ok (.ireturn, 1) := by decide +kernel
theorem dX10_nought_13 : decode cX10_nought 13 = .ok (.aload_n 0, 1) := by decide +kernel
theorem dX10_nought_14 : decode cX10_nought 14 = .ok (.getfield 92, 3) := by decide +kernel
theorem dX10_nought_17 : decode cX10_nought 17 = .ok (.ifCond .ne 10, 3) := by decide +kernel
theorem dX10_nought_20 : decode cX10_nought 20 = .ok (.aload_n 0, 1) := by decide +kernel
theorem dX10_nought_21 : decode cX10_nought 21 = .ok (.bipush (-8), 2) := by decide +kernel
theorem dX10_nought_23 : decode cX10_nought 23 = .ok (.invokevirtual 96, 3) := by decide +kernel
theorem dX10_nought_26 : decode cX10_nought 26 = .ok (.ireturn, 1) := by decide +kernel
theorem dX10_nought_27 : decode cX10_nought 27 = .ok (.aload_n 0, 1) := by decide +kernel
theorem dX10_nought_28 : decode cX10_nought 28 = .ok (.getfield 10, 3) := by decide +kernel
theorem dX10_nought_31 : decode cX10_nought 31 = .ok (.invokevirtual 201, 3) := by decide +kernel
theorem dX10_nought_34 : decode cX10_nought 34 = .ok (.ifCond .ne 10, 3) := by decide +kernel
theorem dX10_nought_37 : decode cX10_nought 37 = .ok (.aload_n 0, 1) := by decide +kernel
theorem dX10_nought_38 : decode cX10_nought 38 = .ok (.bipush (-12), 2) := by decide +kernel
theorem dX10_nought_40 : decode cX10_nought 40 = .ok (.invokevirtual 96, 3) := by decide +kernel
theorem dX10_nought_43 : decode cX10_nought 43 = .ok (.ireturn, 1) := by decide +kernel
theorem dX10_nought_44 : decode cX10_nought 44 = .ok (.aload_n 0, 1) := by decide +kernel
theorem dX10_nought_45 : decode cX10_nought 45 = .ok (.invokevirtual 234, 3) := by decide +kernel
theorem dX10_nought_48 : decode cX10_nought 48 = .ok (.ifCond .ne 10, 3) := by decide +kernel
theorem dX10_nought_51 : decode cX10_nought 51 = .ok (.aload_n 0, 1) := by decide +kernel
theorem dX10_nought_52 : decode cX10_nought 52 = .ok (.bipush (-5), 2) := by decide +kernel
theorem dX10_nought_54 : decode cX10_nought 54 = .ok (.invokevirtual 96, 3) := by decide +kernel
theorem dX10_nought_57 : decode cX10_nought 57 = .ok (.ireturn, 1) := by decide +kernel
theorem dX10_nought_58 : decode cX10_nought 58 = .ok (.aload_n 0, 1) := by decide +kernel
theorem dX10_nought_59 : decode cX10_nought 59 = .ok (.getfield 25, 3) := by decide +kernel
theorem dX10_nought_62 : decode cX10_nought 62 = .ok (.aload_n 0, 1) := by decide +kernel
theorem dX10_nought_63 : decode cX10_nought 63 = .ok (.getfield 88, 3) := by decide +kernel
theorem dX10_nought_66 : decode cX10_nought 66 = .ok (.invokevirtual 224, 3) := by decide +kernel
theorem dX10_nought_69 : decode cX10_nought 69 = .ok (.aload_n 0, 1) := by decide +kernel
theorem dX10_nought_70 : decode cX10_nought 70 = .ok (.iload_n 1, 1) := by decide +kernel
theorem dX10_nought_71 : decode cX10_nought 71 = .ok (.invokevirtual 231, 3) := by decide +kernel
theorem dX10_nought_74 : decode cX10_nought 74 = .ok (.ireturn, 1) := by decide +kernel
theorem dX10_contrary_0 : decode cX10_contrary 0 = .ok (.iload_n 1, 1) := by decide +kernel
theorem dX10_contrary_1 : decode cX10_contrary 1 = .ok (.invokestatic 217, 3) := by decide +kernel
theorem dX10_contrary_4 : decode cX10_contrary 4 = .ok (.ifCond .eq 10, 3) := by decide +kernel
theorem dX10_contrary_7 : decode cX10_contrary 7 = .ok (.iload_n 2, 1) := by decide +kernel
theorem dX10_contrary_8 : decode cX10_contrary 8 = .ok (.invokestatic 217, 3) := by decide +kernel
theorem dX10_contrary_11 : decode cX10_contrary 11 = .ok (.ifCond .ne 9, 3) := by decide +kernel
theorem dX10_contrary_14 : decode cX10_contrary 14 = .ok (.aload_n 0, 1) := by decide +kernel
theorem dX10_contrary_15 : decode cX10_contrary 15 = .ok (.iconst (-1), 1) := by decide +kernel
theorem dX10_contrary_16 : decode cX10_contrary 16 = .ok (.invokevirtual 96, 3) := by decide +kernel
theorem dX10_contrary_19 : decode cX10_contrary 19 = .ok (.ireturn, 1) := by decide +kernel
theorem dX10_contrary_20 : decode cX10_contrary 20 = .ok (.aload_n 0, 1) := by decide +kernel
theorem dX10_contrary_21 : decode cX10_contrary 21 = .ok (.getfield 70, 3) := by decide +kernel
theorem dX10_contrary_24 : decode cX10_contrary 24 = .ok (.iload_n 1, 1) := by decide +kernel
theorem dX10_contrary_25 : decode cX10_contrary 25 = .ok (.baload, 1) := by decide +kernel
theorem dX10_contrary_26 : decode cX10_contrary 26 = .ok (.ifCond .ne 10, 3) := by decide +kernel
theorem dX10_contrary_29 : decode cX10_contrary 29 = .ok (.aload_n 0, 1) := by decide +kernel
theorem dX10_contrary_30 : decode cX10_contrary 30 = .ok (.bipush (-11), 2) := by decide +kernel
theorem dX10_contrary_32 : decode cX10_contrary 32 = .ok (.invokevirtual 96, 3) := by decide +kernel
theorem dX10_contrary_35 : decode cX10_contrary 35 = .ok (.ireturn, 1) := by decide +kernel
theorem dX10_contrary_36 : decode cX10_contrary 36 = .ok (.aload_n 0, 1) := by decide +kernel
theorem dX10_contrary_37 : decode cX10_contrary 37 = .ok (.getfield 92, 3) := by decide +kernel
theorem dX10_contrary_40 : decode cX10_contrary 40 = .ok (.ifCond .ne 10, 3) := by decide +kernel
theorem dX10_contrary_43 : decode cX10_contrary 43 = .ok (.aload_n 0, 1) := by decide +kernel
theorem dX10_contrary_44 : decode cX10_contrary 44 = .ok (.bipush (-8), 2) := by decide +kernel
theorem dX10_contrary_46 : decode cX10_contrary 46 = .ok (.invokevirtual 96, 3) := by decide +kernel
theorem dX10_contrary_49 : decode cX10_contrary 49 = .ok (.ireturn, 1) := by decide +kernel
theorem dX10_contrary_50 : decode cX10_contrary 50 = .ok (.aload_n 0, 1) := by decide +kernel
theorem dX10_contrary_51 : decode cX10_contrary 51 = .ok (.getfield 10, 3) := by decide +kernel
theorem dX10_contrary_54 : decode cX10_contrary 54 = .ok (.invokevirtual 201, 3) := by decide +kernel
theorem dX10_contrary_57 : decode cX10_contrary 57 = .ok (.ifCond .ne 10, 3) := by decide +kernel
theorem dX10_contrary_60 : decode cX10_contrary 60 = .ok (.aload_n 0, 1) := by decide +kernel
theorem dX10_contrary_61 : decode cX10_contrary 61 = .ok (.bipush (-12), 2) := by decide +kernel
theorem dX10_contrary_63 : decode cX10_contrary 63 = .ok (.invokevirtual 96, 3) := by decide +kernel
theorem dX10_contrary_66 : decode cX10_contrary 66 = .ok (.ireturn, 1) := by decide +kernel
theorem dX10_contrary_67 : decode cX10_contrary 67 = .ok (.aload_n 0, 1) := by decide +kernel
theorem dX10_contrary_68 : decode cX10_contrary 68 = .ok (.invokevirtual 234, 3) := by decide +kernel
theorem dX10_contrary_71 : decode cX10_contrary 71 = .ok (.ifCond .ne 10, 3) := by decide +kernel
theorem dX10_contrary_74 : decode cX10_contrary 74 = .ok (.aload_n 0, 1) := by decide +kernel
theorem dX10_contrary_75 : decode cX10_contrary 75 = .ok (.bipush (-5), 2) := by decide +kernel
theorem dX10_contrary_77 : decode cX10_contrary 77 = .ok (.invokevirtual 96, 3) := by decide +kernel
theorem dX10_contrary_80 : decode cX10_contrary 80 = .ok (.ireturn, 1) := by decide +kernel
theorem dX10_contrary_81 : decode cX10_contrary 81 = .ok (.aload_n 0, 1) := by decide +kernel
theorem dX10_contrary_82 : decode cX10_contrary 82 = .ok (.getfield 25, 3) := by decide +kernel
theorem dX10_contrary_85 : decode cX10_contrary 85 = .ok (.aload_n 0, 1) := by decide +kernel
theorem dX10_contrary_86 : decode cX10_contrary 86 = .ok (.getfield 67, 3) := by decide +kernel
theorem dX10_contrary_89 : decode cX10_contrary 89 = .ok (.iload_n 1, 1) := by decide +kernel
theorem dX10_contrary_90 : decode cX10_contrary 90 = .ok (.aaload, 1) := by decide +kernel
theorem dX10_contrary_91 : decode cX10_contrary 91 = .ok (.invokevirtual 224, 3) := by decide +kernel
theorem dX10_contrary_94 : decode cX10_contrary 94 = .ok (.aload_n 0, 1) := by decide +kernel
theorem dX10_contrary_95 : decode cX10_contrary 95 = .ok (.getfield 25, 3) := by decide +kernel
theorem dX10_contrary_98 : decode cX10_contrary 98 = .ok (.invokevirtual 237, 3) := by decide +kernel
theorem dX10_contrary_101 : decode cX10_contrary 101 = .ok (.ifCond .ne 10, 3) := by decide +kernel
theorem dX10_contrary_104 : decode cX10_contrary 104 = .ok (.aload_n 0, 1) := by decide +kernel
theorem dX10_contrary_105 : decode cX10_contrary 105 = .ok (.bipush (-5), 2) := by decide +kernel
theorem dX10_contrary_107 : decode cX10_contrary 107 = .ok (.invokevirtual 96, 3) := by decide +kernel
theorem dX10_contrary_110 : decode cX10_contrary 110 = .ok (.ireturn, 1) := by decide +kernel
theorem dX10_contrary_111 : decode cX10_contrary 111 = .ok (.iconst 0, 1) := by decide +kernel
theorem dX10_contrary_112 : decode cX10_contrary 112 = .ok (.istore_n 3, 1) := by decide +kernel
theorem dX10_contrary_113 : decode cX10_contrary 113 = .ok (.iload_n 3, 1) := by decide +kernel
theorem dX10_contrary_114 : decode cX10_contrary 114 = .ok (.aload_n 0, 1) := by decide +kernel
theorem dX10_contrary_115 : decode cX10_contrary 115 = .ok (.getfield 10, 3) := by decide +kernel
theorem dX10_contrary_118 : decode cX10_contrary 118 = .ok (.getfield 100, 3) := by decide +kernel
theorem dX10_contrary_121 : decode cX10_contrary 121 = .ok (.if_icmp .ge 36, 3) := by decide +kernel
theorem dX10_contrary_124 : decode cX10_contrary 124 = .ok (.aload_n 0, 1) := by decide +kernel
theorem dX10_contrary_125 : decode cX10_contrary 125 = .ok (.getfield 25, 3) := by decide +kernel
theorem dX10_contrary_128 : decode cX10_contrary 128 = .ok (.getfield 141, 3) := by decide +kernel
theorem dX10_contrary_131 : decode cX10_contrary 131 = .ok (.iload_n 3, 1) := by decide +kernel
theorem dX10_contrary_132 : decode cX10_contrary 132 = .ok (.iconst 2, 1) := by decide +kernel
theorem dX10_contrary_133 : decode cX10_contrary 133 = .ok (.aload_n 0, 1) := by decide +kernel
theorem dX10_contrary_134 : decode cX10_contrary 134 = .ok (.getfield 88, 3) := by decide +kernel
theorem dX10_contrary_137 : decode cX10_contrary 137 = .ok (.iload_n 3, 1) := by decide +kernel
theorem dX10_contrary_138 : decode cX10_contrary 138 = .ok (.iaload, 1) := by decide +kernel
theorem dX10_contrary_139 : decode cX10_contrary 139 = .ok (.imul, 1) := by decide +kernel
theorem dX10_contrary_140 : decode cX10_contrary 140 = .ok (.aload_n 0, 1) := by decide +kernel
theorem dX10_contrary_141 : decode cX10_contrary 141 = .ok (.getfield 25, 3) := by decide +kernel
theorem dX10_contrary_144 : decode cX10_contrary 144 = .ok (.getfield 141, 3) := by decide +kernel
theorem dX10_contrary_147 : decode cX10_contrary 147 = .ok (.iload_n 3, 1) := by decide +kernel
theorem dX10_contrary_148 : decode cX10_contrary 148 = .ok (.iaload, 1) := by decide +kernel
theorem dX10_contrary_149 : decode cX10_contrary 149 = .ok (.isub, 1) := by decide +kernel
theorem dX10_contrary_150 : decode cX10_contrary 150 = .ok (.iastore, 1) := by decide +kernel
theorem dX10_contrary_151 : decode cX10_contrary 151 = .ok (.iinc 3 1, 3) := by decide +kernel
theorem dX10_contrary_154 : decode cX10_contrary 154 = .ok (.goto (-41), 3) := by decide +kernel
theorem dX10_contrary_157 : decode cX10_contrary 157 = .ok (.aload_n 0, 1) := by decide +kernel
theorem dX10_contrary_158 : decode cX10_contrary 158 = .ok (.iload_n 2, 1) := by decide +kernel
theorem dX10_contrary_159 : decode cX10_contrary 159 = .ok (.invokevirtual 231, 3) := by decide +kernel
theorem dX10_contrary_162 : decode cX10_contrary 162 = .ok (.ireturn, 1) := by decide +kernel
theorem dX10_many_0 : decode cX10_many 0 = .ok (.iload_n 1, 1) := by decide +kernel
theorem dX10_many_1 : decode cX10_many 1 = .ok (.invokestatic 240, 3) := by decide +kernel
theorem dX10_many_4 : decode cX10_many 4 = .ok (.ifCond .ne 9, 3) := by decide +kernel
theorem dX10_many_7 : decode cX10_many 7 = .ok (.aload_n 0, 1) := by decide +kernel
theorem dX10_many_8 : decode cX10_many 8 = .ok (.iconst (-1), 1) := by decide +kernel
theorem dX10_many_9 : decode cX10_many 9 = .ok (.invokevirtual 96, 3) := by decide +kernel
theorem dX10_many_12 : decode cX10_many 12 = .ok (.ireturn, 1) := by decide +kernel
theorem dX10_many_13 : decode cX10_many 13 = .ok (.aload_n 0, 1) := by decide +kernel
theorem dX10_many_14 : decode cX10_many 14 = .ok (.getfield 92, 3) := by decide +kernel
theorem dX10_many_17 : decode cX10_many 17 = .ok (.ifCond .ne 10, 3) := by decide +kernel
theorem dX10_many_20 : decode cX10_many 20 = .ok (.aload_n 0, 1) := by decide +kernel
theorem dX10_many_21 : decode cX10_many 21 = .ok (.bipush (-8), 2) := by decide +kernel
theorem dX10_many_23 : decode cX10_many 23 = .ok (.invokevirtual 96, 3) := by decide +kernel
theorem dX10_many_26 : decode cX10_many 26 = .ok (.ireturn, 1) := by decide +kernel
theorem dX10_many_27 : decode cX10_many 27 = .ok (.aload_n 0, 1) := by decide +kernel
theorem dX10_many_28 : decode cX10_many 28 = .ok (.getfield 10, 3) := by decide +kernel
theorem dX10_many_31 : decode cX10_many 31 = .ok (.invokevirtual 201, 3) := by decide +kernel
theorem dX10_many_34 : decode cX10_many 34 = .ok (.ifCond .ne 10, 3) := by decide +kernel
theorem dX10_many_37 : decode cX10_many 37 = .ok (.aload_n 0, 1) := by decide +kernel
theorem dX10_many_38 : decode cX10_many 38 = .ok (.bipush (-12), 2) := by decide +kernel
theorem dX10_many_40 : decode cX10_many 40 = .ok (.invokevirtual 96, 3) := by decide +kernel
theorem dX10_many_43 : decode cX10_many 43 = .ok (.ireturn, 1) := by decide +kernel
theorem dX10_many_44 : decode cX10_many 44 = .ok (.aload_n 0, 1) := by decide +kernel
theorem dX10_many_45 : decode cX10_many 45 = .ok (.getfield 61, 3) := by decide +kernel
theorem dX10_many_48 : decode cX10_many 48 = .ok (.aload_n 0, 1) := by decide +kernel
theorem dX10_many_49 : decode cX10_many 49 = .ok (.getfield 10, 3) := by decide +kernel
theorem dX10_many_52 : decode cX10_many 52 = .ok (.iload_n 1, 1) := by decide +kernel
theorem dX10_many_53 : decode cX10_many 53 = .ok (.invokevirtual 243, 3) := by decide +kernel
theorem dX10_many_56 : decode cX10_many 56 = .ok (.ireturn, 1) := by decide +kernel
theorem dX10_list_0 : decode cX10_list 0 = .ok (.aload_n 0, 1) := by decide +kernel
theorem dX10_list_1 : decode cX10_list 1 = .ok (.getfield 92, 3) := by decide +kernel
theorem dX10_list_4 : decode cX10_list 4 = .ok (.ifCond .ne 10, 3) := by decide +kernel
theorem dX10_list_7 : decode cX10_list 7 = .ok (.aload_n 0, 1) := by decide +kernel
theorem dX10_list_8 : decode cX10_list 8 = .ok (.bipush (-8), 2) := by decide +kernel
theorem dX10_list_10 : decode cX10_list 10 = .ok (.invokevirtual 96, 3) := by decide +kernel
theorem dX10_list_13 : decode cX10_list 13 = .ok (.ireturn, 1) := by decide +kernel
theorem dX10_list_14 : decode cX10_list 14 = .ok (.aload_n 0, 1) := by decide +kernel
theorem dX10_list_15 : decode cX10_list 15 = .ok (.getfield 10, 3) := by decide +kernel
theorem dX10_list_18 : decode cX10_list 18 = .ok (.invokevirtual 201, 3) := by decide +kernel
theorem dX10_list_21 : decode cX10_list 21 = .ok (.ifCond .ne 10, 3) := by decide +kernel
theorem dX10_list_24 : decode cX10_list 24 = .ok (.aload_n 0, 1) := by decide +kernel
theorem dX10_list_25 : decode cX10_list 25 = .ok (.bipush (-12), 2) := by decide +kernel
theorem dX10_list_27 : decode cX10_list 27 = .ok (.invokevirtual 96, 3) := by decide +kernel
theorem dX10_list_30 : decode cX10_list 30 = .ok (.ireturn, 1) := by decide +kernel
theorem dX10_list_31 : decode cX10_list 31 = .ok (.aload_n 0, 1) := by decide +kernel
theorem dX10_list_32 : decode cX10_list 32 = .ok (.getfield 54, 3) := by decide +kernel
theorem dX10_list_35 : decode cX10_list 35 = .ok (.aload_n 0, 1) := by decide +kernel
theorem dX10_list_36 : decode cX10_list 36 = .ok (.getfield 10, 3) := by decide +kernel
theorem dX10_list_39 : decode cX10_list 39 = .ok (.invokevirtual 247, 3) := by decide +kernel
theorem dX10_list_42 : decode cX10_list 42 = .ok (.ifCond .eq 13, 3) := by decide +kernel
theorem dX10_list_45 : decode cX10_list 45 = .ok (.aload_n 0, 1) := by decide +kernel
theorem dX10_list_46 : decode cX10_list 46 = .ok (.getfield 54, 3) := by decide +kernel
theorem dX10_list_49 : decode cX10_list 49 = .ok (.getfield 251, 3) := by decide +kernel
theorem dX10_list_52 : decode cX10_list 52 = .ok (.goto 9, 3) := by decide +kernel
theorem dX10_list_55 : decode cX10_list 55 = .ok (.aload_n 0, 1) := by decide +kernel
theorem dX10_list_56 : decode cX10_list 56 = .ok (.bipush (-10), 2) := by decide +kernel
theorem dX10_list_58 : decode cX10_list 58 = .ok (.invokevirtual 96, 3) := by decide +kernel
theorem dX10_list_61 : decode cX10_list 61 = .ok (.ireturn, 1) := by decide +kernel
theorem dX10_listed_0 : decode cX10_listed 0 = .ok (.iload_n 1, 1) := by decide +kernel
theorem dX10_listed_1 : decode cX10_listed 1 = .ok (.ifCond .lt 14, 3) := by decide +kernel
theorem dX10_listed_4 : decode cX10_listed 4 = .ok (.iload_n 1, 1) := by decide +kernel
theorem dX10_listed_5 : decode cX10_listed 5 = .ok (.aload_n 0, 1) := by decide +kernel
theorem dX10_listed_6 : decode cX10_listed 6 = .ok (.getfield 54, 3) := by decide +kernel
theorem dX10_listed_9 : decode cX10_listed 9 = .ok (.getfield 251, 3) := by decide +kernel
theorem dX10_listed_12 : decode cX10_listed 12 = .ok (.if_icmp .lt 10, 3) := by decide +kernel
theorem dX10_listed_15 : decode cX10_listed 15 = .ok (.aload_n 0, 1) := by decide +kernel
theorem dX10_listed_16 : decode cX10_listed 16 = .ok (.bipush (-11), 2) := by decide +kernel
theorem dX10_listed_18 : decode cX10_listed 18 = .ok (.invokevirtual 96, 3) := by decide +kernel
theorem dX10_listed_21 : decode cX10_listed 21 = .ok (.ireturn, 1) := by decide +kernel
theorem dX10_listed_22 : decode cX10_listed 22 = .ok (.aload_n 0, 1) := by decide +kernel
theorem dX10_listed_23 : decode cX10_listed 23 = .ok (.getfield 10, 3) := by decide +kernel
theorem dX10_listed_26 : decode cX10_listed 26 = .ok (.iload_n 2, 1) := by decide +kernel
theorem dX10_listed_27 : decode cX10_listed 27 = .ok (.invokevirtual 107, 3) := by decide +kernel
theorem dX10_listed_30 : decode cX10_listed 30 = .ok (.ifCond .ne 9, 3) := by decide +kernel
theorem dX10_listed_33 : decode cX10_listed 33 = .ok (.aload_n 0, 1) := by decide +kernel
theorem dX10_listed_34 : decode cX10_listed 34 = .ok (.iconst (-1), 1) := by decide +kernel
theorem dX10_listed_35 : decode cX10_listed 35 = .ok (.invokevirtual 96, 3) := by decide +kernel
theorem dX10_listed_38 : decode cX10_listed 38 = .ok (.ireturn, 1) := by decide +kernel
theorem dX10_listed_39 : decode cX10_listed 39 = .ok (.aload_n 0, 1) := by decide +kernel
theorem dX10_listed_40 : decode cX10_listed 40 = .ok (.getfield 54, 3) := by decide +kernel
theorem dX10_listed_43 : decode cX10_listed 43 = .ok (.iload_n 1, 1) := by decide +kernel
theorem dX10_listed_44 : decode cX10_listed 44 = .ok (.iload_n 2, 1) := by decide +kernel
theorem dX10_listed_45 : decode cX10_listed 45 = .ok (.invokevirtual 252, 3) := by decide +kernel
theorem dX10_listed_48 : decode cX10_listed 48 = .ok (.ireturn, 1) := by decide +kernel
theorem dX10_terrace_0 : decode cX10_terrace 0 = .ok (.iload_n 1, 1) := by decide +kernel
theorem dX10_terrace_1 : decode cX10_terrace 1 = .ok (.invokestatic 255, 3) := by decide +kernel
theorem dX10_terrace_4 : decode cX10_terrace 4 = .ok (.ifCond .eq 10, 3) := by decide +kernel
theorem dX10_terrace_7 : decode cX10_terrace 7 = .ok (.iload_n 2, 1) := by decide +kernel
theorem dX10_terrace_8 : decode cX10_terrace 8 = .ok (.invokestatic 258, 3) := by decide +kernel
theorem dX10_terrace_11 : decode cX10_terrace 11 = .ok (.ifCond .ne 9, 3) := by decide +kernel
theorem dX10_terrace_14 : decode cX10_terrace 14 = .ok (.aload_n 0, 1) := by decide +kernel
theorem dX10_terrace_15 : decode cX10_terrace 15 = .ok (.iconst (-1), 1) := by decide +kernel
theorem dX10_terrace_16 : decode cX10_terrace 16 = .ok (.invokevirtual 96, 3) := by decide +kernel
theorem dX10_terrace_19 : decode cX10_terrace 19 = .ok (.ireturn, 1) := by decide +kernel
theorem dX10_terrace_20 : decode cX10_terrace 20 = .ok (.iload_n 3, 1) := by decide +kernel
theorem dX10_terrace_21 : decode cX10_terrace 21 = .ok (.ifCond .ge 10, 3) := by decide +kernel
theorem dX10_terrace_24 : decode cX10_terrace 24 = .ok (.aload_n 0, 1) := by decide +kernel
theorem dX10_terrace_25 : decode cX10_terrace 25 = .ok (.bipush (-3), 2) := by decide +kernel
theorem dX10_terrace_27 : decode cX10_terrace 27 = .ok (.invokevirtual 96, 3) := by decide +kernel
theorem dX10_terrace_30 : decode cX10_terrace 30 = .ok (.ireturn, 1) := by decide +kernel
theorem dX10_terrace_31 : decode cX10_terrace 31 = .ok (.iload_n 3, 1) := by decide +kernel
theorem dX10_terrace_32 : decode cX10_terrace 32 = .ok (.bipush 16, 2) := by decide +kernel
theorem dX10_terrace_34 : decode cX10_terrace 34 = .ok (.if_icmp .le 9, 3) := by decide +kernel
theorem dX10_terrace_37 : decode cX10_terrace 37 = .ok (.aload_n 0, 1) := by decide +kernel
theorem dX10_terrace_38 : decode cX10_terrace 38 = .ok (.iconst (-1), 1) := by decide +kernel
theorem dX10_terrace_39 : decode cX10_terrace 39 = .ok (.invokevirtual 96, 3) := by decide +kernel
theorem dX10_terrace_42 : decode cX10_terrace 42 = .ok (.ireturn, 1) := by decide +kernel
theorem dX10_terrace_43 : decode cX10_terrace 43 = .ok (.aload_n 0, 1) := by decide +kernel
theorem dX10_terrace_44 : decode cX10_terrace 44 = .ok (.getfield 76, 3) := by decide +kernel
theorem dX10_terrace_47 : decode cX10_terrace 47 = .ok (.iload_n 1, 1) := by decide +kernel
theorem dX10_terrace_48 : decode cX10_terrace 48 = .ok (.aaload, 1) := by decide +kernel
theorem dX10_terrace_49 : decode cX10_terrace 49 = .ok (.iload_n 2, 1) := by decide +kernel
theorem dX10_terrace_50 : decode cX10_terrace 50 = .ok (.iload_n 3, 1) := by decide +kernel
theorem dX10_terrace_51 : decode cX10_terrace 51 = .ok (.invokevirtual 261, 3) := by decide +kernel
theorem dX10_terrace_54 : decode cX10_terrace 54 = .ok (.ireturn, 1) := by decide +kernel
theorem dX10_put_0 : decode cX10_put 0 = .ok (.iload_n 1, 1) := by decide +kernel
theorem dX10_put_1 : decode cX10_put 1 = .ok (.invokestatic 255, 3) := by decide +kernel
theorem dX10_put_4 : decode cX10_put 4 = .ok (.ifCond .ne 9, 3) := by decide +kernel
theorem dX10_put_7 : decode cX10_put 7 = .ok (.aload_n 0, 1) := by decide +kernel
theorem dX10_put_8 : decode cX10_put 8 = .ok (.iconst (-1), 1) := by decide +kernel
theorem dX10_put_9 : decode cX10_put 9 = .ok (.invokevirtual 264, 3) := by decide +kernel
theorem dX10_put_12 : decode cX10_put 12 = .ok (.lreturn, 1) := by decide +kernel
theorem dX10_put_13 : decode cX10_put 13 = .ok (.aload_n 0, 1) := by decide +kernel
theorem dX10_put_14 : decode cX10_put 14 = .ok (.getfield 76, 3) := by decide +kernel
theorem dX10_put_17 : decode cX10_put 17 = .ok (.iload_n 1, 1) := by decide +kernel
theorem dX10_put_18 : decode cX10_put 18 = .ok (.aaload, 1) := by decide +kernel
theorem dX10_put_19 : decode cX10_put 19 = .ok (.invokevirtual 268, 3) := by decide +kernel
theorem dX10_put_22 : decode cX10_put 22 = .ok (.ifCond .eq 10, 3) := by decide +kernel
theorem dX10_put_25 : decode cX10_put 25 = .ok (.aload_n 0, 1) := by decide +kernel
theorem dX10_put_26 : decode cX10_put 26 = .ok (.bipush (-2), 2) := by decide +kernel
theorem dX10_put_28 : decode cX10_put 28 = .ok (.invokevirtual 264, 3) := by decide +kernel
theorem dX10_put_31 : decode cX10_put 31 = .ok (.lreturn, 1) := by decide +kernel
theorem dX10_put_32 : decode cX10_put 32 = .ok (.iload_n 2, 1) := by decide +kernel
theorem dX10_put_33 : decode cX10_put 33 = .ok (.ifCond .lt 16, 3) := by decide +kernel
theorem dX10_put_36 : decode cX10_put 36 = .ok (.iload_n 2, 1) := by decide +kernel
theorem dX10_put_37 : decode cX10_put 37 = .ok (.aload_n 0, 1) := by decide +kernel
theorem dX10_put_38 : decode cX10_put 38 = .ok (.getfield 76, 3) := by decide +kernel
theorem dX10_put_41 : decode cX10_put 41 = .ok (.iload_n 1, 1) := by decide +kernel
theorem dX10_put_42 : decode cX10_put 42 = .ok (.aaload, 1) := by decide +kernel
theorem dX10_put_43 : decode cX10_put 43 = .ok (.getfield 271, 3) := by decide +kernel
theorem dX10_put_46 : decode cX10_put 46 = .ok (.if_icmp .lt 9, 3) := by decide +kernel
theorem dX10_put_49 : decode cX10_put 49 = .ok (.aload_n 0, 1) := by decide +kernel
theorem dX10_put_50 : decode cX10_put 50 = .ok (.iconst (-1), 1) := by decide +kernel
theorem dX10_put_51 : decode cX10_put 51 = .ok (.invokevirtual 264, 3) := by decide +kernel
theorem dX10_put_54 : decode cX10_put 54 = .ok (.lreturn, 1) := by decide +kernel
theorem dX10_put_55 : decode cX10_put 55 = .ok (.aload_n 0, 1) := by decide +kernel
theorem dX10_put_56 : decode cX10_put 56 = .ok (.getfield 76, 3) := by decide +kernel
theorem dX10_put_59 : decode cX10_put 59 = .ok (.iload_n 1, 1) := by decide +kernel
theorem dX10_put_60 : decode cX10_put 60 = .ok (.aaload, 1) := by decide +kernel
theorem dX10_put_61 : decode cX10_put 61 = .ok (.iload_n 2, 1) := by decide +kernel
theorem dX10_put_62 : decode cX10_put 62 = .ok (.lload_n 3, 1) := by decide +kernel
theorem dX10_put_63 : decode cX10_put 63 = .ok (.invokevirtual 274, 3) := by decide +kernel
theorem dX10_put_66 : decode cX10_put 66 = .ok (.lreturn, 1) := by decide +kernel
theorem dX10_copy_0 : decode cX10_copy 0 = .ok (.iload_n 1, 1) := by decide +kernel
theorem dX10_copy_1 : decode cX10_copy 1 = .ok (.invokestatic 255, 3) := by decide +kernel
theorem dX10_copy_4 : decode cX10_copy 4 = .ok (.ifCond .eq 10, 3) := by decide +kernel
theorem dX10_copy_7 : decode cX10_copy 7 = .ok (.iload_n 3, 1) := by decide +kernel
theorem dX10_copy_8 : decode cX10_copy 8 = .ok (.invokestatic 255, 3) := by decide +kernel
theorem dX10_copy_11 : decode cX10_copy 11 = .ok (.ifCond .ne 9, 3) := by decide +kernel
theorem dX10_copy_14 : decode cX10_copy 14 = .ok (.aload_n 0, 1) := by decide +kernel
theorem dX10_copy_15 : decode cX10_copy 15 = .ok (.iconst (-1), 1) := by decide +kernel
theorem dX10_copy_16 : decode cX10_copy 16 = .ok (.invokevirtual 96, 3) := by decide +kernel
theorem dX10_copy_19 : decode cX10_copy 19 = .ok (.ireturn, 1) := by decide +kernel
theorem dX10_copy_20 : decode cX10_copy 20 = .ok (.aload_n 0, 1) := by decide +kernel
theorem dX10_copy_21 : decode cX10_copy 21 = .ok (.getfield 76, 3) := by decide +kernel
theorem dX10_copy_24 : decode cX10_copy 24 = .ok (.iload_n 1, 1) := by decide +kernel
theorem dX10_copy_25 : decode cX10_copy 25 = .ok (.aaload, 1) := by decide +kernel
theorem dX10_copy_26 : decode cX10_copy 26 = .ok (.invokevirtual 268, 3) := by decide +kernel
theorem dX10_copy_29 : decode cX10_copy 29 = .ok (.ifCond .ne 15, 3) := by decide +kernel
theorem dX10_copy_32 : decode cX10_copy 32 = .ok (.aload_n 0, 1) := by decide +kernel
theorem dX10_copy_33 : decode cX10_copy 33 = .ok (.getfield 76, 3) := by decide +kernel
theorem dX10_copy_36 : decode cX10_copy 36 = .ok (.iload_n 3, 1) := by decide +kernel
theorem dX10_copy_37 : decode cX10_copy 37 = .ok (.aaload, 1) := by decide +kernel
theorem dX10_copy_38 : decode cX10_copy 38 = .ok (.invokevirtual 268, 3) := by decide +kernel
theorem dX10_copy_41 : decode cX10_copy 41 = .ok (.ifCond .eq 10, 3) := by decide +kernel
theorem dX10_copy_44 : decode cX10_copy 44 = .ok (.aload_n 0, 1) := by decide +kernel
theorem dX10_copy_45 : decode cX10_copy 45 = .ok (.bipush (-2), 2) := by decide +kernel
theorem dX10_copy_47 : decode cX10_copy 47 = .ok (.invokevirtual 96, 3) := by decide +kernel
theorem dX10_copy_50 : decode cX10_copy 50 = .ok (.ireturn, 1) := by decide +kernel
theorem dX10_copy_51 : decode cX10_copy 51 = .ok (.aload_n 0, 1) := by decide +kernel
theorem dX10_copy_52 : decode cX10_copy 52 = .ok (.getfield 76, 3) := by decide +kernel
theorem dX10_copy_55 : decode cX10_copy 55 = .ok (.iload_n 1, 1) := by decide +kernel
theorem dX10_copy_56 : decode cX10_copy 56 = .ok (.aaload, 1) := by decide +kernel
theorem dX10_copy_57 : decode cX10_copy 57 = .ok (.getfield 278, 3) := by decide +kernel
theorem dX10_copy_60 : decode cX10_copy 60 = .ok (.aload_n 0, 1) := by decide +kernel
theorem dX10_copy_61 : decode cX10_copy 61 = .ok (.getfield 76, 3) := by decide +kernel
theorem dX10_copy_64 : decode cX10_copy 64 = .ok (.iload_n 3, 1) := by decide +kernel
theorem dX10_copy_65 : decode cX10_copy 65 = .ok (.aaload, 1) := by decide +kernel
theorem dX10_copy_66 : decode cX10_copy 66 = .ok (.getfield 278, 3) := by decide +kernel
theorem dX10_copy_69 : decode cX10_copy 69 = .ok (.if_icmp .eq 10, 3) := by decide +kernel
theorem dX10_copy_72 : decode cX10_copy 72 = .ok (.aload_n 0, 1) := by decide +kernel
theorem dX10_copy_73 : decode cX10_copy 73 = .ok (.bipush (-4), 2) := by decide +kernel
theorem dX10_copy_75 : decode cX10_copy 75 = .ok (.invokevirtual 96, 3) := by decide +kernel
theorem dX10_copy_78 : decode cX10_copy 78 = .ok (.ireturn, 1) := by decide +kernel
theorem dX10_copy_79 : decode cX10_copy 79 = .ok (.iload_n 2, 1) := by decide +kernel
theorem dX10_copy_80 : decode cX10_copy 80 = .ok (.iload 5, 2) := by decide +kernel
theorem dX10_copy_82 : decode cX10_copy 82 = .ok (.aload_n 0, 1) := by decide +kernel
theorem dX10_copy_83 : decode cX10_copy 83 = .ok (.getfield 76, 3) := by decide +kernel
theorem dX10_copy_86 : decode cX10_copy 86 = .ok (.iload_n 1, 1) := by decide +kernel
theorem dX10_copy_87 : decode cX10_copy 87 = .ok (.aaload, 1) := by decide +kernel
theorem dX10_copy_88 : decode cX10_copy 88 = .ok (.getfield 271, 3) := by decide +kernel
theorem dX10_copy_91 : decode cX10_copy 91 = .ok (.invokestatic 281, 3) := by decide +kernel
theorem dX10_copy_94 : decode cX10_copy 94 = .ok (.ifCond .eq 22, 3) := by decide +kernel
theorem dX10_copy_97 : decode cX10_copy 97 = .ok (.iload 4, 2) := by decide +kernel
theorem dX10_copy_99 : decode cX10_copy 99 = .ok (.iload 5, 2) := by decide +kernel
theorem dX10_copy_101 : decode cX10_copy 101 = .ok (.aload_n 0, 1) := by decide +kernel
theorem dX10_copy_102 : decode cX10_copy 102 = .ok (.getfield 76, 3) := by decide +kernel
theorem dX10_copy_105 : decode cX10_copy 105 = .ok (.iload_n 3, 1) := by decide +kernel
theorem dX10_copy_106 : decode cX10_copy 106 = .ok (.aaload, 1) := by decide +kernel
theorem dX10_copy_107 : decode cX10_copy 107 = .ok (.getfield 271, 3) := by decide +kernel
theorem dX10_copy_110 : decode cX10_copy 110 = .ok (.invokestatic 281, 3) := by decide +kernel
theorem dX10_copy_113 : decode cX10_copy 113 = .ok (.ifCond .ne 9, 3) := by decide +kernel
theorem dX10_copy_116 : decode cX10_copy 116 = .ok (.aload_n 0, 1) := by decide +kernel
theorem dX10_copy_117 : decode cX10_copy 117 = .ok (.iconst (-1), 1) := by decide +kernel
theorem dX10_copy_118 : decode cX10_copy 118 = .ok (.invokevirtual 96, 3) := by decide +kernel
theorem dX10_copy_121 : decode cX10_copy 121 = .ok (.ireturn, 1) := by decide +kernel
theorem dX10_copy_122 : decode cX10_copy 122 = .ok (.aload_n 0, 1) := by decide +kernel
theorem dX10_copy_123 : decode cX10_copy 123 = .ok (.getfield 76, 3) := by decide +kernel
theorem dX10_copy_126 : decode cX10_copy 126 = .ok (.iload_n 1, 1) := by decide +kernel
theorem dX10_copy_127 : decode cX10_copy 127 = .ok (.aaload, 1) := by decide +kernel
theorem dX10_copy_128 : decode cX10_copy 128 = .ok (.getfield 285, 3) := by decide +kernel
theorem dX10_copy_131 : decode cX10_copy 131 = .ok (.iload_n 2, 1) := by decide +kernel
theorem dX10_copy_132 : decode cX10_copy 132 = .ok (.aload_n 0, 1) := by decide +kernel
theorem dX10_copy_133 : decode cX10_copy 133 = .ok (.getfield 76, 3) := by decide +kernel
theorem dX10_copy_136 : decode cX10_copy 136 = .ok (.iload_n 3, 1) := by decide +kernel
theorem dX10_copy_137 : decode cX10_copy 137 = .ok (.aaload, 1) := by decide +kernel
theorem dX10_copy_138 : decode cX10_copy 138 = .ok (.getfield 285, 3) := by decide +kernel
theorem dX10_copy_141 : decode cX10_copy 141 = .ok (.iload 4, 2) := by decide +kernel
theorem dX10_copy_143 : decode cX10_copy 143 = .ok (.iload 5, 2) := by decide +kernel
theorem dX10_copy_145 : decode cX10_copy 145 = .ok (.invokestatic 288, 3) := by decide +kernel
theorem dX10_copy_148 : decode cX10_copy 148 = .ok (.iload 5, 2) := by decide +kernel
theorem dX10_copy_150 : decode cX10_copy 150 = .ok (.ireturn, 1) := by decide +kernel
theorem dX10_spread_0 : decode cX10_spread 0 = .ok (.iload_n 1, 1) := by decide +kernel
theorem dX10_spread_1 : decode cX10_spread 1 = .ok (.invokestatic 255, 3) := by decide +kernel
theorem dX10_spread_4 : decode cX10_spread 4 = .ok (.ifCond .ne 9, 3) := by decide +kernel
theorem dX10_spread_7 : decode cX10_spread 7 = .ok (.aload_n 0, 1) := by decide +kernel
theorem dX10_spread_8 : decode cX10_spread 8 = .ok (.iconst (-1), 1) := by decide +kernel
theorem dX10_spread_9 : decode cX10_spread 9 = .ok (.invokevirtual 96, 3) := by decide +kernel
theorem dX10_spread_12 : decode cX10_spread 12 = .ok (.ireturn, 1) := by decide +kernel
theorem dX10_spread_13 : decode cX10_spread 13 = .ok (.aload_n 0, 1) := by decide +kernel
theorem dX10_spread_14 : decode cX10_spread 14 = .ok (.getfield 76, 3) := by decide +kernel
theorem dX10_spread_17 : decode cX10_spread 17 = .ok (.iload_n 1, 1) := by decide +kernel
theorem dX10_spread_18 : decode cX10_spread 18 = .ok (.aaload, 1) := by decide +kernel
theorem dX10_spread_19 : decode cX10_spread 19 = .ok (.invokevirtual 268, 3) := by decide +kernel
theorem dX10_spread_22 : decode cX10_spread 22 = .ok (.ifCond .eq 10, 3) := by decide +kernel
theorem dX10_spread_25 : decode cX10_spread 25 = .ok (.aload_n 0, 1) := by decide +kernel
theorem dX10_spread_26 : decode cX10_spread 26 = .ok (.bipush (-2), 2) := by decide +kernel
theorem dX10_spread_28 : decode cX10_spread 28 = .ok (.invokevirtual 96, 3) := by decide +kernel
theorem dX10_spread_31 : decode cX10_spread 31 = .ok (.ireturn, 1) := by decide +kernel
theorem dX10_spread_32 : decode cX10_spread 32 = .ok (.iload_n 2, 1) := by decide +kernel
theorem dX10_spread_33 : decode cX10_spread 33 = .ok (.iload_n 3, 1) := by decide +kernel
theorem dX10_spread_34 : decode cX10_spread 34 = .ok (.aload_n 0, 1) := by decide +kernel
theorem dX10_spread_35 : decode cX10_spread 35 = .ok (.getfield 76, 3) := by decide +kernel
theorem dX10_spread_38 : decode cX10_spread 38 = .ok (.iload_n 1, 1) := by decide +kernel
theorem dX10_spread_39 : decode cX10_spread 39 = .ok (.aaload, 1) := by decide +kernel
theorem dX10_spread_40 : decode cX10_spread 40 = .ok (.getfield 271, 3) := by decide +kernel
theorem dX10_spread_43 : decode cX10_spread 43 = .ok (.invokestatic 281, 3) := by decide +kernel
theorem dX10_spread_46 : decode cX10_spread 46 = .ok (.ifCond .eq 19, 3) := by decide +kernel
theorem dX10_spread_49 : decode cX10_spread 49 = .ok (.iload 4, 2) := by decide +kernel
theorem dX10_spread_51 : decode cX10_spread 51 = .ok (.iload_n 3, 1) := by decide +kernel
theorem dX10_spread_52 : decode cX10_spread 52 = .ok (.aload_n 0, 1) := by decide +kernel
theorem dX10_spread_53 : decode cX10_spread 53 = .ok (.getfield 10, 3) := by decide +kernel
theorem dX10_spread_56 : decode cX10_spread 56 = .ok (.getfield 100, 3) := by decide +kernel
theorem dX10_spread_59 : decode cX10_spread 59 = .ok (.invokestatic 281, 3) := by decide +kernel
theorem dX10_spread_62 : decode cX10_spread 62 = .ok (.ifCond .ne 9, 3) := by decide +kernel
theorem dX10_spread_65 : decode cX10_spread 65 = .ok (.aload_n 0, 1) := by decide +kernel
theorem dX10_spread_66 : decode cX10_spread 66 = .ok (.iconst (-1), 1) := by decide +kernel
theorem dX10_spread_67 : decode cX10_spread 67 = .ok (.invokevirtual 96, 3) := by decide +kernel
theorem dX10_spread_70 : decode cX10_spread 70 = .ok (.ireturn, 1) := by decide +kernel
theorem dX10_spread_71 : decode cX10_spread 71 = .ok (.aload_n 0, 1) := by decide +kernel
theorem dX10_spread_72 : decode cX10_spread 72 = .ok (.getfield 92, 3) := by decide +kernel
theorem dX10_spread_75 : decode cX10_spread 75 = .ok (.ifCond .ne 10, 3) := by decide +kernel
theorem dX10_spread_78 : decode cX10_spread 78 = .ok (.aload_n 0, 1) := by decide +kernel
theorem dX10_spread_79 : decode cX10_spread 79 = .ok (.bipush (-8), 2) := by decide +kernel
theorem dX10_spread_81 : decode cX10_spread 81 = .ok (.invokevirtual 96, 3) := by decide +kernel
theorem dX10_spread_84 : decode cX10_spread 84 = .ok (.ireturn, 1) := by decide +kernel
theorem dX10_spread_85 : decode cX10_spread 85 = .ok (.aload_n 0, 1) := by decide +kernel
theorem dX10_spread_86 : decode cX10_spread 86 = .ok (.getfield 76, 3) := by decide +kernel
theorem dX10_spread_89 : decode cX10_spread 89 = .ok (.iload_n 1, 1) := by decide +kernel
theorem dX10_spread_90 : decode cX10_spread 90 = .ok (.aaload, 1) := by decide +kernel
theorem dX10_spread_91 : decode cX10_spread 91 = .ok (.getfield 285, 3) := by decide +kernel
theorem dX10_spread_94 : decode cX10_spread 94 = .ok (.astore 5, 2) := by decide +kernel
theorem dX10_spread_96 : decode cX10_spread 96 = .ok (.aload 5, 2) := by decide +kernel
theorem dX10_spread_98 : decode cX10_spread 98 = .ok (.iload_n 2, 1) := by decide +kernel
theorem dX10_spread_99 : decode cX10_spread 99 = .ok (.iload_n 3, 1) := by decide +kernel
theorem dX10_spread_100 : decode cX10_spread 100 = .ok (.invokestatic 294, 3) := by decide +kernel
theorem dX10_spread_103 : decode cX10_spread 103 = .ok (.ifCond .eq 10, 3) := by decide +kernel
theorem dX10_spread_106 : decode cX10_spread 106 = .ok (.aload_n 0, 1) := by decide +kernel
theorem dX10_spread_107 : decode cX10_spread 107 = .ok (.bipush (-13), 2) := by decide +kernel
theorem dX10_spread_109 : decode cX10_spread 109 = .ok (.invokevirtual 96, 3) := by decide +kernel
theorem dX10_spread_112 : decode cX10_spread 112 = .ok (.ireturn, 1) := by decide +kernel
theorem dX10_spread_113 : decode cX10_spread 113 = .ok (.iconst 0, 1) := by decide +kernel
theorem dX10_spread_114 : decode cX10_spread 114 = .ok (.istore 6, 2) := by decide +kernel
theorem dX10_spread_116 : decode cX10_spread 116 = .ok (.iload 6, 2) := by decide +kernel
theorem dX10_spread_118 : decode cX10_spread 118 = .ok (.iload_n 3, 1) := by decide +kernel
theorem dX10_spread_119 : decode cX10_spread 119 = .ok (.if_icmp .ge 45, 3) := by decide +kernel
theorem dX10_spread_122 : decode cX10_spread 122 = .ok (.aload 5, 2) := by decide +kernel
theorem dX10_spread_124 : decode cX10_spread 124 = .ok (.iload_n 2, 1) := by decide +kernel
theorem dX10_spread_125 : decode cX10_spread 125 = .ok (.iload 6, 2) := by decide +kernel
theorem dX10_spread_127 : decode cX10_spread 127 = .ok (.iadd, 1) := by decide +kernel
theorem dX10_spread_128 : decode cX10_spread 128 = .ok (.laload, 1) := by decide +kernel
theorem dX10_spread_129 : decode cX10_spread 129 = .ok (.ldc_w 298, 3) := by decide +kernel
theorem dX10_spread_132 : decode cX10_spread 132 = .ok (.aload_n 0, 1) := by decide +kernel
theorem dX10_spread_133 : decode cX10_spread 133 = .ok (.getfield 21, 3) := by decide +kernel
theorem dX10_spread_136 : decode cX10_spread 136 = .ok (.getfield 141, 3) := by decide +kernel
theorem dX10_spread_139 : decode cX10_spread 139 = .ok (.iload 4, 2) := by decide +kernel
theorem dX10_spread_141 : decode cX10_spread 141 = .ok (.iload 6, 2) := by decide +kernel
theorem dX10_spread_143 : decode cX10_spread 143 = .ok (.iadd, 1) := by decide +kernel
theorem dX10_spread_144 : decode cX10_spread 144 = .ok (.iaload, 1) := by decide +kernel
theorem dX10_spread_145 : decode cX10_spread 145 = .ok (.isub, 1) := by decide +kernel
theorem dX10_spread_146 : decode cX10_spread 146 = .ok (.i2l, 1) := by decide +kernel
theorem dX10_spread_147 : decode cX10_spread 147 = .ok (.lcmp, 1) := by decide +kernel
theorem dX10_spread_148 : decode cX10_spread 148 = .ok (.ifCond .le 10, 3) := by decide +kernel
theorem dX10_spread_151 : decode cX10_spread 151 = .ok (.aload_n 0, 1) := by decide +kernel
theorem dX10_spread_152 : decode cX10_spread 152 = .ok (.bipush (-5), 2) := by decide +kernel
theorem dX10_spread_154 : decode cX10_spread 154 = .ok (.invokevirtual 96, 3) := by decide +kernel
theorem dX10_spread_157 : decode cX10_spread 157 = .ok (.ireturn, 1) := by decide +kernel
theorem dX10_spread_158 : decode cX10_spread 158 = .ok (.iinc 6 1, 3) := by decide +kernel
theorem dX10_spread_161 : decode cX10_spread 161 = .ok (.goto (-45), 3) := by decide +kernel
theorem dX10_spread_164 : decode cX10_spread 164 = .ok (.aload_n 0, 1) := by decide +kernel
theorem dX10_spread_165 : decode cX10_spread 165 = .ok (.getfield 40, 3) := by decide +kernel
theorem dX10_spread_168 : decode cX10_spread 168 = .ok (.aload_n 0, 1) := by decide +kernel
theorem dX10_spread_169 : decode cX10_spread 169 = .ok (.getfield 21, 3) := by decide +kernel
theorem dX10_spread_172 : decode cX10_spread 172 = .ok (.aload_n 0, 1) := by decide +kernel
theorem dX10_spread_173 : decode cX10_spread 173 = .ok (.getfield 33, 3) := by decide +kernel
theorem dX10_spread_176 : decode cX10_spread 176 = .ok (.invokevirtual 146, 3) := by decide +kernel
theorem dX10_spread_179 : decode cX10_spread 179 = .ok (.iconst 0, 1) := by decide +kernel
theorem dX10_spread_180 : decode cX10_spread 180 = .ok (.istore 6, 2) := by decide +kernel
theorem dX10_spread_182 : decode cX10_spread 182 = .ok (.iload 6, 2) := by decide +kernel
theorem dX10_spread_184 : decode cX10_spread 184 = .ok (.iload_n 3, 1) := by decide +kernel
theorem dX10_spread_185 : decode cX10_spread 185 = .ok (.if_icmp .ge 33, 3) := by decide +kernel
theorem dX10_spread_188 : decode cX10_spread 188 = .ok (.aload_n 0, 1) := by decide +kernel
theorem dX10_spread_189 : decode cX10_spread 189 = .ok (.getfield 21, 3) := by decide +kernel
theorem dX10_spread_192 : decode cX10_spread 192 = .ok (.getfield 141, 3) := by decide +kernel
theorem dX10_spread_195 : decode cX10_spread 195 = .ok (.iload 4, 2) := by decide +kernel
theorem dX10_spread_197 : decode cX10_spread 197 = .ok (.iload 6, 2) := by decide +kernel
theorem dX10_spread_199 : decode cX10_spread 199 = .ok (.iadd, 1) := by decide +kernel
theorem dX10_spread_200 : decode cX10_spread 200 = .ok (.dup2, 1) := by decide +kernel
theorem dX10_spread_201 : decode cX10_spread 201 = .ok (.iaload, 1) := by decide +kernel
theorem dX10_spread_202 : decode cX10_spread 202 = .ok (.aload 5, 2) := by decide +kernel
theorem dX10_spread_204 : decode cX10_spread 204 = .ok (.iload_n 2, 1) := by decide +kernel
theorem dX10_spread_205 : decode cX10_spread 205 = .ok (.iload 6, 2) := by decide +kernel
theorem dX10_spread_207 : decode cX10_spread 207 = .ok (.iadd, 1) := by decide +kernel
theorem dX10_spread_208 : decode cX10_spread 208 = .ok (.laload, 1) := by decide +kernel
theorem dX10_spread_209 : decode cX10_spread 209 = .ok (.l2i, 1) := by decide +kernel
theorem dX10_spread_210 : decode cX10_spread 210 = .ok (.iadd, 1) := by decide +kernel
theorem dX10_spread_211 : decode cX10_spread 211 = .ok (.iastore, 1) := by decide +kernel
theorem dX10_spread_212 : decode cX10_spread 212 = .ok (.iinc 6 1, 3) := by decide +kernel
theorem dX10_spread_215 : decode cX10_spread 215 = .ok (.goto (-33), 3) := by decide +kernel
theorem dX10_spread_218 : decode cX10_spread 218 = .ok (.aload_n 0, 1) := by decide +kernel
theorem dX10_spread_219 : decode cX10_spread 219 = .ok (.getfield 21, 3) := by decide +kernel
theorem dX10_spread_222 : decode cX10_spread 222 = .ok (.invokevirtual 228, 3) := by decide +kernel
theorem dX10_spread_225 : decode cX10_spread 225 = .ok (.ireturn, 1) := by decide +kernel
theorem dX10_tell_0 : decode cX10_tell 0 = .ok (.aload_n 0, 1) := by decide +kernel
theorem dX10_tell_1 : decode cX10_tell 1 = .ok (.getfield 84, 3) := by decide +kernel
theorem dX10_tell_4 : decode cX10_tell 4 = .ok (.getfield 299, 3) := by decide +kernel
theorem dX10_tell_7 : decode cX10_tell 7 = .ok (.sipush 200, 3) := by decide +kernel
theorem dX10_tell_10 : decode cX10_tell 10 = .ok (.if_icmp .lt 10, 3) := by decide +kernel
theorem dX10_tell_13 : decode cX10_tell 13 = .ok (.aload_n 0, 1) := by decide +kernel
theorem dX10_tell_14 : decode cX10_tell 14 = .ok (.bipush (-5), 2) := by decide +kernel
theorem dX10_tell_16 : decode cX10_tell 16 = .ok (.invokevirtual 96, 3) := by decide +kernel
theorem dX10_tell_19 : decode cX10_tell 19 = .ok (.ireturn, 1) := by decide +kernel
theorem dX10_tell_20 : decode cX10_tell 20 = .ok (.aload_n 0, 1) := by decide +kernel
theorem dX10_tell_21 : decode cX10_tell 21 = .ok (.getfield 84, 3) := by decide +kernel
theorem dX10_tell_24 : decode cX10_tell 24 = .ok (.iload_n 1, 1) := by decide +kernel
theorem dX10_tell_25 : decode cX10_tell 25 = .ok (.invokevirtual 300, 3) := by decide +kernel
theorem dX10_tell_28 : decode cX10_tell 28 = .ok (.ireturn, 1) := by decide +kernel
theorem dX10_enough_0 : decode cX10_enough 0 = .ok (.bipush (-8), 2) := by decide +kernel
theorem dX10_enough_2 : decode cX10_enough 2 = .ok (.istore_n 1, 1) := by decide +kernel
theorem dX10_enough_3 : decode cX10_enough 3 = .ok (.aload_n 0, 1) := by decide +kernel
theorem dX10_enough_4 : decode cX10_enough 4 = .ok (.getfield 92, 3) := by decide +kernel
theorem dX10_enough_7 : decode cX10_enough 7 = .ok (.ifCond .eq 8, 3) := by decide +kernel
theorem dX10_enough_10 : decode cX10_enough 10 = .ok (.aload_n 0, 1) := by decide +kernel
theorem dX10_enough_11 : decode cX10_enough 11 = .ok (.invokevirtual 303, 3) := by decide +kernel
theorem dX10_enough_14 : decode cX10_enough 14 = .ok (.istore_n 1, 1) := by decide +kernel
theorem dX10_enough_15 : decode cX10_enough 15 = .ok (.aload_n 0, 1) := by decide +kernel
theorem dX10_enough_16 : decode cX10_enough 16 = .ok (.getfield 84, 3) := by decide +kernel
theorem dX10_enough_19 : decode cX10_enough 19 = .ok (.invokevirtual 179, 3) := by decide +kernel
theorem dX10_enough_22 : decode cX10_enough 22 = .ok (.iload_n 1, 1) := by decide +kernel
theorem dX10_enough_23 : decode cX10_enough 23 = .ok (.ifCond .ge 11, 3) := by decide +kernel
theorem dX10_enough_26 : decode cX10_enough 26 = .ok (.aload_n 0, 1) := by decide +kernel
theorem dX10_enough_27 : decode cX10_enough 27 = .ok (.iload_n 1, 1) := by decide +kernel
theorem dX10_enough_28 : decode cX10_enough 28 = .ok (.invokevirtual 96, 3) := by decide +kernel
theorem dX10_enough_31 : decode cX10_enough 31 = .ok (.goto 4, 3) := by decide +kernel
theorem dX10_enough_34 : decode cX10_enough 34 = .ok (.iload_n 1, 1) := by decide +kernel
theorem dX10_enough_35 : decode cX10_enough 35 = .ok (.ireturn, 1) := by decide +kernel
theorem dX10_check_0 : decode cX10_check 0 = .ok (.bipush (-8), 2) := by decide +kernel
theorem dX10_check_2 : decode cX10_check 2 = .ok (.istore_n 1, 1) := by decide +kernel
theorem dX10_check_3 : decode cX10_check 3 = .ok (.aload_n 0, 1) := by decide +kernel
theorem dX10_check_4 : decode cX10_check 4 = .ok (.getfield 92, 3) := by decide +kernel
theorem dX10_check_7 : decode cX10_check 7 = .ok (.ifCond .eq 8, 3) := by decide +kernel
theorem dX10_check_10 : decode cX10_check 10 = .ok (.aload_n 0, 1) := by decide +kernel
theorem dX10_check_11 : decode cX10_check 11 = .ok (.invokevirtual 306, 3) := by decide +kernel
theorem dX10_check_14 : decode cX10_check 14 = .ok (.istore_n 1, 1) := by decide +kernel
theorem dX10_check_15 : decode cX10_check 15 = .ok (.aload_n 0, 1) := by decide +kernel
theorem dX10_check_16 : decode cX10_check 16 = .ok (.getfield 84, 3) := by decide +kernel
theorem dX10_check_19 : decode cX10_check 19 = .ok (.invokevirtual 179, 3) := by decide +kernel
theorem dX10_check_22 : decode cX10_check 22 = .ok (.iload_n 1, 1) := by decide +kernel
theorem dX10_check_23 : decode cX10_check 23 = .ok (.ifCond .ge 11, 3) := by decide +kernel
theorem dX10_check_26 : decode cX10_check 26 = .ok (.aload_n 0, 1) := by decide +kernel
theorem dX10_check_27 : decode cX10_check 27 = .ok (.iload_n 1, 1) := by decide +kernel
theorem dX10_check_28 : decode cX10_check 28 = .ok (.invokevirtual 96, 3) := by decide +kernel
theorem dX10_check_31 : decode cX10_check 31 = .ok (.goto 4, 3) := by decide +kernel
theorem dX10_check_34 : decode cX10_check 34 = .ok (.iload_n 1, 1) := by decide +kernel
theorem dX10_check_35 : decode cX10_check 35 = .ok (.ireturn, 1) := by decide +kernel
theorem dX10_undo_0 : decode cX10_undo 0 = .ok (.aload_n 0, 1) := by decide +kernel
theorem dX10_undo_1 : decode cX10_undo 1 = .ok (.getfield 40, 3) := by decide +kernel
theorem dX10_undo_4 : decode cX10_undo 4 = .ok (.getfield 309, 3) := by decide +kernel
theorem dX10_undo_7 : decode cX10_undo 7 = .ok (.ifCond .ne 10, 3) := by decide +kernel
theorem dX10_undo_10 : decode cX10_undo 10 = .ok (.aload_n 0, 1) := by decide +kernel
theorem dX10_undo_11 : decode cX10_undo 11 = .ok (.bipush (-11), 2) := by decide +kernel
theorem dX10_undo_13 : decode cX10_undo 13 = .ok (.invokevirtual 96, 3) := by decide +kernel
theorem dX10_undo_16 : decode cX10_undo 16 = .ok (.ireturn, 1) := by decide +kernel
theorem dX10_undo_17 : decode cX10_undo 17 = .ok (.aload_n 0, 1) := by decide +kernel
theorem dX10_undo_18 : decode cX10_undo 18 = .ok (.getfield 40, 3) := by decide +kernel
theorem dX10_undo_21 : decode cX10_undo 21 = .ok (.aload_n 0, 1) := by decide +kernel
theorem dX10_undo_22 : decode cX10_undo 22 = .ok (.getfield 21, 3) := by decide +kernel
theorem dX10_undo_25 : decode cX10_undo 25 = .ok (.aload_n 0, 1) := by decide +kernel
theorem dX10_undo_26 : decode cX10_undo 26 = .ok (.getfield 33, 3) := by decide +kernel
theorem dX10_undo_29 : decode cX10_undo 29 = .ok (.invokevirtual 310, 3) := by decide +kernel
theorem dX10_undo_32 : decode cX10_undo 32 = .ok (.aload_n 0, 1) := by decide +kernel
theorem dX10_undo_33 : decode cX10_undo 33 = .ok (.getfield 40, 3) := by decide +kernel
theorem dX10_undo_36 : decode cX10_undo 36 = .ok (.getfield 309, 3) := by decide +kernel
theorem dX10_undo_39 : decode cX10_undo 39 = .ok (.ireturn, 1) := by decide +kernel
theorem dX10_told_0 : decode cX10_told 0 = .ok (.iload_n 1, 1) := by decide +kernel
theorem dX10_told_1 : decode cX10_told 1 = .ok (.tableswitch 138 0 8 #[51, 56, 64, 77, 100, 108, 116, 125, 133], 51) := by decide +kernel
theorem dX10_told_52 : decode cX10_told 52 = .ok (.aload_n 0, 1) := by decide +kernel
theorem dX10_told_53 : decode cX10_told 53 = .ok (.getfield 126, 3) := by decide +kernel
theorem dX10_told_56 : decode cX10_told 56 = .ok (.ireturn, 1) := by decide +kernel
theorem dX10_told_57 : decode cX10_told 57 = .ok (.aload_n 0, 1) := by decide +kernel
theorem dX10_told_58 : decode cX10_told 58 = .ok (.getfield 10, 3) := by decide +kernel
theorem dX10_told_61 : decode cX10_told 61 = .ok (.getfield 100, 3) := by decide +kernel
theorem dX10_told_64 : decode cX10_told 64 = .ok (.ireturn, 1) := by decide +kernel
theorem dX10_told_65 : decode cX10_told 65 = .ok (.aload_n 0, 1) := by decide +kernel
theorem dX10_told_66 : decode cX10_told 66 = .ok (.getfield 92, 3) := by decide +kernel
theorem dX10_told_69 : decode cX10_told 69 = .ok (.ifCond .eq 7, 3) := by decide +kernel
theorem dX10_told_72 : decode cX10_told 72 = .ok (.iconst 1, 1) := by decide +kernel
theorem dX10_told_73 : decode cX10_told 73 = .ok (.goto 4, 3) := by decide +kernel
theorem dX10_told_76 : decode cX10_told 76 = .ok (.iconst 0, 1) := by decide +kernel
theorem dX10_told_77 : decode cX10_told 77 = .ok (.ireturn, 1) := by decide +kernel
theorem dX10_told_78 : decode cX10_told 78 = .ok (.aload_n 0, 1) := by decide +kernel
theorem dX10_told_79 : decode cX10_told 79 = .ok (.getfield 92, 3) := by decide +kernel
theorem dX10_told_82 : decode cX10_told 82 = .ok (.ifCond .eq 17, 3) := by decide +kernel
theorem dX10_told_85 : decode cX10_told 85 = .ok (.aload_n 0, 1) := by decide +kernel
theorem dX10_told_86 : decode cX10_told 86 = .ok (.getfield 21, 3) := by decide +kernel
theorem dX10_told_89 : decode cX10_told 89 = .ok (.invokevirtual 194, 3) := by decide +kernel
theorem dX10_told_92 : decode cX10_told 92 = .ok (.ifCond .eq 7, 3) := by decide +kernel
theorem dX10_told_95 : decode cX10_told 95 = .ok (.iconst 1, 1) := by decide +kernel
theorem dX10_told_96 : decode cX10_told 96 = .ok (.goto 4, 3) := by decide +kernel
theorem dX10_told_99 : decode cX10_told 99 = .ok (.iconst 0, 1) := by decide +kernel
theorem dX10_told_100 : decode cX10_told 100 = .ok (.ireturn, 1) := by decide +kernel
theorem dX10_told_101 : decode cX10_told 101 = .ok (.aload_n 0, 1) := by decide +kernel
theorem dX10_told_102 : decode cX10_told 102 = .ok (.getfield 21, 3) := by decide +kernel
theorem dX10_told_105 : decode cX10_told 105 = .ok (.invokevirtual 228, 3) := by decide +kernel
theorem dX10_told_108 : decode cX10_told 108 = .ok (.ireturn, 1) := by decide +kernel
theorem dX10_told_109 : decode cX10_told 109 = .ok (.aload_n 0, 1) := by decide +kernel
theorem dX10_told_110 : decode cX10_told 110 = .ok (.getfield 84, 3) := by decide +kernel
theorem dX10_told_113 : decode cX10_told 113 = .ok (.getfield 299, 3) := by decide +kernel
theorem dX10_told_116 : decode cX10_told 116 = .ok (.ireturn, 1) := by decide +kernel
theorem dX10_told_117 : decode cX10_told 117 = .ok (.aload_n 0, 1) := by decide +kernel
theorem dX10_told_118 : decode cX10_told 118 = .ok (.getfield 33, 3) := by decide +kernel
theorem dX10_told_121 : decode cX10_told 121 = .ok (.getfield 180, 3) := by decide +kernel
theorem dX10_told_124 : decode cX10_told 124 = .ok (.l2i, 1) := by decide +kernel
theorem dX10_told_125 : decode cX10_told 125 = .ok (.ireturn, 1) := by decide +kernel
theorem dX10_told_126 : decode cX10_told 126 = .ok (.aload_n 0, 1) := by decide +kernel
theorem dX10_told_127 : decode cX10_told 127 = .ok (.getfield 54, 3) := by decide +kernel
theorem dX10_told_130 : decode cX10_told 130 = .ok (.getfield 251, 3) := by decide +kernel
theorem dX10_told_133 : decode cX10_told 133 = .ok (.ireturn, 1) := by decide +kernel
theorem dX10_told_134 : decode cX10_told 134 = .ok (.aload_n 0, 1) := by decide +kernel
theorem dX10_told_135 : decode cX10_told 135 = .ok (.getfield 313, 3) := by decide +kernel
theorem dX10_told_138 : decode cX10_told 138 = .ok (.ireturn, 1) := by decide +kernel
theorem dX10_told_139 : decode cX10_told 139 = .ok (.aload_n 0, 1) := by decide +kernel
theorem dX10_told_140 : decode cX10_told 140 = .ok (.iconst (-1), 1) := by decide +kernel
theorem dX10_told_141 : decode cX10_told 141 = .ok (.invokevirtual 96, 3) := by decide +kernel
theorem dX10_told_144 : decode cX10_told 144 = .ok (.ireturn, 1) := by decide +kernel
theorem dX10_found_0 : decode cX10_found 0 = .ok (.aload_n 0, 1) := by decide +kernel
theorem dX10_found_1 : decode cX10_found 1 = .ok (.dup, 1) := by decide +kernel
theorem dX10_found_2 : decode cX10_found 2 = .ok (.getfield 313, 3) := by decide +kernel
theorem dX10_found_5 : decode cX10_found 5 = .ok (.iconst 1, 1) := by decide +kernel
theorem dX10_found_6 : decode cX10_found 6 = .ok (.iadd, 1) := by decide +kernel
theorem dX10_found_7 : decode cX10_found 7 = .ok (.putfield 313, 3) := by decide +kernel
theorem dX10_found_10 : decode cX10_found 10 = .ok (.iload_n 1, 1) := by decide +kernel
theorem dX10_found_11 : decode cX10_found 11 = .ok (.ireturn, 1) := by decide +kernel
theorem dX10_foundByPut_0 : decode cX10_foundByPut 0 = .ok (.aload_n 0, 1) := by decide +kernel
theorem dX10_foundByPut_1 : decode cX10_foundByPut 1 = .ok (.iload_n 1, 1) := by decide +kernel
theorem dX10_foundByPut_2 : decode cX10_foundByPut 2 = .ok (.invokevirtual 96, 3) := by decide +kernel
theorem dX10_foundByPut_5 : decode cX10_foundByPut 5 = .ok (.pop, 1) := by decide +kernel
theorem dX10_foundByPut_6 : decode cX10_foundByPut 6 = .ok (.ldc2_w 318, 3) := by decide +kernel
theorem dX10_foundByPut_9 : decode cX10_foundByPut 9 = .ok (.lreturn, 1) := by decide +kernel
theorem dX10_fillSlot_0 : decode cX10_fillSlot 0 = .ok (.aload_n 2, 1) := by decide +kernel
theorem dX10_fillSlot_1 : decode cX10_fillSlot 1 = .ok (.getfield 141, 3) := by decide +kernel
theorem dX10_fillSlot_4 : decode cX10_fillSlot 4 = .ok (.iconst 0, 1) := by decide +kernel
theorem dX10_fillSlot_5 : decode cX10_fillSlot 5 = .ok (.aload_n 0, 1) := by decide +kernel
theorem dX10_fillSlot_6 : decode cX10_fillSlot 6 = .ok (.getfield 67, 3) := by decide +kernel
theorem dX10_fillSlot_9 : decode cX10_fillSlot 9 = .ok (.iload_n 1, 1) := by decide +kernel
theorem dX10_fillSlot_10 : decode cX10_fillSlot 10 = .ok (.aaload, 1) := by decide +kernel
theorem dX10_fillSlot_11 : decode cX10_fillSlot 11 = .ok (.iconst 0, 1) := by decide +kernel
theorem dX10_fillSlot_12 : decode cX10_fillSlot 12 = .ok (.bipush 12, 2) := by decide +kernel
theorem dX10_fillSlot_14 : decode cX10_fillSlot 14 = .ok (.invokestatic 288, 3) := by decide +kernel
theorem dX10_fillSlot_17 : decode cX10_fillSlot 17 = .ok (.aload_n 0, 1) := by decide +kernel
theorem dX10_fillSlot_18 : decode cX10_fillSlot 18 = .ok (.getfield 70, 3) := by decide +kernel
theorem dX10_fillSlot_21 : decode cX10_fillSlot 21 = .ok (.iload_n 1, 1) := by decide +kernel
theorem dX10_fillSlot_22 : decode cX10_fillSlot 22 = .ok (.iconst 1, 1) := by decide +kernel
theorem dX10_fillSlot_23 : decode cX10_fillSlot 23 = .ok (.bastore, 1) := by decide +kernel
theorem dX10_fillSlot_24 : decode cX10_fillSlot 24 = .ok (.aload_n 2, 1) := by decide +kernel
theorem dX10_fillSlot_25 : decode cX10_fillSlot 25 = .ok (.invokevirtual 228, 3) := by decide +kernel
theorem dX10_fillSlot_28 : decode cX10_fillSlot 28 = .ok (.ireturn, 1) := by decide +kernel
theorem dX10_settleInto_0 : decode cX10_settleInto 0 = .ok (.aload_n 0, 1) := by decide +kernel
theorem dX10_settleInto_1 : decode cX10_settleInto 1 = .ok (.getfield 25, 3) := by decide +kernel
theorem dX10_settleInto_4 : decode cX10_settleInto 4 = .ok (.invokevirtual 237, 3) := by decide +kernel
theorem dX10_settleInto_7 : decode cX10_settleInto 7 = .ok (.ifCond .eq 15, 3) := by decide +kernel
theorem dX10_settleInto_10 : decode cX10_settleInto 10 = .ok (.aload_n 0, 1) := by decide +kernel
theorem dX10_settleInto_11 : decode cX10_settleInto 11 = .ok (.iload_n 1, 1) := by decide +kernel
theorem dX10_settleInto_12 : decode cX10_settleInto 12 = .ok (.aload_n 0, 1) := by decide +kernel
theorem dX10_settleInto_13 : decode cX10_settleInto 13 = .ok (.getfield 25, 3) := by decide +kernel
theorem dX10_settleInto_16 : decode cX10_settleInto 16 = .ok (.invokevirtual 220, 3) := by decide +kernel
theorem dX10_settleInto_19 : decode cX10_settleInto 19 = .ok (.goto 9, 3) := by decide +kernel
theorem dX10_settleInto_22 : decode cX10_settleInto 22 = .ok (.aload_n 0, 1) := by decide +kernel
theorem dX10_settleInto_23 : decode cX10_settleInto 23 = .ok (.bipush (-5), 2) := by decide +kernel
theorem dX10_settleInto_25 : decode cX10_settleInto 25 = .ok (.invokevirtual 96, 3) := by decide +kernel
theorem dX10_settleInto_28 : decode cX10_settleInto 28 = .ok (.ireturn, 1) := by decide +kernel
theorem dX10_findLeftOfA_0 : decode cX10_findLeftOfA 0 = .ok (.iconst 0, 1) := by decide +kernel
theorem dX10_findLeftOfA_1 : decode cX10_findLeftOfA 1 = .ok (.istore_n 1, 1) := by decide +kernel
theorem dX10_findLeftOfA_2 : decode cX10_findLeftOfA 2 = .ok (.iload_n 1, 1) := by decide +kernel
theorem dX10_findLeftOfA_3 : decode cX10_findLeftOfA 3 = .ok (.aload_n 0, 1) := by decide +kernel
theorem dX10_findLeftOfA_4 : decode cX10_findLeftOfA 4 = .ok (.getfield 10, 3) := by decide +kernel
theorem dX10_findLeftOfA_7 : decode cX10_findLeftOfA 7 = .ok (.getfield 100, 3) := by decide +kernel
theorem dX10_findLeftOfA_10 : decode cX10_findLeftOfA 10 = .ok (.if_icmp .ge 28, 3) := by decide +kernel
theorem dX10_findLeftOfA_13 : decode cX10_findLeftOfA 13 = .ok (.aload_n 0, 1) := by decide +kernel
theorem dX10_findLeftOfA_14 : decode cX10_findLeftOfA 14 = .ok (.getfield 88, 3) := by decide +kernel
theorem dX10_findLeftOfA_17 : decode cX10_findLeftOfA 17 = .ok (.iload_n 1, 1) := by decide +kernel
theorem dX10_findLeftOfA_18 : decode cX10_findLeftOfA 18 = .ok (.iconst 2, 1) := by decide +kernel
theorem dX10_findLeftOfA_19 : decode cX10_findLeftOfA 19 = .ok (.aload_n 0, 1) := by decide +kernel
theorem dX10_findLeftOfA_20 : decode cX10_findLeftOfA 20 = .ok (.getfield 10, 3) := by decide +kernel
theorem dX10_findLeftOfA_23 : decode cX10_findLeftOfA 23 = .ok (.getfield 320, 3) := by decide +kernel
theorem dX10_findLeftOfA_26 : decode cX10_findLeftOfA 26 = .ok (.iload_n 1, 1) := by decide +kernel
theorem dX10_findLeftOfA_27 : decode cX10_findLeftOfA 27 = .ok (.iaload, 1) := by decide +kernel
theorem dX10_findLeftOfA_28 : decode cX10_findLeftOfA 28 = .ok (.iconst 1, 1) := by decide +kernel
theorem dX10_findLeftOfA_29 : decode cX10_findLeftOfA 29 = .ok (.isub, 1) := by decide +kernel
theorem dX10_findLeftOfA_30 : decode cX10_findLeftOfA 30 = .ok (.imul, 1) := by decide +kernel
theorem dX10_findLeftOfA_31 : decode cX10_findLeftOfA 31 = .ok (.iastore, 1) := by decide +kernel
theorem dX10_findLeftOfA_32 : decode cX10_findLeftOfA 32 = .ok (.iinc 1 1, 3) := by decide +kernel
theorem dX10_findLeftOfA_35 : decode cX10_findLeftOfA 35 = .ok (.goto (-33), 3) := by decide +kernel
theorem dX10_findLeftOfA_38 : decode cX10_findLeftOfA 38 = .ok (.aload_n 0, 1) := by decide +kernel
theorem dX10_findLeftOfA_39 : decode cX10_findLeftOfA 39 = .ok (.getfield 25, 3) := by decide +kernel
theorem dX10_findLeftOfA_42 : decode cX10_findLeftOfA 42 = .ok (.aload_n 0, 1) := by decide +kernel
theorem dX10_findLeftOfA_43 : decode cX10_findLeftOfA 43 = .ok (.getfield 88, 3) := by decide +kernel
theorem dX10_findLeftOfA_46 : decode cX10_findLeftOfA 46 = .ok (.invokevirtual 224, 3) := by decide +kernel
theorem dX10_findLeftOfA_49 : decode cX10_findLeftOfA 49 = .ok (.aload_n 0, 1) := by decide +kernel
theorem dX10_findLeftOfA_50 : decode cX10_findLeftOfA 50 = .ok (.getfield 25, 3) := by decide +kernel
theorem dX10_findLeftOfA_53 : decode cX10_findLeftOfA 53 = .ok (.invokevirtual 237, 3) := by decide +kernel
theorem dX10_findLeftOfA_56 : decode cX10_findLeftOfA 56 = .ok (.ifCond .ne 5, 3) := by decide +kernel
theorem dX10_findLeftOfA_59 : decode cX10_findLeftOfA 59 = .ok (.iconst 0, 1) := by decide +kernel
theorem dX10_findLeftOfA_60 : decode cX10_findLeftOfA 60 = .ok (.ireturn, 1) := by decide +kernel
theorem dX10_findLeftOfA_61 : decode cX10_findLeftOfA 61 = .ok (.iconst 0, 1) := by decide +kernel
theorem dX10_findLeftOfA_62 : decode cX10_findLeftOfA 62 = .ok (.istore_n 1, 1) := by decide +kernel
theorem dX10_findLeftOfA_63 : decode cX10_findLeftOfA 63 = .ok (.iload_n 1, 1) := by decide +kernel
theorem dX10_findLeftOfA_64 : decode cX10_findLeftOfA 64 = .ok (.aload_n 0, 1) := by decide +kernel
theorem dX10_findLeftOfA_65 : decode cX10_findLeftOfA 65 = .ok (.getfield 10, 3) := by decide +kernel
theorem dX10_findLeftOfA_68 : decode cX10_findLeftOfA 68 = .ok (.getfield 100, 3) := by decide +kernel
theorem dX10_findLeftOfA_71 : decode cX10_findLeftOfA 71 = .ok (.if_icmp .ge 27, 3) := by decide +kernel
theorem dX10_findLeftOfA_74 : decode cX10_findLeftOfA 74 = .ok (.aload_n 0, 1) := by decide +kernel
theorem dX10_findLeftOfA_75 : decode cX10_findLeftOfA 75 = .ok (.getfield 88, 3) := by decide +kernel
theorem dX10_findLeftOfA_78 : decode cX10_findLeftOfA 78 = .ok (.iload_n 1, 1) := by decide +kernel
theorem dX10_findLeftOfA_79 : decode cX10_findLeftOfA 79 = .ok (.dup2, 1) := by decide +kernel
theorem dX10_findLeftOfA_80 : decode cX10_findLeftOfA 80 = .ok (.iaload, 1) := by decide +kernel
theorem dX10_findLeftOfA_81 : decode cX10_findLeftOfA 81 = .ok (.aload_n 0, 1) := by decide +kernel
theorem dX10_findLeftOfA_82 : decode cX10_findLeftOfA 82 = .ok (.getfield 25, 3) := by decide +kernel
theorem dX10_findLeftOfA_85 : decode cX10_findLeftOfA 85 = .ok (.getfield 141, 3) := by decide +kernel
theorem dX10_findLeftOfA_88 : decode cX10_findLeftOfA 88 = .ok (.iload_n 1, 1) := by decide +kernel
theorem dX10_findLeftOfA_89 : decode cX10_findLeftOfA 89 = .ok (.iaload, 1) := by decide +kernel
theorem dX10_findLeftOfA_90 : decode cX10_findLeftOfA 90 = .ok (.isub, 1) := by decide +kernel
theorem dX10_findLeftOfA_91 : decode cX10_findLeftOfA 91 = .ok (.iastore, 1) := by decide +kernel
theorem dX10_findLeftOfA_92 : decode cX10_findLeftOfA 92 = .ok (.iinc 1 1, 3) := by decide +kernel
theorem dX10_findLeftOfA_95 : decode cX10_findLeftOfA 95 = .ok (.goto (-32), 3) := by decide +kernel
theorem dX10_findLeftOfA_98 : decode cX10_findLeftOfA 98 = .ok (.iconst 1, 1) := by decide +kernel
theorem dX10_findLeftOfA_99 : decode cX10_findLeftOfA 99 = .ok (.ireturn, 1) := by decide +kernel
theorem dX10_weighCounts_0 : decode cX10_weighCounts 0 = .ok (.aload_n 0, 1) := by decide +kernel
theorem dX10_weighCounts_1 : decode cX10_weighCounts 1 = .ok (.getfield 84, 3) := by decide +kernel
theorem dX10_weighCounts_4 : decode cX10_weighCounts 4 = .ok (.getfield 299, 3) := by decide +kernel
theorem dX10_weighCounts_7 : decode cX10_weighCounts 7 = .ok (.aload_n 0, 1) := by decide +kernel
theorem dX10_weighCounts_8 : decode cX10_weighCounts 8 = .ok (.getfield 10, 3) := by decide +kernel
theorem dX10_weighCounts_11 : decode cX10_weighCounts 11 = .ok (.getfield 100, 3) := by decide +kernel
theorem dX10_weighCounts_14 : decode cX10_weighCounts 14 = .ok (.if_icmp .eq 6, 3) := by decide +kernel
theorem dX10_weighCounts_17 : decode cX10_weighCounts 17 = .ok (.bipush (-3), 2) := by decide +kernel
theorem dX10_weighCounts_19 : decode cX10_weighCounts 19 = .ok (.ireturn, 1) := by decide +kernel
theorem dX10_weighCounts_20 : decode cX10_weighCounts 20 = .ok (.iconst 0, 1) := by decide +kernel
theorem dX10_weighCounts_21 : decode cX10_weighCounts 21 = .ok (.istore_n 1, 1) := by decide +kernel
theorem dX10_weighCounts_22 : decode cX10_weighCounts 22 = .ok (.iload_n 1, 1) := by decide +kernel
theorem dX10_weighCounts_23 : decode cX10_weighCounts 23 = .ok (.aload_n 0, 1) := by decide +kernel
theorem dX10_weighCounts_24 : decode cX10_weighCounts 24 = .ok (.getfield 84, 3) := by decide +kernel
theorem dX10_weighCounts_27 : decode cX10_weighCounts 27 = .ok (.getfield 299, 3) := by decide +kernel
theorem dX10_weighCounts_30 : decode cX10_weighCounts 30 = .ok (.if_icmp .ge 39, 3) := by decide +kernel
theorem dX10_weighCounts_33 : decode cX10_weighCounts 33 = .ok (.aload_n 0, 1) := by decide +kernel
theorem dX10_weighCounts_34 : decode cX10_weighCounts 34 = .ok (.getfield 84, 3) := by decide +kernel
theorem dX10_weighCounts_37 : decode cX10_weighCounts 37 = .ok (.getfield 323, 3) := by decide +kernel
theorem dX10_weighCounts_40 : decode cX10_weighCounts 40 = .ok (.iload_n 1, 1) := by decide +kernel
theorem dX10_weighCounts_41 : decode cX10_weighCounts 41 = .ok (.iaload, 1) := by decide +kernel
theorem dX10_weighCounts_42 : decode cX10_weighCounts 42 = .ok (.ifCond .lt 18, 3) := by decide +kernel
theorem dX10_weighCounts_45 : decode cX10_weighCounts 45 = .ok (.aload_n 0, 1) := by decide +kernel
theorem dX10_weighCounts_46 : decode cX10_weighCounts 46 = .ok (.getfield 84, 3) := by decide +kernel
theorem dX10_weighCounts_49 : decode cX10_weighCounts 49 = .ok (.getfield 323, 3) := by decide +kernel
theorem dX10_weighCounts_52 : decode cX10_weighCounts 52 = .ok (.iload_n 1, 1) := by decide +kernel
theorem dX10_weighCounts_53 : decode cX10_weighCounts 53 = .ok (.iaload, 1) := by decide +kernel
theorem dX10_weighCounts_54 : decode cX10_weighCounts 54 = .ok (.ldc_w 298, 3) := by decide +kernel
theorem dX10_weighCounts_57 : decode cX10_weighCounts 57 = .ok (.if_icmp .le 6, 3) := by decide +kernel
theorem dX10_weighCounts_60 : decode cX10_weighCounts 60 = .ok (.bipush (-13), 2) := by decide +kernel
theorem dX10_weighCounts_62 : decode cX10_weighCounts 62 = .ok (.ireturn, 1) := by decide +kernel
theorem dX10_weighCounts_63 : decode cX10_weighCounts 63 = .ok (.iinc 1 1, 3) := by decide +kernel
theorem dX10_weighCounts_66 : decode cX10_weighCounts 66 = .ok (.goto (-44), 3) := by decide +kernel
theorem dX10_weighCounts_69 : decode cX10_weighCounts 69 = .ok (.iconst 0, 1) := by decide +kernel
theorem dX10_weighCounts_70 : decode cX10_weighCounts 70 = .ok (.istore_n 1, 1) := by decide +kernel
theorem dX10_weighCounts_71 : decode cX10_weighCounts 71 = .ok (.iload_n 1, 1) := by decide +kernel
theorem dX10_weighCounts_72 : decode cX10_weighCounts 72 = .ok (.aload_n 0, 1) := by decide +kernel
theorem dX10_weighCounts_73 : decode cX10_weighCounts 73 = .ok (.getfield 10, 3) := by decide +kernel
theorem dX10_weighCounts_76 : decode cX10_weighCounts 76 = .ok (.getfield 100, 3) := by decide +kernel
theorem dX10_weighCounts_79 : decode cX10_weighCounts 79 = .ok (.if_icmp .ge 30, 3) := by decide +kernel
theorem dX10_weighCounts_82 : decode cX10_weighCounts 82 = .ok (.aload_n 0, 1) := by decide +kernel
theorem dX10_weighCounts_83 : decode cX10_weighCounts 83 = .ok (.iload_n 1, 1) := by decide +kernel
theorem dX10_weighCounts_84 : decode cX10_weighCounts 84 = .ok (.invokevirtual 325, 3) := by decide +kernel
theorem dX10_weighCounts_87 : decode cX10_weighCounts 87 = .ok (.aload_n 0, 1) := by decide +kernel
theorem dX10_weighCounts_88 : decode cX10_weighCounts 88 = .ok (.getfield 10, 3) := by decide +kernel
theorem dX10_weighCounts_91 : decode cX10_weighCounts 91 = .ok (.getfield 320, 3) := by decide +kernel
theorem dX10_weighCounts_94 : decode cX10_weighCounts 94 = .ok (.iload_n 1, 1) := by decide +kernel
theorem dX10_weighCounts_95 : decode cX10_weighCounts 95 = .ok (.iaload, 1) := by decide +kernel
theorem dX10_weighCounts_96 : decode cX10_weighCounts 96 = .ok (.i2l, 1) := by decide +kernel
theorem dX10_weighCounts_97 : decode cX10_weighCounts 97 = .ok (.lcmp, 1) := by decide +kernel
theorem dX10_weighCounts_98 : decode cX10_weighCounts 98 = .ok (.ifCond .lt 5, 3) := by decide +kernel
theorem dX10_weighCounts_101 : decode cX10_weighCounts 101 = .ok (.iconst 0, 1) := by decide +kernel
theorem dX10_weighCounts_102 : decode cX10_weighCounts 102 = .ok (.ireturn, 1) := by decide +kernel
theorem dX10_weighCounts_103 : decode cX10_weighCounts 103 = .ok (.iinc 1 1, 3) := by decide +kernel
theorem dX10_weighCounts_106 : decode cX10_weighCounts 106 = .ok (.goto (-35), 3) := by decide +kernel
theorem dX10_weighCounts_109 : decode cX10_weighCounts 109 = .ok (.iconst 1, 1) := by decide +kernel
theorem dX10_weighCounts_110 : decode cX10_weighCounts 110 = .ok (.ireturn, 1) := by decide +kernel
theorem dX10_grainsAfterCounts_0 : decode cX10_grainsAfterCounts 0 = .ok (.aload_n 0, 1) := by decide +kernel
theorem dX10_grainsAfterCounts_1 : decode cX10_grainsAfterCounts 1 = .ok (.getfield 21, 3) := by decide +kernel
theorem dX10_grainsAfterCounts_4 : decode cX10_grainsAfterCounts 4 = .ok (.getfield 141, 3) := by decide +kernel
theorem dX10_grainsAfterCounts_7 : decode cX10_grainsAfterCounts 7 = .ok (.iload_n 1, 1) := by decide +kernel
theorem dX10_grainsAfterCounts_8 : decode cX10_grainsAfterCounts 8 = .ok (.iaload, 1) := by decide +kernel
theorem dX10_grainsAfterCounts_9 : decode cX10_grainsAfterCounts 9 = .ok (.i2l, 1) := by decide +kernel
theorem dX10_grainsAfterCounts_10 : decode cX10_grainsAfterCounts 10 = .ok (.aload_n 0, 1) := by decide +kernel
theorem dX10_grainsAfterCounts_11 : decode cX10_grainsAfterCounts 11 = .ok (.getfield 84, 3) := by decide +kernel
theorem dX10_grainsAfterCounts_14 : decode cX10_grainsAfterCounts 14 = .ok (.getfield 323, 3) := by decide +kernel
theorem dX10_grainsAfterCounts_17 : decode cX10_grainsAfterCounts 17 = .ok (.iload_n 1, 1) := by decide +kernel
theorem dX10_grainsAfterCounts_18 : decode cX10_grainsAfterCounts 18 = .ok (.iaload, 1) := by decide +kernel
theorem dX10_grainsAfterCounts_19 : decode cX10_grainsAfterCounts 19 = .ok (.i2l, 1) := by decide +kernel
theorem dX10_grainsAfterCounts_20 : decode cX10_grainsAfterCounts 20 = .ok (.aload_n 0, 1) := by decide +kernel
theorem dX10_grainsAfterCounts_21 : decode cX10_grainsAfterCounts 21 = .ok (.getfield 10, 3) := by decide +kernel
theorem dX10_grainsAfterCounts_24 : decode cX10_grainsAfterCounts 24 = .ok (.getfield 320, 3) := by decide +kernel
theorem dX10_grainsAfterCounts_27 : decode cX10_grainsAfterCounts 27 = .ok (.iload_n 1, 1) := by decide +kernel
theorem dX10_grainsAfterCounts_28 : decode cX10_grainsAfterCounts 28 = .ok (.iaload, 1) := by decide +kernel
theorem dX10_grainsAfterCounts_29 : decode cX10_grainsAfterCounts 29 = .ok (.i2l, 1) := by decide +kernel
theorem dX10_grainsAfterCounts_30 : decode cX10_grainsAfterCounts 30 = .ok (.lmul, 1) := by decide +kernel
theorem dX10_grainsAfterCounts_31 : decode cX10_grainsAfterCounts 31 = .ok (.lsub, 1) := by decide +kernel
theorem dX10_grainsAfterCounts_32 : decode cX10_grainsAfterCounts 32 = .ok (.lstore_n 2, 1) := by decide +kernel
theorem dX10_grainsAfterCounts_33 : decode cX10_grainsAfterCounts 33 = .ok (.iconst 0, 1) := by decide +kernel
theorem dX10_grainsAfterCounts_34 : decode cX10_grainsAfterCounts 34 = .ok (.istore 4, 2) := by decide +kernel
theorem dX10_grainsAfterCounts_36 : decode cX10_grainsAfterCounts 36 = .ok (.iload 4, 2) := by decide +kernel
theorem dX10_grainsAfterCounts_38 : decode cX10_grainsAfterCounts 38 = .ok (.aload_n 0, 1) := by decide +kernel
theorem dX10_grainsAfterCounts_39 : decode cX10_grainsAfterCounts 39 = .ok (.getfield 10, 3) := by decide +kernel
theorem dX10_grainsAfterCounts_42 : decode cX10_grainsAfterCounts 42 = .ok (.getfield 100, 3) := by decide +kernel
theorem dX10_grainsAfterCounts_45 : decode cX10_grainsAfterCounts 45 = .ok (.if_icmp .ge 37, 3) := by decide +kernel
theorem dX10_grainsAfterCounts_48 : decode cX10_grainsAfterCounts 48 = .ok (.lload_n 2, 1) := by decide +kernel
theorem dX10_grainsAfterCounts_49 : decode cX10_grainsAfterCounts 49 = .ok (.aload_n 0, 1) := by decide +kernel
theorem dX10_grainsAfterCounts_50 : decode cX10_grainsAfterCounts 50 = .ok (.getfield 84, 3) := by decide +kernel
theorem dX10_grainsAfterCounts_53 : decode cX10_grainsAfterCounts 53 = .ok (.getfield 323, 3) := by decide +kernel
theorem dX10_grainsAfterCounts_56 : decode cX10_grainsAfterCounts 56 = .ok (.iload 4, 2) := by decide +kernel
theorem dX10_grainsAfterCounts_58 : decode cX10_grainsAfterCounts 58 = .ok (.iaload, 1) := by decide +kernel
theorem dX10_grainsAfterCounts_59 : decode cX10_grainsAfterCounts 59 = .ok (.i2l, 1) := by decide +kernel
theorem dX10_grainsAfterCounts_60 : decode cX10_grainsAfterCounts 60 = .ok (.aload_n 0, 1) := by decide +kernel
theorem dX10_grainsAfterCounts_61 : decode cX10_grainsAfterCounts 61 = .ok (.getfield 10, 3) := by decide +kernel
theorem dX10_grainsAfterCounts_64 : decode cX10_grainsAfterCounts 64 = .ok (.getfield 328, 3) := by decide +kernel
theorem dX10_grainsAfterCounts_67 : decode cX10_grainsAfterCounts 67 = .ok (.iload 4, 2) := by decide +kernel
theorem dX10_grainsAfterCounts_69 : decode cX10_grainsAfterCounts 69 = .ok (.aaload, 1) := by decide +kernel
theorem dX10_grainsAfterCounts_70 : decode cX10_grainsAfterCounts 70 = .ok (.iload_n 1, 1) := by decide +kernel
theorem dX10_grainsAfterCounts_71 : decode cX10_grainsAfterCounts 71 = .ok (.iaload, 1) := by decide +kernel
theorem dX10_grainsAfterCounts_72 : decode cX10_grainsAfterCounts 72 = .ok (.i2l, 1) := by decide +kernel
theorem dX10_grainsAfterCounts_73 : decode cX10_grainsAfterCounts 73 = .ok (.lmul, 1) := by decide +kernel
theorem dX10_grainsAfterCounts_74 : decode cX10_grainsAfterCounts 74 = .ok (.ladd, 1) := by decide +kernel
theorem dX10_grainsAfterCounts_75 : decode cX10_grainsAfterCounts 75 = .ok (.lstore_n 2, 1) := by decide +kernel
theorem dX10_grainsAfterCounts_76 : decode cX10_grainsAfterCounts 76 = .ok (.iinc 4 1, 3) := by decide +kernel
theorem dX10_grainsAfterCounts_79 : decode cX10_grainsAfterCounts 79 = .ok (.goto (-43), 3) := by decide +kernel
theorem dX10_grainsAfterCounts_82 : decode cX10_grainsAfterCounts 82 = .ok (.lload_n 2, 1) := by decide +kernel
theorem dX10_grainsAfterCounts_83 : decode cX10_grainsAfterCounts 83 = .ok (.lreturn, 1) := by decide +kernel
theorem dX10_followPairs_0 : decode cX10_followPairs 0 = .ok (.aload_n 0, 1) := by decide +kernel
theorem dX10_followPairs_1 : decode cX10_followPairs 1 = .ok (.getfield 25, 3) := by decide +kernel
theorem dX10_followPairs_4 : decode cX10_followPairs 4 = .ok (.aload_n 0, 1) := by decide +kernel
theorem dX10_followPairs_5 : decode cX10_followPairs 5 = .ok (.getfield 21, 3) := by decide +kernel
theorem dX10_followPairs_8 : decode cX10_followPairs 8 = .ok (.getfield 141, 3) := by decide +kernel
theorem dX10_followPairs_11 : decode cX10_followPairs 11 = .ok (.invokevirtual 224, 3) := by decide +kernel
theorem dX10_followPairs_14 : decode cX10_followPairs 14 = .ok (.iconst 0, 1) := by decide +kernel
theorem dX10_followPairs_15 : decode cX10_followPairs 15 = .ok (.istore_n 1, 1) := by decide +kernel
theorem dX10_followPairs_16 : decode cX10_followPairs 16 = .ok (.iload_n 1, 1) := by decide +kernel
theorem dX10_followPairs_17 : decode cX10_followPairs 17 = .ok (.aload_n 0, 1) := by decide +kernel
theorem dX10_followPairs_18 : decode cX10_followPairs 18 = .ok (.getfield 84, 3) := by decide +kernel
theorem dX10_followPairs_21 : decode cX10_followPairs 21 = .ok (.getfield 299, 3) := by decide +kernel
theorem dX10_followPairs_24 : decode cX10_followPairs 24 = .ok (.if_icmp .ge 112, 3) := by decide +kernel
theorem dX10_followPairs_27 : decode cX10_followPairs 27 = .ok (.iload_n 1, 1) := by decide +kernel
theorem dX10_followPairs_28 : decode cX10_followPairs 28 = .ok (.iconst 2, 1) := by decide +kernel
theorem dX10_followPairs_29 : decode cX10_followPairs 29 = .ok (.idiv, 1) := by decide +kernel
theorem dX10_followPairs_30 : decode cX10_followPairs 30 = .ok (.iconst 1, 1) := by decide +kernel
theorem dX10_followPairs_31 : decode cX10_followPairs 31 = .ok (.iadd, 1) := by decide +kernel
theorem dX10_followPairs_32 : decode cX10_followPairs 32 = .ok (.istore_n 2, 1) := by decide +kernel
theorem dX10_followPairs_33 : decode cX10_followPairs 33 = .ok (.iload_n 1, 1) := by decide +kernel
theorem dX10_followPairs_34 : decode cX10_followPairs 34 = .ok (.iconst 1, 1) := by decide +kernel
theorem dX10_followPairs_35 : decode cX10_followPairs 35 = .ok (.iadd, 1) := by decide +kernel
theorem dX10_followPairs_36 : decode cX10_followPairs 36 = .ok (.aload_n 0, 1) := by decide +kernel
theorem dX10_followPairs_37 : decode cX10_followPairs 37 = .ok (.getfield 84, 3) := by decide +kernel
theorem dX10_followPairs_40 : decode cX10_followPairs 40 = .ok (.getfield 299, 3) := by decide +kernel
theorem dX10_followPairs_43 : decode cX10_followPairs 43 = .ok (.if_icmp .lt 5, 3) := by decide +kernel
theorem dX10_followPairs_46 : decode cX10_followPairs 46 = .ok (.iload_n 2, 1) := by decide +kernel
theorem dX10_followPairs_47 : decode cX10_followPairs 47 = .ok (.ireturn, 1) := by decide +kernel
theorem dX10_followPairs_48 : decode cX10_followPairs 48 = .ok (.aload_n 0, 1) := by decide +kernel
theorem dX10_followPairs_49 : decode cX10_followPairs 49 = .ok (.getfield 84, 3) := by decide +kernel
theorem dX10_followPairs_52 : decode cX10_followPairs 52 = .ok (.getfield 323, 3) := by decide +kernel
theorem dX10_followPairs_55 : decode cX10_followPairs 55 = .ok (.iload_n 1, 1) := by decide +kernel
theorem dX10_followPairs_56 : decode cX10_followPairs 56 = .ok (.iaload, 1) := by decide +kernel
theorem dX10_followPairs_57 : decode cX10_followPairs 57 = .ok (.istore_n 3, 1) := by decide +kernel
theorem dX10_followPairs_58 : decode cX10_followPairs 58 = .ok (.aload_n 0, 1) := by decide +kernel
theorem dX10_followPairs_59 : decode cX10_followPairs 59 = .ok (.getfield 10, 3) := by decide +kernel
theorem dX10_followPairs_62 : decode cX10_followPairs 62 = .ok (.iload_n 3, 1) := by decide +kernel
theorem dX10_followPairs_63 : decode cX10_followPairs 63 = .ok (.invokevirtual 107, 3) := by decide +kernel
theorem dX10_followPairs_66 : decode cX10_followPairs 66 = .ok (.ifCond .eq 14, 3) := by decide +kernel
theorem dX10_followPairs_69 : decode cX10_followPairs 69 = .ok (.aload_n 0, 1) := by decide +kernel
theorem dX10_followPairs_70 : decode cX10_followPairs 70 = .ok (.getfield 25, 3) := by decide +kernel
theorem dX10_followPairs_73 : decode cX10_followPairs 73 = .ok (.iload_n 3, 1) := by decide +kernel
theorem dX10_followPairs_74 : decode cX10_followPairs 74 = .ok (.invokevirtual 160, 3) := by decide +kernel
theorem dX10_followPairs_77 : decode cX10_followPairs 77 = .ok (.ifCond .ne 5, 3) := by decide +kernel
theorem dX10_followPairs_80 : decode cX10_followPairs 80 = .ok (.iload_n 2, 1) := by decide +kernel
theorem dX10_followPairs_81 : decode cX10_followPairs 81 = .ok (.ireturn, 1) := by decide +kernel
theorem dX10_followPairs_82 : decode cX10_followPairs 82 = .ok (.aload_n 0, 1) := by decide +kernel
theorem dX10_followPairs_83 : decode cX10_followPairs 83 = .ok (.getfield 25, 3) := by decide +kernel
theorem dX10_followPairs_86 : decode cX10_followPairs 86 = .ok (.getfield 141, 3) := by decide +kernel
theorem dX10_followPairs_89 : decode cX10_followPairs 89 = .ok (.iload_n 3, 1) := by decide +kernel
theorem dX10_followPairs_90 : decode cX10_followPairs 90 = .ok (.iaload, 1) := by decide +kernel
theorem dX10_followPairs_91 : decode cX10_followPairs 91 = .ok (.aload_n 0, 1) := by decide +kernel
theorem dX10_followPairs_92 : decode cX10_followPairs 92 = .ok (.getfield 84, 3) := by decide +kernel
theorem dX10_followPairs_95 : decode cX10_followPairs 95 = .ok (.getfield 323, 3) := by decide +kernel
theorem dX10_followPairs_98 : decode cX10_followPairs 98 = .ok (.iload_n 1, 1) := by decide +kernel
theorem dX10_followPairs_99 : decode cX10_followPairs 99 = .ok (.iconst 1, 1) := by decide +kernel
theorem dX10_followPairs_100 : decode cX10_followPairs 100 = .ok (.iadd, 1) := by decide +kernel
theorem dX10_followPairs_101 : decode cX10_followPairs 101 = .ok (.iaload, 1) := by decide +kernel
theorem dX10_followPairs_102 : decode cX10_followPairs 102 = .ok (.if_icmp .eq 5, 3) := by decide +kernel
theorem dX10_followPairs_105 : decode cX10_followPairs 105 = .ok (.iload_n 2, 1) := by decide +kernel
theorem dX10_followPairs_106 : decode cX10_followPairs 106 = .ok (.ireturn, 1) := by decide +kernel
theorem dX10_followPairs_107 : decode cX10_followPairs 107 = .ok (.aload_n 0, 1) := by decide +kernel
theorem dX10_followPairs_108 : decode cX10_followPairs 108 = .ok (.getfield 25, 3) := by decide +kernel
theorem dX10_followPairs_111 : decode cX10_followPairs 111 = .ok (.iload_n 3, 1) := by decide +kernel
theorem dX10_followPairs_112 : decode cX10_followPairs 112 = .ok (.invokevirtual 163, 3) := by decide +kernel
theorem dX10_followPairs_115 : decode cX10_followPairs 115 = .ok (.ifCond .eq 6, 3) := by decide +kernel
theorem dX10_followPairs_118 : decode cX10_followPairs 118 = .ok (.bipush (-5), 2) := by decide +kernel
theorem dX10_followPairs_120 : decode cX10_followPairs 120 = .ok (.ireturn, 1) := by decide +kernel
theorem dX10_followPairs_121 : decode cX10_followPairs 121 = .ok (.aload_n 0, 1) := by decide +kernel
theorem dX10_followPairs_122 : decode cX10_followPairs 122 = .ok (.getfield 25, 3) := by decide +kernel
theorem dX10_followPairs_125 : decode cX10_followPairs 125 = .ok (.iload_n 3, 1) := by decide +kernel
theorem dX10_followPairs_126 : decode cX10_followPairs 126 = .ok (.invokevirtual 166, 3) := by decide +kernel
theorem dX10_followPairs_129 : decode cX10_followPairs 129 = .ok (.pop, 1) := by decide +kernel
theorem dX10_followPairs_130 : decode cX10_followPairs 130 = .ok (.iinc 1 2, 3) := by decide +kernel
theorem dX10_followPairs_133 : decode cX10_followPairs 133 = .ok (.goto (-117), 3) := by decide +kernel
theorem dX10_followPairs_136 : decode cX10_followPairs 136 = .ok (.aload_n 0, 1) := by decide +kernel
theorem dX10_followPairs_137 : decode cX10_followPairs 137 = .ok (.getfield 25, 3) := by decide +kernel
theorem dX10_followPairs_140 : decode cX10_followPairs 140 = .ok (.invokevirtual 194, 3) := by decide +kernel
theorem dX10_followPairs_143 : decode cX10_followPairs 143 = .ok (.ifCond .eq 7, 3) := by decide +kernel
theorem dX10_followPairs_146 : decode cX10_followPairs 146 = .ok (.iconst 0, 1) := by decide +kernel
theorem dX10_followPairs_147 : decode cX10_followPairs 147 = .ok (.goto 6, 3) := by decide +kernel
theorem dX10_followPairs_150 : decode cX10_followPairs 150 = .ok (.sipush 1000, 3) := by decide +kernel
theorem dX10_followPairs_153 : decode cX10_followPairs 153 = .ok (.ireturn, 1) := by decide +kernel
theorem dX10_isSlot_0 : decode cX10_isSlot 0 = .ok (.iload_n 0, 1) := by decide +kernel
theorem dX10_isSlot_1 : decode cX10_isSlot 1 = .ok (.ifCond .lt 13, 3) := by decide +kernel
theorem dX10_isSlot_4 : decode cX10_isSlot 4 = .ok (.iload_n 0, 1) := by decide +kernel
theorem dX10_isSlot_5 : decode cX10_isSlot 5 = .ok (.bipush 8, 2) := by decide +kernel
theorem dX10_isSlot_7 : decode cX10_isSlot 7 = .ok (.if_icmp .ge 7, 3) := by decide +kernel
theorem dX10_isSlot_10 : decode cX10_isSlot 10 = .ok (.iconst 1, 1) := by decide +kernel
theorem dX10_isSlot_11 : decode cX10_isSlot 11 = .ok (.goto 4, 3) := by decide +kernel
theorem dX10_isSlot_14 : decode cX10_isSlot 14 = .ok (.iconst 0, 1) := by decide +kernel
theorem dX10_isSlot_15 : decode cX10_isSlot 15 = .ok (.ireturn, 1) := by decide +kernel
theorem dX10_isTerrace_0 : decode cX10_isTerrace 0 = .ok (.iload_n 0, 1) := by decide +kernel
theorem dX10_isTerrace_1 : decode cX10_isTerrace 1 = .ok (.ifCond .lt 12, 3) := by decide +kernel
theorem dX10_isTerrace_4 : decode cX10_isTerrace 4 = .ok (.iload_n 0, 1) := by decide +kernel
theorem dX10_isTerrace_5 : decode cX10_isTerrace 5 = .ok (.iconst 4, 1) := by decide +kernel
theorem dX10_isTerrace_6 : decode cX10_isTerrace 6 = .ok (.if_icmp .ge 7, 3) := by decide +kernel
theorem dX10_isTerrace_9 : decode cX10_isTerrace 9 = .ok (.iconst 1, 1) := by decide +kernel
theorem dX10_isTerrace_10 : decode cX10_isTerrace 10 = .ok (.goto 4, 3) := by decide +kernel
theorem dX10_isTerrace_13 : decode cX10_isTerrace 13 = .ok (.iconst 0, 1) := by decide +kernel
theorem dX10_isTerrace_14 : decode cX10_isTerrace 14 = .ok (.ireturn, 1) := by decide +kernel
theorem dX10_isWidth_0 : decode cX10_isWidth 0 = .ok (.iload_n 0, 1) := by decide +kernel
theorem dX10_isWidth_1 : decode cX10_isWidth 1 = .ok (.ifCond .eq 27, 3) := by decide +kernel
theorem dX10_isWidth_4 : decode cX10_isWidth 4 = .ok (.iload_n 0, 1) := by decide +kernel
theorem dX10_isWidth_5 : decode cX10_isWidth 5 = .ok (.bipush 8, 2) := by decide +kernel
theorem dX10_isWidth_7 : decode cX10_isWidth 7 = .ok (.if_icmp .eq 21, 3) := by decide +kernel
theorem dX10_isWidth_10 : decode cX10_isWidth 10 = .ok (.iload_n 0, 1) := by decide +kernel
theorem dX10_isWidth_11 : decode cX10_isWidth 11 = .ok (.bipush 16, 2) := by decide +kernel
theorem dX10_isWidth_13 : decode cX10_isWidth 13 = .ok (.if_icmp .eq 15, 3) := by decide +kernel
theorem dX10_isWidth_16 : decode cX10_isWidth 16 = .ok (.iload_n 0, 1) := by decide +kernel
theorem dX10_isWidth_17 : decode cX10_isWidth 17 = .ok (.bipush 32, 2) := by decide +kernel
theorem dX10_isWidth_19 : decode cX10_isWidth 19 = .ok (.if_icmp .eq 9, 3) := by decide +kernel
theorem dX10_isWidth_22 : decode cX10_isWidth 22 = .ok (.iload_n 0, 1) := by decide +kernel
theorem dX10_isWidth_23 : decode cX10_isWidth 23 = .ok (.bipush 64, 2) := by decide +kernel
theorem dX10_isWidth_25 : decode cX10_isWidth 25 = .ok (.if_icmp .ne 7, 3) := by decide +kernel
theorem dX10_isWidth_28 : decode cX10_isWidth 28 = .ok (.iconst 1, 1) := by decide +kernel
theorem dX10_isWidth_29 : decode cX10_isWidth 29 = .ok (.goto 4, 3) := by decide +kernel
theorem dX10_isWidth_32 : decode cX10_isWidth 32 = .ok (.iconst 0, 1) := by decide +kernel
theorem dX10_isWidth_33 : decode cX10_isWidth 33 = .ok (.ireturn, 1) := by decide +kernel
theorem dX10_isStretch_0 : decode cX10_isStretch 0 = .ok (.iload_n 0, 1) := by decide +kernel
theorem dX10_isStretch_1 : decode cX10_isStretch 1 = .ok (.ifCond .lt 23, 3) := by decide +kernel
theorem dX10_isStretch_4 : decode cX10_isStretch 4 = .ok (.iload_n 1, 1) := by decide +kernel
theorem dX10_isStretch_5 : decode cX10_isStretch 5 = .ok (.ifCond .lt 19, 3) := by decide +kernel
theorem dX10_isStretch_8 : decode cX10_isStretch 8 = .ok (.iload_n 1, 1) := by decide +kernel
theorem dX10_isStretch_9 : decode cX10_isStretch 9 = .ok (.iload_n 2, 1) := by decide +kernel
theorem dX10_isStretch_10 : decode cX10_isStretch 10 = .ok (.if_icmp .gt 14, 3) := by decide +kernel
theorem dX10_isStretch_13 : decode cX10_isStretch 13 = .ok (.iload_n 0, 1) := by decide +kernel
theorem dX10_isStretch_14 : decode cX10_isStretch 14 = .ok (.iload_n 2, 1) := by decide +kernel
theorem dX10_isStretch_15 : decode cX10_isStretch 15 = .ok (.iload_n 1, 1) := by decide +kernel
theorem dX10_isStretch_16 : decode cX10_isStretch 16 = .ok (.isub, 1) := by decide +kernel
theorem dX10_isStretch_17 : decode cX10_isStretch 17 = .ok (.if_icmp .gt 7, 3) := by decide +kernel
theorem dX10_isStretch_20 : decode cX10_isStretch 20 = .ok (.iconst 1, 1) := by decide +kernel
theorem dX10_isStretch_21 : decode cX10_isStretch 21 = .ok (.goto 4, 3) := by decide +kernel
theorem dX10_isStretch_24 : decode cX10_isStretch 24 = .ok (.iconst 0, 1) := by decide +kernel
theorem dX10_isStretch_25 : decode cX10_isStretch 25 = .ok (.ireturn, 1) := by decide +kernel
theorem dX10_hasDebt_0 : decode cX10_hasDebt 0 = .ok (.iload_n 1, 1) := by decide +kernel
theorem dX10_hasDebt_1 : decode cX10_hasDebt 1 = .ok (.istore_n 3, 1) := by decide +kernel
theorem dX10_hasDebt_2 : decode cX10_hasDebt 2 = .ok (.iload_n 3, 1) := by decide +kernel
theorem dX10_hasDebt_3 : decode cX10_hasDebt 3 = .ok (.iload_n 1, 1) := by decide +kernel
theorem dX10_hasDebt_4 : decode cX10_hasDebt 4 = .ok (.iload_n 2, 1) := by decide +kernel
theorem dX10_hasDebt_5 : decode cX10_hasDebt 5 = .ok (.iadd, 1) := by decide +kernel
theorem dX10_hasDebt_6 : decode cX10_hasDebt 6 = .ok (.if_icmp .ge 19, 3) := by decide +kernel
theorem dX10_hasDebt_9 : decode cX10_hasDebt 9 = .ok (.aload_n 0, 1) := by decide +kernel
theorem dX10_hasDebt_10 : decode cX10_hasDebt 10 = .ok (.iload_n 3, 1) := by decide +kernel
theorem dX10_hasDebt_11 : decode cX10_hasDebt 11 = .ok (.laload, 1) := by decide +kernel
theorem dX10_hasDebt_12 : decode cX10_hasDebt 12 = .ok (.lconst 0, 1) := by decide +kernel
theorem dX10_hasDebt_13 : decode cX10_hasDebt 13 = .ok (.lcmp, 1) := by decide +kernel
theorem dX10_hasDebt_14 : decode cX10_hasDebt 14 = .ok (.ifCond .ge 5, 3) := by decide +kernel
theorem dX10_hasDebt_17 : decode cX10_hasDebt 17 = .ok (.iconst 1, 1) := by decide +kernel
theorem dX10_hasDebt_18 : decode cX10_hasDebt 18 = .ok (.ireturn, 1) := by decide +kernel
theorem dX10_hasDebt_19 : decode cX10_hasDebt 19 = .ok (.iinc 3 1, 3) := by decide +kernel
theorem dX10_hasDebt_22 : decode cX10_hasDebt 22 = .ok (.goto (-20), 3) := by decide +kernel
theorem dX10_hasDebt_25 : decode cX10_hasDebt 25 = .ok (.iconst 0, 1) := by decide +kernel
theorem dX10_hasDebt_26 : decode cX10_hasDebt 26 = .ok (.ireturn, 1) := by decide +kernel
theorem dX10_isPrimeInRange_0 : decode cX10_isPrimeInRange 0 = .ok (.iload_n 0, 1) := by decide +kernel
theorem dX10_isPrimeInRange_1 : decode cX10_isPrimeInRange 1 = .ok (.iconst 2, 1) := by decide +kernel
theorem dX10_isPrimeInRange_2 : decode cX10_isPrimeInRange 2 = .ok (.if_icmp .lt 10, 3) := by decide +kernel
theorem dX10_isPrimeInRange_5 : decode cX10_isPrimeInRange 5 = .ok (.iload_n 0, 1) := by decide +kernel
theorem dX10_isPrimeInRange_6 : decode cX10_isPrimeInRange 6 = .ok (.sipush 30011, 3) := by decide +kernel
theorem dX10_isPrimeInRange_9 : decode cX10_isPrimeInRange 9 = .ok (.if_icmp .le 5, 3) := by decide +kernel
theorem dX10_isPrimeInRange_12 : decode cX10_isPrimeInRange 12 = .ok (.iconst 0, 1) := by decide +kernel
theorem dX10_isPrimeInRange_13 : decode cX10_isPrimeInRange 13 = .ok (.ireturn, 1) := by decide +kernel
theorem dX10_isPrimeInRange_14 : decode cX10_isPrimeInRange 14 = .ok (.iconst 2, 1) := by decide +kernel
theorem dX10_isPrimeInRange_15 : decode cX10_isPrimeInRange 15 = .ok (.istore_n 1, 1) := by decide +kernel
theorem dX10_isPrimeInRange_16 : decode cX10_isPrimeInRange 16 = .ok (.iload_n 1, 1) := by decide +kernel
theorem dX10_isPrimeInRange_17 : decode cX10_isPrimeInRange 17 = .ok (.iload_n 1, 1) := by decide +kernel
theorem dX10_isPrimeInRange_18 : decode cX10_isPrimeInRange 18 = .ok (.imul, 1) := by decide +kernel
theorem dX10_isPrimeInRange_19 : decode cX10_isPrimeInRange 19 = .ok (.iload_n 0, 1) := by decide +kernel
theorem dX10_isPrimeInRange_20 : decode cX10_isPrimeInRange 20 = .ok (.if_icmp .gt 17, 3) := by decide +kernel
theorem dX10_isPrimeInRange_23 : decode cX10_isPrimeInRange 23 = .ok (.iload_n 0, 1) := by decide +kernel
theorem dX10_isPrimeInRange_24 : decode cX10_isPrimeInRange 24 = .ok (.iload_n 1, 1) := by decide +kernel
theorem dX10_isPrimeInRange_25 : decode cX10_isPrimeInRange 25 = .ok (.irem, 1) := by decide +kernel
theorem dX10_isPrimeInRange_26 : decode cX10_isPrimeInRange 26 = .ok (.ifCond .ne 5, 3) := by decide +kernel
theorem dX10_isPrimeInRange_29 : decode cX10_isPrimeInRange 29 = .ok (.iconst 0, 1) := by decide +kernel
theorem dX10_isPrimeInRange_30 : decode cX10_isPrimeInRange 30 = .ok (.ireturn, 1) := by decide +kernel
theorem dX10_isPrimeInRange_31 : decode cX10_isPrimeInRange 31 = .ok (.iinc 1 1, 3) := by decide +kernel
theorem dX10_isPrimeInRange_34 : decode cX10_isPrimeInRange 34 = .ok (.goto (-18), 3) := by decide +kernel
theorem dX10_isPrimeInRange_37 : decode cX10_isPrimeInRange 37 = .ok (.iconst 1, 1) := by decide +kernel
theorem dX10_isPrimeInRange_38 : decode cX10_isPrimeInRange 38 = .ok (.ireturn, 1) := by decide +kernel
theorem dX11_init_0 : decode cX11_init 0 = .ok (.aload_n 0, 1) := by decide +kernel
theorem dX11_init_1 : decode cX11_init 1 = .ok (.invokespecial 1, 3) := by decide +kernel
theorem dX11_init_4 : decode cX11_init 4 = .ok (.aload_n 0, 1) := by decide +kernel
theorem dX11_init_5 : decode cX11_init 5 = .ok (.bipush 12, 2) := by decide +kernel
theorem dX11_init_7 : decode cX11_init 7 = .ok (.newarray .int, 2) := by decide +kernel
theorem dX11_init_9 : decode cX11_init 9 = .ok (.putfield 7, 3) := by decide +kernel
theorem dX11_init_12 : decode cX11_init 12 = .ok (.aload_n 0, 1) := by decide +kernel
theorem dX11_init_13 : decode cX11_init 13 = .ok (.sipush 180, 3) := by decide +kernel
theorem dX11_init_16 : decode cX11_init 16 = .ok (.newarray .int, 2) := by decide +kernel
theorem dX11_init_18 : decode cX11_init 18 = .ok (.putfield 13, 3) := by decide +kernel
theorem dX11_init_21 : decode cX11_init 21 = .ok (.aload_n 0, 1) := by decide +kernel
theorem dX11_init_22 : decode cX11_init 22 = .ok (.bipush 15, 2) := by decide +kernel
theorem dX11_init_24 : decode cX11_init 24 = .ok (.newarray .long, 2) := by decide +kernel
theorem dX11_init_26 : decode cX11_init 26 = .ok (.putfield 16, 3) := by decide +kernel
theorem dX11_init_29 : decode cX11_init 29 = .ok (.aload_n 0, 1) := by decide +kernel
theorem dX11_init_30 : decode cX11_init 30 = .ok (.bipush 12, 2) := by decide +kernel
theorem dX11_init_32 : decode cX11_init 32 = .ok (.newarray .long, 2) := by decide +kernel
theorem dX11_init_34 : decode cX11_init 34 = .ok (.putfield 20, 3) := by decide +kernel
theorem dX11_init_37 : decode cX11_init 37 = .ok (.aload_n 0, 1) := by decide +kernel
theorem dX11_init_38 : decode cX11_init 38 = .ok (.lconst 1, 1) := by decide +kernel
theorem dX11_init_39 : decode cX11_init 39 = .ok (.putfield 23, 3) := by decide +kernel
theorem dX11_init_42 : decode cX11_init 42 = .ok (.aload_n 0, 1) := by decide +kernel
theorem dX11_init_43 : decode cX11_init 43 = .ok (.bipush 12, 2) := by decide +kernel
theorem dX11_init_45 : decode cX11_init 45 = .ok (.newarray .int, 2) := by decide +kernel
theorem dX11_init_47 : decode cX11_init 47 = .ok (.putfield 27, 3) := by decide +kernel
theorem dX11_init_50 : decode cX11_init 50 = .ok (.aload_n 0, 1) := by decide +kernel
theorem dX11_init_51 : decode cX11_init 51 = .ok (.bipush 12, 2) := by decide +kernel
theorem dX11_init_53 : decode cX11_init 53 = .ok (.newarray .int, 2) := by decide +kernel
theorem dX11_init_55 : decode cX11_init 55 = .ok (.putfield 30, 3) := by decide +kernel
theorem dX11_init_58 : decode cX11_init 58 = .ok (.aload_n 0, 1) := by decide +kernel
theorem dX11_init_59 : decode cX11_init 59 = .ok (.bipush 12, 2) := by decide +kernel
theorem dX11_init_61 : decode cX11_init 61 = .ok (.newarray .int, 2) := by decide +kernel
theorem dX11_init_63 : decode cX11_init 63 = .ok (.putfield 33, 3) := by decide +kernel
theorem dX11_init_66 : decode cX11_init 66 = .ok (.aload_n 0, 1) := by decide +kernel
theorem dX11_init_67 : decode cX11_init 67 = .ok (.bipush 96, 2) := by decide +kernel
theorem dX11_init_69 : decode cX11_init 69 = .ok (.newarray .long, 2) := by decide +kernel
theorem dX11_init_71 : decode cX11_init 71 = .ok (.putfield 36, 3) := by decide +kernel
theorem dX11_init_74 : decode cX11_init 74 = .ok (.aload_n 0, 1) := by decide +kernel
theorem dX11_init_75 : decode cX11_init 75 = .ok (.bipush 8, 2) := by decide +kernel
theorem dX11_init_77 : decode cX11_init 77 = .ok (.newarray .boolean, 2) := by decide +kernel
theorem dX11_init_79 : decode cX11_init 79 = .ok (.putfield 39, 3) := by decide +kernel
theorem dX11_init_82 : decode cX11_init 82 = .ok (.aload_n 0, 1) := by decide +kernel
theorem dX11_init_83 : decode cX11_init 83 = .ok (.sipush 2400, 3) := by decide +kernel
theorem dX11_init_86 : decode cX11_init 86 = .ok (.newarray .int, 2) := by decide +kernel
theorem dX11_init_88 : decode cX11_init 88 = .ok (.putfield 43, 3) := by decide +kernel
theorem dX11_init_91 : decode cX11_init 91 = .ok (.aload_n 0, 1) := by decide +kernel
theorem dX11_init_92 : decode cX11_init 92 = .ok (.iconst 4, 1) := by decide +kernel
theorem dX11_init_93 : decode cX11_init 93 = .ok (.newarray .int, 2) := by decide +kernel
theorem dX11_init_95 : decode cX11_init 95 = .ok (.putfield 46, 3) := by decide +kernel
theorem dX11_init_98 : decode cX11_init 98 = .ok (.aload_n 0, 1) := by decide +kernel
theorem dX11_init_99 : decode cX11_init 99 = .ok (.iconst 4, 1) := by decide +kernel
theorem dX11_init_100 : decode cX11_init 100 = .ok (.newarray .int, 2) := by decide +kernel
theorem dX11_init_102 : decode cX11_init 102 = .ok (.putfield 49, 3) := by decide +kernel
theorem dX11_init_105 : decode cX11_init 105 = .ok (.aload_n 0, 1) := by decide +kernel
theorem dX11_init_106 : decode cX11_init 106 = .ok (.bipush 64, 2) := by decide +kernel
theorem dX11_init_108 : decode cX11_init 108 = .ok (.newarray .long, 2) := by decide +kernel
theorem dX11_init_110 : decode cX11_init 110 = .ok (.putfield 52, 3) := by decide +kernel
theorem dX11_init_113 : decode cX11_init 113 = .ok (.aload_n 0, 1) := by decide +kernel
theorem dX11_init_114 : decode cX11_init 114 = .ok (.sipush 200, 3) := by decide +kernel
theorem dX11_init_117 : decode cX11_init 117 = .ok (.newarray .int, 2) := by decide +kernel
theorem dX11_init_119 : decode cX11_init 119 = .ok (.putfield 55, 3) := by decide +kernel
theorem dX11_init_122 : decode cX11_init 122 = .ok (.aload_n 0, 1) := by decide +kernel
theorem dX11_init_123 : decode cX11_init 123 = .ok (.sipush 300, 3) := by decide +kernel
theorem dX11_init_126 : decode cX11_init 126 = .ok (.newarray .long, 2) := by decide +kernel
theorem dX11_init_128 : decode cX11_init 128 = .ok (.putfield 58, 3) := by decide +kernel
theorem dX11_init_131 : decode cX11_init 131 = .ok (.aload_n 0, 1) := by decide +kernel
theorem dX11_init_132 : decode cX11_init 132 = .ok (.sipush 240, 3) := by decide +kernel
theorem dX11_init_135 : decode cX11_init 135 = .ok (.newarray .long, 2) := by decide +kernel
theorem dX11_init_137 : decode cX11_init 137 = .ok (.putfield 61, 3) := by decide +kernel
theorem dX11_init_140 : decode cX11_init 140 = .ok (.aload_n 0, 1) := by decide +kernel
theorem dX11_init_141 : decode cX11_init 141 = .ok (.bipush 20, 2) := by decide +kernel
theorem dX11_init_143 : decode cX11_init 143 = .ok (.newarray .long, 2) := by decide +kernel
theorem dX11_init_145 : decode cX11_init 145 = .ok (.putfield 64, 3) := by decide +kernel
theorem dX11_init_148 : decode cX11_init 148 = .ok (.aload_n 0, 1) := by decide +kernel
theorem dX11_init_149 : decode cX11_init 149 = .ok (.sipush 240, 3) := by decide +kernel
theorem dX11_init_152 : decode cX11_init 152 = .ok (.newarray .int, 2) := by decide +kernel
theorem dX11_init_154 : decode cX11_init 154 = .ok (.putfield 67, 3) := by decide +kernel
theorem dX11_init_157 : decode cX11_init 157 = .ok (.aload_n 0, 1) := by decide +kernel
theorem dX11_init_158 : decode cX11_init 158 = .ok (.bipush 20, 2) := by decide +kernel
theorem dX11_init_160 : decode cX11_init 160 = .ok (.newarray .int, 2) := by decide +kernel
theorem dX11_init_162 : decode cX11_init 162 = .ok (.putfield 70, 3) := by decide +kernel
theorem dX11_init_165 : decode cX11_init 165 = .ok (.aload_n 0, 1) := by decide +kernel
theorem dX11_init_166 : decode cX11_init 166 = .ok (.bipush 12, 2) := by decide +kernel
theorem dX11_init_168 : decode cX11_init 168 = .ok (.newarray .int, 2) := by decide +kernel
theorem dX11_init_170 : decode cX11_init 170 = .ok (.putfield 73, 3) := by decide +kernel
theorem dX11_init_173 : decode cX11_init 173 = .ok (.aload_n 0, 1) := by decide +kernel
theorem dX11_init_174 : decode cX11_init 174 = .ok (.bipush 15, 2) := by decide +kernel
theorem dX11_init_176 : decode cX11_init 176 = .ok (.newarray .long, 2) := by decide +kernel
theorem dX11_init_178 : decode cX11_init 178 = .ok (.putfield 76, 3) := by decide +kernel
theorem dX11_init_181 : decode cX11_init 181 = .ok (.aload_n 0, 1) := by decide +kernel
theorem dX11_init_182 : decode cX11_init 182 = .ok (.bipush 15, 2) := by decide +kernel
theorem dX11_init_184 : decode cX11_init 184 = .ok (.newarray .long, 2) := by decide +kernel
theorem dX11_init_186 : decode cX11_init 186 = .ok (.putfield 79, 3) := by decide +kernel
theorem dX11_init_189 : decode cX11_init 189 = .ok (.aload_n 0, 1) := by decide +kernel
theorem dX11_init_190 : decode cX11_init 190 = .ok (.sipush 144, 3) := by decide +kernel
theorem dX11_init_193 : decode cX11_init 193 = .ok (.newarray .long, 2) := by decide +kernel
theorem dX11_init_195 : decode cX11_init 195 = .ok (.putfield 82, 3) := by decide +kernel
theorem dX11_init_198 : decode cX11_init 198 = .ok (.aload_n 0, 1) := by decide +kernel
theorem dX11_init_199 : decode cX11_init 199 = .ok (.sipush 2412, 3) := by decide +kernel
theorem dX11_init_202 : decode cX11_init 202 = .ok (.newarray .int, 2) := by decide +kernel
theorem dX11_init_204 : decode cX11_init 204 = .ok (.putfield 85, 3) := by decide +kernel
theorem dX11_init_207 : decode cX11_init 207 = .ok (.aload_n 0, 1) := by decide +kernel
theorem dX11_init_208 : decode cX11_init 208 = .ok (.bipush 16, 2) := by decide +kernel
theorem dX11_init_210 : decode cX11_init 210 = .ok (.newarray .long, 2) := by decide +kernel
theorem dX11_init_212 : decode cX11_init 212 = .ok (.putfield 88, 3) := by decide +kernel
theorem dX11_init_215 : decode cX11_init 215 = .ok (.return_, 1) := by decide +kernel
theorem dX11_in_0 : decode cX11_in 0 = .ok (.iload_n 0, 1) := by decide +kernel
theorem dX11_in_1 : decode cX11_in 1 = .ok (.iload_n 1, 1) := by decide +kernel
theorem dX11_in_2 : decode cX11_in 2 = .ok (.if_icmp .lt 12, 3) := by decide +kernel
theorem dX11_in_5 : decode cX11_in 5 = .ok (.iload_n 0, 1) := by decide +kernel
theorem dX11_in_6 : decode cX11_in 6 = .ok (.iload_n 2, 1) := by decide +kernel
theorem dX11_in_7 : decode cX11_in 7 = .ok (.if_icmp .gt 7, 3) := by decide +kernel
theorem dX11_in_10 : decode cX11_in 10 = .ok (.iconst 1, 1) := by decide +kernel
theorem dX11_in_11 : decode cX11_in 11 = .ok (.goto 4, 3) := by decide +kernel
theorem dX11_in_14 : decode cX11_in 14 = .ok (.iconst 0, 1) := by decide +kernel
theorem dX11_in_15 : decode cX11_in 15 = .ok (.ireturn, 1) := by decide +kernel
theorem dX11_found_0 : decode cX11_found 0 = .ok (.aload_n 0, 1) := by decide +kernel
theorem dX11_found_1 : decode cX11_found 1 = .ok (.dup, 1) := by decide +kernel
theorem dX11_found_2 : decode cX11_found 2 = .ok (.getfield 91, 3) := by decide +kernel
theorem dX11_found_5 : decode cX11_found 5 = .ok (.iconst 1, 1) := by decide +kernel
theorem dX11_found_6 : decode cX11_found 6 = .ok (.iadd, 1) := by decide +kernel
theorem dX11_found_7 : decode cX11_found 7 = .ok (.putfield 91, 3) := by decide +kernel
theorem dX11_found_10 : decode cX11_found 10 = .ok (.iload_n 1, 1) := by decide +kernel
theorem dX11_found_11 : decode cX11_found 11 = .ok (.ireturn, 1) := by decide +kernel
theorem dX11_isPlace_0 : decode cX11_isPlace 0 = .ok (.iload_n 1, 1) := by decide +kernel
theorem dX11_isPlace_1 : decode cX11_isPlace 1 = .ok (.iconst 0, 1) := by decide +kernel
theorem dX11_isPlace_2 : decode cX11_isPlace 2 = .ok (.aload_n 0, 1) := by decide +kernel
theorem dX11_isPlace_3 : decode cX11_isPlace 3 = .ok (.getfield 95, 3) := by decide +kernel
theorem dX11_isPlace_6 : decode cX11_isPlace 6 = .ok (.iconst 1, 1) := by decide +kernel
theorem dX11_isPlace_7 : decode cX11_isPlace 7 = .ok (.isub, 1) := by decide +kernel
theorem dX11_isPlace_8 : decode cX11_isPlace 8 = .ok (.invokestatic 98, 3) := by decide +kernel
theorem dX11_isPlace_11 : decode cX11_isPlace 11 = .ok (.ireturn, 1) := by decide +kernel
theorem dX11_weightOf_0 : decode cX11_weightOf 0 = .ok (.aload_n 0, 1) := by decide +kernel
theorem dX11_weightOf_1 : decode cX11_weightOf 1 = .ok (.getfield 13, 3) := by decide +kernel
theorem dX11_weightOf_4 : decode cX11_weightOf 4 = .ok (.bipush 15, 2) := by decide +kernel
theorem dX11_weightOf_6 : decode cX11_weightOf 6 = .ok (.iload_n 1, 1) := by decide +kernel
theorem dX11_weightOf_7 : decode cX11_weightOf 7 = .ok (.imul, 1) := by decide +kernel
theorem dX11_weightOf_8 : decode cX11_weightOf 8 = .ok (.iload_n 2, 1) := by decide +kernel
theorem dX11_weightOf_9 : decode cX11_weightOf 9 = .ok (.iadd, 1) := by decide +kernel
theorem dX11_weightOf_10 : decode cX11_weightOf 10 = .ok (.iaload, 1) := by decide +kernel
theorem dX11_weightOf_11 : decode cX11_weightOf 11 = .ok (.ireturn, 1) := by decide +kernel
theorem dX11_load_0 : decode cX11_load 0 = .ok (.iconst 0, 1) := by decide +kernel
theorem dX11_load_1 : decode cX11_load 1 = .ok (.istore_n 2, 1) := by decide +kernel
theorem dX11_load_2 : decode cX11_load 2 = .ok (.iconst 0, 1) := by decide +kernel
theorem dX11_load_3 : decode cX11_load 3 = .ok (.istore_n 3, 1) := by decide +kernel
theorem dX11_load_4 : decode cX11_load 4 = .ok (.iload_n 3, 1) := by decide +kernel
theorem dX11_load_5 : decode cX11_load 5 = .ok (.bipush 15, 2) := by decide +kernel
theorem dX11_load_7 : decode cX11_load 7 = .ok (.if_icmp .ge 18, 3) := by decide +kernel
theorem dX11_load_10 : decode cX11_load 10 = .ok (.iload_n 2, 1) := by decide +kernel
theorem dX11_load_11 : decode cX11_load 11 = .ok (.aload_n 0, 1) := by decide +kernel
theorem dX11_load_12 : decode cX11_load 12 = .ok (.iload_n 1, 1) := by decide +kernel
theorem dX11_load_13 : decode cX11_load 13 = .ok (.iload_n 3, 1) := by decide +kernel
theorem dX11_load_14 : decode cX11_load 14 = .ok (.invokevirtual 102, 3) := by decide +kernel
theorem dX11_load_17 : decode cX11_load 17 = .ok (.iadd, 1) := by decide +kernel
theorem dX11_load_18 : decode cX11_load 18 = .ok (.istore_n 2, 1) := by decide +kernel
theorem dX11_load_19 : decode cX11_load 19 = .ok (.iinc 3 1, 3) := by decide +kernel
theorem dX11_load_22 : decode cX11_load 22 = .ok (.goto (-18), 3) := by decide +kernel
theorem dX11_load_25 : decode cX11_load 25 = .ok (.iload_n 2, 1) := by decide +kernel
theorem dX11_load_26 : decode cX11_load 26 = .ok (.ireturn, 1) := by decide +kernel
theorem dX11_isShelf_0 : decode cX11_isShelf 0 = .ok (.aload_n 0, 1) := by decide +kernel
theorem dX11_isShelf_1 : decode cX11_isShelf 1 = .ok (.getfield 7, 3) := by decide +kernel
theorem dX11_isShelf_4 : decode cX11_isShelf 4 = .ok (.iload_n 1, 1) := by decide +kernel
theorem dX11_isShelf_5 : decode cX11_isShelf 5 = .ok (.iaload, 1) := by decide +kernel
theorem dX11_isShelf_6 : decode cX11_isShelf 6 = .ok (.ifCond .le 17, 3) := by decide +kernel
theorem dX11_isShelf_9 : decode cX11_isShelf 9 = .ok (.aload_n 0, 1) := by decide +kernel
theorem dX11_isShelf_10 : decode cX11_isShelf 10 = .ok (.getfield 7, 3) := by decide +kernel
theorem dX11_isShelf_13 : decode cX11_isShelf 13 = .ok (.iload_n 1, 1) := by decide +kernel
theorem dX11_isShelf_14 : decode cX11_isShelf 14 = .ok (.iaload, 1) := by decide +kernel
theorem dX11_isShelf_15 : decode cX11_isShelf 15 = .ok (.iconst 4, 1) := by decide +kernel
theorem dX11_isShelf_16 : decode cX11_isShelf 16 = .ok (.if_icmp .ge 7, 3) := by decide +kernel
theorem dX11_isShelf_19 : decode cX11_isShelf 19 = .ok (.iconst 1, 1) := by decide +kernel
theorem dX11_isShelf_20 : decode cX11_isShelf 20 = .ok (.goto 4, 3) := by decide +kernel
theorem dX11_isShelf_23 : decode cX11_isShelf 23 = .ok (.iconst 0, 1) := by decide +kernel
theorem dX11_isShelf_24 : decode cX11_isShelf 24 = .ok (.ireturn, 1) := by decide +kernel
theorem dX11_isDue_0 : decode cX11_isDue 0 = .ok (.iload_n 2, 1) := by decide +kernel
theorem dX11_isDue_1 : decode cX11_isDue 1 = .ok (.ifCond .le 14, 3) := by decide +kernel
theorem dX11_isDue_4 : decode cX11_isDue 4 = .ok (.lload_n 0, 1) := by decide +kernel
theorem dX11_isDue_5 : decode cX11_isDue 5 = .ok (.iload_n 2, 1) := by decide +kernel
theorem dX11_isDue_6 : decode cX11_isDue 6 = .ok (.i2l, 1) := by decide +kernel
theorem dX11_isDue_7 : decode cX11_isDue 7 = .ok (.lcmp, 1) := by decide +kernel
theorem dX11_isDue_8 : decode cX11_isDue 8 = .ok (.ifCond .lt 7, 3) := by decide +kernel
theorem dX11_isDue_11 : decode cX11_isDue 11 = .ok (.iconst 1, 1) := by decide +kernel
theorem dX11_isDue_12 : decode cX11_isDue 12 = .ok (.goto 4, 3) := by decide +kernel
theorem dX11_isDue_15 : decode cX11_isDue 15 = .ok (.iconst 0, 1) := by decide +kernel
theorem dX11_isDue_16 : decode cX11_isDue 16 = .ok (.ireturn, 1) := by decide +kernel
theorem dX11_dueMany_0 : decode cX11_dueMany 0 = .ok (.iconst 0, 1) := by decide +kernel
theorem dX11_dueMany_1 : decode cX11_dueMany 1 = .ok (.istore_n 1, 1) := by decide +kernel
theorem dX11_dueMany_2 : decode cX11_dueMany 2 = .ok (.iconst 0, 1) := by decide +kernel
theorem dX11_dueMany_3 : decode cX11_dueMany 3 = .ok (.istore_n 2, 1) := by decide +kernel
theorem dX11_dueMany_4 : decode cX11_dueMany 4 = .ok (.iload_n 2, 1) := by decide +kernel
theorem dX11_dueMany_5 : decode cX11_dueMany 5 = .ok (.aload_n 0, 1) := by decide +kernel
theorem dX11_dueMany_6 : decode cX11_dueMany 6 = .ok (.getfield 95, 3) := by decide +kernel
theorem dX11_dueMany_9 : decode cX11_dueMany 9 = .ok (.if_icmp .ge 34, 3) := by decide +kernel
theorem dX11_dueMany_12 : decode cX11_dueMany 12 = .ok (.iload_n 1, 1) := by decide +kernel
theorem dX11_dueMany_13 : decode cX11_dueMany 13 = .ok (.aload_n 0, 1) := by decide +kernel
theorem dX11_dueMany_14 : decode cX11_dueMany 14 = .ok (.getfield 16, 3) := by decide +kernel
theorem dX11_dueMany_17 : decode cX11_dueMany 17 = .ok (.iload_n 2, 1) := by decide +kernel
theorem dX11_dueMany_18 : decode cX11_dueMany 18 = .ok (.laload, 1) := by decide +kernel
theorem dX11_dueMany_19 : decode cX11_dueMany 19 = .ok (.aload_n 0, 1) := by decide +kernel
theorem dX11_dueMany_20 : decode cX11_dueMany 20 = .ok (.iload_n 2, 1) := by decide +kernel
theorem dX11_dueMany_21 : decode cX11_dueMany 21 = .ok (.invokevirtual 106, 3) := by decide +kernel
theorem dX11_dueMany_24 : decode cX11_dueMany 24 = .ok (.invokestatic 110, 3) := by decide +kernel
theorem dX11_dueMany_27 : decode cX11_dueMany 27 = .ok (.ifCond .eq 7, 3) := by decide +kernel
theorem dX11_dueMany_30 : decode cX11_dueMany 30 = .ok (.iconst 1, 1) := by decide +kernel
theorem dX11_dueMany_31 : decode cX11_dueMany 31 = .ok (.goto 4, 3) := by decide +kernel
theorem dX11_dueMany_34 : decode cX11_dueMany 34 = .ok (.iconst 0, 1) := by decide +kernel
theorem dX11_dueMany_35 : decode cX11_dueMany 35 = .ok (.iadd, 1) := by decide +kernel
theorem dX11_dueMany_36 : decode cX11_dueMany 36 = .ok (.istore_n 1, 1) := by decide +kernel
theorem dX11_dueMany_37 : decode cX11_dueMany 37 = .ok (.iinc 2 1, 3) := by decide +kernel
theorem dX11_dueMany_40 : decode cX11_dueMany 40 = .ok (.goto (-36), 3) := by decide +kernel
theorem dX11_dueMany_43 : decode cX11_dueMany 43 = .ok (.iload_n 1, 1) := by decide +kernel
theorem dX11_dueMany_44 : decode cX11_dueMany 44 = .ok (.ireturn, 1) := by decide +kernel
theorem dX11_place_0 : decode cX11_place 0 = .ok (.aload_n 0, 1) := by decide +kernel
theorem dX11_place_1 : decode cX11_place 1 = .ok (.getfield 114, 3) := by decide +kernel
theorem dX11_place_4 : decode cX11_place 4 = .ok (.ifCond .eq 10, 3) := by decide +kernel
theorem dX11_place_7 : decode cX11_place 7 = .ok (.aload_n 0, 1) := by decide +kernel
theorem dX11_place_8 : decode cX11_place 8 = .ok (.bipush (-6), 2) := by decide +kernel
theorem dX11_place_10 : decode cX11_place 10 = .ok (.invokevirtual 118, 3) := by decide +kernel
theorem dX11_place_13 : decode cX11_place 13 = .ok (.ireturn, 1) := by decide +kernel
theorem dX11_place_14 : decode cX11_place 14 = .ok (.iload_n 1, 1) := by decide +kernel
theorem dX11_place_15 : decode cX11_place 15 = .ok (.iconst 0, 1) := by decide +kernel
theorem dX11_place_16 : decode cX11_place 16 = .ok (.iconst 4, 1) := by decide +kernel
theorem dX11_place_17 : decode cX11_place 17 = .ok (.invokestatic 98, 3) := by decide +kernel
theorem dX11_place_20 : decode cX11_place 20 = .ok (.ifCond .ne 9, 3) := by decide +kernel
theorem dX11_place_23 : decode cX11_place 23 = .ok (.aload_n 0, 1) := by decide +kernel
theorem dX11_place_24 : decode cX11_place 24 = .ok (.iconst (-1), 1) := by decide +kernel
theorem dX11_place_25 : decode cX11_place 25 = .ok (.invokevirtual 118, 3) := by decide +kernel
theorem dX11_place_28 : decode cX11_place 28 = .ok (.ireturn, 1) := by decide +kernel
theorem dX11_place_29 : decode cX11_place 29 = .ok (.aload_n 0, 1) := by decide +kernel
theorem dX11_place_30 : decode cX11_place 30 = .ok (.getfield 95, 3) := by decide +kernel
theorem dX11_place_33 : decode cX11_place 33 = .ok (.bipush 12, 2) := by decide +kernel
theorem dX11_place_35 : decode cX11_place 35 = .ok (.if_icmp .ne 10, 3) := by decide +kernel
theorem dX11_place_38 : decode cX11_place 38 = .ok (.aload_n 0, 1) := by decide +kernel
theorem dX11_place_39 : decode cX11_place 39 = .ok (.bipush (-5), 2) := by decide +kernel
theorem dX11_place_41 : decode cX11_place 41 = .ok (.invokevirtual 118, 3) := by decide +kernel
theorem dX11_place_44 : decode cX11_place 44 = .ok (.ireturn, 1) := by decide +kernel
theorem dX11_place_45 : decode cX11_place 45 = .ok (.aload_n 0, 1) := by decide +kernel
theorem dX11_place_46 : decode cX11_place 46 = .ok (.getfield 7, 3) := by decide +kernel
theorem dX11_place_49 : decode cX11_place 49 = .ok (.aload_n 0, 1) := by decide +kernel
theorem dX11_place_50 : decode cX11_place 50 = .ok (.getfield 95, 3) := by decide +kernel
theorem dX11_place_53 : decode cX11_place 53 = .ok (.iload_n 1, 1) := by decide +kernel
theorem dX11_place_54 : decode cX11_place 54 = .ok (.iastore, 1) := by decide +kernel
theorem dX11_place_55 : decode cX11_place 55 = .ok (.aload_n 0, 1) := by decide +kernel
theorem dX11_place_56 : decode cX11_place 56 = .ok (.dup, 1) := by decide +kernel
theorem dX11_place_57 : decode cX11_place 57 = .ok (.getfield 95, 3) := by decide +kernel
theorem dX11_place_60 : decode cX11_place 60 = .ok (.iconst 1, 1) := by decide +kernel
theorem dX11_place_61 : decode cX11_place 61 = .ok (.iadd, 1) := by decide +kernel
theorem dX11_place_62 : decode cX11_place 62 = .ok (.putfield 95, 3) := by decide +kernel
theorem dX11_place_65 : decode cX11_place 65 = .ok (.aload_n 0, 1) := by decide +kernel
theorem dX11_place_66 : decode cX11_place 66 = .ok (.getfield 95, 3) := by decide +kernel
theorem dX11_place_69 : decode cX11_place 69 = .ok (.iconst 1, 1) := by decide +kernel
theorem dX11_place_70 : decode cX11_place 70 = .ok (.isub, 1) := by decide +kernel
theorem dX11_place_71 : decode cX11_place 71 = .ok (.ireturn, 1) := by decide +kernel
theorem dX11_way_0 : decode cX11_way 0 = .ok (.aload_n 0, 1) := by decide +kernel
theorem dX11_way_1 : decode cX11_way 1 = .ok (.getfield 114, 3) := by decide +kernel
theorem dX11_way_4 : decode cX11_way 4 = .ok (.ifCond .eq 10, 3) := by decide +kernel
theorem dX11_way_7 : decode cX11_way 7 = .ok (.aload_n 0, 1) := by decide +kernel
theorem dX11_way_8 : decode cX11_way 8 = .ok (.bipush (-6), 2) := by decide +kernel
theorem dX11_way_10 : decode cX11_way 10 = .ok (.invokevirtual 118, 3) := by decide +kernel
theorem dX11_way_13 : decode cX11_way 13 = .ok (.ireturn, 1) := by decide +kernel
theorem dX11_way_14 : decode cX11_way 14 = .ok (.iload_n 2, 1) := by decide +kernel
theorem dX11_way_15 : decode cX11_way 15 = .ok (.bipush (-3), 2) := by decide +kernel
theorem dX11_way_17 : decode cX11_way 17 = .ok (.iconst (-1), 1) := by decide +kernel
theorem dX11_way_18 : decode cX11_way 18 = .ok (.invokestatic 98, 3) := by decide +kernel
theorem dX11_way_21 : decode cX11_way 21 = .ok (.istore 4, 2) := by decide +kernel
theorem dX11_way_23 : decode cX11_way 23 = .ok (.aload_n 0, 1) := by decide +kernel
theorem dX11_way_24 : decode cX11_way 24 = .ok (.iload_n 1, 1) := by decide +kernel
theorem dX11_way_25 : decode cX11_way 25 = .ok (.invokevirtual 121, 3) := by decide +kernel
theorem dX11_way_28 : decode cX11_way 28 = .ok (.ifCond .eq 31, 3) := by decide +kernel
theorem dX11_way_31 : decode cX11_way 31 = .ok (.iload 4, 2) := by decide +kernel
theorem dX11_way_33 : decode cX11_way 33 = .ok (.ifCond .ne 11, 3) := by decide +kernel
theorem dX11_way_36 : decode cX11_way 36 = .ok (.aload_n 0, 1) := by decide +kernel
theorem dX11_way_37 : decode cX11_way 37 = .ok (.iload_n 2, 1) := by decide +kernel
theorem dX11_way_38 : decode cX11_way 38 = .ok (.invokevirtual 121, 3) := by decide +kernel
theorem dX11_way_41 : decode cX11_way 41 = .ok (.ifCond .eq 18, 3) := by decide +kernel
theorem dX11_way_44 : decode cX11_way 44 = .ok (.iload_n 2, 1) := by decide +kernel
theorem dX11_way_45 : decode cX11_way 45 = .ok (.iload_n 1, 1) := by decide +kernel
theorem dX11_way_46 : decode cX11_way 46 = .ok (.if_icmp .eq 13, 3) := by decide +kernel
theorem dX11_way_49 : decode cX11_way 49 = .ok (.iload_n 3, 1) := by decide +kernel
theorem dX11_way_50 : decode cX11_way 50 = .ok (.iconst 1, 1) := by decide +kernel
theorem dX11_way_51 : decode cX11_way 51 = .ok (.bipush 9, 2) := by decide +kernel
theorem dX11_way_53 : decode cX11_way 53 = .ok (.invokestatic 98, 3) := by decide +kernel
theorem dX11_way_56 : decode cX11_way 56 = .ok (.ifCond .ne 9, 3) := by decide +kernel
theorem dX11_way_59 : decode cX11_way 59 = .ok (.aload_n 0, 1) := by decide +kernel
theorem dX11_way_60 : decode cX11_way 60 = .ok (.iconst (-1), 1) := by decide +kernel
theorem dX11_way_61 : decode cX11_way 61 = .ok (.invokevirtual 118, 3) := by decide +kernel
theorem dX11_way_64 : decode cX11_way 64 = .ok (.ireturn, 1) := by decide +kernel
theorem dX11_way_65 : decode cX11_way 65 = .ok (.aload_n 0, 1) := by decide +kernel
theorem dX11_way_66 : decode cX11_way 66 = .ok (.getfield 7, 3) := by decide +kernel
theorem dX11_way_69 : decode cX11_way 69 = .ok (.iload_n 1, 1) := by decide +kernel
theorem dX11_way_70 : decode cX11_way 70 = .ok (.iaload, 1) := by decide +kernel
theorem dX11_way_71 : decode cX11_way 71 = .ok (.iconst 2, 1) := by decide +kernel
theorem dX11_way_72 : decode cX11_way 72 = .ok (.if_icmp .eq 13, 3) := by decide +kernel
theorem dX11_way_75 : decode cX11_way 75 = .ok (.aload_n 0, 1) := by decide +kernel
theorem dX11_way_76 : decode cX11_way 76 = .ok (.getfield 7, 3) := by decide +kernel
theorem dX11_way_79 : decode cX11_way 79 = .ok (.iload_n 1, 1) := by decide +kernel
theorem dX11_way_80 : decode cX11_way 80 = .ok (.iaload, 1) := by decide +kernel
theorem dX11_way_81 : decode cX11_way 81 = .ok (.iconst 3, 1) := by decide +kernel
theorem dX11_way_82 : decode cX11_way 82 = .ok (.if_icmp .ne 7, 3) := by decide +kernel
theorem dX11_way_85 : decode cX11_way 85 = .ok (.iconst 1, 1) := by decide +kernel
theorem dX11_way_86 : decode cX11_way 86 = .ok (.goto 4, 3) := by decide +kernel
theorem dX11_way_89 : decode cX11_way 89 = .ok (.iconst 0, 1) := by decide +kernel
theorem dX11_way_90 : decode cX11_way 90 = .ok (.istore 5, 2) := by decide +kernel
theorem dX11_way_92 : decode cX11_way 92 = .ok (.iload_n 3, 1) := by decide +kernel
theorem dX11_way_93 : decode cX11_way 93 = .ok (.iconst 1, 1) := by decide +kernel
theorem dX11_way_94 : decode cX11_way 94 = .ok (.if_icmp .eq 8, 3) := by decide +kernel
theorem dX11_way_97 : decode cX11_way 97 = .ok (.iload 5, 2) := by decide +kernel
theorem dX11_way_99 : decode cX11_way 99 = .ok (.ifCond .eq 18, 3) := by decide +kernel
theorem dX11_way_102 : decode cX11_way 102 = .ok (.iload 4, 2) := by decide +kernel
theorem dX11_way_104 : decode cX11_way 104 = .ok (.ifCond .eq 20, 3) := by decide +kernel
theorem dX11_way_107 : decode cX11_way 107 = .ok (.aload_n 0, 1) := by decide +kernel
theorem dX11_way_108 : decode cX11_way 108 = .ok (.getfield 7, 3) := by decide +kernel
theorem dX11_way_111 : decode cX11_way 111 = .ok (.iload_n 1, 1) := by decide +kernel
theorem dX11_way_112 : decode cX11_way 112 = .ok (.iaload, 1) := by decide +kernel
theorem dX11_way_113 : decode cX11_way 113 = .ok (.iconst 3, 1) := by decide +kernel
theorem dX11_way_114 : decode cX11_way 114 = .ok (.if_icmp .eq 10, 3) := by decide +kernel
theorem dX11_way_117 : decode cX11_way 117 = .ok (.aload_n 0, 1) := by decide +kernel
theorem dX11_way_118 : decode cX11_way 118 = .ok (.bipush (-4), 2) := by decide +kernel
theorem dX11_way_120 : decode cX11_way 120 = .ok (.invokevirtual 118, 3) := by decide +kernel
theorem dX11_way_123 : decode cX11_way 123 = .ok (.ireturn, 1) := by decide +kernel
theorem dX11_way_124 : decode cX11_way 124 = .ok (.aload_n 0, 1) := by decide +kernel
theorem dX11_way_125 : decode cX11_way 125 = .ok (.getfield 13, 3) := by decide +kernel
theorem dX11_way_128 : decode cX11_way 128 = .ok (.bipush 15, 2) := by decide +kernel
theorem dX11_way_130 : decode cX11_way 130 = .ok (.iload_n 1, 1) := by decide +kernel
theorem dX11_way_131 : decode cX11_way 131 = .ok (.imul, 1) := by decide +kernel
theorem dX11_way_132 : decode cX11_way 132 = .ok (.iload 4, 2) := by decide +kernel
theorem dX11_way_134 : decode cX11_way 134 = .ok (.ifCond .eq 10, 3) := by decide +kernel
theorem dX11_way_137 : decode cX11_way 137 = .ok (.bipush 11, 2) := by decide +kernel
theorem dX11_way_139 : decode cX11_way 139 = .ok (.iload_n 2, 1) := by decide +kernel
theorem dX11_way_140 : decode cX11_way 140 = .ok (.isub, 1) := by decide +kernel
theorem dX11_way_141 : decode cX11_way 141 = .ok (.goto 4, 3) := by decide +kernel
theorem dX11_way_144 : decode cX11_way 144 = .ok (.iload_n 2, 1) := by decide +kernel
theorem dX11_way_145 : decode cX11_way 145 = .ok (.iadd, 1) := by decide +kernel
theorem dX11_way_146 : decode cX11_way 146 = .ok (.dup2, 1) := by decide +kernel
theorem dX11_way_147 : decode cX11_way 147 = .ok (.iaload, 1) := by decide +kernel
theorem dX11_way_148 : decode cX11_way 148 = .ok (.iload_n 3, 1) := by decide +kernel
theorem dX11_way_149 : decode cX11_way 149 = .ok (.iadd, 1) := by decide +kernel
theorem dX11_way_150 : decode cX11_way 150 = .ok (.iastore, 1) := by decide +kernel
theorem dX11_way_151 : decode cX11_way 151 = .ok (.aload_n 0, 1) := by decide +kernel
theorem dX11_way_152 : decode cX11_way 152 = .ok (.iload_n 1, 1) := by decide +kernel
theorem dX11_way_153 : decode cX11_way 153 = .ok (.invokevirtual 106, 3) := by decide +kernel
theorem dX11_way_156 : decode cX11_way 156 = .ok (.ireturn, 1) := by decide +kernel
theorem dX11_begin_0 : decode cX11_begin 0 = .ok (.aload_n 0, 1) := by decide +kernel
theorem dX11_begin_1 : decode cX11_begin 1 = .ok (.getfield 114, 3) := by decide +kernel
theorem dX11_begin_4 : decode cX11_begin 4 = .ok (.ifCond .eq 10, 3) := by decide +kernel
theorem dX11_begin_7 : decode cX11_begin 7 = .ok (.aload_n 0, 1) := by decide +kernel
theorem dX11_begin_8 : decode cX11_begin 8 = .ok (.bipush (-6), 2) := by decide +kernel
theorem dX11_begin_10 : decode cX11_begin 10 = .ok (.invokevirtual 118, 3) := by decide +kernel
theorem dX11_begin_13 : decode cX11_begin 13 = .ok (.ireturn, 1) := by decide +kernel
theorem dX11_begin_14 : decode cX11_begin 14 = .ok (.aload_n 0, 1) := by decide +kernel
