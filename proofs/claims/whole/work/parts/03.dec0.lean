theorem dX0_init_0 : decode cX0_init 0 = .ok (.aload_n 0, 1) := by decide +kernel
theorem dX0_init_1 : decode cX0_init 1 = .ok (.invokespecial 3, 3) := by decide +kernel
theorem dX0_init_4 : decode cX0_init 4 = .ok (.aload_n 0, 1) := by decide +kernel
theorem dX0_init_5 : decode cX0_init 5 = .ok (.bipush 12, 2) := by decide +kernel
theorem dX0_init_7 : decode cX0_init 7 = .ok (.newarray .int, 2) := by decide +kernel
theorem dX0_init_9 : decode cX0_init 9 = .ok (.putfield 9, 3) := by decide +kernel
theorem dX0_init_12 : decode cX0_init 12 = .ok (.aload_n 0, 1) := by decide +kernel
theorem dX0_init_13 : decode cX0_init 13 = .ok (.bipush 12, 2) := by decide +kernel
theorem dX0_init_15 : decode cX0_init 15 = .ok (.newarray .int, 2) := by decide +kernel
theorem dX0_init_17 : decode cX0_init 17 = .ok (.putfield 15, 3) := by decide +kernel
theorem dX0_init_20 : decode cX0_init 20 = .ok (.aload_n 0, 1) := by decide +kernel
theorem dX0_init_21 : decode cX0_init 21 = .ok (.iconst 0, 1) := by decide +kernel
theorem dX0_init_22 : decode cX0_init 22 = .ok (.putfield 18, 3) := by decide +kernel
theorem dX0_init_25 : decode cX0_init 25 = .ok (.aload_n 0, 1) := by decide +kernel
theorem dX0_init_26 : decode cX0_init 26 = .ok (.lconst 1, 1) := by decide +kernel
theorem dX0_init_27 : decode cX0_init 27 = .ok (.putfield 22, 3) := by decide +kernel
theorem dX0_init_30 : decode cX0_init 30 = .ok (.aload_n 0, 1) := by decide +kernel
theorem dX0_init_31 : decode cX0_init 31 = .ok (.aload_n 1, 1) := by decide +kernel
theorem dX0_init_32 : decode cX0_init 32 = .ok (.putfield 26, 3) := by decide +kernel
theorem dX0_init_35 : decode cX0_init 35 = .ok (.aload_n 0, 1) := by decide +kernel
theorem dX0_init_36 : decode cX0_init 36 = .ok (.aload_n 2, 1) := by decide +kernel
theorem dX0_init_37 : decode cX0_init 37 = .ok (.putfield 30, 3) := by decide +kernel
theorem dX0_init_40 : decode cX0_init 40 = .ok (.return_, 1) := by decide +kernel
theorem dX0_clear_0 : decode cX0_clear 0 = .ok (.aload_n 0, 1) := by decide +kernel
theorem dX0_clear_1 : decode cX0_clear 1 = .ok (.iconst 0, 1) := by decide +kernel
theorem dX0_clear_2 : decode cX0_clear 2 = .ok (.putfield 34, 3) := by decide +kernel
theorem dX0_clear_5 : decode cX0_clear 5 = .ok (.aload_n 0, 1) := by decide +kernel
theorem dX0_clear_6 : decode cX0_clear 6 = .ok (.iconst 0, 1) := by decide +kernel
theorem dX0_clear_7 : decode cX0_clear 7 = .ok (.putfield 18, 3) := by decide +kernel
theorem dX0_clear_10 : decode cX0_clear 10 = .ok (.aload_n 0, 1) := by decide +kernel
theorem dX0_clear_11 : decode cX0_clear 11 = .ok (.lconst 1, 1) := by decide +kernel
theorem dX0_clear_12 : decode cX0_clear 12 = .ok (.putfield 22, 3) := by decide +kernel
theorem dX0_clear_15 : decode cX0_clear 15 = .ok (.return_, 1) := by decide +kernel
theorem dX0_takeOrder_0 : decode cX0_takeOrder 0 = .ok (.aload_n 1, 1) := by decide +kernel
theorem dX0_takeOrder_1 : decode cX0_takeOrder 1 = .ok (.getfield 37, 3) := by decide +kernel
theorem dX0_takeOrder_4 : decode cX0_takeOrder 4 = .ok (.iconst 0, 1) := by decide +kernel
theorem dX0_takeOrder_5 : decode cX0_takeOrder 5 = .ok (.aload_n 0, 1) := by decide +kernel
theorem dX0_takeOrder_6 : decode cX0_takeOrder 6 = .ok (.getfield 9, 3) := by decide +kernel
theorem dX0_takeOrder_9 : decode cX0_takeOrder 9 = .ok (.iconst 0, 1) := by decide +kernel
theorem dX0_takeOrder_10 : decode cX0_takeOrder 10 = .ok (.bipush 12, 2) := by decide +kernel
theorem dX0_takeOrder_12 : decode cX0_takeOrder 12 = .ok (.invokestatic 42, 3) := by decide +kernel
theorem dX0_takeOrder_15 : decode cX0_takeOrder 15 = .ok (.return_, 1) := by decide +kernel
theorem dX0_chooseNext_0 : decode cX0_chooseNext 0 = .ok (.aload_n 0, 1) := by decide +kernel
theorem dX0_chooseNext_1 : decode cX0_chooseNext 1 = .ok (.getfield 30, 3) := by decide +kernel
theorem dX0_chooseNext_4 : decode cX0_chooseNext 4 = .ok (.invokevirtual 48, 3) := by decide +kernel
theorem dX0_chooseNext_7 : decode cX0_chooseNext 7 = .ok (.istore_n 1, 1) := by decide +kernel
theorem dX0_chooseNext_8 : decode cX0_chooseNext 8 = .ok (.iload_n 1, 1) := by decide +kernel
theorem dX0_chooseNext_9 : decode cX0_chooseNext 9 = .ok (.ifCond .ne 5, 3) := by decide +kernel
theorem dX0_chooseNext_12 : decode cX0_chooseNext 12 = .ok (.iconst (-1), 1) := by decide +kernel
theorem dX0_chooseNext_13 : decode cX0_chooseNext 13 = .ok (.ireturn, 1) := by decide +kernel
theorem dX0_chooseNext_14 : decode cX0_chooseNext 14 = .ok (.aload_n 0, 1) := by decide +kernel
theorem dX0_chooseNext_15 : decode cX0_chooseNext 15 = .ok (.getfield 18, 3) := by decide +kernel
theorem dX0_chooseNext_18 : decode cX0_chooseNext 18 = .ok (.tableswitch 54 1 4 #[30, 38, 43, 49], 30) := by decide +kernel
theorem dX0_chooseNext_48 : decode cX0_chooseNext 48 = .ok (.aload_n 0, 1) := by decide +kernel
theorem dX0_chooseNext_49 : decode cX0_chooseNext 49 = .ok (.getfield 30, 3) := by decide +kernel
theorem dX0_chooseNext_52 : decode cX0_chooseNext 52 = .ok (.invokevirtual 54, 3) := by decide +kernel
theorem dX0_chooseNext_55 : decode cX0_chooseNext 55 = .ok (.ireturn, 1) := by decide +kernel
theorem dX0_chooseNext_56 : decode cX0_chooseNext 56 = .ok (.aload_n 0, 1) := by decide +kernel
theorem dX0_chooseNext_57 : decode cX0_chooseNext 57 = .ok (.invokevirtual 57, 3) := by decide +kernel
theorem dX0_chooseNext_60 : decode cX0_chooseNext 60 = .ok (.ireturn, 1) := by decide +kernel
theorem dX0_chooseNext_61 : decode cX0_chooseNext 61 = .ok (.aload_n 0, 1) := by decide +kernel
theorem dX0_chooseNext_62 : decode cX0_chooseNext 62 = .ok (.iload_n 1, 1) := by decide +kernel
theorem dX0_chooseNext_63 : decode cX0_chooseNext 63 = .ok (.invokevirtual 60, 3) := by decide +kernel
theorem dX0_chooseNext_66 : decode cX0_chooseNext 66 = .ok (.ireturn, 1) := by decide +kernel
theorem dX0_chooseNext_67 : decode cX0_chooseNext 67 = .ok (.aload_n 0, 1) := by decide +kernel
theorem dX0_chooseNext_68 : decode cX0_chooseNext 68 = .ok (.invokevirtual 64, 3) := by decide +kernel
theorem dX0_chooseNext_71 : decode cX0_chooseNext 71 = .ok (.ireturn, 1) := by decide +kernel
theorem dX0_chooseNext_72 : decode cX0_chooseNext 72 = .ok (.aload_n 0, 1) := by decide +kernel
theorem dX0_chooseNext_73 : decode cX0_chooseNext 73 = .ok (.getfield 30, 3) := by decide +kernel
theorem dX0_chooseNext_76 : decode cX0_chooseNext 76 = .ok (.invokevirtual 67, 3) := by decide +kernel
theorem dX0_chooseNext_79 : decode cX0_chooseNext 79 = .ok (.ireturn, 1) := by decide +kernel
theorem dX0_firstInOrder_0 : decode cX0_firstInOrder 0 = .ok (.iconst 0, 1) := by decide +kernel
theorem dX0_firstInOrder_1 : decode cX0_firstInOrder 1 = .ok (.istore_n 1, 1) := by decide +kernel
theorem dX0_firstInOrder_2 : decode cX0_firstInOrder 2 = .ok (.iload_n 1, 1) := by decide +kernel
theorem dX0_firstInOrder_3 : decode cX0_firstInOrder 3 = .ok (.aload_n 0, 1) := by decide +kernel
theorem dX0_firstInOrder_4 : decode cX0_firstInOrder 4 = .ok (.getfield 26, 3) := by decide +kernel
theorem dX0_firstInOrder_7 : decode cX0_firstInOrder 7 = .ok (.getfield 70, 3) := by decide +kernel
theorem dX0_firstInOrder_10 : decode cX0_firstInOrder 10 = .ok (.if_icmp .ge 32, 3) := by decide +kernel
theorem dX0_firstInOrder_13 : decode cX0_firstInOrder 13 = .ok (.aload_n 0, 1) := by decide +kernel
theorem dX0_firstInOrder_14 : decode cX0_firstInOrder 14 = .ok (.getfield 30, 3) := by decide +kernel
theorem dX0_firstInOrder_17 : decode cX0_firstInOrder 17 = .ok (.aload_n 0, 1) := by decide +kernel
theorem dX0_firstInOrder_18 : decode cX0_firstInOrder 18 = .ok (.getfield 9, 3) := by decide +kernel
theorem dX0_firstInOrder_21 : decode cX0_firstInOrder 21 = .ok (.iload_n 1, 1) := by decide +kernel
theorem dX0_firstInOrder_22 : decode cX0_firstInOrder 22 = .ok (.iaload, 1) := by decide +kernel
theorem dX0_firstInOrder_23 : decode cX0_firstInOrder 23 = .ok (.invokevirtual 75, 3) := by decide +kernel
theorem dX0_firstInOrder_26 : decode cX0_firstInOrder 26 = .ok (.ifCond .eq 10, 3) := by decide +kernel
theorem dX0_firstInOrder_29 : decode cX0_firstInOrder 29 = .ok (.aload_n 0, 1) := by decide +kernel
theorem dX0_firstInOrder_30 : decode cX0_firstInOrder 30 = .ok (.getfield 9, 3) := by decide +kernel
theorem dX0_firstInOrder_33 : decode cX0_firstInOrder 33 = .ok (.iload_n 1, 1) := by decide +kernel
theorem dX0_firstInOrder_34 : decode cX0_firstInOrder 34 = .ok (.iaload, 1) := by decide +kernel
theorem dX0_firstInOrder_35 : decode cX0_firstInOrder 35 = .ok (.ireturn, 1) := by decide +kernel
theorem dX0_firstInOrder_36 : decode cX0_firstInOrder 36 = .ok (.iinc 1 1, 3) := by decide +kernel
theorem dX0_firstInOrder_39 : decode cX0_firstInOrder 39 = .ok (.goto (-37), 3) := by decide +kernel
theorem dX0_firstInOrder_42 : decode cX0_firstInOrder 42 = .ok (.iconst (-1), 1) := by decide +kernel
theorem dX0_firstInOrder_43 : decode cX0_firstInOrder 43 = .ok (.ireturn, 1) := by decide +kernel
theorem dX0_drawLot_0 : decode cX0_drawLot 0 = .ok (.aload_n 0, 1) := by decide +kernel
theorem dX0_drawLot_1 : decode cX0_drawLot 1 = .ok (.aload_n 0, 1) := by decide +kernel
theorem dX0_drawLot_2 : decode cX0_drawLot 2 = .ok (.getfield 22, 3) := by decide +kernel
theorem dX0_drawLot_5 : decode cX0_drawLot 5 = .ok (.ldc2_w 79, 3) := by decide +kernel
theorem dX0_drawLot_8 : decode cX0_drawLot 8 = .ok (.lmul, 1) := by decide +kernel
theorem dX0_drawLot_9 : decode cX0_drawLot 9 = .ok (.ldc2_w 81, 3) := by decide +kernel
theorem dX0_drawLot_12 : decode cX0_drawLot 12 = .ok (.ladd, 1) := by decide +kernel
theorem dX0_drawLot_13 : decode cX0_drawLot 13 = .ok (.ldc2_w 83, 3) := by decide +kernel
theorem dX0_drawLot_16 : decode cX0_drawLot 16 = .ok (.lrem, 1) := by decide +kernel
theorem dX0_drawLot_17 : decode cX0_drawLot 17 = .ok (.putfield 22, 3) := by decide +kernel
theorem dX0_drawLot_20 : decode cX0_drawLot 20 = .ok (.iload_n 1, 1) := by decide +kernel
theorem dX0_drawLot_21 : decode cX0_drawLot 21 = .ok (.ifCond .le 17, 3) := by decide +kernel
theorem dX0_drawLot_24 : decode cX0_drawLot 24 = .ok (.aload_n 0, 1) := by decide +kernel
theorem dX0_drawLot_25 : decode cX0_drawLot 25 = .ok (.getfield 22, 3) := by decide +kernel
theorem dX0_drawLot_28 : decode cX0_drawLot 28 = .ok (.ldc2_w 85, 3) := by decide +kernel
theorem dX0_drawLot_31 : decode cX0_drawLot 31 = .ok (.ldiv, 1) := by decide +kernel
theorem dX0_drawLot_32 : decode cX0_drawLot 32 = .ok (.iload_n 1, 1) := by decide +kernel
theorem dX0_drawLot_33 : decode cX0_drawLot 33 = .ok (.i2l, 1) := by decide +kernel
theorem dX0_drawLot_34 : decode cX0_drawLot 34 = .ok (.lrem, 1) := by decide +kernel
theorem dX0_drawLot_35 : decode cX0_drawLot 35 = .ok (.goto 4, 3) := by decide +kernel
theorem dX0_drawLot_38 : decode cX0_drawLot 38 = .ok (.lconst 0, 1) := by decide +kernel
theorem dX0_drawLot_39 : decode cX0_drawLot 39 = .ok (.lstore_n 2, 1) := by decide +kernel
theorem dX0_drawLot_40 : decode cX0_drawLot 40 = .ok (.iconst 0, 1) := by decide +kernel
theorem dX0_drawLot_41 : decode cX0_drawLot 41 = .ok (.istore 4, 2) := by decide +kernel
theorem dX0_drawLot_43 : decode cX0_drawLot 43 = .ok (.iload 4, 2) := by decide +kernel
theorem dX0_drawLot_45 : decode cX0_drawLot 45 = .ok (.aload_n 0, 1) := by decide +kernel
theorem dX0_drawLot_46 : decode cX0_drawLot 46 = .ok (.getfield 26, 3) := by decide +kernel
theorem dX0_drawLot_49 : decode cX0_drawLot 49 = .ok (.getfield 70, 3) := by decide +kernel
theorem dX0_drawLot_52 : decode cX0_drawLot 52 = .ok (.if_icmp .ge 34, 3) := by decide +kernel
theorem dX0_drawLot_55 : decode cX0_drawLot 55 = .ok (.aload_n 0, 1) := by decide +kernel
theorem dX0_drawLot_56 : decode cX0_drawLot 56 = .ok (.getfield 30, 3) := by decide +kernel
theorem dX0_drawLot_59 : decode cX0_drawLot 59 = .ok (.iload 4, 2) := by decide +kernel
theorem dX0_drawLot_61 : decode cX0_drawLot 61 = .ok (.invokevirtual 75, 3) := by decide +kernel
theorem dX0_drawLot_64 : decode cX0_drawLot 64 = .ok (.ifCond .eq 16, 3) := by decide +kernel
theorem dX0_drawLot_67 : decode cX0_drawLot 67 = .ok (.lload_n 2, 1) := by decide +kernel
theorem dX0_drawLot_68 : decode cX0_drawLot 68 = .ok (.lconst 0, 1) := by decide +kernel
theorem dX0_drawLot_69 : decode cX0_drawLot 69 = .ok (.lcmp, 1) := by decide +kernel
theorem dX0_drawLot_70 : decode cX0_drawLot 70 = .ok (.ifCond .ne 6, 3) := by decide +kernel
theorem dX0_drawLot_73 : decode cX0_drawLot 73 = .ok (.iload 4, 2) := by decide +kernel
theorem dX0_drawLot_75 : decode cX0_drawLot 75 = .ok (.ireturn, 1) := by decide +kernel
theorem dX0_drawLot_76 : decode cX0_drawLot 76 = .ok (.lload_n 2, 1) := by decide +kernel
theorem dX0_drawLot_77 : decode cX0_drawLot 77 = .ok (.lconst 1, 1) := by decide +kernel
theorem dX0_drawLot_78 : decode cX0_drawLot 78 = .ok (.lsub, 1) := by decide +kernel
theorem dX0_drawLot_79 : decode cX0_drawLot 79 = .ok (.lstore_n 2, 1) := by decide +kernel
theorem dX0_drawLot_80 : decode cX0_drawLot 80 = .ok (.iinc 4 1, 3) := by decide +kernel
theorem dX0_drawLot_83 : decode cX0_drawLot 83 = .ok (.goto (-40), 3) := by decide +kernel
theorem dX0_drawLot_86 : decode cX0_drawLot 86 = .ok (.iconst (-1), 1) := by decide +kernel
theorem dX0_drawLot_87 : decode cX0_drawLot 87 = .ok (.ireturn, 1) := by decide +kernel
theorem dX0_askOn_0 : decode cX0_askOn 0 = .ok (.iconst 0, 1) := by decide +kernel
theorem dX0_askOn_1 : decode cX0_askOn 1 = .ok (.istore_n 1, 1) := by decide +kernel
theorem dX0_askOn_2 : decode cX0_askOn 2 = .ok (.iload_n 1, 1) := by decide +kernel
theorem dX0_askOn_3 : decode cX0_askOn 3 = .ok (.bipush 24, 2) := by decide +kernel
theorem dX0_askOn_5 : decode cX0_askOn 5 = .ok (.if_icmp .ge 38, 3) := by decide +kernel
theorem dX0_askOn_8 : decode cX0_askOn 8 = .ok (.aload_n 0, 1) := by decide +kernel
theorem dX0_askOn_9 : decode cX0_askOn 9 = .ok (.getfield 34, 3) := by decide +kernel
theorem dX0_askOn_12 : decode cX0_askOn 12 = .ok (.ifCond .ne 7, 3) := by decide +kernel
theorem dX0_askOn_15 : decode cX0_askOn 15 = .ok (.aload_n 0, 1) := by decide +kernel
theorem dX0_askOn_16 : decode cX0_askOn 16 = .ok (.invokevirtual 87, 3) := by decide +kernel
theorem dX0_askOn_19 : decode cX0_askOn 19 = .ok (.aload_n 0, 1) := by decide +kernel
theorem dX0_askOn_20 : decode cX0_askOn 20 = .ok (.invokevirtual 90, 3) := by decide +kernel
theorem dX0_askOn_23 : decode cX0_askOn 23 = .ok (.istore_n 2, 1) := by decide +kernel
theorem dX0_askOn_24 : decode cX0_askOn 24 = .ok (.aload_n 0, 1) := by decide +kernel
theorem dX0_askOn_25 : decode cX0_askOn 25 = .ok (.getfield 30, 3) := by decide +kernel
theorem dX0_askOn_28 : decode cX0_askOn 28 = .ok (.iload_n 2, 1) := by decide +kernel
theorem dX0_askOn_29 : decode cX0_askOn 29 = .ok (.invokevirtual 75, 3) := by decide +kernel
theorem dX0_askOn_32 : decode cX0_askOn 32 = .ok (.ifCond .eq 5, 3) := by decide +kernel
theorem dX0_askOn_35 : decode cX0_askOn 35 = .ok (.iload_n 2, 1) := by decide +kernel
theorem dX0_askOn_36 : decode cX0_askOn 36 = .ok (.ireturn, 1) := by decide +kernel
theorem dX0_askOn_37 : decode cX0_askOn 37 = .ok (.iinc 1 1, 3) := by decide +kernel
theorem dX0_askOn_40 : decode cX0_askOn 40 = .ok (.goto (-38), 3) := by decide +kernel
theorem dX0_askOn_43 : decode cX0_askOn 43 = .ok (.iconst (-1), 1) := by decide +kernel
theorem dX0_askOn_44 : decode cX0_askOn 44 = .ok (.ireturn, 1) := by decide +kernel
theorem dX0_askAll_0 : decode cX0_askAll 0 = .ok (.iconst 0, 1) := by decide +kernel
theorem dX0_askAll_1 : decode cX0_askAll 1 = .ok (.istore_n 1, 1) := by decide +kernel
theorem dX0_askAll_2 : decode cX0_askAll 2 = .ok (.iload_n 1, 1) := by decide +kernel
theorem dX0_askAll_3 : decode cX0_askAll 3 = .ok (.aload_n 0, 1) := by decide +kernel
theorem dX0_askAll_4 : decode cX0_askAll 4 = .ok (.getfield 26, 3) := by decide +kernel
theorem dX0_askAll_7 : decode cX0_askAll 7 = .ok (.getfield 70, 3) := by decide +kernel
theorem dX0_askAll_10 : decode cX0_askAll 10 = .ok (.if_icmp .ge 16, 3) := by decide +kernel
theorem dX0_askAll_13 : decode cX0_askAll 13 = .ok (.aload_n 0, 1) := by decide +kernel
theorem dX0_askAll_14 : decode cX0_askAll 14 = .ok (.getfield 15, 3) := by decide +kernel
theorem dX0_askAll_17 : decode cX0_askAll 17 = .ok (.iload_n 1, 1) := by decide +kernel
theorem dX0_askAll_18 : decode cX0_askAll 18 = .ok (.iload_n 1, 1) := by decide +kernel
theorem dX0_askAll_19 : decode cX0_askAll 19 = .ok (.iastore, 1) := by decide +kernel
theorem dX0_askAll_20 : decode cX0_askAll 20 = .ok (.iinc 1 1, 3) := by decide +kernel
theorem dX0_askAll_23 : decode cX0_askAll 23 = .ok (.goto (-21), 3) := by decide +kernel
theorem dX0_askAll_26 : decode cX0_askAll 26 = .ok (.aload_n 0, 1) := by decide +kernel
theorem dX0_askAll_27 : decode cX0_askAll 27 = .ok (.aload_n 0, 1) := by decide +kernel
theorem dX0_askAll_28 : decode cX0_askAll 28 = .ok (.getfield 26, 3) := by decide +kernel
theorem dX0_askAll_31 : decode cX0_askAll 31 = .ok (.getfield 70, 3) := by decide +kernel
theorem dX0_askAll_34 : decode cX0_askAll 34 = .ok (.putfield 34, 3) := by decide +kernel
theorem dX0_askAll_37 : decode cX0_askAll 37 = .ok (.return_, 1) := by decide +kernel
theorem dX0_takeFirst_0 : decode cX0_takeFirst 0 = .ok (.aload_n 0, 1) := by decide +kernel
theorem dX0_takeFirst_1 : decode cX0_takeFirst 1 = .ok (.getfield 15, 3) := by decide +kernel
theorem dX0_takeFirst_4 : decode cX0_takeFirst 4 = .ok (.iconst 0, 1) := by decide +kernel
theorem dX0_takeFirst_5 : decode cX0_takeFirst 5 = .ok (.iaload, 1) := by decide +kernel
theorem dX0_takeFirst_6 : decode cX0_takeFirst 6 = .ok (.istore_n 1, 1) := by decide +kernel
theorem dX0_takeFirst_7 : decode cX0_takeFirst 7 = .ok (.iconst 1, 1) := by decide +kernel
theorem dX0_takeFirst_8 : decode cX0_takeFirst 8 = .ok (.istore_n 2, 1) := by decide +kernel
theorem dX0_takeFirst_9 : decode cX0_takeFirst 9 = .ok (.iload_n 2, 1) := by decide +kernel
theorem dX0_takeFirst_10 : decode cX0_takeFirst 10 = .ok (.aload_n 0, 1) := by decide +kernel
theorem dX0_takeFirst_11 : decode cX0_takeFirst 11 = .ok (.getfield 34, 3) := by decide +kernel
theorem dX0_takeFirst_14 : decode cX0_takeFirst 14 = .ok (.if_icmp .ge 23, 3) := by decide +kernel
theorem dX0_takeFirst_17 : decode cX0_takeFirst 17 = .ok (.aload_n 0, 1) := by decide +kernel
theorem dX0_takeFirst_18 : decode cX0_takeFirst 18 = .ok (.getfield 15, 3) := by decide +kernel
theorem dX0_takeFirst_21 : decode cX0_takeFirst 21 = .ok (.iload_n 2, 1) := by decide +kernel
theorem dX0_takeFirst_22 : decode cX0_takeFirst 22 = .ok (.iconst 1, 1) := by decide +kernel
theorem dX0_takeFirst_23 : decode cX0_takeFirst 23 = .ok (.isub, 1) := by decide +kernel
theorem dX0_takeFirst_24 : decode cX0_takeFirst 24 = .ok (.aload_n 0, 1) := by decide +kernel
theorem dX0_takeFirst_25 : decode cX0_takeFirst 25 = .ok (.getfield 15, 3) := by decide +kernel
theorem dX0_takeFirst_28 : decode cX0_takeFirst 28 = .ok (.iload_n 2, 1) := by decide +kernel
theorem dX0_takeFirst_29 : decode cX0_takeFirst 29 = .ok (.iaload, 1) := by decide +kernel
theorem dX0_takeFirst_30 : decode cX0_takeFirst 30 = .ok (.iastore, 1) := by decide +kernel
theorem dX0_takeFirst_31 : decode cX0_takeFirst 31 = .ok (.iinc 2 1, 3) := by decide +kernel
theorem dX0_takeFirst_34 : decode cX0_takeFirst 34 = .ok (.goto (-25), 3) := by decide +kernel
theorem dX0_takeFirst_37 : decode cX0_takeFirst 37 = .ok (.aload_n 0, 1) := by decide +kernel
theorem dX0_takeFirst_38 : decode cX0_takeFirst 38 = .ok (.iconst 0, 1) := by decide +kernel
theorem dX0_takeFirst_39 : decode cX0_takeFirst 39 = .ok (.aload_n 0, 1) := by decide +kernel
theorem dX0_takeFirst_40 : decode cX0_takeFirst 40 = .ok (.getfield 34, 3) := by decide +kernel
theorem dX0_takeFirst_43 : decode cX0_takeFirst 43 = .ok (.iconst 1, 1) := by decide +kernel
theorem dX0_takeFirst_44 : decode cX0_takeFirst 44 = .ok (.isub, 1) := by decide +kernel
theorem dX0_takeFirst_45 : decode cX0_takeFirst 45 = .ok (.invokestatic 93, 3) := by decide +kernel
theorem dX0_takeFirst_48 : decode cX0_takeFirst 48 = .ok (.putfield 34, 3) := by decide +kernel
theorem dX0_takeFirst_51 : decode cX0_takeFirst 51 = .ok (.iload_n 1, 1) := by decide +kernel
theorem dX0_takeFirst_52 : decode cX0_takeFirst 52 = .ok (.ireturn, 1) := by decide +kernel
theorem dX0_hearOfSlide_0 : decode cX0_hearOfSlide 0 = .ok (.aload_n 0, 1) := by decide +kernel
theorem dX0_hearOfSlide_1 : decode cX0_hearOfSlide 1 = .ok (.getfield 18, 3) := by decide +kernel
theorem dX0_hearOfSlide_4 : decode cX0_hearOfSlide 4 = .ok (.iconst 4, 1) := by decide +kernel
theorem dX0_hearOfSlide_5 : decode cX0_hearOfSlide 5 = .ok (.if_icmp .eq 4, 3) := by decide +kernel
theorem dX0_hearOfSlide_8 : decode cX0_hearOfSlide 8 = .ok (.return_, 1) := by decide +kernel
theorem dX0_hearOfSlide_9 : decode cX0_hearOfSlide 9 = .ok (.aload_n 0, 1) := by decide +kernel
theorem dX0_hearOfSlide_10 : decode cX0_hearOfSlide 10 = .ok (.getfield 26, 3) := by decide +kernel
theorem dX0_hearOfSlide_13 : decode cX0_hearOfSlide 13 = .ok (.iload_n 1, 1) := by decide +kernel
theorem dX0_hearOfSlide_14 : decode cX0_hearOfSlide 14 = .ok (.iconst 4, 1) := by decide +kernel
theorem dX0_hearOfSlide_15 : decode cX0_hearOfSlide 15 = .ok (.invokevirtual 99, 3) := by decide +kernel
theorem dX0_hearOfSlide_18 : decode cX0_hearOfSlide 18 = .ok (.ifCond .eq 11, 3) := by decide +kernel
theorem dX0_hearOfSlide_21 : decode cX0_hearOfSlide 21 = .ok (.aload_n 0, 1) := by decide +kernel
theorem dX0_hearOfSlide_22 : decode cX0_hearOfSlide 22 = .ok (.iload_n 1, 1) := by decide +kernel
theorem dX0_hearOfSlide_23 : decode cX0_hearOfSlide 23 = .ok (.invokevirtual 103, 3) := by decide +kernel
theorem dX0_hearOfSlide_26 : decode cX0_hearOfSlide 26 = .ok (.goto 8, 3) := by decide +kernel
theorem dX0_hearOfSlide_29 : decode cX0_hearOfSlide 29 = .ok (.aload_n 0, 1) := by decide +kernel
theorem dX0_hearOfSlide_30 : decode cX0_hearOfSlide 30 = .ok (.iload_n 1, 1) := by decide +kernel
theorem dX0_hearOfSlide_31 : decode cX0_hearOfSlide 31 = .ok (.invokevirtual 107, 3) := by decide +kernel
theorem dX0_hearOfSlide_34 : decode cX0_hearOfSlide 34 = .ok (.return_, 1) := by decide +kernel
theorem dX0_askBehind_0 : decode cX0_askBehind 0 = .ok (.iconst 0, 1) := by decide +kernel
theorem dX0_askBehind_1 : decode cX0_askBehind 1 = .ok (.istore_n 2, 1) := by decide +kernel
theorem dX0_askBehind_2 : decode cX0_askBehind 2 = .ok (.iload_n 2, 1) := by decide +kernel
theorem dX0_askBehind_3 : decode cX0_askBehind 3 = .ok (.aload_n 0, 1) := by decide +kernel
theorem dX0_askBehind_4 : decode cX0_askBehind 4 = .ok (.getfield 26, 3) := by decide +kernel
theorem dX0_askBehind_7 : decode cX0_askBehind 7 = .ok (.getfield 70, 3) := by decide +kernel
theorem dX0_askBehind_10 : decode cX0_askBehind 10 = .ok (.if_icmp .ge 38, 3) := by decide +kernel
theorem dX0_askBehind_13 : decode cX0_askBehind 13 = .ok (.aload_n 0, 1) := by decide +kernel
theorem dX0_askBehind_14 : decode cX0_askBehind 14 = .ok (.iload_n 1, 1) := by decide +kernel
theorem dX0_askBehind_15 : decode cX0_askBehind 15 = .ok (.iload_n 2, 1) := by decide +kernel
theorem dX0_askBehind_16 : decode cX0_askBehind 16 = .ok (.invokevirtual 110, 3) := by decide +kernel
theorem dX0_askBehind_19 : decode cX0_askBehind 19 = .ok (.ifCond .eq 23, 3) := by decide +kernel
theorem dX0_askBehind_22 : decode cX0_askBehind 22 = .ok (.aload_n 0, 1) := by decide +kernel
theorem dX0_askBehind_23 : decode cX0_askBehind 23 = .ok (.getfield 15, 3) := by decide +kernel
theorem dX0_askBehind_26 : decode cX0_askBehind 26 = .ok (.aload_n 0, 1) := by decide +kernel
theorem dX0_askBehind_27 : decode cX0_askBehind 27 = .ok (.getfield 34, 3) := by decide +kernel
theorem dX0_askBehind_30 : decode cX0_askBehind 30 = .ok (.iload_n 2, 1) := by decide +kernel
theorem dX0_askBehind_31 : decode cX0_askBehind 31 = .ok (.iastore, 1) := by decide +kernel
theorem dX0_askBehind_32 : decode cX0_askBehind 32 = .ok (.aload_n 0, 1) := by decide +kernel
theorem dX0_askBehind_33 : decode cX0_askBehind 33 = .ok (.dup, 1) := by decide +kernel
theorem dX0_askBehind_34 : decode cX0_askBehind 34 = .ok (.getfield 34, 3) := by decide +kernel
theorem dX0_askBehind_37 : decode cX0_askBehind 37 = .ok (.iconst 1, 1) := by decide +kernel
theorem dX0_askBehind_38 : decode cX0_askBehind 38 = .ok (.iadd, 1) := by decide +kernel
theorem dX0_askBehind_39 : decode cX0_askBehind 39 = .ok (.putfield 34, 3) := by decide +kernel
theorem dX0_askBehind_42 : decode cX0_askBehind 42 = .ok (.iinc 2 1, 3) := by decide +kernel
theorem dX0_askBehind_45 : decode cX0_askBehind 45 = .ok (.goto (-43), 3) := by decide +kernel
theorem dX0_askBehind_48 : decode cX0_askBehind 48 = .ok (.return_, 1) := by decide +kernel
theorem dX0_askAhead_0 : decode cX0_askAhead 0 = .ok (.aload_n 0, 1) := by decide +kernel
theorem dX0_askAhead_1 : decode cX0_askAhead 1 = .ok (.getfield 26, 3) := by decide +kernel
theorem dX0_askAhead_4 : decode cX0_askAhead 4 = .ok (.getfield 70, 3) := by decide +kernel
theorem dX0_askAhead_7 : decode cX0_askAhead 7 = .ok (.iconst 1, 1) := by decide +kernel
theorem dX0_askAhead_8 : decode cX0_askAhead 8 = .ok (.isub, 1) := by decide +kernel
theorem dX0_askAhead_9 : decode cX0_askAhead 9 = .ok (.istore_n 2, 1) := by decide +kernel
theorem dX0_askAhead_10 : decode cX0_askAhead 10 = .ok (.iload_n 2, 1) := by decide +kernel
theorem dX0_askAhead_11 : decode cX0_askAhead 11 = .ok (.ifCond .lt 64, 3) := by decide +kernel
theorem dX0_askAhead_14 : decode cX0_askAhead 14 = .ok (.aload_n 0, 1) := by decide +kernel
theorem dX0_askAhead_15 : decode cX0_askAhead 15 = .ok (.iload_n 1, 1) := by decide +kernel
theorem dX0_askAhead_16 : decode cX0_askAhead 16 = .ok (.iload_n 2, 1) := by decide +kernel
theorem dX0_askAhead_17 : decode cX0_askAhead 17 = .ok (.invokevirtual 110, 3) := by decide +kernel
theorem dX0_askAhead_20 : decode cX0_askAhead 20 = .ok (.ifCond .eq 49, 3) := by decide +kernel
theorem dX0_askAhead_23 : decode cX0_askAhead 23 = .ok (.aload_n 0, 1) := by decide +kernel
theorem dX0_askAhead_24 : decode cX0_askAhead 24 = .ok (.getfield 34, 3) := by decide +kernel
theorem dX0_askAhead_27 : decode cX0_askAhead 27 = .ok (.istore_n 3, 1) := by decide +kernel
theorem dX0_askAhead_28 : decode cX0_askAhead 28 = .ok (.iload_n 3, 1) := by decide +kernel
theorem dX0_askAhead_29 : decode cX0_askAhead 29 = .ok (.ifCond .le 23, 3) := by decide +kernel
theorem dX0_askAhead_32 : decode cX0_askAhead 32 = .ok (.aload_n 0, 1) := by decide +kernel
theorem dX0_askAhead_33 : decode cX0_askAhead 33 = .ok (.getfield 15, 3) := by decide +kernel
theorem dX0_askAhead_36 : decode cX0_askAhead 36 = .ok (.iload_n 3, 1) := by decide +kernel
theorem dX0_askAhead_37 : decode cX0_askAhead 37 = .ok (.aload_n 0, 1) := by decide +kernel
theorem dX0_askAhead_38 : decode cX0_askAhead 38 = .ok (.getfield 15, 3) := by decide +kernel
theorem dX0_askAhead_41 : decode cX0_askAhead 41 = .ok (.iload_n 3, 1) := by decide +kernel
theorem dX0_askAhead_42 : decode cX0_askAhead 42 = .ok (.iconst 1, 1) := by decide +kernel
theorem dX0_askAhead_43 : decode cX0_askAhead 43 = .ok (.isub, 1) := by decide +kernel
theorem dX0_askAhead_44 : decode cX0_askAhead 44 = .ok (.iaload, 1) := by decide +kernel
theorem dX0_askAhead_45 : decode cX0_askAhead 45 = .ok (.iastore, 1) := by decide +kernel
theorem dX0_askAhead_46 : decode cX0_askAhead 46 = .ok (.iinc 3 (-1), 3) := by decide +kernel
theorem dX0_askAhead_49 : decode cX0_askAhead 49 = .ok (.goto (-21), 3) := by decide +kernel
theorem dX0_askAhead_52 : decode cX0_askAhead 52 = .ok (.aload_n 0, 1) := by decide +kernel
theorem dX0_askAhead_53 : decode cX0_askAhead 53 = .ok (.getfield 15, 3) := by decide +kernel
theorem dX0_askAhead_56 : decode cX0_askAhead 56 = .ok (.iconst 0, 1) := by decide +kernel
theorem dX0_askAhead_57 : decode cX0_askAhead 57 = .ok (.iload_n 2, 1) := by decide +kernel
theorem dX0_askAhead_58 : decode cX0_askAhead 58 = .ok (.iastore, 1) := by decide +kernel
theorem dX0_askAhead_59 : decode cX0_askAhead 59 = .ok (.aload_n 0, 1) := by decide +kernel
theorem dX0_askAhead_60 : decode cX0_askAhead 60 = .ok (.dup, 1) := by decide +kernel
theorem dX0_askAhead_61 : decode cX0_askAhead 61 = .ok (.getfield 34, 3) := by decide +kernel
theorem dX0_askAhead_64 : decode cX0_askAhead 64 = .ok (.iconst 1, 1) := by decide +kernel
theorem dX0_askAhead_65 : decode cX0_askAhead 65 = .ok (.iadd, 1) := by decide +kernel
theorem dX0_askAhead_66 : decode cX0_askAhead 66 = .ok (.putfield 34, 3) := by decide +kernel
theorem dX0_askAhead_69 : decode cX0_askAhead 69 = .ok (.iinc 2 (-1), 3) := by decide +kernel
theorem dX0_askAhead_72 : decode cX0_askAhead 72 = .ok (.goto (-62), 3) := by decide +kernel
theorem dX0_askAhead_75 : decode cX0_askAhead 75 = .ok (.return_, 1) := by decide +kernel
theorem dX0_isNewEnd_0 : decode cX0_isNewEnd 0 = .ok (.aload_n 0, 1) := by decide +kernel
theorem dX0_isNewEnd_1 : decode cX0_isNewEnd 1 = .ok (.getfield 26, 3) := by decide +kernel
theorem dX0_isNewEnd_4 : decode cX0_isNewEnd 4 = .ok (.getfield 113, 3) := by decide +kernel
theorem dX0_isNewEnd_7 : decode cX0_isNewEnd 7 = .ok (.iload_n 1, 1) := by decide +kernel
theorem dX0_isNewEnd_8 : decode cX0_isNewEnd 8 = .ok (.aaload, 1) := by decide +kernel
theorem dX0_isNewEnd_9 : decode cX0_isNewEnd 9 = .ok (.iload_n 2, 1) := by decide +kernel
theorem dX0_isNewEnd_10 : decode cX0_isNewEnd 10 = .ok (.iaload, 1) := by decide +kernel
theorem dX0_isNewEnd_11 : decode cX0_isNewEnd 11 = .ok (.ifCond .eq 12, 3) := by decide +kernel
theorem dX0_isNewEnd_14 : decode cX0_isNewEnd 14 = .ok (.aload_n 0, 1) := by decide +kernel
theorem dX0_isNewEnd_15 : decode cX0_isNewEnd 15 = .ok (.getfield 34, 3) := by decide +kernel
theorem dX0_isNewEnd_18 : decode cX0_isNewEnd 18 = .ok (.bipush 12, 2) := by decide +kernel
theorem dX0_isNewEnd_20 : decode cX0_isNewEnd 20 = .ok (.if_icmp .lt 5, 3) := by decide +kernel
theorem dX0_isNewEnd_23 : decode cX0_isNewEnd 23 = .ok (.iconst 0, 1) := by decide +kernel
theorem dX0_isNewEnd_24 : decode cX0_isNewEnd 24 = .ok (.ireturn, 1) := by decide +kernel
theorem dX0_isNewEnd_25 : decode cX0_isNewEnd 25 = .ok (.iconst 0, 1) := by decide +kernel
theorem dX0_isNewEnd_26 : decode cX0_isNewEnd 26 = .ok (.istore_n 3, 1) := by decide +kernel
theorem dX0_isNewEnd_27 : decode cX0_isNewEnd 27 = .ok (.iload_n 3, 1) := by decide +kernel
theorem dX0_isNewEnd_28 : decode cX0_isNewEnd 28 = .ok (.aload_n 0, 1) := by decide +kernel
theorem dX0_isNewEnd_29 : decode cX0_isNewEnd 29 = .ok (.getfield 34, 3) := by decide +kernel
theorem dX0_isNewEnd_32 : decode cX0_isNewEnd 32 = .ok (.if_icmp .ge 21, 3) := by decide +kernel
theorem dX0_isNewEnd_35 : decode cX0_isNewEnd 35 = .ok (.aload_n 0, 1) := by decide +kernel
theorem dX0_isNewEnd_36 : decode cX0_isNewEnd 36 = .ok (.getfield 15, 3) := by decide +kernel
theorem dX0_isNewEnd_39 : decode cX0_isNewEnd 39 = .ok (.iload_n 3, 1) := by decide +kernel
theorem dX0_isNewEnd_40 : decode cX0_isNewEnd 40 = .ok (.iaload, 1) := by decide +kernel
theorem dX0_isNewEnd_41 : decode cX0_isNewEnd 41 = .ok (.iload_n 2, 1) := by decide +kernel
theorem dX0_isNewEnd_42 : decode cX0_isNewEnd 42 = .ok (.if_icmp .ne 5, 3) := by decide +kernel
theorem dX0_isNewEnd_45 : decode cX0_isNewEnd 45 = .ok (.iconst 0, 1) := by decide +kernel
theorem dX0_isNewEnd_46 : decode cX0_isNewEnd 46 = .ok (.ireturn, 1) := by decide +kernel
theorem dX0_isNewEnd_47 : decode cX0_isNewEnd 47 = .ok (.iinc 3 1, 3) := by decide +kernel
theorem dX0_isNewEnd_50 : decode cX0_isNewEnd 50 = .ok (.goto (-23), 3) := by decide +kernel
theorem dX0_isNewEnd_53 : decode cX0_isNewEnd 53 = .ok (.iconst 1, 1) := by decide +kernel
theorem dX0_isNewEnd_54 : decode cX0_isNewEnd 54 = .ok (.ireturn, 1) := by decide +kernel
theorem dX1_init_0 : decode cX1_init 0 = .ok (.aload_n 0, 1) := by decide +kernel
theorem dX1_init_1 : decode cX1_init 1 = .ok (.invokespecial 3, 3) := by decide +kernel
theorem dX1_init_4 : decode cX1_init 4 = .ok (.aload_n 0, 1) := by decide +kernel
theorem dX1_init_5 : decode cX1_init 5 = .ok (.bipush 12, 2) := by decide +kernel
theorem dX1_init_7 : decode cX1_init 7 = .ok (.newarray .int, 2) := by decide +kernel
theorem dX1_init_9 : decode cX1_init 9 = .ok (.putfield 9, 3) := by decide +kernel
theorem dX1_init_12 : decode cX1_init 12 = .ok (.return_, 1) := by decide +kernel
theorem dX1_clear_0 : decode cX1_clear 0 = .ok (.aload_n 0, 1) := by decide +kernel
theorem dX1_clear_1 : decode cX1_clear 1 = .ok (.iconst 0, 1) := by decide +kernel
theorem dX1_clear_2 : decode cX1_clear 2 = .ok (.putfield 15, 3) := by decide +kernel
theorem dX1_clear_5 : decode cX1_clear 5 = .ok (.aload_n 0, 1) := by decide +kernel
theorem dX1_clear_6 : decode cX1_clear 6 = .ok (.iconst 0, 1) := by decide +kernel
theorem dX1_clear_7 : decode cX1_clear 7 = .ok (.putfield 19, 3) := by decide +kernel
theorem dX1_clear_10 : decode cX1_clear 10 = .ok (.return_, 1) := by decide +kernel
theorem dX1_light_0 : decode cX1_light 0 = .ok (.aload_n 0, 1) := by decide +kernel
theorem dX1_light_1 : decode cX1_light 1 = .ok (.iconst 0, 1) := by decide +kernel
theorem dX1_light_2 : decode cX1_light 2 = .ok (.putfield 15, 3) := by decide +kernel
theorem dX1_light_5 : decode cX1_light 5 = .ok (.aload_n 0, 1) := by decide +kernel
theorem dX1_light_6 : decode cX1_light 6 = .ok (.aload_n 1, 1) := by decide +kernel
theorem dX1_light_7 : decode cX1_light 7 = .ok (.invokevirtual 22, 3) := by decide +kernel
theorem dX1_light_10 : decode cX1_light 10 = .ok (.putfield 19, 3) := by decide +kernel
theorem dX1_light_13 : decode cX1_light 13 = .ok (.iconst 0, 1) := by decide +kernel
theorem dX1_light_14 : decode cX1_light 14 = .ok (.istore 4, 2) := by decide +kernel
theorem dX1_light_16 : decode cX1_light 16 = .ok (.iload 4, 2) := by decide +kernel
theorem dX1_light_18 : decode cX1_light 18 = .ok (.aload_n 1, 1) := by decide +kernel
theorem dX1_light_19 : decode cX1_light 19 = .ok (.getfield 28, 3) := by decide +kernel
theorem dX1_light_22 : decode cX1_light 22 = .ok (.if_icmp .ge 61, 3) := by decide +kernel
theorem dX1_light_25 : decode cX1_light 25 = .ok (.aload_n 0, 1) := by decide +kernel
theorem dX1_light_26 : decode cX1_light 26 = .ok (.aload_n 1, 1) := by decide +kernel
theorem dX1_light_27 : decode cX1_light 27 = .ok (.aload_n 2, 1) := by decide +kernel
theorem dX1_light_28 : decode cX1_light 28 = .ok (.iload_n 3, 1) := by decide +kernel
theorem dX1_light_29 : decode cX1_light 29 = .ok (.invokevirtual 31, 3) := by decide +kernel
theorem dX1_light_32 : decode cX1_light 32 = .ok (.istore 5, 2) := by decide +kernel
theorem dX1_light_34 : decode cX1_light 34 = .ok (.iload 5, 2) := by decide +kernel
theorem dX1_light_36 : decode cX1_light 36 = .ok (.iconst (-1), 1) := by decide +kernel
theorem dX1_light_37 : decode cX1_light 37 = .ok (.if_icmp .ne 4, 3) := by decide +kernel
theorem dX1_light_40 : decode cX1_light 40 = .ok (.return_, 1) := by decide +kernel
theorem dX1_light_41 : decode cX1_light 41 = .ok (.aload_n 0, 1) := by decide +kernel
theorem dX1_light_42 : decode cX1_light 42 = .ok (.getfield 9, 3) := by decide +kernel
theorem dX1_light_45 : decode cX1_light 45 = .ok (.aload_n 0, 1) := by decide +kernel
theorem dX1_light_46 : decode cX1_light 46 = .ok (.getfield 15, 3) := by decide +kernel
theorem dX1_light_49 : decode cX1_light 49 = .ok (.iload 5, 2) := by decide +kernel
theorem dX1_light_51 : decode cX1_light 51 = .ok (.iastore, 1) := by decide +kernel
theorem dX1_light_52 : decode cX1_light 52 = .ok (.aload_n 0, 1) := by decide +kernel
theorem dX1_light_53 : decode cX1_light 53 = .ok (.dup, 1) := by decide +kernel
theorem dX1_light_54 : decode cX1_light 54 = .ok (.getfield 15, 3) := by decide +kernel
theorem dX1_light_57 : decode cX1_light 57 = .ok (.iconst 1, 1) := by decide +kernel
theorem dX1_light_58 : decode cX1_light 58 = .ok (.iadd, 1) := by decide +kernel
theorem dX1_light_59 : decode cX1_light 59 = .ok (.putfield 15, 3) := by decide +kernel
theorem dX1_light_62 : decode cX1_light 62 = .ok (.aload_n 0, 1) := by decide +kernel
theorem dX1_light_63 : decode cX1_light 63 = .ok (.dup, 1) := by decide +kernel
theorem dX1_light_64 : decode cX1_light 64 = .ok (.getfield 19, 3) := by decide +kernel
theorem dX1_light_67 : decode cX1_light 67 = .ok (.iconst 1, 1) := by decide +kernel
theorem dX1_light_68 : decode cX1_light 68 = .ok (.iload 5, 2) := by decide +kernel
theorem dX1_light_70 : decode cX1_light 70 = .ok (.ishl, 1) := by decide +kernel
theorem dX1_light_71 : decode cX1_light 71 = .ok (.iconst (-1), 1) := by decide +kernel
theorem dX1_light_72 : decode cX1_light 72 = .ok (.ixor, 1) := by decide +kernel
theorem dX1_light_73 : decode cX1_light 73 = .ok (.iand, 1) := by decide +kernel
theorem dX1_light_74 : decode cX1_light 74 = .ok (.putfield 19, 3) := by decide +kernel
theorem dX1_light_77 : decode cX1_light 77 = .ok (.iinc 4 1, 3) := by decide +kernel
theorem dX1_light_80 : decode cX1_light 80 = .ok (.goto (-64), 3) := by decide +kernel
theorem dX1_light_83 : decode cX1_light 83 = .ok (.return_, 1) := by decide +kernel
theorem dX1_nextToBurn_0 : decode cX1_nextToBurn 0 = .ok (.iconst 0, 1) := by decide +kernel
theorem dX1_nextToBurn_1 : decode cX1_nextToBurn 1 = .ok (.istore 4, 2) := by decide +kernel
theorem dX1_nextToBurn_3 : decode cX1_nextToBurn 3 = .ok (.iload 4, 2) := by decide +kernel
theorem dX1_nextToBurn_5 : decode cX1_nextToBurn 5 = .ok (.aload_n 1, 1) := by decide +kernel
theorem dX1_nextToBurn_6 : decode cX1_nextToBurn 6 = .ok (.getfield 28, 3) := by decide +kernel
theorem dX1_nextToBurn_9 : decode cX1_nextToBurn 9 = .ok (.if_icmp .ge 59, 3) := by decide +kernel
theorem dX1_nextToBurn_12 : decode cX1_nextToBurn 12 = .ok (.aload_n 0, 1) := by decide +kernel
theorem dX1_nextToBurn_13 : decode cX1_nextToBurn 13 = .ok (.getfield 19, 3) := by decide +kernel
theorem dX1_nextToBurn_16 : decode cX1_nextToBurn 16 = .ok (.iconst 1, 1) := by decide +kernel
theorem dX1_nextToBurn_17 : decode cX1_nextToBurn 17 = .ok (.iload 4, 2) := by decide +kernel
theorem dX1_nextToBurn_19 : decode cX1_nextToBurn 19 = .ok (.ishl, 1) := by decide +kernel
theorem dX1_nextToBurn_20 : decode cX1_nextToBurn 20 = .ok (.iand, 1) := by decide +kernel
theorem dX1_nextToBurn_21 : decode cX1_nextToBurn 21 = .ok (.ifCond .ne 7, 3) := by decide +kernel
theorem dX1_nextToBurn_24 : decode cX1_nextToBurn 24 = .ok (.iconst 1, 1) := by decide +kernel
theorem dX1_nextToBurn_25 : decode cX1_nextToBurn 25 = .ok (.goto 4, 3) := by decide +kernel
theorem dX1_nextToBurn_28 : decode cX1_nextToBurn 28 = .ok (.iconst 0, 1) := by decide +kernel
theorem dX1_nextToBurn_29 : decode cX1_nextToBurn 29 = .ok (.istore 5, 2) := by decide +kernel
theorem dX1_nextToBurn_31 : decode cX1_nextToBurn 31 = .ok (.iload 5, 2) := by decide +kernel
theorem dX1_nextToBurn_33 : decode cX1_nextToBurn 33 = .ok (.ifCond .ne 29, 3) := by decide +kernel
theorem dX1_nextToBurn_36 : decode cX1_nextToBurn 36 = .ok (.iload 4, 2) := by decide +kernel
theorem dX1_nextToBurn_38 : decode cX1_nextToBurn 38 = .ok (.iload_n 3, 1) := by decide +kernel
theorem dX1_nextToBurn_39 : decode cX1_nextToBurn 39 = .ok (.if_icmp .eq 23, 3) := by decide +kernel
theorem dX1_nextToBurn_42 : decode cX1_nextToBurn 42 = .ok (.aload_n 2, 1) := by decide +kernel
theorem dX1_nextToBurn_43 : decode cX1_nextToBurn 43 = .ok (.iload 4, 2) := by decide +kernel
theorem dX1_nextToBurn_45 : decode cX1_nextToBurn 45 = .ok (.iaload, 1) := by decide +kernel
theorem dX1_nextToBurn_46 : decode cX1_nextToBurn 46 = .ok (.aload_n 1, 1) := by decide +kernel
theorem dX1_nextToBurn_47 : decode cX1_nextToBurn 47 = .ok (.iload 4, 2) := by decide +kernel
theorem dX1_nextToBurn_49 : decode cX1_nextToBurn 49 = .ok (.aload_n 0, 1) := by decide +kernel
theorem dX1_nextToBurn_50 : decode cX1_nextToBurn 50 = .ok (.getfield 19, 3) := by decide +kernel
theorem dX1_nextToBurn_53 : decode cX1_nextToBurn 53 = .ok (.invokevirtual 35, 3) := by decide +kernel
theorem dX1_nextToBurn_56 : decode cX1_nextToBurn 56 = .ok (.if_icmp .lt 6, 3) := by decide +kernel
theorem dX1_nextToBurn_59 : decode cX1_nextToBurn 59 = .ok (.iload 4, 2) := by decide +kernel
theorem dX1_nextToBurn_61 : decode cX1_nextToBurn 61 = .ok (.ireturn, 1) := by decide +kernel
theorem dX1_nextToBurn_62 : decode cX1_nextToBurn 62 = .ok (.iinc 4 1, 3) := by decide +kernel
theorem dX1_nextToBurn_65 : decode cX1_nextToBurn 65 = .ok (.goto (-62), 3) := by decide +kernel
theorem dX1_nextToBurn_68 : decode cX1_nextToBurn 68 = .ok (.iconst (-1), 1) := by decide +kernel
theorem dX1_nextToBurn_69 : decode cX1_nextToBurn 69 = .ok (.ireturn, 1) := by decide +kernel
theorem dX2_init_0 : decode cX2_init 0 = .ok (.aload_n 0, 1) := by decide +kernel
theorem dX2_init_1 : decode cX2_init 1 = .ok (.invokespecial 3, 3) := by decide +kernel
theorem dX2_init_4 : decode cX2_init 4 = .ok (.aload_n 0, 1) := by decide +kernel
theorem dX2_init_5 : decode cX2_init 5 = .ok (.bipush 12, 2) := by decide +kernel
theorem dX2_init_7 : decode cX2_init 7 = .ok (.newarray .int, 2) := by decide +kernel
theorem dX2_init_9 : decode cX2_init 9 = .ok (.putfield 9, 3) := by decide +kernel
theorem dX2_init_12 : decode cX2_init 12 = .ok (.aload_n 0, 1) := by decide +kernel
theorem dX2_init_13 : decode cX2_init 13 = .ok (.iconst 3, 1) := by decide +kernel
theorem dX2_init_14 : decode cX2_init 14 = .ok (.newarray .long, 2) := by decide +kernel
theorem dX2_init_16 : decode cX2_init 16 = .ok (.putfield 15, 3) := by decide +kernel
theorem dX2_init_19 : decode cX2_init 19 = .ok (.aload_n 0, 1) := by decide +kernel
theorem dX2_init_20 : decode cX2_init 20 = .ok (.bipush 12, 2) := by decide +kernel
theorem dX2_init_22 : decode cX2_init 22 = .ok (.newarray .long, 2) := by decide +kernel
theorem dX2_init_24 : decode cX2_init 24 = .ok (.putfield 19, 3) := by decide +kernel
theorem dX2_init_27 : decode cX2_init 27 = .ok (.aload_n 0, 1) := by decide +kernel
theorem dX2_init_28 : decode cX2_init 28 = .ok (.aload_n 1, 1) := by decide +kernel
theorem dX2_init_29 : decode cX2_init 29 = .ok (.putfield 22, 3) := by decide +kernel
theorem dX2_init_32 : decode cX2_init 32 = .ok (.return_, 1) := by decide +kernel
theorem dX2_clear_0 : decode cX2_clear 0 = .ok (.iconst 0, 1) := by decide +kernel
theorem dX2_clear_1 : decode cX2_clear 1 = .ok (.istore_n 1, 1) := by decide +kernel
theorem dX2_clear_2 : decode cX2_clear 2 = .ok (.iload_n 1, 1) := by decide +kernel
theorem dX2_clear_3 : decode cX2_clear 3 = .ok (.bipush 12, 2) := by decide +kernel
theorem dX2_clear_5 : decode cX2_clear 5 = .ok (.if_icmp .ge 23, 3) := by decide +kernel
theorem dX2_clear_8 : decode cX2_clear 8 = .ok (.aload_n 0, 1) := by decide +kernel
theorem dX2_clear_9 : decode cX2_clear 9 = .ok (.getfield 9, 3) := by decide +kernel
theorem dX2_clear_12 : decode cX2_clear 12 = .ok (.iload_n 1, 1) := by decide +kernel
theorem dX2_clear_13 : decode cX2_clear 13 = .ok (.iconst 0, 1) := by decide +kernel
theorem dX2_clear_14 : decode cX2_clear 14 = .ok (.iastore, 1) := by decide +kernel
theorem dX2_clear_15 : decode cX2_clear 15 = .ok (.aload_n 0, 1) := by decide +kernel
theorem dX2_clear_16 : decode cX2_clear 16 = .ok (.getfield 19, 3) := by decide +kernel
theorem dX2_clear_19 : decode cX2_clear 19 = .ok (.iload_n 1, 1) := by decide +kernel
theorem dX2_clear_20 : decode cX2_clear 20 = .ok (.lconst 0, 1) := by decide +kernel
theorem dX2_clear_21 : decode cX2_clear 21 = .ok (.lastore, 1) := by decide +kernel
theorem dX2_clear_22 : decode cX2_clear 22 = .ok (.iinc 1 1, 3) := by decide +kernel
theorem dX2_clear_25 : decode cX2_clear 25 = .ok (.goto (-23), 3) := by decide +kernel
theorem dX2_clear_28 : decode cX2_clear 28 = .ok (.iconst 0, 1) := by decide +kernel
theorem dX2_clear_29 : decode cX2_clear 29 = .ok (.istore_n 1, 1) := by decide +kernel
theorem dX2_clear_30 : decode cX2_clear 30 = .ok (.iload_n 1, 1) := by decide +kernel
theorem dX2_clear_31 : decode cX2_clear 31 = .ok (.iconst 3, 1) := by decide +kernel
theorem dX2_clear_32 : decode cX2_clear 32 = .ok (.if_icmp .ge 16, 3) := by decide +kernel
theorem dX2_clear_35 : decode cX2_clear 35 = .ok (.aload_n 0, 1) := by decide +kernel
theorem dX2_clear_36 : decode cX2_clear 36 = .ok (.getfield 15, 3) := by decide +kernel
theorem dX2_clear_39 : decode cX2_clear 39 = .ok (.iload_n 1, 1) := by decide +kernel
theorem dX2_clear_40 : decode cX2_clear 40 = .ok (.lconst 0, 1) := by decide +kernel
theorem dX2_clear_41 : decode cX2_clear 41 = .ok (.lastore, 1) := by decide +kernel
theorem dX2_clear_42 : decode cX2_clear 42 = .ok (.iinc 1 1, 3) := by decide +kernel
theorem dX2_clear_45 : decode cX2_clear 45 = .ok (.goto (-15), 3) := by decide +kernel
theorem dX2_clear_48 : decode cX2_clear 48 = .ok (.return_, 1) := by decide +kernel
theorem dX2_takeGrains_0 : decode cX2_takeGrains 0 = .ok (.aload_n 1, 1) := by decide +kernel
theorem dX2_takeGrains_1 : decode cX2_takeGrains 1 = .ok (.iconst 0, 1) := by decide +kernel
theorem dX2_takeGrains_2 : decode cX2_takeGrains 2 = .ok (.aload_n 0, 1) := by decide +kernel
theorem dX2_takeGrains_3 : decode cX2_takeGrains 3 = .ok (.getfield 9, 3) := by decide +kernel
theorem dX2_takeGrains_6 : decode cX2_takeGrains 6 = .ok (.iconst 0, 1) := by decide +kernel
theorem dX2_takeGrains_7 : decode cX2_takeGrains 7 = .ok (.bipush 12, 2) := by decide +kernel
theorem dX2_takeGrains_9 : decode cX2_takeGrains 9 = .ok (.invokestatic 26, 3) := by decide +kernel
theorem dX2_takeGrains_12 : decode cX2_takeGrains 12 = .ok (.return_, 1) := by decide +kernel
theorem dX2_sum_0 : decode cX2_sum 0 = .ok (.iconst 0, 1) := by decide +kernel
theorem dX2_sum_1 : decode cX2_sum 1 = .ok (.istore_n 1, 1) := by decide +kernel
theorem dX2_sum_2 : decode cX2_sum 2 = .ok (.iconst 0, 1) := by decide +kernel
theorem dX2_sum_3 : decode cX2_sum 3 = .ok (.istore_n 2, 1) := by decide +kernel
theorem dX2_sum_4 : decode cX2_sum 4 = .ok (.iload_n 2, 1) := by decide +kernel
theorem dX2_sum_5 : decode cX2_sum 5 = .ok (.aload_n 0, 1) := by decide +kernel
theorem dX2_sum_6 : decode cX2_sum 6 = .ok (.getfield 22, 3) := by decide +kernel
theorem dX2_sum_9 : decode cX2_sum 9 = .ok (.getfield 32, 3) := by decide +kernel
theorem dX2_sum_12 : decode cX2_sum 12 = .ok (.if_icmp .ge 18, 3) := by decide +kernel
theorem dX2_sum_15 : decode cX2_sum 15 = .ok (.iload_n 1, 1) := by decide +kernel
theorem dX2_sum_16 : decode cX2_sum 16 = .ok (.aload_n 0, 1) := by decide +kernel
theorem dX2_sum_17 : decode cX2_sum 17 = .ok (.getfield 9, 3) := by decide +kernel
theorem dX2_sum_20 : decode cX2_sum 20 = .ok (.iload_n 2, 1) := by decide +kernel
theorem dX2_sum_21 : decode cX2_sum 21 = .ok (.iaload, 1) := by decide +kernel
theorem dX2_sum_22 : decode cX2_sum 22 = .ok (.iadd, 1) := by decide +kernel
theorem dX2_sum_23 : decode cX2_sum 23 = .ok (.istore_n 1, 1) := by decide +kernel
theorem dX2_sum_24 : decode cX2_sum 24 = .ok (.iinc 2 1, 3) := by decide +kernel
theorem dX2_sum_27 : decode cX2_sum 27 = .ok (.goto (-23), 3) := by decide +kernel
theorem dX2_sum_30 : decode cX2_sum 30 = .ok (.iload_n 1, 1) := by decide +kernel
theorem dX2_sum_31 : decode cX2_sum 31 = .ok (.ireturn, 1) := by decide +kernel
theorem dX2_isDue_0 : decode cX2_isDue 0 = .ok (.aload_n 0, 1) := by decide +kernel
theorem dX2_isDue_1 : decode cX2_isDue 1 = .ok (.getfield 22, 3) := by decide +kernel
theorem dX2_isDue_4 : decode cX2_isDue 4 = .ok (.getfield 38, 3) := by decide +kernel
theorem dX2_isDue_7 : decode cX2_isDue 7 = .ok (.iload_n 1, 1) := by decide +kernel
theorem dX2_isDue_8 : decode cX2_isDue 8 = .ok (.iaload, 1) := by decide +kernel
theorem dX2_isDue_9 : decode cX2_isDue 9 = .ok (.istore_n 2, 1) := by decide +kernel
theorem dX2_isDue_10 : decode cX2_isDue 10 = .ok (.iload_n 2, 1) := by decide +kernel
theorem dX2_isDue_11 : decode cX2_isDue 11 = .ok (.ifCond .le 17, 3) := by decide +kernel
theorem dX2_isDue_14 : decode cX2_isDue 14 = .ok (.aload_n 0, 1) := by decide +kernel
theorem dX2_isDue_15 : decode cX2_isDue 15 = .ok (.getfield 9, 3) := by decide +kernel
theorem dX2_isDue_18 : decode cX2_isDue 18 = .ok (.iload_n 1, 1) := by decide +kernel
theorem dX2_isDue_19 : decode cX2_isDue 19 = .ok (.iaload, 1) := by decide +kernel
theorem dX2_isDue_20 : decode cX2_isDue 20 = .ok (.iload_n 2, 1) := by decide +kernel
theorem dX2_isDue_21 : decode cX2_isDue 21 = .ok (.if_icmp .lt 7, 3) := by decide +kernel
theorem dX2_isDue_24 : decode cX2_isDue 24 = .ok (.iconst 1, 1) := by decide +kernel
theorem dX2_isDue_25 : decode cX2_isDue 25 = .ok (.goto 4, 3) := by decide +kernel
theorem dX2_isDue_28 : decode cX2_isDue 28 = .ok (.iconst 0, 1) := by decide +kernel
theorem dX2_isDue_29 : decode cX2_isDue 29 = .ok (.ireturn, 1) := by decide +kernel
theorem dX2_countDue_0 : decode cX2_countDue 0 = .ok (.iconst 0, 1) := by decide +kernel
theorem dX2_countDue_1 : decode cX2_countDue 1 = .ok (.istore_n 1, 1) := by decide +kernel
theorem dX2_countDue_2 : decode cX2_countDue 2 = .ok (.iconst 0, 1) := by decide +kernel
theorem dX2_countDue_3 : decode cX2_countDue 3 = .ok (.istore_n 2, 1) := by decide +kernel
theorem dX2_countDue_4 : decode cX2_countDue 4 = .ok (.iload_n 2, 1) := by decide +kernel
theorem dX2_countDue_5 : decode cX2_countDue 5 = .ok (.aload_n 0, 1) := by decide +kernel
theorem dX2_countDue_6 : decode cX2_countDue 6 = .ok (.getfield 22, 3) := by decide +kernel
theorem dX2_countDue_9 : decode cX2_countDue 9 = .ok (.getfield 32, 3) := by decide +kernel
theorem dX2_countDue_12 : decode cX2_countDue 12 = .ok (.if_icmp .ge 20, 3) := by decide +kernel
theorem dX2_countDue_15 : decode cX2_countDue 15 = .ok (.aload_n 0, 1) := by decide +kernel
theorem dX2_countDue_16 : decode cX2_countDue 16 = .ok (.iload_n 2, 1) := by decide +kernel
theorem dX2_countDue_17 : decode cX2_countDue 17 = .ok (.invokevirtual 41, 3) := by decide +kernel
theorem dX2_countDue_20 : decode cX2_countDue 20 = .ok (.ifCond .eq 6, 3) := by decide +kernel
theorem dX2_countDue_23 : decode cX2_countDue 23 = .ok (.iinc 1 1, 3) := by decide +kernel
theorem dX2_countDue_26 : decode cX2_countDue 26 = .ok (.iinc 2 1, 3) := by decide +kernel
theorem dX2_countDue_29 : decode cX2_countDue 29 = .ok (.goto (-25), 3) := by decide +kernel
theorem dX2_countDue_32 : decode cX2_countDue 32 = .ok (.iload_n 1, 1) := by decide +kernel
theorem dX2_countDue_33 : decode cX2_countDue 33 = .ok (.ireturn, 1) := by decide +kernel
theorem dX2_lowestDue_0 : decode cX2_lowestDue 0 = .ok (.iconst 0, 1) := by decide +kernel
theorem dX2_lowestDue_1 : decode cX2_lowestDue 1 = .ok (.istore_n 1, 1) := by decide +kernel
theorem dX2_lowestDue_2 : decode cX2_lowestDue 2 = .ok (.iload_n 1, 1) := by decide +kernel
theorem dX2_lowestDue_3 : decode cX2_lowestDue 3 = .ok (.aload_n 0, 1) := by decide +kernel
theorem dX2_lowestDue_4 : decode cX2_lowestDue 4 = .ok (.getfield 22, 3) := by decide +kernel
theorem dX2_lowestDue_7 : decode cX2_lowestDue 7 = .ok (.getfield 32, 3) := by decide +kernel
theorem dX2_lowestDue_10 : decode cX2_lowestDue 10 = .ok (.if_icmp .ge 19, 3) := by decide +kernel
theorem dX2_lowestDue_13 : decode cX2_lowestDue 13 = .ok (.aload_n 0, 1) := by decide +kernel
theorem dX2_lowestDue_14 : decode cX2_lowestDue 14 = .ok (.iload_n 1, 1) := by decide +kernel
theorem dX2_lowestDue_15 : decode cX2_lowestDue 15 = .ok (.invokevirtual 41, 3) := by decide +kernel
theorem dX2_lowestDue_18 : decode cX2_lowestDue 18 = .ok (.ifCond .eq 5, 3) := by decide +kernel
theorem dX2_lowestDue_21 : decode cX2_lowestDue 21 = .ok (.iload_n 1, 1) := by decide +kernel
theorem dX2_lowestDue_22 : decode cX2_lowestDue 22 = .ok (.ireturn, 1) := by decide +kernel
theorem dX2_lowestDue_23 : decode cX2_lowestDue 23 = .ok (.iinc 1 1, 3) := by decide +kernel
theorem dX2_lowestDue_26 : decode cX2_lowestDue 26 = .ok (.goto (-24), 3) := by decide +kernel
theorem dX2_lowestDue_29 : decode cX2_lowestDue 29 = .ok (.iconst (-1), 1) := by decide +kernel
theorem dX2_lowestDue_30 : decode cX2_lowestDue 30 = .ok (.ireturn, 1) := by decide +kernel
theorem dX2_fullestDue_0 : decode cX2_fullestDue 0 = .ok (.iconst (-1), 1) := by decide +kernel
theorem dX2_fullestDue_1 : decode cX2_fullestDue 1 = .ok (.istore_n 1, 1) := by decide +kernel
theorem dX2_fullestDue_2 : decode cX2_fullestDue 2 = .ok (.iconst 0, 1) := by decide +kernel
theorem dX2_fullestDue_3 : decode cX2_fullestDue 3 = .ok (.istore_n 2, 1) := by decide +kernel
theorem dX2_fullestDue_4 : decode cX2_fullestDue 4 = .ok (.iload_n 2, 1) := by decide +kernel
theorem dX2_fullestDue_5 : decode cX2_fullestDue 5 = .ok (.aload_n 0, 1) := by decide +kernel
theorem dX2_fullestDue_6 : decode cX2_fullestDue 6 = .ok (.getfield 22, 3) := by decide +kernel
theorem dX2_fullestDue_9 : decode cX2_fullestDue 9 = .ok (.getfield 32, 3) := by decide +kernel
theorem dX2_fullestDue_12 : decode cX2_fullestDue 12 = .ok (.if_icmp .ge 39, 3) := by decide +kernel
theorem dX2_fullestDue_15 : decode cX2_fullestDue 15 = .ok (.aload_n 0, 1) := by decide +kernel
theorem dX2_fullestDue_16 : decode cX2_fullestDue 16 = .ok (.iload_n 2, 1) := by decide +kernel
theorem dX2_fullestDue_17 : decode cX2_fullestDue 17 = .ok (.invokevirtual 41, 3) := by decide +kernel
theorem dX2_fullestDue_20 : decode cX2_fullestDue 20 = .ok (.ifCond .eq 25, 3) := by decide +kernel
theorem dX2_fullestDue_23 : decode cX2_fullestDue 23 = .ok (.iload_n 1, 1) := by decide +kernel
theorem dX2_fullestDue_24 : decode cX2_fullestDue 24 = .ok (.iconst (-1), 1) := by decide +kernel
theorem dX2_fullestDue_25 : decode cX2_fullestDue 25 = .ok (.if_icmp .eq 18, 3) := by decide +kernel
theorem dX2_fullestDue_28 : decode cX2_fullestDue 28 = .ok (.aload_n 0, 1) := by decide +kernel
theorem dX2_fullestDue_29 : decode cX2_fullestDue 29 = .ok (.getfield 9, 3) := by decide +kernel
theorem dX2_fullestDue_32 : decode cX2_fullestDue 32 = .ok (.iload_n 2, 1) := by decide +kernel
theorem dX2_fullestDue_33 : decode cX2_fullestDue 33 = .ok (.iaload, 1) := by decide +kernel
theorem dX2_fullestDue_34 : decode cX2_fullestDue 34 = .ok (.aload_n 0, 1) := by decide +kernel
theorem dX2_fullestDue_35 : decode cX2_fullestDue 35 = .ok (.getfield 9, 3) := by decide +kernel
theorem dX2_fullestDue_38 : decode cX2_fullestDue 38 = .ok (.iload_n 1, 1) := by decide +kernel
theorem dX2_fullestDue_39 : decode cX2_fullestDue 39 = .ok (.iaload, 1) := by decide +kernel
theorem dX2_fullestDue_40 : decode cX2_fullestDue 40 = .ok (.if_icmp .le 5, 3) := by decide +kernel
theorem dX2_fullestDue_43 : decode cX2_fullestDue 43 = .ok (.iload_n 2, 1) := by decide +kernel
theorem dX2_fullestDue_44 : decode cX2_fullestDue 44 = .ok (.istore_n 1, 1) := by decide +kernel
theorem dX2_fullestDue_45 : decode cX2_fullestDue 45 = .ok (.iinc 2 1, 3) := by decide +kernel
theorem dX2_fullestDue_48 : decode cX2_fullestDue 48 = .ok (.goto (-44), 3) := by decide +kernel
theorem dX2_fullestDue_51 : decode cX2_fullestDue 51 = .ok (.iload_n 1, 1) := by decide +kernel
theorem dX2_fullestDue_52 : decode cX2_fullestDue 52 = .ok (.ireturn, 1) := by decide +kernel
theorem dX2_stands_0 : decode cX2_stands 0 = .ok (.aload_n 0, 1) := by decide +kernel
theorem dX2_stands_1 : decode cX2_stands 1 = .ok (.invokevirtual 45, 3) := by decide +kernel
theorem dX2_stands_4 : decode cX2_stands 4 = .ok (.iconst (-1), 1) := by decide +kernel
theorem dX2_stands_5 : decode cX2_stands 5 = .ok (.if_icmp .ne 7, 3) := by decide +kernel
theorem dX2_stands_8 : decode cX2_stands 8 = .ok (.iconst 1, 1) := by decide +kernel
theorem dX2_stands_9 : decode cX2_stands 9 = .ok (.goto 4, 3) := by decide +kernel
theorem dX2_stands_12 : decode cX2_stands 12 = .ok (.iconst 0, 1) := by decide +kernel
theorem dX2_stands_13 : decode cX2_stands 13 = .ok (.ireturn, 1) := by decide +kernel
theorem dX2_timesAtOnce_0 : decode cX2_timesAtOnce 0 = .ok (.aload_n 0, 1) := by decide +kernel
theorem dX2_timesAtOnce_1 : decode cX2_timesAtOnce 1 = .ok (.iload_n 1, 1) := by decide +kernel
theorem dX2_timesAtOnce_2 : decode cX2_timesAtOnce 2 = .ok (.invokevirtual 41, 3) := by decide +kernel
theorem dX2_timesAtOnce_5 : decode cX2_timesAtOnce 5 = .ok (.ifCond .ne 5, 3) := by decide +kernel
theorem dX2_timesAtOnce_8 : decode cX2_timesAtOnce 8 = .ok (.iconst 0, 1) := by decide +kernel
theorem dX2_timesAtOnce_9 : decode cX2_timesAtOnce 9 = .ok (.ireturn, 1) := by decide +kernel
theorem dX2_timesAtOnce_10 : decode cX2_timesAtOnce 10 = .ok (.aload_n 0, 1) := by decide +kernel
theorem dX2_timesAtOnce_11 : decode cX2_timesAtOnce 11 = .ok (.getfield 22, 3) := by decide +kernel
theorem dX2_timesAtOnce_14 : decode cX2_timesAtOnce 14 = .ok (.iload_n 1, 1) := by decide +kernel
theorem dX2_timesAtOnce_15 : decode cX2_timesAtOnce 15 = .ok (.iconst 1, 1) := by decide +kernel
theorem dX2_timesAtOnce_16 : decode cX2_timesAtOnce 16 = .ok (.invokevirtual 49, 3) := by decide +kernel
theorem dX2_timesAtOnce_19 : decode cX2_timesAtOnce 19 = .ok (.ifCond .eq 22, 3) := by decide +kernel
theorem dX2_timesAtOnce_22 : decode cX2_timesAtOnce 22 = .ok (.aload_n 0, 1) := by decide +kernel
theorem dX2_timesAtOnce_23 : decode cX2_timesAtOnce 23 = .ok (.getfield 9, 3) := by decide +kernel
theorem dX2_timesAtOnce_26 : decode cX2_timesAtOnce 26 = .ok (.iload_n 1, 1) := by decide +kernel
theorem dX2_timesAtOnce_27 : decode cX2_timesAtOnce 27 = .ok (.iaload, 1) := by decide +kernel
theorem dX2_timesAtOnce_28 : decode cX2_timesAtOnce 28 = .ok (.aload_n 0, 1) := by decide +kernel
theorem dX2_timesAtOnce_29 : decode cX2_timesAtOnce 29 = .ok (.getfield 22, 3) := by decide +kernel
theorem dX2_timesAtOnce_32 : decode cX2_timesAtOnce 32 = .ok (.getfield 38, 3) := by decide +kernel
theorem dX2_timesAtOnce_35 : decode cX2_timesAtOnce 35 = .ok (.iload_n 1, 1) := by decide +kernel
theorem dX2_timesAtOnce_36 : decode cX2_timesAtOnce 36 = .ok (.iaload, 1) := by decide +kernel
theorem dX2_timesAtOnce_37 : decode cX2_timesAtOnce 37 = .ok (.idiv, 1) := by decide +kernel
theorem dX2_timesAtOnce_38 : decode cX2_timesAtOnce 38 = .ok (.goto 4, 3) := by decide +kernel
theorem dX2_timesAtOnce_41 : decode cX2_timesAtOnce 41 = .ok (.iconst 1, 1) := by decide +kernel
theorem dX2_timesAtOnce_42 : decode cX2_timesAtOnce 42 = .ok (.ireturn, 1) := by decide +kernel
theorem dX2_wouldOverfill_0 : decode cX2_wouldOverfill 0 = .ok (.aload_n 0, 1) := by decide +kernel
theorem dX2_wouldOverfill_1 : decode cX2_wouldOverfill 1 = .ok (.iload_n 1, 1) := by decide +kernel
theorem dX2_wouldOverfill_2 : decode cX2_wouldOverfill 2 = .ok (.invokevirtual 53, 3) := by decide +kernel
theorem dX2_wouldOverfill_5 : decode cX2_wouldOverfill 5 = .ok (.istore_n 2, 1) := by decide +kernel
theorem dX2_wouldOverfill_6 : decode cX2_wouldOverfill 6 = .ok (.iconst 0, 1) := by decide +kernel
theorem dX2_wouldOverfill_7 : decode cX2_wouldOverfill 7 = .ok (.istore_n 3, 1) := by decide +kernel
theorem dX2_wouldOverfill_8 : decode cX2_wouldOverfill 8 = .ok (.iload_n 3, 1) := by decide +kernel
theorem dX2_wouldOverfill_9 : decode cX2_wouldOverfill 9 = .ok (.aload_n 0, 1) := by decide +kernel
theorem dX2_wouldOverfill_10 : decode cX2_wouldOverfill 10 = .ok (.getfield 22, 3) := by decide +kernel
theorem dX2_wouldOverfill_13 : decode cX2_wouldOverfill 13 = .ok (.getfield 32, 3) := by decide +kernel
theorem dX2_wouldOverfill_16 : decode cX2_wouldOverfill 16 = .ok (.if_icmp .ge 41, 3) := by decide +kernel
theorem dX2_wouldOverfill_19 : decode cX2_wouldOverfill 19 = .ok (.aload_n 0, 1) := by decide +kernel
theorem dX2_wouldOverfill_20 : decode cX2_wouldOverfill 20 = .ok (.getfield 9, 3) := by decide +kernel
theorem dX2_wouldOverfill_23 : decode cX2_wouldOverfill 23 = .ok (.iload_n 3, 1) := by decide +kernel
theorem dX2_wouldOverfill_24 : decode cX2_wouldOverfill 24 = .ok (.iaload, 1) := by decide +kernel
theorem dX2_wouldOverfill_25 : decode cX2_wouldOverfill 25 = .ok (.i2l, 1) := by decide +kernel
theorem dX2_wouldOverfill_26 : decode cX2_wouldOverfill 26 = .ok (.iload_n 2, 1) := by decide +kernel
theorem dX2_wouldOverfill_27 : decode cX2_wouldOverfill 27 = .ok (.i2l, 1) := by decide +kernel
theorem dX2_wouldOverfill_28 : decode cX2_wouldOverfill 28 = .ok (.aload_n 0, 1) := by decide +kernel
theorem dX2_wouldOverfill_29 : decode cX2_wouldOverfill 29 = .ok (.getfield 22, 3) := by decide +kernel
theorem dX2_wouldOverfill_32 : decode cX2_wouldOverfill 32 = .ok (.getfield 57, 3) := by decide +kernel
theorem dX2_wouldOverfill_35 : decode cX2_wouldOverfill 35 = .ok (.iload_n 1, 1) := by decide +kernel
theorem dX2_wouldOverfill_36 : decode cX2_wouldOverfill 36 = .ok (.aaload, 1) := by decide +kernel
theorem dX2_wouldOverfill_37 : decode cX2_wouldOverfill 37 = .ok (.iload_n 3, 1) := by decide +kernel
theorem dX2_wouldOverfill_38 : decode cX2_wouldOverfill 38 = .ok (.iaload, 1) := by decide +kernel
theorem dX2_wouldOverfill_39 : decode cX2_wouldOverfill 39 = .ok (.i2l, 1) := by decide +kernel
theorem dX2_wouldOverfill_40 : decode cX2_wouldOverfill 40 = .ok (.lmul, 1) := by decide +kernel
theorem dX2_wouldOverfill_41 : decode cX2_wouldOverfill 41 = .ok (.ladd, 1) := by decide +kernel
theorem dX2_wouldOverfill_42 : decode cX2_wouldOverfill 42 = .ok (.ldc2_w 61, 3) := by decide +kernel
theorem dX2_wouldOverfill_45 : decode cX2_wouldOverfill 45 = .ok (.lcmp, 1) := by decide +kernel
theorem dX2_wouldOverfill_46 : decode cX2_wouldOverfill 46 = .ok (.ifCond .le 5, 3) := by decide +kernel
theorem dX2_wouldOverfill_49 : decode cX2_wouldOverfill 49 = .ok (.iconst 1, 1) := by decide +kernel
theorem dX2_wouldOverfill_50 : decode cX2_wouldOverfill 50 = .ok (.ireturn, 1) := by decide +kernel
theorem dX2_wouldOverfill_51 : decode cX2_wouldOverfill 51 = .ok (.iinc 3 1, 3) := by decide +kernel
theorem dX2_wouldOverfill_54 : decode cX2_wouldOverfill 54 = .ok (.goto (-46), 3) := by decide +kernel
theorem dX2_wouldOverfill_57 : decode cX2_wouldOverfill 57 = .ok (.iconst 0, 1) := by decide +kernel
theorem dX2_wouldOverfill_58 : decode cX2_wouldOverfill 58 = .ok (.ireturn, 1) := by decide +kernel
theorem dX2_letSlide_0 : decode cX2_letSlide 0 = .ok (.aload_n 0, 1) := by decide +kernel
theorem dX2_letSlide_1 : decode cX2_letSlide 1 = .ok (.iload_n 1, 1) := by decide +kernel
theorem dX2_letSlide_2 : decode cX2_letSlide 2 = .ok (.invokevirtual 53, 3) := by decide +kernel
theorem dX2_letSlide_5 : decode cX2_letSlide 5 = .ok (.istore_n 2, 1) := by decide +kernel
theorem dX2_letSlide_6 : decode cX2_letSlide 6 = .ok (.aload_n 0, 1) := by decide +kernel
theorem dX2_letSlide_7 : decode cX2_letSlide 7 = .ok (.getfield 9, 3) := by decide +kernel
theorem dX2_letSlide_10 : decode cX2_letSlide 10 = .ok (.iload_n 1, 1) := by decide +kernel
theorem dX2_letSlide_11 : decode cX2_letSlide 11 = .ok (.dup2, 1) := by decide +kernel
theorem dX2_letSlide_12 : decode cX2_letSlide 12 = .ok (.iaload, 1) := by decide +kernel
theorem dX2_letSlide_13 : decode cX2_letSlide 13 = .ok (.iload_n 2, 1) := by decide +kernel
theorem dX2_letSlide_14 : decode cX2_letSlide 14 = .ok (.aload_n 0, 1) := by decide +kernel
theorem dX2_letSlide_15 : decode cX2_letSlide 15 = .ok (.getfield 22, 3) := by decide +kernel
theorem dX2_letSlide_18 : decode cX2_letSlide 18 = .ok (.getfield 38, 3) := by decide +kernel
theorem dX2_letSlide_21 : decode cX2_letSlide 21 = .ok (.iload_n 1, 1) := by decide +kernel
theorem dX2_letSlide_22 : decode cX2_letSlide 22 = .ok (.iaload, 1) := by decide +kernel
theorem dX2_letSlide_23 : decode cX2_letSlide 23 = .ok (.imul, 1) := by decide +kernel
theorem dX2_letSlide_24 : decode cX2_letSlide 24 = .ok (.isub, 1) := by decide +kernel
theorem dX2_letSlide_25 : decode cX2_letSlide 25 = .ok (.iastore, 1) := by decide +kernel
theorem dX2_letSlide_26 : decode cX2_letSlide 26 = .ok (.iconst 0, 1) := by decide +kernel
theorem dX2_letSlide_27 : decode cX2_letSlide 27 = .ok (.istore_n 3, 1) := by decide +kernel
theorem dX2_letSlide_28 : decode cX2_letSlide 28 = .ok (.iload_n 3, 1) := by decide +kernel
theorem dX2_letSlide_29 : decode cX2_letSlide 29 = .ok (.aload_n 0, 1) := by decide +kernel
theorem dX2_letSlide_30 : decode cX2_letSlide 30 = .ok (.getfield 22, 3) := by decide +kernel
theorem dX2_letSlide_33 : decode cX2_letSlide 33 = .ok (.getfield 32, 3) := by decide +kernel
theorem dX2_letSlide_36 : decode cX2_letSlide 36 = .ok (.if_icmp .ge 31, 3) := by decide +kernel
theorem dX2_letSlide_39 : decode cX2_letSlide 39 = .ok (.aload_n 0, 1) := by decide +kernel
theorem dX2_letSlide_40 : decode cX2_letSlide 40 = .ok (.getfield 9, 3) := by decide +kernel
theorem dX2_letSlide_43 : decode cX2_letSlide 43 = .ok (.iload_n 3, 1) := by decide +kernel
theorem dX2_letSlide_44 : decode cX2_letSlide 44 = .ok (.dup2, 1) := by decide +kernel
theorem dX2_letSlide_45 : decode cX2_letSlide 45 = .ok (.iaload, 1) := by decide +kernel
theorem dX2_letSlide_46 : decode cX2_letSlide 46 = .ok (.iload_n 2, 1) := by decide +kernel
theorem dX2_letSlide_47 : decode cX2_letSlide 47 = .ok (.aload_n 0, 1) := by decide +kernel
theorem dX2_letSlide_48 : decode cX2_letSlide 48 = .ok (.getfield 22, 3) := by decide +kernel
theorem dX2_letSlide_51 : decode cX2_letSlide 51 = .ok (.getfield 57, 3) := by decide +kernel
theorem dX2_letSlide_54 : decode cX2_letSlide 54 = .ok (.iload_n 1, 1) := by decide +kernel
theorem dX2_letSlide_55 : decode cX2_letSlide 55 = .ok (.aaload, 1) := by decide +kernel
theorem dX2_letSlide_56 : decode cX2_letSlide 56 = .ok (.iload_n 3, 1) := by decide +kernel
theorem dX2_letSlide_57 : decode cX2_letSlide 57 = .ok (.iaload, 1) := by decide +kernel
theorem dX2_letSlide_58 : decode cX2_letSlide 58 = .ok (.imul, 1) := by decide +kernel
theorem dX2_letSlide_59 : decode cX2_letSlide 59 = .ok (.iadd, 1) := by decide +kernel
theorem dX2_letSlide_60 : decode cX2_letSlide 60 = .ok (.iastore, 1) := by decide +kernel
theorem dX2_letSlide_61 : decode cX2_letSlide 61 = .ok (.iinc 3 1, 3) := by decide +kernel
theorem dX2_letSlide_64 : decode cX2_letSlide 64 = .ok (.goto (-36), 3) := by decide +kernel
theorem dX2_letSlide_67 : decode cX2_letSlide 67 = .ok (.iconst 0, 1) := by decide +kernel
theorem dX2_letSlide_68 : decode cX2_letSlide 68 = .ok (.istore_n 3, 1) := by decide +kernel
theorem dX2_letSlide_69 : decode cX2_letSlide 69 = .ok (.iload_n 3, 1) := by decide +kernel
theorem dX2_letSlide_70 : decode cX2_letSlide 70 = .ok (.iconst 3, 1) := by decide +kernel
theorem dX2_letSlide_71 : decode cX2_letSlide 71 = .ok (.if_icmp .ge 36, 3) := by decide +kernel
theorem dX2_letSlide_74 : decode cX2_letSlide 74 = .ok (.aload_n 0, 1) := by decide +kernel
theorem dX2_letSlide_75 : decode cX2_letSlide 75 = .ok (.getfield 15, 3) := by decide +kernel
theorem dX2_letSlide_78 : decode cX2_letSlide 78 = .ok (.iload_n 3, 1) := by decide +kernel
theorem dX2_letSlide_79 : decode cX2_letSlide 79 = .ok (.dup2, 1) := by decide +kernel
theorem dX2_letSlide_80 : decode cX2_letSlide 80 = .ok (.laload, 1) := by decide +kernel
theorem dX2_letSlide_81 : decode cX2_letSlide 81 = .ok (.iload_n 2, 1) := by decide +kernel
theorem dX2_letSlide_82 : decode cX2_letSlide 82 = .ok (.i2l, 1) := by decide +kernel
theorem dX2_letSlide_83 : decode cX2_letSlide 83 = .ok (.aload_n 0, 1) := by decide +kernel
theorem dX2_letSlide_84 : decode cX2_letSlide 84 = .ok (.getfield 22, 3) := by decide +kernel
theorem dX2_letSlide_87 : decode cX2_letSlide 87 = .ok (.getfield 57, 3) := by decide +kernel
theorem dX2_letSlide_90 : decode cX2_letSlide 90 = .ok (.iload_n 1, 1) := by decide +kernel
theorem dX2_letSlide_91 : decode cX2_letSlide 91 = .ok (.aaload, 1) := by decide +kernel
theorem dX2_letSlide_92 : decode cX2_letSlide 92 = .ok (.bipush 12, 2) := by decide +kernel
theorem dX2_letSlide_94 : decode cX2_letSlide 94 = .ok (.iload_n 3, 1) := by decide +kernel
theorem dX2_letSlide_95 : decode cX2_letSlide 95 = .ok (.iadd, 1) := by decide +kernel
theorem dX2_letSlide_96 : decode cX2_letSlide 96 = .ok (.iaload, 1) := by decide +kernel
theorem dX2_letSlide_97 : decode cX2_letSlide 97 = .ok (.i2l, 1) := by decide +kernel
theorem dX2_letSlide_98 : decode cX2_letSlide 98 = .ok (.lmul, 1) := by decide +kernel
theorem dX2_letSlide_99 : decode cX2_letSlide 99 = .ok (.ladd, 1) := by decide +kernel
theorem dX2_letSlide_100 : decode cX2_letSlide 100 = .ok (.lastore, 1) := by decide +kernel
theorem dX2_letSlide_101 : decode cX2_letSlide 101 = .ok (.iinc 3 1, 3) := by decide +kernel
theorem dX2_letSlide_104 : decode cX2_letSlide 104 = .ok (.goto (-35), 3) := by decide +kernel
theorem dX2_letSlide_107 : decode cX2_letSlide 107 = .ok (.aload_n 0, 1) := by decide +kernel
theorem dX2_letSlide_108 : decode cX2_letSlide 108 = .ok (.getfield 19, 3) := by decide +kernel
theorem dX2_letSlide_111 : decode cX2_letSlide 111 = .ok (.iload_n 1, 1) := by decide +kernel
theorem dX2_letSlide_112 : decode cX2_letSlide 112 = .ok (.dup2, 1) := by decide +kernel
theorem dX2_letSlide_113 : decode cX2_letSlide 113 = .ok (.laload, 1) := by decide +kernel
theorem dX2_letSlide_114 : decode cX2_letSlide 114 = .ok (.iload_n 2, 1) := by decide +kernel
theorem dX2_letSlide_115 : decode cX2_letSlide 115 = .ok (.i2l, 1) := by decide +kernel
theorem dX2_letSlide_116 : decode cX2_letSlide 116 = .ok (.ladd, 1) := by decide +kernel
theorem dX2_letSlide_117 : decode cX2_letSlide 117 = .ok (.lastore, 1) := by decide +kernel
theorem dX2_letSlide_118 : decode cX2_letSlide 118 = .ok (.iload_n 2, 1) := by decide +kernel
theorem dX2_letSlide_119 : decode cX2_letSlide 119 = .ok (.ireturn, 1) := by decide +kernel
theorem dX2_isOverfilled_0 : decode cX2_isOverfilled 0 = .ok (.iconst 0, 1) := by decide +kernel
theorem dX2_isOverfilled_1 : decode cX2_isOverfilled 1 = .ok (.istore_n 1, 1) := by decide +kernel
theorem dX2_isOverfilled_2 : decode cX2_isOverfilled 2 = .ok (.iload_n 1, 1) := by decide +kernel
theorem dX2_isOverfilled_3 : decode cX2_isOverfilled 3 = .ok (.aload_n 0, 1) := by decide +kernel
theorem dX2_isOverfilled_4 : decode cX2_isOverfilled 4 = .ok (.getfield 22, 3) := by decide +kernel
theorem dX2_isOverfilled_7 : decode cX2_isOverfilled 7 = .ok (.getfield 32, 3) := by decide +kernel
theorem dX2_isOverfilled_10 : decode cX2_isOverfilled 10 = .ok (.if_icmp .ge 22, 3) := by decide +kernel
theorem dX2_isOverfilled_13 : decode cX2_isOverfilled 13 = .ok (.aload_n 0, 1) := by decide +kernel
theorem dX2_isOverfilled_14 : decode cX2_isOverfilled 14 = .ok (.getfield 9, 3) := by decide +kernel
theorem dX2_isOverfilled_17 : decode cX2_isOverfilled 17 = .ok (.iload_n 1, 1) := by decide +kernel
theorem dX2_isOverfilled_18 : decode cX2_isOverfilled 18 = .ok (.iaload, 1) := by decide +kernel
theorem dX2_isOverfilled_19 : decode cX2_isOverfilled 19 = .ok (.ldc 63, 2) := by decide +kernel
theorem dX2_isOverfilled_21 : decode cX2_isOverfilled 21 = .ok (.if_icmp .le 5, 3) := by decide +kernel
theorem dX2_isOverfilled_24 : decode cX2_isOverfilled 24 = .ok (.iconst 1, 1) := by decide +kernel
theorem dX2_isOverfilled_25 : decode cX2_isOverfilled 25 = .ok (.ireturn, 1) := by decide +kernel
theorem dX2_isOverfilled_26 : decode cX2_isOverfilled 26 = .ok (.iinc 1 1, 3) := by decide +kernel
theorem dX2_isOverfilled_29 : decode cX2_isOverfilled 29 = .ok (.goto (-27), 3) := by decide +kernel
theorem dX2_isOverfilled_32 : decode cX2_isOverfilled 32 = .ok (.iconst 0, 1) := by decide +kernel
theorem dX2_isOverfilled_33 : decode cX2_isOverfilled 33 = .ok (.ireturn, 1) := by decide +kernel
theorem dX2_settle_0 : decode cX2_settle 0 = .ok (.aload_n 0, 1) := by decide +kernel
theorem dX2_settle_1 : decode cX2_settle 1 = .ok (.invokevirtual 64, 3) := by decide +kernel
theorem dX2_settle_4 : decode cX2_settle 4 = .ok (.ifCond .eq 5, 3) := by decide +kernel
theorem dX2_settle_7 : decode cX2_settle 7 = .ok (.iconst 0, 1) := by decide +kernel
theorem dX2_settle_8 : decode cX2_settle 8 = .ok (.ireturn, 1) := by decide +kernel
theorem dX2_settle_9 : decode cX2_settle 9 = .ok (.iconst 0, 1) := by decide +kernel
theorem dX2_settle_10 : decode cX2_settle 10 = .ok (.istore_n 1, 1) := by decide +kernel
theorem dX2_settle_11 : decode cX2_settle 11 = .ok (.iload_n 1, 1) := by decide +kernel
theorem dX2_settle_12 : decode cX2_settle 12 = .ok (.sipush 20000, 3) := by decide +kernel
theorem dX2_settle_15 : decode cX2_settle 15 = .ok (.if_icmp .ge 37, 3) := by decide +kernel
theorem dX2_settle_18 : decode cX2_settle 18 = .ok (.aload_n 0, 1) := by decide +kernel
theorem dX2_settle_19 : decode cX2_settle 19 = .ok (.invokevirtual 45, 3) := by decide +kernel
theorem dX2_settle_22 : decode cX2_settle 22 = .ok (.istore_n 2, 1) := by decide +kernel
theorem dX2_settle_23 : decode cX2_settle 23 = .ok (.iload_n 2, 1) := by decide +kernel
theorem dX2_settle_24 : decode cX2_settle 24 = .ok (.iconst (-1), 1) := by decide +kernel
theorem dX2_settle_25 : decode cX2_settle 25 = .ok (.if_icmp .ne 5, 3) := by decide +kernel
theorem dX2_settle_28 : decode cX2_settle 28 = .ok (.iconst 1, 1) := by decide +kernel
theorem dX2_settle_29 : decode cX2_settle 29 = .ok (.ireturn, 1) := by decide +kernel
theorem dX2_settle_30 : decode cX2_settle 30 = .ok (.aload_n 0, 1) := by decide +kernel
theorem dX2_settle_31 : decode cX2_settle 31 = .ok (.iload_n 2, 1) := by decide +kernel
theorem dX2_settle_32 : decode cX2_settle 32 = .ok (.invokevirtual 68, 3) := by decide +kernel
theorem dX2_settle_35 : decode cX2_settle 35 = .ok (.ifCond .eq 5, 3) := by decide +kernel
theorem dX2_settle_38 : decode cX2_settle 38 = .ok (.iconst 0, 1) := by decide +kernel
theorem dX2_settle_39 : decode cX2_settle 39 = .ok (.ireturn, 1) := by decide +kernel
theorem dX2_settle_40 : decode cX2_settle 40 = .ok (.aload_n 0, 1) := by decide +kernel
theorem dX2_settle_41 : decode cX2_settle 41 = .ok (.iload_n 2, 1) := by decide +kernel
theorem dX2_settle_42 : decode cX2_settle 42 = .ok (.invokevirtual 71, 3) := by decide +kernel
theorem dX2_settle_45 : decode cX2_settle 45 = .ok (.pop, 1) := by decide +kernel
theorem dX2_settle_46 : decode cX2_settle 46 = .ok (.iinc 1 1, 3) := by decide +kernel
theorem dX2_settle_49 : decode cX2_settle 49 = .ok (.goto (-38), 3) := by decide +kernel
theorem dX2_settle_52 : decode cX2_settle 52 = .ok (.aload_n 0, 1) := by decide +kernel
theorem dX2_settle_53 : decode cX2_settle 53 = .ok (.invokevirtual 74, 3) := by decide +kernel
theorem dX2_settle_56 : decode cX2_settle 56 = .ok (.ireturn, 1) := by decide +kernel
theorem dX3_init_0 : decode cX3_init 0 = .ok (.aload_n 0, 1) := by decide +kernel
theorem dX3_init_1 : decode cX3_init 1 = .ok (.invokespecial 3, 3) := by decide +kernel
theorem dX3_init_4 : decode cX3_init 4 = .ok (.aload_n 0, 1) := by decide +kernel
theorem dX3_init_5 : decode cX3_init 5 = .ok (.bipush 20, 2) := by decide +kernel
theorem dX3_init_7 : decode cX3_init 7 = .ok (.anewarray 9, 3) := by decide +kernel
theorem dX3_init_10 : decode cX3_init 10 = .ok (.putfield 11, 3) := by decide +kernel
theorem dX3_init_13 : decode cX3_init 13 = .ok (.iconst 0, 1) := by decide +kernel
theorem dX3_init_14 : decode cX3_init 14 = .ok (.istore_n 1, 1) := by decide +kernel
theorem dX3_init_15 : decode cX3_init 15 = .ok (.iload_n 1, 1) := by decide +kernel
theorem dX3_init_16 : decode cX3_init 16 = .ok (.bipush 20, 2) := by decide +kernel
theorem dX3_init_18 : decode cX3_init 18 = .ok (.if_icmp .ge 22, 3) := by decide +kernel
theorem dX3_init_21 : decode cX3_init 21 = .ok (.aload_n 0, 1) := by decide +kernel
theorem dX3_init_22 : decode cX3_init 22 = .ok (.getfield 11, 3) := by decide +kernel
theorem dX3_init_25 : decode cX3_init 25 = .ok (.iload_n 1, 1) := by decide +kernel
theorem dX3_init_26 : decode cX3_init 26 = .ok (.new 9, 3) := by decide +kernel
theorem dX3_init_29 : decode cX3_init 29 = .ok (.dup, 1) := by decide +kernel
theorem dX3_init_30 : decode cX3_init 30 = .ok (.invokespecial 17, 3) := by decide +kernel
theorem dX3_init_33 : decode cX3_init 33 = .ok (.aastore, 1) := by decide +kernel
theorem dX3_init_34 : decode cX3_init 34 = .ok (.iinc 1 1, 3) := by decide +kernel
theorem dX3_init_37 : decode cX3_init 37 = .ok (.goto (-22), 3) := by decide +kernel
theorem dX3_init_40 : decode cX3_init 40 = .ok (.return_, 1) := by decide +kernel
theorem dX3_clear_0 : decode cX3_clear 0 = .ok (.aload_n 0, 1) := by decide +kernel
theorem dX3_clear_1 : decode cX3_clear 1 = .ok (.iconst 0, 1) := by decide +kernel
theorem dX3_clear_2 : decode cX3_clear 2 = .ok (.putfield 18, 3) := by decide +kernel
theorem dX3_clear_5 : decode cX3_clear 5 = .ok (.aload_n 0, 1) := by decide +kernel
theorem dX3_clear_6 : decode cX3_clear 6 = .ok (.iconst 0, 1) := by decide +kernel
theorem dX3_clear_7 : decode cX3_clear 7 = .ok (.putfield 22, 3) := by decide +kernel
theorem dX3_clear_10 : decode cX3_clear 10 = .ok (.return_, 1) := by decide +kernel
theorem dX3_note_0 : decode cX3_note 0 = .ok (.aload_n 0, 1) := by decide +kernel
theorem dX3_note_1 : decode cX3_note 1 = .ok (.getfield 11, 3) := by decide +kernel
theorem dX3_note_4 : decode cX3_note 4 = .ok (.aload_n 0, 1) := by decide +kernel
theorem dX3_note_5 : decode cX3_note 5 = .ok (.getfield 18, 3) := by decide +kernel
theorem dX3_note_8 : decode cX3_note 8 = .ok (.aaload, 1) := by decide +kernel
theorem dX3_note_9 : decode cX3_note 9 = .ok (.aload_n 1, 1) := by decide +kernel
theorem dX3_note_10 : decode cX3_note 10 = .ok (.aload_n 2, 1) := by decide +kernel
theorem dX3_note_11 : decode cX3_note 11 = .ok (.invokevirtual 25, 3) := by decide +kernel
theorem dX3_note_14 : decode cX3_note 14 = .ok (.aload_n 0, 1) := by decide +kernel
theorem dX3_note_15 : decode cX3_note 15 = .ok (.aload_n 0, 1) := by decide +kernel
theorem dX3_note_16 : decode cX3_note 16 = .ok (.getfield 18, 3) := by decide +kernel
theorem dX3_note_19 : decode cX3_note 19 = .ok (.iconst 1, 1) := by decide +kernel
theorem dX3_note_20 : decode cX3_note 20 = .ok (.iadd, 1) := by decide +kernel
theorem dX3_note_21 : decode cX3_note 21 = .ok (.bipush 20, 2) := by decide +kernel
theorem dX3_note_23 : decode cX3_note 23 = .ok (.irem, 1) := by decide +kernel
theorem dX3_note_24 : decode cX3_note 24 = .ok (.putfield 18, 3) := by decide +kernel
theorem dX3_note_27 : decode cX3_note 27 = .ok (.aload_n 0, 1) := by decide +kernel
theorem dX3_note_28 : decode cX3_note 28 = .ok (.aload_n 0, 1) := by decide +kernel
theorem dX3_note_29 : decode cX3_note 29 = .ok (.getfield 22, 3) := by decide +kernel
theorem dX3_note_32 : decode cX3_note 32 = .ok (.iconst 1, 1) := by decide +kernel
theorem dX3_note_33 : decode cX3_note 33 = .ok (.iadd, 1) := by decide +kernel
theorem dX3_note_34 : decode cX3_note 34 = .ok (.bipush 20, 2) := by decide +kernel
theorem dX3_note_36 : decode cX3_note 36 = .ok (.invokestatic 29, 3) := by decide +kernel
theorem dX3_note_39 : decode cX3_note 39 = .ok (.putfield 22, 3) := by decide +kernel
theorem dX3_note_42 : decode cX3_note 42 = .ok (.return_, 1) := by decide +kernel
theorem dX3_goBack_0 : decode cX3_goBack 0 = .ok (.aload_n 0, 1) := by decide +kernel
theorem dX3_goBack_1 : decode cX3_goBack 1 = .ok (.getfield 22, 3) := by decide +kernel
theorem dX3_goBack_4 : decode cX3_goBack 4 = .ok (.ifCond .le 43, 3) := by decide +kernel
theorem dX3_goBack_7 : decode cX3_goBack 7 = .ok (.aload_n 0, 1) := by decide +kernel
theorem dX3_goBack_8 : decode cX3_goBack 8 = .ok (.aload_n 0, 1) := by decide +kernel
theorem dX3_goBack_9 : decode cX3_goBack 9 = .ok (.getfield 18, 3) := by decide +kernel
theorem dX3_goBack_12 : decode cX3_goBack 12 = .ok (.bipush 20, 2) := by decide +kernel
theorem dX3_goBack_14 : decode cX3_goBack 14 = .ok (.iadd, 1) := by decide +kernel
theorem dX3_goBack_15 : decode cX3_goBack 15 = .ok (.iconst 1, 1) := by decide +kernel
theorem dX3_goBack_16 : decode cX3_goBack 16 = .ok (.isub, 1) := by decide +kernel
theorem dX3_goBack_17 : decode cX3_goBack 17 = .ok (.bipush 20, 2) := by decide +kernel
theorem dX3_goBack_19 : decode cX3_goBack 19 = .ok (.irem, 1) := by decide +kernel
theorem dX3_goBack_20 : decode cX3_goBack 20 = .ok (.putfield 18, 3) := by decide +kernel
theorem dX3_goBack_23 : decode cX3_goBack 23 = .ok (.aload_n 0, 1) := by decide +kernel
theorem dX3_goBack_24 : decode cX3_goBack 24 = .ok (.dup, 1) := by decide +kernel
theorem dX3_goBack_25 : decode cX3_goBack 25 = .ok (.getfield 22, 3) := by decide +kernel
theorem dX3_goBack_28 : decode cX3_goBack 28 = .ok (.iconst 1, 1) := by decide +kernel
theorem dX3_goBack_29 : decode cX3_goBack 29 = .ok (.isub, 1) := by decide +kernel
theorem dX3_goBack_30 : decode cX3_goBack 30 = .ok (.putfield 22, 3) := by decide +kernel
theorem dX3_goBack_33 : decode cX3_goBack 33 = .ok (.aload_n 0, 1) := by decide +kernel
theorem dX3_goBack_34 : decode cX3_goBack 34 = .ok (.getfield 11, 3) := by decide +kernel
theorem dX3_goBack_37 : decode cX3_goBack 37 = .ok (.aload_n 0, 1) := by decide +kernel
theorem dX3_goBack_38 : decode cX3_goBack 38 = .ok (.getfield 18, 3) := by decide +kernel
theorem dX3_goBack_41 : decode cX3_goBack 41 = .ok (.aaload, 1) := by decide +kernel
theorem dX3_goBack_42 : decode cX3_goBack 42 = .ok (.aload_n 1, 1) := by decide +kernel
theorem dX3_goBack_43 : decode cX3_goBack 43 = .ok (.aload_n 2, 1) := by decide +kernel
theorem dX3_goBack_44 : decode cX3_goBack 44 = .ok (.invokevirtual 35, 3) := by decide +kernel
theorem dX3_goBack_47 : decode cX3_goBack 47 = .ok (.return_, 1) := by decide +kernel
theorem dX4_init_0 : decode cX4_init 0 = .ok (.aload_n 0, 1) := by decide +kernel
theorem dX4_init_1 : decode cX4_init 1 = .ok (.invokespecial 3, 3) := by decide +kernel
theorem dX4_init_4 : decode cX4_init 4 = .ok (.aload_n 0, 1) := by decide +kernel
theorem dX4_init_5 : decode cX4_init 5 = .ok (.bipush 12, 2) := by decide +kernel
theorem dX4_init_7 : decode cX4_init 7 = .ok (.newarray .int, 2) := by decide +kernel
theorem dX4_init_9 : decode cX4_init 9 = .ok (.putfield 9, 3) := by decide +kernel
theorem dX4_init_12 : decode cX4_init 12 = .ok (.aload_n 0, 1) := by decide +kernel
theorem dX4_init_13 : decode cX4_init 13 = .ok (.iconst 3, 1) := by decide +kernel
theorem dX4_init_14 : decode cX4_init 14 = .ok (.newarray .long, 2) := by decide +kernel
theorem dX4_init_16 : decode cX4_init 16 = .ok (.putfield 15, 3) := by decide +kernel
theorem dX4_init_19 : decode cX4_init 19 = .ok (.aload_n 0, 1) := by decide +kernel
theorem dX4_init_20 : decode cX4_init 20 = .ok (.bipush 12, 2) := by decide +kernel
theorem dX4_init_22 : decode cX4_init 22 = .ok (.newarray .long, 2) := by decide +kernel
theorem dX4_init_24 : decode cX4_init 24 = .ok (.putfield 19, 3) := by decide +kernel
theorem dX4_init_27 : decode cX4_init 27 = .ok (.aload_n 0, 1) := by decide +kernel
theorem dX4_init_28 : decode cX4_init 28 = .ok (.bipush 12, 2) := by decide +kernel
theorem dX4_init_30 : decode cX4_init 30 = .ok (.newarray .int, 2) := by decide +kernel
theorem dX4_init_32 : decode cX4_init 32 = .ok (.putfield 22, 3) := by decide +kernel
theorem dX4_init_35 : decode cX4_init 35 = .ok (.return_, 1) := by decide +kernel
theorem dX4_takeFrom_0 : decode cX4_takeFrom 0 = .ok (.aload_n 1, 1) := by decide +kernel
theorem dX4_takeFrom_1 : decode cX4_takeFrom 1 = .ok (.getfield 25, 3) := by decide +kernel
theorem dX4_takeFrom_4 : decode cX4_takeFrom 4 = .ok (.iconst 0, 1) := by decide +kernel
theorem dX4_takeFrom_5 : decode cX4_takeFrom 5 = .ok (.aload_n 0, 1) := by decide +kernel
theorem dX4_takeFrom_6 : decode cX4_takeFrom 6 = .ok (.getfield 9, 3) := by decide +kernel
theorem dX4_takeFrom_9 : decode cX4_takeFrom 9 = .ok (.iconst 0, 1) := by decide +kernel
theorem dX4_takeFrom_10 : decode cX4_takeFrom 10 = .ok (.bipush 12, 2) := by decide +kernel
theorem dX4_takeFrom_12 : decode cX4_takeFrom 12 = .ok (.invokestatic 28, 3) := by decide +kernel
theorem dX4_takeFrom_15 : decode cX4_takeFrom 15 = .ok (.aload_n 1, 1) := by decide +kernel
theorem dX4_takeFrom_16 : decode cX4_takeFrom 16 = .ok (.getfield 34, 3) := by decide +kernel
theorem dX4_takeFrom_19 : decode cX4_takeFrom 19 = .ok (.iconst 0, 1) := by decide +kernel
theorem dX4_takeFrom_20 : decode cX4_takeFrom 20 = .ok (.aload_n 0, 1) := by decide +kernel
theorem dX4_takeFrom_21 : decode cX4_takeFrom 21 = .ok (.getfield 15, 3) := by decide +kernel
theorem dX4_takeFrom_24 : decode cX4_takeFrom 24 = .ok (.iconst 0, 1) := by decide +kernel
theorem dX4_takeFrom_25 : decode cX4_takeFrom 25 = .ok (.iconst 3, 1) := by decide +kernel
theorem dX4_takeFrom_26 : decode cX4_takeFrom 26 = .ok (.invokestatic 28, 3) := by decide +kernel
theorem dX4_takeFrom_29 : decode cX4_takeFrom 29 = .ok (.aload_n 1, 1) := by decide +kernel
theorem dX4_takeFrom_30 : decode cX4_takeFrom 30 = .ok (.getfield 35, 3) := by decide +kernel
theorem dX4_takeFrom_33 : decode cX4_takeFrom 33 = .ok (.iconst 0, 1) := by decide +kernel
theorem dX4_takeFrom_34 : decode cX4_takeFrom 34 = .ok (.aload_n 0, 1) := by decide +kernel
theorem dX4_takeFrom_35 : decode cX4_takeFrom 35 = .ok (.getfield 19, 3) := by decide +kernel
theorem dX4_takeFrom_38 : decode cX4_takeFrom 38 = .ok (.iconst 0, 1) := by decide +kernel
theorem dX4_takeFrom_39 : decode cX4_takeFrom 39 = .ok (.bipush 12, 2) := by decide +kernel
theorem dX4_takeFrom_41 : decode cX4_takeFrom 41 = .ok (.invokestatic 28, 3) := by decide +kernel
theorem dX4_takeFrom_44 : decode cX4_takeFrom 44 = .ok (.aload_n 2, 1) := by decide +kernel
theorem dX4_takeFrom_45 : decode cX4_takeFrom 45 = .ok (.getfield 36, 3) := by decide +kernel
theorem dX4_takeFrom_48 : decode cX4_takeFrom 48 = .ok (.iconst 0, 1) := by decide +kernel
theorem dX4_takeFrom_49 : decode cX4_takeFrom 49 = .ok (.aload_n 0, 1) := by decide +kernel
theorem dX4_takeFrom_50 : decode cX4_takeFrom 50 = .ok (.getfield 22, 3) := by decide +kernel
theorem dX4_takeFrom_53 : decode cX4_takeFrom 53 = .ok (.iconst 0, 1) := by decide +kernel
theorem dX4_takeFrom_54 : decode cX4_takeFrom 54 = .ok (.bipush 12, 2) := by decide +kernel
theorem dX4_takeFrom_56 : decode cX4_takeFrom 56 = .ok (.invokestatic 28, 3) := by decide +kernel
theorem dX4_takeFrom_59 : decode cX4_takeFrom 59 = .ok (.aload_n 0, 1) := by decide +kernel
theorem dX4_takeFrom_60 : decode cX4_takeFrom 60 = .ok (.aload_n 2, 1) := by decide +kernel
theorem dX4_takeFrom_61 : decode cX4_takeFrom 61 = .ok (.getfield 39, 3) := by decide +kernel
theorem dX4_takeFrom_64 : decode cX4_takeFrom 64 = .ok (.putfield 43, 3) := by decide +kernel
theorem dX4_takeFrom_67 : decode cX4_takeFrom 67 = .ok (.aload_n 0, 1) := by decide +kernel
theorem dX4_takeFrom_68 : decode cX4_takeFrom 68 = .ok (.aload_n 2, 1) := by decide +kernel
theorem dX4_takeFrom_69 : decode cX4_takeFrom 69 = .ok (.getfield 44, 3) := by decide +kernel
theorem dX4_takeFrom_72 : decode cX4_takeFrom 72 = .ok (.putfield 48, 3) := by decide +kernel
theorem dX4_takeFrom_75 : decode cX4_takeFrom 75 = .ok (.return_, 1) := by decide +kernel
theorem dX4_giveTo_0 : decode cX4_giveTo 0 = .ok (.aload_n 0, 1) := by decide +kernel
theorem dX4_giveTo_1 : decode cX4_giveTo 1 = .ok (.getfield 9, 3) := by decide +kernel
theorem dX4_giveTo_4 : decode cX4_giveTo 4 = .ok (.iconst 0, 1) := by decide +kernel
theorem dX4_giveTo_5 : decode cX4_giveTo 5 = .ok (.aload_n 1, 1) := by decide +kernel
theorem dX4_giveTo_6 : decode cX4_giveTo 6 = .ok (.getfield 25, 3) := by decide +kernel
theorem dX4_giveTo_9 : decode cX4_giveTo 9 = .ok (.iconst 0, 1) := by decide +kernel
theorem dX4_giveTo_10 : decode cX4_giveTo 10 = .ok (.bipush 12, 2) := by decide +kernel
theorem dX4_giveTo_12 : decode cX4_giveTo 12 = .ok (.invokestatic 28, 3) := by decide +kernel
theorem dX4_giveTo_15 : decode cX4_giveTo 15 = .ok (.aload_n 0, 1) := by decide +kernel
theorem dX4_giveTo_16 : decode cX4_giveTo 16 = .ok (.getfield 15, 3) := by decide +kernel
theorem dX4_giveTo_19 : decode cX4_giveTo 19 = .ok (.iconst 0, 1) := by decide +kernel
theorem dX4_giveTo_20 : decode cX4_giveTo 20 = .ok (.aload_n 1, 1) := by decide +kernel
theorem dX4_giveTo_21 : decode cX4_giveTo 21 = .ok (.getfield 34, 3) := by decide +kernel
theorem dX4_giveTo_24 : decode cX4_giveTo 24 = .ok (.iconst 0, 1) := by decide +kernel
theorem dX4_giveTo_25 : decode cX4_giveTo 25 = .ok (.iconst 3, 1) := by decide +kernel
theorem dX4_giveTo_26 : decode cX4_giveTo 26 = .ok (.invokestatic 28, 3) := by decide +kernel
theorem dX4_giveTo_29 : decode cX4_giveTo 29 = .ok (.aload_n 0, 1) := by decide +kernel
theorem dX4_giveTo_30 : decode cX4_giveTo 30 = .ok (.getfield 19, 3) := by decide +kernel
theorem dX4_giveTo_33 : decode cX4_giveTo 33 = .ok (.iconst 0, 1) := by decide +kernel
theorem dX4_giveTo_34 : decode cX4_giveTo 34 = .ok (.aload_n 1, 1) := by decide +kernel
theorem dX4_giveTo_35 : decode cX4_giveTo 35 = .ok (.getfield 35, 3) := by decide +kernel
theorem dX4_giveTo_38 : decode cX4_giveTo 38 = .ok (.iconst 0, 1) := by decide +kernel
theorem dX4_giveTo_39 : decode cX4_giveTo 39 = .ok (.bipush 12, 2) := by decide +kernel
theorem dX4_giveTo_41 : decode cX4_giveTo 41 = .ok (.invokestatic 28, 3) := by decide +kernel
theorem dX4_giveTo_44 : decode cX4_giveTo 44 = .ok (.aload_n 0, 1) := by decide +kernel
theorem dX4_giveTo_45 : decode cX4_giveTo 45 = .ok (.getfield 22, 3) := by decide +kernel
theorem dX4_giveTo_48 : decode cX4_giveTo 48 = .ok (.iconst 0, 1) := by decide +kernel
theorem dX4_giveTo_49 : decode cX4_giveTo 49 = .ok (.aload_n 2, 1) := by decide +kernel
theorem dX4_giveTo_50 : decode cX4_giveTo 50 = .ok (.getfield 36, 3) := by decide +kernel
theorem dX4_giveTo_53 : decode cX4_giveTo 53 = .ok (.iconst 0, 1) := by decide +kernel
theorem dX4_giveTo_54 : decode cX4_giveTo 54 = .ok (.bipush 12, 2) := by decide +kernel
theorem dX4_giveTo_56 : decode cX4_giveTo 56 = .ok (.invokestatic 28, 3) := by decide +kernel
theorem dX4_giveTo_59 : decode cX4_giveTo 59 = .ok (.aload_n 2, 1) := by decide +kernel
theorem dX4_giveTo_60 : decode cX4_giveTo 60 = .ok (.aload_n 0, 1) := by decide +kernel
theorem dX4_giveTo_61 : decode cX4_giveTo 61 = .ok (.getfield 43, 3) := by decide +kernel
theorem dX4_giveTo_64 : decode cX4_giveTo 64 = .ok (.putfield 39, 3) := by decide +kernel
theorem dX4_giveTo_67 : decode cX4_giveTo 67 = .ok (.aload_n 2, 1) := by decide +kernel
theorem dX4_giveTo_68 : decode cX4_giveTo 68 = .ok (.aload_n 0, 1) := by decide +kernel
theorem dX4_giveTo_69 : decode cX4_giveTo 69 = .ok (.getfield 48, 3) := by decide +kernel
theorem dX4_giveTo_72 : decode cX4_giveTo 72 = .ok (.putfield 44, 3) := by decide +kernel
theorem dX4_giveTo_75 : decode cX4_giveTo 75 = .ok (.return_, 1) := by decide +kernel
theorem dX5_init_0 : decode cX5_init 0 = .ok (.aload_n 0, 1) := by decide +kernel
theorem dX5_init_1 : decode cX5_init 1 = .ok (.invokespecial 3, 3) := by decide +kernel
theorem dX5_init_4 : decode cX5_init 4 = .ok (.aload_n 0, 1) := by decide +kernel
theorem dX5_init_5 : decode cX5_init 5 = .ok (.sipush 200, 3) := by decide +kernel
theorem dX5_init_8 : decode cX5_init 8 = .ok (.newarray .int, 2) := by decide +kernel
theorem dX5_init_10 : decode cX5_init 10 = .ok (.putfield 9, 3) := by decide +kernel
theorem dX5_init_13 : decode cX5_init 13 = .ok (.return_, 1) := by decide +kernel
theorem dX5_clear_0 : decode cX5_clear 0 = .ok (.aload_n 0, 1) := by decide +kernel
theorem dX5_clear_1 : decode cX5_clear 1 = .ok (.iconst 0, 1) := by decide +kernel
theorem dX5_clear_2 : decode cX5_clear 2 = .ok (.putfield 15, 3) := by decide +kernel
theorem dX5_clear_5 : decode cX5_clear 5 = .ok (.return_, 1) := by decide +kernel
theorem dX5_add_0 : decode cX5_add 0 = .ok (.aload_n 0, 1) := by decide +kernel
theorem dX5_add_1 : decode cX5_add 1 = .ok (.getfield 9, 3) := by decide +kernel
theorem dX5_add_4 : decode cX5_add 4 = .ok (.aload_n 0, 1) := by decide +kernel
theorem dX5_add_5 : decode cX5_add 5 = .ok (.getfield 15, 3) := by decide +kernel
theorem dX5_add_8 : decode cX5_add 8 = .ok (.iload_n 1, 1) := by decide +kernel
theorem dX5_add_9 : decode cX5_add 9 = .ok (.iastore, 1) := by decide +kernel
theorem dX5_add_10 : decode cX5_add 10 = .ok (.aload_n 0, 1) := by decide +kernel
theorem dX5_add_11 : decode cX5_add 11 = .ok (.dup, 1) := by decide +kernel
theorem dX5_add_12 : decode cX5_add 12 = .ok (.getfield 15, 3) := by decide +kernel
theorem dX5_add_15 : decode cX5_add 15 = .ok (.iconst 1, 1) := by decide +kernel
theorem dX5_add_16 : decode cX5_add 16 = .ok (.iadd, 1) := by decide +kernel
theorem dX5_add_17 : decode cX5_add 17 = .ok (.putfield 15, 3) := by decide +kernel
theorem dX5_add_20 : decode cX5_add 20 = .ok (.aload_n 0, 1) := by decide +kernel
theorem dX5_add_21 : decode cX5_add 21 = .ok (.getfield 15, 3) := by decide +kernel
theorem dX5_add_24 : decode cX5_add 24 = .ok (.ireturn, 1) := by decide +kernel
theorem dX5_isOrderOf_0 : decode cX5_isOrderOf 0 = .ok (.aload_n 0, 1) := by decide +kernel
theorem dX5_isOrderOf_1 : decode cX5_isOrderOf 1 = .ok (.getfield 15, 3) := by decide +kernel
theorem dX5_isOrderOf_4 : decode cX5_isOrderOf 4 = .ok (.iload_n 1, 1) := by decide +kernel
theorem dX5_isOrderOf_5 : decode cX5_isOrderOf 5 = .ok (.if_icmp .ne 9, 3) := by decide +kernel
theorem dX5_isOrderOf_8 : decode cX5_isOrderOf 8 = .ok (.iload_n 1, 1) := by decide +kernel
theorem dX5_isOrderOf_9 : decode cX5_isOrderOf 9 = .ok (.bipush 12, 2) := by decide +kernel
theorem dX5_isOrderOf_11 : decode cX5_isOrderOf 11 = .ok (.if_icmp .le 5, 3) := by decide +kernel
theorem dX5_isOrderOf_14 : decode cX5_isOrderOf 14 = .ok (.iconst 0, 1) := by decide +kernel
theorem dX5_isOrderOf_15 : decode cX5_isOrderOf 15 = .ok (.ireturn, 1) := by decide +kernel
theorem dX5_isOrderOf_16 : decode cX5_isOrderOf 16 = .ok (.iconst 0, 1) := by decide +kernel
theorem dX5_isOrderOf_17 : decode cX5_isOrderOf 17 = .ok (.istore_n 2, 1) := by decide +kernel
theorem dX5_isOrderOf_18 : decode cX5_isOrderOf 18 = .ok (.iconst 0, 1) := by decide +kernel
theorem dX5_isOrderOf_19 : decode cX5_isOrderOf 19 = .ok (.istore_n 3, 1) := by decide +kernel
theorem dX5_isOrderOf_20 : decode cX5_isOrderOf 20 = .ok (.iload_n 3, 1) := by decide +kernel
theorem dX5_isOrderOf_21 : decode cX5_isOrderOf 21 = .ok (.aload_n 0, 1) := by decide +kernel
theorem dX5_isOrderOf_22 : decode cX5_isOrderOf 22 = .ok (.getfield 15, 3) := by decide +kernel
theorem dX5_isOrderOf_25 : decode cX5_isOrderOf 25 = .ok (.if_icmp .ge 54, 3) := by decide +kernel
theorem dX5_isOrderOf_28 : decode cX5_isOrderOf 28 = .ok (.aload_n 0, 1) := by decide +kernel
theorem dX5_isOrderOf_29 : decode cX5_isOrderOf 29 = .ok (.getfield 9, 3) := by decide +kernel
theorem dX5_isOrderOf_32 : decode cX5_isOrderOf 32 = .ok (.iload_n 3, 1) := by decide +kernel
theorem dX5_isOrderOf_33 : decode cX5_isOrderOf 33 = .ok (.iaload, 1) := by decide +kernel
theorem dX5_isOrderOf_34 : decode cX5_isOrderOf 34 = .ok (.ifCond .lt 26, 3) := by decide +kernel
theorem dX5_isOrderOf_37 : decode cX5_isOrderOf 37 = .ok (.aload_n 0, 1) := by decide +kernel
theorem dX5_isOrderOf_38 : decode cX5_isOrderOf 38 = .ok (.getfield 9, 3) := by decide +kernel
theorem dX5_isOrderOf_41 : decode cX5_isOrderOf 41 = .ok (.iload_n 3, 1) := by decide +kernel
theorem dX5_isOrderOf_42 : decode cX5_isOrderOf 42 = .ok (.iaload, 1) := by decide +kernel
theorem dX5_isOrderOf_43 : decode cX5_isOrderOf 43 = .ok (.iload_n 1, 1) := by decide +kernel
theorem dX5_isOrderOf_44 : decode cX5_isOrderOf 44 = .ok (.if_icmp .ge 16, 3) := by decide +kernel
theorem dX5_isOrderOf_47 : decode cX5_isOrderOf 47 = .ok (.iload_n 2, 1) := by decide +kernel
theorem dX5_isOrderOf_48 : decode cX5_isOrderOf 48 = .ok (.iconst 1, 1) := by decide +kernel
theorem dX5_isOrderOf_49 : decode cX5_isOrderOf 49 = .ok (.aload_n 0, 1) := by decide +kernel
theorem dX5_isOrderOf_50 : decode cX5_isOrderOf 50 = .ok (.getfield 9, 3) := by decide +kernel
theorem dX5_isOrderOf_53 : decode cX5_isOrderOf 53 = .ok (.iload_n 3, 1) := by decide +kernel
theorem dX5_isOrderOf_54 : decode cX5_isOrderOf 54 = .ok (.iaload, 1) := by decide +kernel
theorem dX5_isOrderOf_55 : decode cX5_isOrderOf 55 = .ok (.ishl, 1) := by decide +kernel
theorem dX5_isOrderOf_56 : decode cX5_isOrderOf 56 = .ok (.iand, 1) := by decide +kernel
theorem dX5_isOrderOf_57 : decode cX5_isOrderOf 57 = .ok (.ifCond .eq 5, 3) := by decide +kernel
theorem dX5_isOrderOf_60 : decode cX5_isOrderOf 60 = .ok (.iconst 0, 1) := by decide +kernel
theorem dX5_isOrderOf_61 : decode cX5_isOrderOf 61 = .ok (.ireturn, 1) := by decide +kernel
theorem dX5_isOrderOf_62 : decode cX5_isOrderOf 62 = .ok (.iload_n 2, 1) := by decide +kernel
theorem dX5_isOrderOf_63 : decode cX5_isOrderOf 63 = .ok (.iconst 1, 1) := by decide +kernel
theorem dX5_isOrderOf_64 : decode cX5_isOrderOf 64 = .ok (.aload_n 0, 1) := by decide +kernel
theorem dX5_isOrderOf_65 : decode cX5_isOrderOf 65 = .ok (.getfield 9, 3) := by decide +kernel
theorem dX5_isOrderOf_68 : decode cX5_isOrderOf 68 = .ok (.iload_n 3, 1) := by decide +kernel
theorem dX5_isOrderOf_69 : decode cX5_isOrderOf 69 = .ok (.iaload, 1) := by decide +kernel
theorem dX5_isOrderOf_70 : decode cX5_isOrderOf 70 = .ok (.ishl, 1) := by decide +kernel
theorem dX5_isOrderOf_71 : decode cX5_isOrderOf 71 = .ok (.ior, 1) := by decide +kernel
theorem dX5_isOrderOf_72 : decode cX5_isOrderOf 72 = .ok (.istore_n 2, 1) := by decide +kernel
theorem dX5_isOrderOf_73 : decode cX5_isOrderOf 73 = .ok (.iinc 3 1, 3) := by decide +kernel
theorem dX5_isOrderOf_76 : decode cX5_isOrderOf 76 = .ok (.goto (-56), 3) := by decide +kernel
theorem dX5_isOrderOf_79 : decode cX5_isOrderOf 79 = .ok (.iconst 1, 1) := by decide +kernel
theorem dX5_isOrderOf_80 : decode cX5_isOrderOf 80 = .ok (.ireturn, 1) := by decide +kernel
theorem dX6_init_0 : decode cX6_init 0 = .ok (.aload_n 0, 1) := by decide +kernel
theorem dX6_init_1 : decode cX6_init 1 = .ok (.invokespecial 3, 3) := by decide +kernel
theorem dX6_init_4 : decode cX6_init 4 = .ok (.aload_n 0, 1) := by decide +kernel
theorem dX6_init_5 : decode cX6_init 5 = .ok (.new 9, 3) := by decide +kernel
theorem dX6_init_8 : decode cX6_init 8 = .ok (.dup, 1) := by decide +kernel
theorem dX6_init_9 : decode cX6_init 9 = .ok (.invokespecial 11, 3) := by decide +kernel
theorem dX6_init_12 : decode cX6_init 12 = .ok (.putfield 12, 3) := by decide +kernel
theorem dX6_init_15 : decode cX6_init 15 = .ok (.aload_n 0, 1) := by decide +kernel
theorem dX6_init_16 : decode cX6_init 16 = .ok (.bipush 12, 2) := by decide +kernel
theorem dX6_init_18 : decode cX6_init 18 = .ok (.newarray .int, 2) := by decide +kernel
theorem dX6_init_20 : decode cX6_init 20 = .ok (.putfield 18, 3) := by decide +kernel
theorem dX6_init_23 : decode cX6_init 23 = .ok (.aload_n 0, 1) := by decide +kernel
theorem dX6_init_24 : decode cX6_init 24 = .ok (.sipush 2400, 3) := by decide +kernel
theorem dX6_init_27 : decode cX6_init 27 = .ok (.newarray .int, 2) := by decide +kernel
theorem dX6_init_29 : decode cX6_init 29 = .ok (.putfield 22, 3) := by decide +kernel
theorem dX6_init_32 : decode cX6_init 32 = .ok (.return_, 1) := by decide +kernel
theorem dX6_clear_0 : decode cX6_clear 0 = .ok (.aload_n 0, 1) := by decide +kernel
theorem dX6_clear_1 : decode cX6_clear 1 = .ok (.iconst 0, 1) := by decide +kernel
theorem dX6_clear_2 : decode cX6_clear 2 = .ok (.putfield 25, 3) := by decide +kernel
theorem dX6_clear_5 : decode cX6_clear 5 = .ok (.return_, 1) := by decide +kernel
theorem dX6_grainsOf_0 : decode cX6_grainsOf 0 = .ok (.aload_n 0, 1) := by decide +kernel
theorem dX6_grainsOf_1 : decode cX6_grainsOf 1 = .ok (.getfield 22, 3) := by decide +kernel
theorem dX6_grainsOf_4 : decode cX6_grainsOf 4 = .ok (.iload_n 1, 1) := by decide +kernel
theorem dX6_grainsOf_5 : decode cX6_grainsOf 5 = .ok (.bipush 12, 2) := by decide +kernel
theorem dX6_grainsOf_7 : decode cX6_grainsOf 7 = .ok (.imul, 1) := by decide +kernel
theorem dX6_grainsOf_8 : decode cX6_grainsOf 8 = .ok (.iload_n 2, 1) := by decide +kernel
theorem dX6_grainsOf_9 : decode cX6_grainsOf 9 = .ok (.iadd, 1) := by decide +kernel
theorem dX6_grainsOf_10 : decode cX6_grainsOf 10 = .ok (.iaload, 1) := by decide +kernel
theorem dX6_grainsOf_11 : decode cX6_grainsOf 11 = .ok (.ireturn, 1) := by decide +kernel
theorem dX6_gather_0 : decode cX6_gather 0 = .ok (.aload_n 0, 1) := by decide +kernel
theorem dX6_gather_1 : decode cX6_gather 1 = .ok (.aload_n 1, 1) := by decide +kernel
theorem dX6_gather_2 : decode cX6_gather 2 = .ok (.iconst 0, 1) := by decide +kernel
theorem dX6_gather_3 : decode cX6_gather 3 = .ok (.invokevirtual 29, 3) := by decide +kernel
theorem dX6_gather_6 : decode cX6_gather 6 = .ok (.iconst 0, 1) := by decide +kernel
theorem dX6_gather_7 : decode cX6_gather 7 = .ok (.istore_n 2, 1) := by decide +kernel
theorem dX6_gather_8 : decode cX6_gather 8 = .ok (.iload_n 2, 1) := by decide +kernel
theorem dX6_gather_9 : decode cX6_gather 9 = .ok (.sipush 200, 3) := by decide +kernel
theorem dX6_gather_12 : decode cX6_gather 12 = .ok (.if_icmp .ge 44, 3) := by decide +kernel
theorem dX6_gather_15 : decode cX6_gather 15 = .ok (.aload_n 0, 1) := by decide +kernel
theorem dX6_gather_16 : decode cX6_gather 16 = .ok (.getfield 18, 3) := by decide +kernel
theorem dX6_gather_19 : decode cX6_gather 19 = .ok (.iconst 0, 1) := by decide +kernel
theorem dX6_gather_20 : decode cX6_gather 20 = .ok (.aload_n 0, 1) := by decide +kernel
theorem dX6_gather_21 : decode cX6_gather 21 = .ok (.getfield 22, 3) := by decide +kernel
theorem dX6_gather_24 : decode cX6_gather 24 = .ok (.iload_n 2, 1) := by decide +kernel
theorem dX6_gather_25 : decode cX6_gather 25 = .ok (.bipush 12, 2) := by decide +kernel
theorem dX6_gather_27 : decode cX6_gather 27 = .ok (.imul, 1) := by decide +kernel
theorem dX6_gather_28 : decode cX6_gather 28 = .ok (.bipush 12, 2) := by decide +kernel
theorem dX6_gather_30 : decode cX6_gather 30 = .ok (.invokestatic 33, 3) := by decide +kernel
theorem dX6_gather_33 : decode cX6_gather 33 = .ok (.aload_n 0, 1) := by decide +kernel
theorem dX6_gather_34 : decode cX6_gather 34 = .ok (.aload_n 1, 1) := by decide +kernel
theorem dX6_gather_35 : decode cX6_gather 35 = .ok (.invokevirtual 39, 3) := by decide +kernel
theorem dX6_gather_38 : decode cX6_gather 38 = .ok (.ifCond .ne 12, 3) := by decide +kernel
theorem dX6_gather_41 : decode cX6_gather 41 = .ok (.aload_n 0, 1) := by decide +kernel
theorem dX6_gather_42 : decode cX6_gather 42 = .ok (.iload_n 2, 1) := by decide +kernel
theorem dX6_gather_43 : decode cX6_gather 43 = .ok (.iconst 1, 1) := by decide +kernel
theorem dX6_gather_44 : decode cX6_gather 44 = .ok (.iadd, 1) := by decide +kernel
theorem dX6_gather_45 : decode cX6_gather 45 = .ok (.putfield 25, 3) := by decide +kernel
theorem dX6_gather_48 : decode cX6_gather 48 = .ok (.iconst 1, 1) := by decide +kernel
theorem dX6_gather_49 : decode cX6_gather 49 = .ok (.ireturn, 1) := by decide +kernel
theorem dX6_gather_50 : decode cX6_gather 50 = .ok (.iinc 2 1, 3) := by decide +kernel
theorem dX6_gather_53 : decode cX6_gather 53 = .ok (.goto (-45), 3) := by decide +kernel
theorem dX6_gather_56 : decode cX6_gather 56 = .ok (.iconst 0, 1) := by decide +kernel
theorem dX6_gather_57 : decode cX6_gather 57 = .ok (.ireturn, 1) := by decide +kernel
theorem dX6_leastFrom_0 : decode cX6_leastFrom 0 = .ok (.iload_n 2, 1) := by decide +kernel
theorem dX6_leastFrom_1 : decode cX6_leastFrom 1 = .ok (.istore_n 3, 1) := by decide +kernel
theorem dX6_leastFrom_2 : decode cX6_leastFrom 2 = .ok (.iload_n 3, 1) := by decide +kernel
theorem dX6_leastFrom_3 : decode cX6_leastFrom 3 = .ok (.aload_n 1, 1) := by decide +kernel
theorem dX6_leastFrom_4 : decode cX6_leastFrom 4 = .ok (.getfield 43, 3) := by decide +kernel
theorem dX6_leastFrom_7 : decode cX6_leastFrom 7 = .ok (.if_icmp .ge 23, 3) := by decide +kernel
theorem dX6_leastFrom_10 : decode cX6_leastFrom 10 = .ok (.aload_n 0, 1) := by decide +kernel
theorem dX6_leastFrom_11 : decode cX6_leastFrom 11 = .ok (.getfield 18, 3) := by decide +kernel
theorem dX6_leastFrom_14 : decode cX6_leastFrom 14 = .ok (.iload_n 3, 1) := by decide +kernel
theorem dX6_leastFrom_15 : decode cX6_leastFrom 15 = .ok (.aload_n 1, 1) := by decide +kernel
theorem dX6_leastFrom_16 : decode cX6_leastFrom 16 = .ok (.getfield 48, 3) := by decide +kernel
theorem dX6_leastFrom_19 : decode cX6_leastFrom 19 = .ok (.iload_n 3, 1) := by decide +kernel
theorem dX6_leastFrom_20 : decode cX6_leastFrom 20 = .ok (.iaload, 1) := by decide +kernel
theorem dX6_leastFrom_21 : decode cX6_leastFrom 21 = .ok (.iconst 1, 1) := by decide +kernel
theorem dX6_leastFrom_22 : decode cX6_leastFrom 22 = .ok (.isub, 1) := by decide +kernel
theorem dX6_leastFrom_23 : decode cX6_leastFrom 23 = .ok (.iastore, 1) := by decide +kernel
theorem dX6_leastFrom_24 : decode cX6_leastFrom 24 = .ok (.iinc 3 1, 3) := by decide +kernel
theorem dX6_leastFrom_27 : decode cX6_leastFrom 27 = .ok (.goto (-25), 3) := by decide +kernel
theorem dX6_leastFrom_30 : decode cX6_leastFrom 30 = .ok (.iload_n 2, 1) := by decide +kernel
theorem dX6_leastFrom_31 : decode cX6_leastFrom 31 = .ok (.istore_n 3, 1) := by decide +kernel
theorem dX6_leastFrom_32 : decode cX6_leastFrom 32 = .ok (.iload_n 3, 1) := by decide +kernel
theorem dX6_leastFrom_33 : decode cX6_leastFrom 33 = .ok (.aload_n 1, 1) := by decide +kernel
theorem dX6_leastFrom_34 : decode cX6_leastFrom 34 = .ok (.getfield 43, 3) := by decide +kernel
theorem dX6_leastFrom_37 : decode cX6_leastFrom 37 = .ok (.if_icmp .ge 40, 3) := by decide +kernel
theorem dX6_leastFrom_40 : decode cX6_leastFrom 40 = .ok (.aload_n 0, 1) := by decide +kernel
theorem dX6_leastFrom_41 : decode cX6_leastFrom 41 = .ok (.getfield 12, 3) := by decide +kernel
theorem dX6_leastFrom_44 : decode cX6_leastFrom 44 = .ok (.aload_n 1, 1) := by decide +kernel
theorem dX6_leastFrom_45 : decode cX6_leastFrom 45 = .ok (.aload_n 0, 1) := by decide +kernel
theorem dX6_leastFrom_46 : decode cX6_leastFrom 46 = .ok (.getfield 18, 3) := by decide +kernel
theorem dX6_leastFrom_49 : decode cX6_leastFrom 49 = .ok (.iload_n 3, 1) := by decide +kernel
theorem dX6_leastFrom_50 : decode cX6_leastFrom 50 = .ok (.invokevirtual 51, 3) := by decide +kernel
theorem dX6_leastFrom_53 : decode cX6_leastFrom 53 = .ok (.aload_n 0, 1) := by decide +kernel
theorem dX6_leastFrom_54 : decode cX6_leastFrom 54 = .ok (.getfield 18, 3) := by decide +kernel
theorem dX6_leastFrom_57 : decode cX6_leastFrom 57 = .ok (.iload_n 3, 1) := by decide +kernel
theorem dX6_leastFrom_58 : decode cX6_leastFrom 58 = .ok (.aload_n 1, 1) := by decide +kernel
theorem dX6_leastFrom_59 : decode cX6_leastFrom 59 = .ok (.iload_n 3, 1) := by decide +kernel
theorem dX6_leastFrom_60 : decode cX6_leastFrom 60 = .ok (.aload_n 0, 1) := by decide +kernel
theorem dX6_leastFrom_61 : decode cX6_leastFrom 61 = .ok (.getfield 12, 3) := by decide +kernel
theorem dX6_leastFrom_64 : decode cX6_leastFrom 64 = .ok (.getfield 55, 3) := by decide +kernel
theorem dX6_leastFrom_67 : decode cX6_leastFrom 67 = .ok (.invokevirtual 58, 3) := by decide +kernel
theorem dX6_leastFrom_70 : decode cX6_leastFrom 70 = .ok (.iastore, 1) := by decide +kernel
theorem dX6_leastFrom_71 : decode cX6_leastFrom 71 = .ok (.iinc 3 1, 3) := by decide +kernel
theorem dX6_leastFrom_74 : decode cX6_leastFrom 74 = .ok (.goto (-42), 3) := by decide +kernel
theorem dX6_leastFrom_77 : decode cX6_leastFrom 77 = .ok (.return_, 1) := by decide +kernel
theorem dX6_stepOn_0 : decode cX6_stepOn 0 = .ok (.aload_n 1, 1) := by decide +kernel
theorem dX6_stepOn_1 : decode cX6_stepOn 1 = .ok (.getfield 43, 3) := by decide +kernel
theorem dX6_stepOn_4 : decode cX6_stepOn 4 = .ok (.iconst 1, 1) := by decide +kernel
theorem dX6_stepOn_5 : decode cX6_stepOn 5 = .ok (.isub, 1) := by decide +kernel
theorem dX6_stepOn_6 : decode cX6_stepOn 6 = .ok (.istore_n 2, 1) := by decide +kernel
theorem dX6_stepOn_7 : decode cX6_stepOn 7 = .ok (.iload_n 2, 1) := by decide +kernel
theorem dX6_stepOn_8 : decode cX6_stepOn 8 = .ok (.ifCond .lt 46, 3) := by decide +kernel
theorem dX6_stepOn_11 : decode cX6_stepOn 11 = .ok (.aload_n 0, 1) := by decide +kernel
theorem dX6_stepOn_12 : decode cX6_stepOn 12 = .ok (.getfield 18, 3) := by decide +kernel
theorem dX6_stepOn_15 : decode cX6_stepOn 15 = .ok (.iload_n 2, 1) := by decide +kernel
theorem dX6_stepOn_16 : decode cX6_stepOn 16 = .ok (.iaload, 1) := by decide +kernel
theorem dX6_stepOn_17 : decode cX6_stepOn 17 = .ok (.aload_n 1, 1) := by decide +kernel
theorem dX6_stepOn_18 : decode cX6_stepOn 18 = .ok (.getfield 48, 3) := by decide +kernel
theorem dX6_stepOn_21 : decode cX6_stepOn 21 = .ok (.iload_n 2, 1) := by decide +kernel
theorem dX6_stepOn_22 : decode cX6_stepOn 22 = .ok (.iaload, 1) := by decide +kernel
theorem dX6_stepOn_23 : decode cX6_stepOn 23 = .ok (.iconst 1, 1) := by decide +kernel
theorem dX6_stepOn_24 : decode cX6_stepOn 24 = .ok (.isub, 1) := by decide +kernel
theorem dX6_stepOn_25 : decode cX6_stepOn 25 = .ok (.if_icmp .ge 23, 3) := by decide +kernel
theorem dX6_stepOn_28 : decode cX6_stepOn 28 = .ok (.aload_n 0, 1) := by decide +kernel
theorem dX6_stepOn_29 : decode cX6_stepOn 29 = .ok (.getfield 18, 3) := by decide +kernel
theorem dX6_stepOn_32 : decode cX6_stepOn 32 = .ok (.iload_n 2, 1) := by decide +kernel
theorem dX6_stepOn_33 : decode cX6_stepOn 33 = .ok (.dup2, 1) := by decide +kernel
theorem dX6_stepOn_34 : decode cX6_stepOn 34 = .ok (.iaload, 1) := by decide +kernel
theorem dX6_stepOn_35 : decode cX6_stepOn 35 = .ok (.iconst 1, 1) := by decide +kernel
theorem dX6_stepOn_36 : decode cX6_stepOn 36 = .ok (.iadd, 1) := by decide +kernel
theorem dX6_stepOn_37 : decode cX6_stepOn 37 = .ok (.iastore, 1) := by decide +kernel
theorem dX6_stepOn_38 : decode cX6_stepOn 38 = .ok (.aload_n 0, 1) := by decide +kernel
theorem dX6_stepOn_39 : decode cX6_stepOn 39 = .ok (.aload_n 1, 1) := by decide +kernel
theorem dX6_stepOn_40 : decode cX6_stepOn 40 = .ok (.iload_n 2, 1) := by decide +kernel
theorem dX6_stepOn_41 : decode cX6_stepOn 41 = .ok (.iconst 1, 1) := by decide +kernel
theorem dX6_stepOn_42 : decode cX6_stepOn 42 = .ok (.iadd, 1) := by decide +kernel
theorem dX6_stepOn_43 : decode cX6_stepOn 43 = .ok (.invokevirtual 29, 3) := by decide +kernel
theorem dX6_stepOn_46 : decode cX6_stepOn 46 = .ok (.iconst 1, 1) := by decide +kernel
theorem dX6_stepOn_47 : decode cX6_stepOn 47 = .ok (.ireturn, 1) := by decide +kernel
theorem dX6_stepOn_48 : decode cX6_stepOn 48 = .ok (.iinc 2 (-1), 3) := by decide +kernel
theorem dX6_stepOn_51 : decode cX6_stepOn 51 = .ok (.goto (-44), 3) := by decide +kernel
theorem dX6_stepOn_54 : decode cX6_stepOn 54 = .ok (.iconst 0, 1) := by decide +kernel
theorem dX6_stepOn_55 : decode cX6_stepOn 55 = .ok (.ireturn, 1) := by decide +kernel
theorem dX7_init_0 : decode cX7_init 0 = .ok (.aload_n 0, 1) := by decide +kernel
theorem dX7_init_1 : decode cX7_init 1 = .ok (.invokespecial 3, 3) := by decide +kernel
theorem dX7_init_4 : decode cX7_init 4 = .ok (.aload_n 0, 1) := by decide +kernel
theorem dX7_init_5 : decode cX7_init 5 = .ok (.bipush 12, 2) := by decide +kernel
theorem dX7_init_7 : decode cX7_init 7 = .ok (.newarray .int, 2) := by decide +kernel
theorem dX7_init_9 : decode cX7_init 9 = .ok (.putfield 9, 3) := by decide +kernel
theorem dX7_init_12 : decode cX7_init 12 = .ok (.aload_n 0, 1) := by decide +kernel
theorem dX7_init_13 : decode cX7_init 13 = .ok (.bipush 12, 2) := by decide +kernel
theorem dX7_init_15 : decode cX7_init 15 = .ok (.bipush 15, 2) := by decide +kernel
theorem dX7_init_17 : decode cX7_init 17 = .ok (.multianewarray 15 2, 4) := by decide +kernel
theorem dX7_init_21 : decode cX7_init 21 = .ok (.putfield 17, 3) := by decide +kernel
theorem dX7_init_24 : decode cX7_init 24 = .ok (.aload_n 0, 1) := by decide +kernel
theorem dX7_init_25 : decode cX7_init 25 = .ok (.bipush 12, 2) := by decide +kernel
theorem dX7_init_27 : decode cX7_init 27 = .ok (.newarray .int, 2) := by decide +kernel
theorem dX7_init_29 : decode cX7_init 29 = .ok (.putfield 20, 3) := by decide +kernel
theorem dX7_init_32 : decode cX7_init 32 = .ok (.return_, 1) := by decide +kernel
theorem dX7_clear_0 : decode cX7_clear 0 = .ok (.iconst 0, 1) := by decide +kernel
theorem dX7_clear_1 : decode cX7_clear 1 = .ok (.istore_n 1, 1) := by decide +kernel
theorem dX7_clear_2 : decode cX7_clear 2 = .ok (.iload_n 1, 1) := by decide +kernel
theorem dX7_clear_3 : decode cX7_clear 3 = .ok (.bipush 12, 2) := by decide +kernel
theorem dX7_clear_5 : decode cX7_clear 5 = .ok (.if_icmp .ge 46, 3) := by decide +kernel
theorem dX7_clear_8 : decode cX7_clear 8 = .ok (.aload_n 0, 1) := by decide +kernel
theorem dX7_clear_9 : decode cX7_clear 9 = .ok (.getfield 9, 3) := by decide +kernel
theorem dX7_clear_12 : decode cX7_clear 12 = .ok (.iload_n 1, 1) := by decide +kernel
theorem dX7_clear_13 : decode cX7_clear 13 = .ok (.iconst 0, 1) := by decide +kernel
theorem dX7_clear_14 : decode cX7_clear 14 = .ok (.iastore, 1) := by decide +kernel
theorem dX7_clear_15 : decode cX7_clear 15 = .ok (.aload_n 0, 1) := by decide +kernel
theorem dX7_clear_16 : decode cX7_clear 16 = .ok (.getfield 20, 3) := by decide +kernel
theorem dX7_clear_19 : decode cX7_clear 19 = .ok (.iload_n 1, 1) := by decide +kernel
theorem dX7_clear_20 : decode cX7_clear 20 = .ok (.iconst 0, 1) := by decide +kernel
theorem dX7_clear_21 : decode cX7_clear 21 = .ok (.iastore, 1) := by decide +kernel
theorem dX7_clear_22 : decode cX7_clear 22 = .ok (.iconst 0, 1) := by decide +kernel
theorem dX7_clear_23 : decode cX7_clear 23 = .ok (.istore_n 2, 1) := by decide +kernel
theorem dX7_clear_24 : decode cX7_clear 24 = .ok (.iload_n 2, 1) := by decide +kernel
theorem dX7_clear_25 : decode cX7_clear 25 = .ok (.bipush 15, 2) := by decide +kernel
theorem dX7_clear_27 : decode cX7_clear 27 = .ok (.if_icmp .ge 18, 3) := by decide +kernel
theorem dX7_clear_30 : decode cX7_clear 30 = .ok (.aload_n 0, 1) := by decide +kernel
theorem dX7_clear_31 : decode cX7_clear 31 = .ok (.getfield 17, 3) := by decide +kernel
theorem dX7_clear_34 : decode cX7_clear 34 = .ok (.iload_n 1, 1) := by decide +kernel
theorem dX7_clear_35 : decode cX7_clear 35 = .ok (.aaload, 1) := by decide +kernel
theorem dX7_clear_36 : decode cX7_clear 36 = .ok (.iload_n 2, 1) := by decide +kernel
theorem dX7_clear_37 : decode cX7_clear 37 = .ok (.iconst 0, 1) := by decide +kernel
theorem dX7_clear_38 : decode cX7_clear 38 = .ok (.iastore, 1) := by decide +kernel
theorem dX7_clear_39 : decode cX7_clear 39 = .ok (.iinc 2 1, 3) := by decide +kernel
theorem dX7_clear_42 : decode cX7_clear 42 = .ok (.goto (-18), 3) := by decide +kernel
theorem dX7_clear_45 : decode cX7_clear 45 = .ok (.iinc 1 1, 3) := by decide +kernel
theorem dX7_clear_48 : decode cX7_clear 48 = .ok (.goto (-46), 3) := by decide +kernel
theorem dX7_clear_51 : decode cX7_clear 51 = .ok (.aload_n 0, 1) := by decide +kernel
theorem dX7_clear_52 : decode cX7_clear 52 = .ok (.iconst 0, 1) := by decide +kernel
theorem dX7_clear_53 : decode cX7_clear 53 = .ok (.putfield 23, 3) := by decide +kernel
theorem dX7_clear_56 : decode cX7_clear 56 = .ok (.return_, 1) := by decide +kernel
theorem dX7_has_0 : decode cX7_has 0 = .ok (.iload_n 1, 1) := by decide +kernel
theorem dX7_has_1 : decode cX7_has 1 = .ok (.ifCond .lt 15, 3) := by decide +kernel
theorem dX7_has_4 : decode cX7_has 4 = .ok (.iload_n 1, 1) := by decide +kernel
theorem dX7_has_5 : decode cX7_has 5 = .ok (.aload_n 0, 1) := by decide +kernel
theorem dX7_has_6 : decode cX7_has 6 = .ok (.getfield 23, 3) := by decide +kernel
theorem dX7_has_9 : decode cX7_has 9 = .ok (.if_icmp .ge 7, 3) := by decide +kernel
theorem dX7_has_12 : decode cX7_has 12 = .ok (.iconst 1, 1) := by decide +kernel
theorem dX7_has_13 : decode cX7_has 13 = .ok (.goto 4, 3) := by decide +kernel
theorem dX7_has_16 : decode cX7_has 16 = .ok (.iconst 0, 1) := by decide +kernel
theorem dX7_has_17 : decode cX7_has 17 = .ok (.ireturn, 1) := by decide +kernel
theorem dX7_isDitch_0 : decode cX7_isDitch 0 = .ok (.iload_n 1, 1) := by decide +kernel
theorem dX7_isDitch_1 : decode cX7_isDitch 1 = .ok (.ifCond .ge 13, 3) := by decide +kernel
theorem dX7_isDitch_4 : decode cX7_isDitch 4 = .ok (.iload_n 1, 1) := by decide +kernel
theorem dX7_isDitch_5 : decode cX7_isDitch 5 = .ok (.bipush (-3), 2) := by decide +kernel
theorem dX7_isDitch_7 : decode cX7_isDitch 7 = .ok (.if_icmp .lt 7, 3) := by decide +kernel
theorem dX7_isDitch_10 : decode cX7_isDitch 10 = .ok (.iconst 1, 1) := by decide +kernel
theorem dX7_isDitch_11 : decode cX7_isDitch 11 = .ok (.goto 4, 3) := by decide +kernel
theorem dX7_isDitch_14 : decode cX7_isDitch 14 = .ok (.iconst 0, 1) := by decide +kernel
theorem dX7_isDitch_15 : decode cX7_isDitch 15 = .ok (.ireturn, 1) := by decide +kernel
theorem dX7_hasEnd_0 : decode cX7_hasEnd 0 = .ok (.aload_n 0, 1) := by decide +kernel
theorem dX7_hasEnd_1 : decode cX7_hasEnd 1 = .ok (.iload_n 1, 1) := by decide +kernel
theorem dX7_hasEnd_2 : decode cX7_hasEnd 2 = .ok (.invokevirtual 27, 3) := by decide +kernel
theorem dX7_hasEnd_5 : decode cX7_hasEnd 5 = .ok (.ifCond .ne 11, 3) := by decide +kernel
theorem dX7_hasEnd_8 : decode cX7_hasEnd 8 = .ok (.aload_n 0, 1) := by decide +kernel
theorem dX7_hasEnd_9 : decode cX7_hasEnd 9 = .ok (.iload_n 1, 1) := by decide +kernel
theorem dX7_hasEnd_10 : decode cX7_hasEnd 10 = .ok (.invokevirtual 31, 3) := by decide +kernel
theorem dX7_hasEnd_13 : decode cX7_hasEnd 13 = .ok (.ifCond .eq 7, 3) := by decide +kernel
theorem dX7_hasEnd_16 : decode cX7_hasEnd 16 = .ok (.iconst 1, 1) := by decide +kernel
theorem dX7_hasEnd_17 : decode cX7_hasEnd 17 = .ok (.goto 4, 3) := by decide +kernel
theorem dX7_hasEnd_20 : decode cX7_hasEnd 20 = .ok (.iconst 0, 1) := by decide +kernel
theorem dX7_hasEnd_21 : decode cX7_hasEnd 21 = .ok (.ireturn, 1) := by decide +kernel
theorem dX7_endOf_0 : decode cX7_endOf 0 = .ok (.iload_n 1, 1) := by decide +kernel
theorem dX7_endOf_1 : decode cX7_endOf 1 = .ok (.ifCond .lt 7, 3) := by decide +kernel
theorem dX7_endOf_4 : decode cX7_endOf 4 = .ok (.iload_n 1, 1) := by decide +kernel
theorem dX7_endOf_5 : decode cX7_endOf 5 = .ok (.goto 7, 3) := by decide +kernel
theorem dX7_endOf_8 : decode cX7_endOf 8 = .ok (.bipush 11, 2) := by decide +kernel
theorem dX7_endOf_10 : decode cX7_endOf 10 = .ok (.iload_n 1, 1) := by decide +kernel
theorem dX7_endOf_11 : decode cX7_endOf 11 = .ok (.isub, 1) := by decide +kernel
theorem dX7_endOf_12 : decode cX7_endOf 12 = .ok (.ireturn, 1) := by decide +kernel
theorem dX7_addPlace_0 : decode cX7_addPlace 0 = .ok (.aload_n 0, 1) := by decide +kernel
theorem dX7_addPlace_1 : decode cX7_addPlace 1 = .ok (.getfield 9, 3) := by decide +kernel
theorem dX7_addPlace_4 : decode cX7_addPlace 4 = .ok (.aload_n 0, 1) := by decide +kernel
theorem dX7_addPlace_5 : decode cX7_addPlace 5 = .ok (.getfield 23, 3) := by decide +kernel
theorem dX7_addPlace_8 : decode cX7_addPlace 8 = .ok (.iload_n 1, 1) := by decide +kernel
theorem dX7_addPlace_9 : decode cX7_addPlace 9 = .ok (.iastore, 1) := by decide +kernel
theorem dX7_addPlace_10 : decode cX7_addPlace 10 = .ok (.aload_n 0, 1) := by decide +kernel
theorem dX7_addPlace_11 : decode cX7_addPlace 11 = .ok (.dup, 1) := by decide +kernel
theorem dX7_addPlace_12 : decode cX7_addPlace 12 = .ok (.getfield 23, 3) := by decide +kernel
theorem dX7_addPlace_15 : decode cX7_addPlace 15 = .ok (.iconst 1, 1) := by decide +kernel
theorem dX7_addPlace_16 : decode cX7_addPlace 16 = .ok (.iadd, 1) := by decide +kernel
theorem dX7_addPlace_17 : decode cX7_addPlace 17 = .ok (.putfield 23, 3) := by decide +kernel
theorem dX7_addPlace_20 : decode cX7_addPlace 20 = .ok (.aload_n 0, 1) := by decide +kernel
theorem dX7_addPlace_21 : decode cX7_addPlace 21 = .ok (.getfield 23, 3) := by decide +kernel
theorem dX7_addPlace_24 : decode cX7_addPlace 24 = .ok (.iconst 1, 1) := by decide +kernel
theorem dX7_addPlace_25 : decode cX7_addPlace 25 = .ok (.isub, 1) := by decide +kernel
theorem dX7_addPlace_26 : decode cX7_addPlace 26 = .ok (.ireturn, 1) := by decide +kernel
theorem dX7_addWay_0 : decode cX7_addWay 0 = .ok (.aload_n 0, 1) := by decide +kernel
theorem dX7_addWay_1 : decode cX7_addWay 1 = .ok (.getfield 17, 3) := by decide +kernel
theorem dX7_addWay_4 : decode cX7_addWay 4 = .ok (.iload_n 1, 1) := by decide +kernel
theorem dX7_addWay_5 : decode cX7_addWay 5 = .ok (.aaload, 1) := by decide +kernel
theorem dX7_addWay_6 : decode cX7_addWay 6 = .ok (.aload_n 0, 1) := by decide +kernel
theorem dX7_addWay_7 : decode cX7_addWay 7 = .ok (.iload_n 2, 1) := by decide +kernel
theorem dX7_addWay_8 : decode cX7_addWay 8 = .ok (.invokevirtual 34, 3) := by decide +kernel
theorem dX7_addWay_11 : decode cX7_addWay 11 = .ok (.dup2, 1) := by decide +kernel
theorem dX7_addWay_12 : decode cX7_addWay 12 = .ok (.iaload, 1) := by decide +kernel
theorem dX7_addWay_13 : decode cX7_addWay 13 = .ok (.iload_n 3, 1) := by decide +kernel
theorem dX7_addWay_14 : decode cX7_addWay 14 = .ok (.iadd, 1) := by decide +kernel
theorem dX7_addWay_15 : decode cX7_addWay 15 = .ok (.iastore, 1) := by decide +kernel
theorem dX7_addWay_16 : decode cX7_addWay 16 = .ok (.aload_n 0, 1) := by decide +kernel
theorem dX7_addWay_17 : decode cX7_addWay 17 = .ok (.getfield 20, 3) := by decide +kernel
theorem dX7_addWay_20 : decode cX7_addWay 20 = .ok (.iload_n 1, 1) := by decide +kernel
theorem dX7_addWay_21 : decode cX7_addWay 21 = .ok (.dup2, 1) := by decide +kernel
theorem dX7_addWay_22 : decode cX7_addWay 22 = .ok (.iaload, 1) := by decide +kernel
theorem dX7_addWay_23 : decode cX7_addWay 23 = .ok (.iload_n 3, 1) := by decide +kernel
theorem dX7_addWay_24 : decode cX7_addWay 24 = .ok (.iadd, 1) := by decide +kernel
theorem dX7_addWay_25 : decode cX7_addWay 25 = .ok (.iastore, 1) := by decide +kernel
theorem dX7_addWay_26 : decode cX7_addWay 26 = .ok (.aload_n 0, 1) := by decide +kernel
theorem dX7_addWay_27 : decode cX7_addWay 27 = .ok (.getfield 20, 3) := by decide +kernel
theorem dX7_addWay_30 : decode cX7_addWay 30 = .ok (.iload_n 1, 1) := by decide +kernel
theorem dX7_addWay_31 : decode cX7_addWay 31 = .ok (.iaload, 1) := by decide +kernel
theorem dX7_addWay_32 : decode cX7_addWay 32 = .ok (.ireturn, 1) := by decide +kernel
theorem dX7_weightBetween_0 : decode cX7_weightBetween 0 = .ok (.aload_n 0, 1) := by decide +kernel
theorem dX7_weightBetween_1 : decode cX7_weightBetween 1 = .ok (.getfield 17, 3) := by decide +kernel
theorem dX7_weightBetween_4 : decode cX7_weightBetween 4 = .ok (.iload_n 1, 1) := by decide +kernel
theorem dX7_weightBetween_5 : decode cX7_weightBetween 5 = .ok (.aaload, 1) := by decide +kernel
theorem dX7_weightBetween_6 : decode cX7_weightBetween 6 = .ok (.aload_n 0, 1) := by decide +kernel
theorem dX7_weightBetween_7 : decode cX7_weightBetween 7 = .ok (.iload_n 2, 1) := by decide +kernel
theorem dX7_weightBetween_8 : decode cX7_weightBetween 8 = .ok (.invokevirtual 34, 3) := by decide +kernel
theorem dX7_weightBetween_11 : decode cX7_weightBetween 11 = .ok (.iaload, 1) := by decide +kernel
theorem dX7_weightBetween_12 : decode cX7_weightBetween 12 = .ok (.ireturn, 1) := by decide +kernel
theorem dX7_isOf_0 : decode cX7_isOf 0 = .ok (.aload_n 0, 1) := by decide +kernel
theorem dX7_isOf_1 : decode cX7_isOf 1 = .ok (.getfield 9, 3) := by decide +kernel
theorem dX7_isOf_4 : decode cX7_isOf 4 = .ok (.iload_n 1, 1) := by decide +kernel
theorem dX7_isOf_5 : decode cX7_isOf 5 = .ok (.iaload, 1) := by decide +kernel
theorem dX7_isOf_6 : decode cX7_isOf 6 = .ok (.istore_n 3, 1) := by decide +kernel
theorem dX7_isOf_7 : decode cX7_isOf 7 = .ok (.iconst 0, 1) := by decide +kernel
theorem dX7_isOf_8 : decode cX7_isOf 8 = .ok (.istore 4, 2) := by decide +kernel
theorem dX7_isOf_10 : decode cX7_isOf 10 = .ok (.iload 4, 2) := by decide +kernel
theorem dX7_isOf_12 : decode cX7_isOf 12 = .ok (.iconst 5, 1) := by decide +kernel
theorem dX7_isOf_13 : decode cX7_isOf 13 = .ok (.if_icmp .ge 26, 3) := by decide +kernel
theorem dX7_isOf_16 : decode cX7_isOf 16 = .ok (.iload_n 3, 1) := by decide +kernel
theorem dX7_isOf_17 : decode cX7_isOf 17 = .ok (.ifCond .lt 22, 3) := by decide +kernel
theorem dX7_isOf_20 : decode cX7_isOf 20 = .ok (.iload_n 3, 1) := by decide +kernel
theorem dX7_isOf_21 : decode cX7_isOf 21 = .ok (.iload_n 2, 1) := by decide +kernel
theorem dX7_isOf_22 : decode cX7_isOf 22 = .ok (.if_icmp .ne 5, 3) := by decide +kernel
theorem dX7_isOf_25 : decode cX7_isOf 25 = .ok (.iconst 1, 1) := by decide +kernel
theorem dX7_isOf_26 : decode cX7_isOf 26 = .ok (.ireturn, 1) := by decide +kernel
theorem dX7_isOf_27 : decode cX7_isOf 27 = .ok (.getstatic 38, 3) := by decide +kernel
theorem dX7_isOf_30 : decode cX7_isOf 30 = .ok (.iload_n 3, 1) := by decide +kernel
theorem dX7_isOf_31 : decode cX7_isOf 31 = .ok (.iaload, 1) := by decide +kernel
theorem dX7_isOf_32 : decode cX7_isOf 32 = .ok (.istore_n 3, 1) := by decide +kernel
theorem dX7_isOf_33 : decode cX7_isOf 33 = .ok (.iinc 4 1, 3) := by decide +kernel
theorem dX7_isOf_36 : decode cX7_isOf 36 = .ok (.goto (-26), 3) := by decide +kernel
theorem dX7_isOf_39 : decode cX7_isOf 39 = .ok (.iconst 0, 1) := by decide +kernel
theorem dX7_isOf_40 : decode cX7_isOf 40 = .ok (.ireturn, 1) := by decide +kernel
theorem dX7_bitsOfAll_0 : decode cX7_bitsOfAll 0 = .ok (.iconst 1, 1) := by decide +kernel
theorem dX7_bitsOfAll_1 : decode cX7_bitsOfAll 1 = .ok (.aload_n 0, 1) := by decide +kernel
theorem dX7_bitsOfAll_2 : decode cX7_bitsOfAll 2 = .ok (.getfield 23, 3) := by decide +kernel
theorem dX7_bitsOfAll_5 : decode cX7_bitsOfAll 5 = .ok (.ishl, 1) := by decide +kernel
theorem dX7_bitsOfAll_6 : decode cX7_bitsOfAll 6 = .ok (.iconst 1, 1) := by decide +kernel
theorem dX7_bitsOfAll_7 : decode cX7_bitsOfAll 7 = .ok (.isub, 1) := by decide +kernel
theorem dX7_bitsOfAll_8 : decode cX7_bitsOfAll 8 = .ok (.ireturn, 1) := by decide +kernel
theorem dX7_weightToPlaces_0 : decode cX7_weightToPlaces 0 = .ok (.iconst 0, 1) := by decide +kernel
theorem dX7_weightToPlaces_1 : decode cX7_weightToPlaces 1 = .ok (.istore_n 3, 1) := by decide +kernel
theorem dX7_weightToPlaces_2 : decode cX7_weightToPlaces 2 = .ok (.iconst 0, 1) := by decide +kernel
theorem dX7_weightToPlaces_3 : decode cX7_weightToPlaces 3 = .ok (.istore 4, 2) := by decide +kernel
theorem dX7_weightToPlaces_5 : decode cX7_weightToPlaces 5 = .ok (.iload 4, 2) := by decide +kernel
theorem dX7_weightToPlaces_7 : decode cX7_weightToPlaces 7 = .ok (.aload_n 0, 1) := by decide +kernel
theorem dX7_weightToPlaces_8 : decode cX7_weightToPlaces 8 = .ok (.getfield 23, 3) := by decide +kernel
theorem dX7_weightToPlaces_11 : decode cX7_weightToPlaces 11 = .ok (.if_icmp .ge 30, 3) := by decide +kernel
theorem dX7_weightToPlaces_14 : decode cX7_weightToPlaces 14 = .ok (.iload_n 2, 1) := by decide +kernel
theorem dX7_weightToPlaces_15 : decode cX7_weightToPlaces 15 = .ok (.iconst 1, 1) := by decide +kernel
theorem dX7_weightToPlaces_16 : decode cX7_weightToPlaces 16 = .ok (.iload 4, 2) := by decide +kernel
theorem dX7_weightToPlaces_18 : decode cX7_weightToPlaces 18 = .ok (.ishl, 1) := by decide +kernel
theorem dX7_weightToPlaces_19 : decode cX7_weightToPlaces 19 = .ok (.iand, 1) := by decide +kernel
theorem dX7_weightToPlaces_20 : decode cX7_weightToPlaces 20 = .ok (.ifCond .eq 15, 3) := by decide +kernel
theorem dX7_weightToPlaces_23 : decode cX7_weightToPlaces 23 = .ok (.iload_n 3, 1) := by decide +kernel
theorem dX7_weightToPlaces_24 : decode cX7_weightToPlaces 24 = .ok (.aload_n 0, 1) := by decide +kernel
theorem dX7_weightToPlaces_25 : decode cX7_weightToPlaces 25 = .ok (.getfield 17, 3) := by decide +kernel
theorem dX7_weightToPlaces_28 : decode cX7_weightToPlaces 28 = .ok (.iload_n 1, 1) := by decide +kernel
theorem dX7_weightToPlaces_29 : decode cX7_weightToPlaces 29 = .ok (.aaload, 1) := by decide +kernel
theorem dX7_weightToPlaces_30 : decode cX7_weightToPlaces 30 = .ok (.iload 4, 2) := by decide +kernel
theorem dX7_weightToPlaces_32 : decode cX7_weightToPlaces 32 = .ok (.iaload, 1) := by decide +kernel
theorem dX7_weightToPlaces_33 : decode cX7_weightToPlaces 33 = .ok (.iadd, 1) := by decide +kernel
theorem dX7_weightToPlaces_34 : decode cX7_weightToPlaces 34 = .ok (.istore_n 3, 1) := by decide +kernel
theorem dX7_weightToPlaces_35 : decode cX7_weightToPlaces 35 = .ok (.iinc 4 1, 3) := by decide +kernel
theorem dX7_weightToPlaces_38 : decode cX7_weightToPlaces 38 = .ok (.goto (-33), 3) := by decide +kernel
theorem dX7_weightToPlaces_41 : decode cX7_weightToPlaces 41 = .ok (.iload_n 3, 1) := by decide +kernel
theorem dX7_weightToPlaces_42 : decode cX7_weightToPlaces 42 = .ok (.ireturn, 1) := by decide +kernel
theorem dX7_hasDitch_0 : decode cX7_hasDitch 0 = .ok (.iconst 0, 1) := by decide +kernel
theorem dX7_hasDitch_1 : decode cX7_hasDitch 1 = .ok (.istore_n 2, 1) := by decide +kernel
theorem dX7_hasDitch_2 : decode cX7_hasDitch 2 = .ok (.iload_n 2, 1) := by decide +kernel
theorem dX7_hasDitch_3 : decode cX7_hasDitch 3 = .ok (.iconst 3, 1) := by decide +kernel
theorem dX7_hasDitch_4 : decode cX7_hasDitch 4 = .ok (.if_icmp .ge 25, 3) := by decide +kernel
theorem dX7_hasDitch_7 : decode cX7_hasDitch 7 = .ok (.aload_n 0, 1) := by decide +kernel
theorem dX7_hasDitch_8 : decode cX7_hasDitch 8 = .ok (.getfield 17, 3) := by decide +kernel
theorem dX7_hasDitch_11 : decode cX7_hasDitch 11 = .ok (.iload_n 1, 1) := by decide +kernel
theorem dX7_hasDitch_12 : decode cX7_hasDitch 12 = .ok (.aaload, 1) := by decide +kernel
theorem dX7_hasDitch_13 : decode cX7_hasDitch 13 = .ok (.bipush 12, 2) := by decide +kernel
theorem dX7_hasDitch_15 : decode cX7_hasDitch 15 = .ok (.iload_n 2, 1) := by decide +kernel
theorem dX7_hasDitch_16 : decode cX7_hasDitch 16 = .ok (.iadd, 1) := by decide +kernel
theorem dX7_hasDitch_17 : decode cX7_hasDitch 17 = .ok (.iaload, 1) := by decide +kernel
theorem dX7_hasDitch_18 : decode cX7_hasDitch 18 = .ok (.ifCond .le 5, 3) := by decide +kernel
theorem dX7_hasDitch_21 : decode cX7_hasDitch 21 = .ok (.iconst 1, 1) := by decide +kernel
theorem dX7_hasDitch_22 : decode cX7_hasDitch 22 = .ok (.ireturn, 1) := by decide +kernel
theorem dX7_hasDitch_23 : decode cX7_hasDitch 23 = .ok (.iinc 2 1, 3) := by decide +kernel
theorem dX7_hasDitch_26 : decode cX7_hasDitch 26 = .ok (.goto (-24), 3) := by decide +kernel
theorem dX7_hasDitch_29 : decode cX7_hasDitch 29 = .ok (.iconst 0, 1) := by decide +kernel
theorem dX7_hasDitch_30 : decode cX7_hasDitch 30 = .ok (.ireturn, 1) := by decide +kernel
theorem dX7_bitsOfLost_0 : decode cX7_bitsOfLost 0 = .ok (.aload_n 0, 1) := by decide +kernel
theorem dX7_bitsOfLost_1 : decode cX7_bitsOfLost 1 = .ok (.invokevirtual 41, 3) := by decide +kernel
theorem dX7_bitsOfLost_4 : decode cX7_bitsOfLost 4 = .ok (.istore_n 1, 1) := by decide +kernel
theorem dX7_bitsOfLost_5 : decode cX7_bitsOfLost 5 = .ok (.iconst 0, 1) := by decide +kernel
theorem dX7_bitsOfLost_6 : decode cX7_bitsOfLost 6 = .ok (.istore_n 2, 1) := by decide +kernel
theorem dX7_bitsOfLost_7 : decode cX7_bitsOfLost 7 = .ok (.iload_n 2, 1) := by decide +kernel
theorem dX7_bitsOfLost_8 : decode cX7_bitsOfLost 8 = .ok (.aload_n 0, 1) := by decide +kernel
theorem dX7_bitsOfLost_9 : decode cX7_bitsOfLost 9 = .ok (.getfield 23, 3) := by decide +kernel
theorem dX7_bitsOfLost_12 : decode cX7_bitsOfLost 12 = .ok (.if_icmp .ge 61, 3) := by decide +kernel
theorem dX7_bitsOfLost_15 : decode cX7_bitsOfLost 15 = .ok (.iconst 0, 1) := by decide +kernel
theorem dX7_bitsOfLost_16 : decode cX7_bitsOfLost 16 = .ok (.istore_n 3, 1) := by decide +kernel
theorem dX7_bitsOfLost_17 : decode cX7_bitsOfLost 17 = .ok (.iload_n 3, 1) := by decide +kernel
theorem dX7_bitsOfLost_18 : decode cX7_bitsOfLost 18 = .ok (.aload_n 0, 1) := by decide +kernel
theorem dX7_bitsOfLost_19 : decode cX7_bitsOfLost 19 = .ok (.getfield 23, 3) := by decide +kernel
theorem dX7_bitsOfLost_22 : decode cX7_bitsOfLost 22 = .ok (.if_icmp .ge 45, 3) := by decide +kernel
theorem dX7_bitsOfLost_25 : decode cX7_bitsOfLost 25 = .ok (.aload_n 0, 1) := by decide +kernel
theorem dX7_bitsOfLost_26 : decode cX7_bitsOfLost 26 = .ok (.invokevirtual 41, 3) := by decide +kernel
theorem dX7_bitsOfLost_29 : decode cX7_bitsOfLost 29 = .ok (.iload_n 1, 1) := by decide +kernel
theorem dX7_bitsOfLost_30 : decode cX7_bitsOfLost 30 = .ok (.iconst (-1), 1) := by decide +kernel
theorem dX7_bitsOfLost_31 : decode cX7_bitsOfLost 31 = .ok (.ixor, 1) := by decide +kernel
theorem dX7_bitsOfLost_32 : decode cX7_bitsOfLost 32 = .ok (.iand, 1) := by decide +kernel
theorem dX7_bitsOfLost_33 : decode cX7_bitsOfLost 33 = .ok (.istore 4, 2) := by decide +kernel
theorem dX7_bitsOfLost_35 : decode cX7_bitsOfLost 35 = .ok (.aload_n 0, 1) := by decide +kernel
theorem dX7_bitsOfLost_36 : decode cX7_bitsOfLost 36 = .ok (.iload_n 3, 1) := by decide +kernel
theorem dX7_bitsOfLost_37 : decode cX7_bitsOfLost 37 = .ok (.invokevirtual 45, 3) := by decide +kernel
theorem dX7_bitsOfLost_40 : decode cX7_bitsOfLost 40 = .ok (.ifCond .ne 13, 3) := by decide +kernel
theorem dX7_bitsOfLost_43 : decode cX7_bitsOfLost 43 = .ok (.aload_n 0, 1) := by decide +kernel
theorem dX7_bitsOfLost_44 : decode cX7_bitsOfLost 44 = .ok (.iload_n 3, 1) := by decide +kernel
theorem dX7_bitsOfLost_45 : decode cX7_bitsOfLost 45 = .ok (.iload 4, 2) := by decide +kernel
theorem dX7_bitsOfLost_47 : decode cX7_bitsOfLost 47 = .ok (.invokevirtual 48, 3) := by decide +kernel
theorem dX7_bitsOfLost_50 : decode cX7_bitsOfLost 50 = .ok (.ifCond .le 11, 3) := by decide +kernel
theorem dX7_bitsOfLost_53 : decode cX7_bitsOfLost 53 = .ok (.iload_n 1, 1) := by decide +kernel
theorem dX7_bitsOfLost_54 : decode cX7_bitsOfLost 54 = .ok (.iconst 1, 1) := by decide +kernel
theorem dX7_bitsOfLost_55 : decode cX7_bitsOfLost 55 = .ok (.iload_n 3, 1) := by decide +kernel
theorem dX7_bitsOfLost_56 : decode cX7_bitsOfLost 56 = .ok (.ishl, 1) := by decide +kernel
theorem dX7_bitsOfLost_57 : decode cX7_bitsOfLost 57 = .ok (.iconst (-1), 1) := by decide +kernel
theorem dX7_bitsOfLost_58 : decode cX7_bitsOfLost 58 = .ok (.ixor, 1) := by decide +kernel
theorem dX7_bitsOfLost_59 : decode cX7_bitsOfLost 59 = .ok (.iand, 1) := by decide +kernel
theorem dX7_bitsOfLost_60 : decode cX7_bitsOfLost 60 = .ok (.istore_n 1, 1) := by decide +kernel
theorem dX7_bitsOfLost_61 : decode cX7_bitsOfLost 61 = .ok (.iinc 3 1, 3) := by decide +kernel
theorem dX7_bitsOfLost_64 : decode cX7_bitsOfLost 64 = .ok (.goto (-47), 3) := by decide +kernel
theorem dX7_bitsOfLost_67 : decode cX7_bitsOfLost 67 = .ok (.iinc 2 1, 3) := by decide +kernel
theorem dX7_bitsOfLost_70 : decode cX7_bitsOfLost 70 = .ok (.goto (-63), 3) := by decide +kernel
theorem dX7_bitsOfLost_73 : decode cX7_bitsOfLost 73 = .ok (.iload_n 1, 1) := by decide +kernel
theorem dX7_bitsOfLost_74 : decode cX7_bitsOfLost 74 = .ok (.ireturn, 1) := by decide +kernel
theorem dX7_isTwoWay_0 : decode cX7_isTwoWay 0 = .ok (.iconst 0, 1) := by decide +kernel
theorem dX7_isTwoWay_1 : decode cX7_isTwoWay 1 = .ok (.istore_n 1, 1) := by decide +kernel
theorem dX7_isTwoWay_2 : decode cX7_isTwoWay 2 = .ok (.iload_n 1, 1) := by decide +kernel
theorem dX7_isTwoWay_3 : decode cX7_isTwoWay 3 = .ok (.aload_n 0, 1) := by decide +kernel
theorem dX7_isTwoWay_4 : decode cX7_isTwoWay 4 = .ok (.getfield 23, 3) := by decide +kernel
theorem dX7_isTwoWay_7 : decode cX7_isTwoWay 7 = .ok (.if_icmp .ge 43, 3) := by decide +kernel
theorem dX7_isTwoWay_10 : decode cX7_isTwoWay 10 = .ok (.iconst 0, 1) := by decide +kernel
theorem dX7_isTwoWay_11 : decode cX7_isTwoWay 11 = .ok (.istore_n 2, 1) := by decide +kernel
theorem dX7_isTwoWay_12 : decode cX7_isTwoWay 12 = .ok (.iload_n 2, 1) := by decide +kernel
theorem dX7_isTwoWay_13 : decode cX7_isTwoWay 13 = .ok (.iload_n 1, 1) := by decide +kernel
theorem dX7_isTwoWay_14 : decode cX7_isTwoWay 14 = .ok (.if_icmp .ge 30, 3) := by decide +kernel
theorem dX7_isTwoWay_17 : decode cX7_isTwoWay 17 = .ok (.aload_n 0, 1) := by decide +kernel
theorem dX7_isTwoWay_18 : decode cX7_isTwoWay 18 = .ok (.getfield 17, 3) := by decide +kernel
theorem dX7_isTwoWay_21 : decode cX7_isTwoWay 21 = .ok (.iload_n 1, 1) := by decide +kernel
theorem dX7_isTwoWay_22 : decode cX7_isTwoWay 22 = .ok (.aaload, 1) := by decide +kernel
theorem dX7_isTwoWay_23 : decode cX7_isTwoWay 23 = .ok (.iload_n 2, 1) := by decide +kernel
theorem dX7_isTwoWay_24 : decode cX7_isTwoWay 24 = .ok (.iaload, 1) := by decide +kernel
theorem dX7_isTwoWay_25 : decode cX7_isTwoWay 25 = .ok (.aload_n 0, 1) := by decide +kernel
theorem dX7_isTwoWay_26 : decode cX7_isTwoWay 26 = .ok (.getfield 17, 3) := by decide +kernel
theorem dX7_isTwoWay_29 : decode cX7_isTwoWay 29 = .ok (.iload_n 2, 1) := by decide +kernel
theorem dX7_isTwoWay_30 : decode cX7_isTwoWay 30 = .ok (.aaload, 1) := by decide +kernel
theorem dX7_isTwoWay_31 : decode cX7_isTwoWay 31 = .ok (.iload_n 1, 1) := by decide +kernel
theorem dX7_isTwoWay_32 : decode cX7_isTwoWay 32 = .ok (.iaload, 1) := by decide +kernel
theorem dX7_isTwoWay_33 : decode cX7_isTwoWay 33 = .ok (.if_icmp .eq 5, 3) := by decide +kernel
theorem dX7_isTwoWay_36 : decode cX7_isTwoWay 36 = .ok (.iconst 0, 1) := by decide +kernel
theorem dX7_isTwoWay_37 : decode cX7_isTwoWay 37 = .ok (.ireturn, 1) := by decide +kernel
theorem dX7_isTwoWay_38 : decode cX7_isTwoWay 38 = .ok (.iinc 2 1, 3) := by decide +kernel
theorem dX7_isTwoWay_41 : decode cX7_isTwoWay 41 = .ok (.goto (-29), 3) := by decide +kernel
theorem dX7_isTwoWay_44 : decode cX7_isTwoWay 44 = .ok (.iinc 1 1, 3) := by decide +kernel
theorem dX7_isTwoWay_47 : decode cX7_isTwoWay 47 = .ok (.goto (-45), 3) := by decide +kernel
theorem dX7_isTwoWay_50 : decode cX7_isTwoWay 50 = .ok (.iconst 1, 1) := by decide +kernel
theorem dX7_isTwoWay_51 : decode cX7_isTwoWay 51 = .ok (.ireturn, 1) := by decide +kernel
theorem dX8_init_0 : decode cX8_init 0 = .ok (.aload_n 0, 1) := by decide +kernel
theorem dX8_init_1 : decode cX8_init 1 = .ok (.invokespecial 3, 3) := by decide +kernel
theorem dX8_init_4 : decode cX8_init 4 = .ok (.aload_n 0, 1) := by decide +kernel
theorem dX8_init_5 : decode cX8_init 5 = .ok (.bipush 12, 2) := by decide +kernel
theorem dX8_init_7 : decode cX8_init 7 = .ok (.bipush 12, 2) := by decide +kernel
theorem dX8_init_9 : decode cX8_init 9 = .ok (.multianewarray 9 2, 4) := by decide +kernel
theorem dX8_init_13 : decode cX8_init 13 = .ok (.putfield 11, 3) := by decide +kernel
theorem dX8_init_16 : decode cX8_init 16 = .ok (.return_, 1) := by decide +kernel
theorem dX8_countRows_0 : decode cX8_countRows 0 = .ok (.iload_n 2, 1) := by decide +kernel
theorem dX8_countRows_1 : decode cX8_countRows 1 = .ok (.iconst 2, 1) := by decide +kernel
theorem dX8_countRows_2 : decode cX8_countRows 2 = .ok (.if_icmp .ge 5, 3) := by decide +kernel
theorem dX8_countRows_5 : decode cX8_countRows 5 = .ok (.iconst 0, 1) := by decide +kernel
theorem dX8_countRows_6 : decode cX8_countRows 6 = .ok (.ireturn, 1) := by decide +kernel
theorem dX8_countRows_7 : decode cX8_countRows 7 = .ok (.aload_n 0, 1) := by decide +kernel
theorem dX8_countRows_8 : decode cX8_countRows 8 = .ok (.aload_n 1, 1) := by decide +kernel
theorem dX8_countRows_9 : decode cX8_countRows 9 = .ok (.iload_n 2, 1) := by decide +kernel
theorem dX8_countRows_10 : decode cX8_countRows 10 = .ok (.invokevirtual 16, 3) := by decide +kernel
theorem dX8_countRows_13 : decode cX8_countRows 13 = .ok (.lconst 1, 1) := by decide +kernel
theorem dX8_countRows_14 : decode cX8_countRows 14 = .ok (.lstore_n 3, 1) := by decide +kernel
theorem dX8_countRows_15 : decode cX8_countRows 15 = .ok (.iconst 0, 1) := by decide +kernel
theorem dX8_countRows_16 : decode cX8_countRows 16 = .ok (.istore 5, 2) := by decide +kernel
theorem dX8_countRows_18 : decode cX8_countRows 18 = .ok (.iload 5, 2) := by decide +kernel
theorem dX8_countRows_20 : decode cX8_countRows 20 = .ok (.aload_n 1, 1) := by decide +kernel
theorem dX8_countRows_21 : decode cX8_countRows 21 = .ok (.getfield 20, 3) := by decide +kernel
theorem dX8_countRows_24 : decode cX8_countRows 24 = .ok (.if_icmp .ge 80, 3) := by decide +kernel
theorem dX8_countRows_27 : decode cX8_countRows 27 = .ok (.aload_n 0, 1) := by decide +kernel
theorem dX8_countRows_28 : decode cX8_countRows 28 = .ok (.iload 5, 2) := by decide +kernel
theorem dX8_countRows_30 : decode cX8_countRows 30 = .ok (.aload_n 1, 1) := by decide +kernel
theorem dX8_countRows_31 : decode cX8_countRows 31 = .ok (.getfield 20, 3) := by decide +kernel
theorem dX8_countRows_34 : decode cX8_countRows 34 = .ok (.invokevirtual 26, 3) := by decide +kernel
theorem dX8_countRows_37 : decode cX8_countRows 37 = .ok (.istore 6, 2) := by decide +kernel
theorem dX8_countRows_39 : decode cX8_countRows 39 = .ok (.iload 6, 2) := by decide +kernel
theorem dX8_countRows_41 : decode cX8_countRows 41 = .ok (.iconst (-1), 1) := by decide +kernel
theorem dX8_countRows_42 : decode cX8_countRows 42 = .ok (.if_icmp .ne 5, 3) := by decide +kernel
theorem dX8_countRows_45 : decode cX8_countRows 45 = .ok (.iconst 0, 1) := by decide +kernel
theorem dX8_countRows_46 : decode cX8_countRows 46 = .ok (.ireturn, 1) := by decide +kernel
theorem dX8_countRows_47 : decode cX8_countRows 47 = .ok (.iload 6, 2) := by decide +kernel
theorem dX8_countRows_49 : decode cX8_countRows 49 = .ok (.iload 5, 2) := by decide +kernel
theorem dX8_countRows_51 : decode cX8_countRows 51 = .ok (.if_icmp .eq 20, 3) := by decide +kernel
theorem dX8_countRows_54 : decode cX8_countRows 54 = .ok (.aload_n 0, 1) := by decide +kernel
theorem dX8_countRows_55 : decode cX8_countRows 55 = .ok (.iload 6, 2) := by decide +kernel
theorem dX8_countRows_57 : decode cX8_countRows 57 = .ok (.iload 5, 2) := by decide +kernel
theorem dX8_countRows_59 : decode cX8_countRows 59 = .ok (.aload_n 1, 1) := by decide +kernel
theorem dX8_countRows_60 : decode cX8_countRows 60 = .ok (.getfield 20, 3) := by decide +kernel
theorem dX8_countRows_63 : decode cX8_countRows 63 = .ok (.invokevirtual 30, 3) := by decide +kernel
theorem dX8_countRows_66 : decode cX8_countRows 66 = .ok (.iload_n 2, 1) := by decide +kernel
theorem dX8_countRows_67 : decode cX8_countRows 67 = .ok (.i2l, 1) := by decide +kernel
theorem dX8_countRows_68 : decode cX8_countRows 68 = .ok (.lload_n 3, 1) := by decide +kernel
theorem dX8_countRows_69 : decode cX8_countRows 69 = .ok (.lsub, 1) := by decide +kernel
theorem dX8_countRows_70 : decode cX8_countRows 70 = .ok (.lstore_n 3, 1) := by decide +kernel
theorem dX8_countRows_71 : decode cX8_countRows 71 = .ok (.lload_n 3, 1) := by decide +kernel
theorem dX8_countRows_72 : decode cX8_countRows 72 = .ok (.aload_n 0, 1) := by decide +kernel
theorem dX8_countRows_73 : decode cX8_countRows 73 = .ok (.getfield 11, 3) := by decide +kernel
theorem dX8_countRows_76 : decode cX8_countRows 76 = .ok (.iload 5, 2) := by decide +kernel
theorem dX8_countRows_78 : decode cX8_countRows 78 = .ok (.aaload, 1) := by decide +kernel
theorem dX8_countRows_79 : decode cX8_countRows 79 = .ok (.iload 5, 2) := by decide +kernel
theorem dX8_countRows_81 : decode cX8_countRows 81 = .ok (.laload, 1) := by decide +kernel
theorem dX8_countRows_82 : decode cX8_countRows 82 = .ok (.lmul, 1) := by decide +kernel
theorem dX8_countRows_83 : decode cX8_countRows 83 = .ok (.iload_n 2, 1) := by decide +kernel
theorem dX8_countRows_84 : decode cX8_countRows 84 = .ok (.i2l, 1) := by decide +kernel
theorem dX8_countRows_85 : decode cX8_countRows 85 = .ok (.lrem, 1) := by decide +kernel
theorem dX8_countRows_86 : decode cX8_countRows 86 = .ok (.lstore_n 3, 1) := by decide +kernel
theorem dX8_countRows_87 : decode cX8_countRows 87 = .ok (.aload_n 0, 1) := by decide +kernel
theorem dX8_countRows_88 : decode cX8_countRows 88 = .ok (.iload 5, 2) := by decide +kernel
theorem dX8_countRows_90 : decode cX8_countRows 90 = .ok (.aload_n 1, 1) := by decide +kernel
theorem dX8_countRows_91 : decode cX8_countRows 91 = .ok (.getfield 20, 3) := by decide +kernel
theorem dX8_countRows_94 : decode cX8_countRows 94 = .ok (.iload_n 2, 1) := by decide +kernel
theorem dX8_countRows_95 : decode cX8_countRows 95 = .ok (.invokevirtual 34, 3) := by decide +kernel
theorem dX8_countRows_98 : decode cX8_countRows 98 = .ok (.iinc 5 1, 3) := by decide +kernel
theorem dX8_countRows_101 : decode cX8_countRows 101 = .ok (.goto (-83), 3) := by decide +kernel
theorem dX8_countRows_104 : decode cX8_countRows 104 = .ok (.lload_n 3, 1) := by decide +kernel
theorem dX8_countRows_105 : decode cX8_countRows 105 = .ok (.l2i, 1) := by decide +kernel
theorem dX8_countRows_106 : decode cX8_countRows 106 = .ok (.ireturn, 1) := by decide +kernel
theorem dX8_fill_0 : decode cX8_fill 0 = .ok (.iconst 0, 1) := by decide +kernel
theorem dX8_fill_1 : decode cX8_fill 1 = .ok (.istore_n 3, 1) := by decide +kernel
theorem dX8_fill_2 : decode cX8_fill 2 = .ok (.iload_n 3, 1) := by decide +kernel
theorem dX8_fill_3 : decode cX8_fill 3 = .ok (.aload_n 1, 1) := by decide +kernel
theorem dX8_fill_4 : decode cX8_fill 4 = .ok (.getfield 20, 3) := by decide +kernel
theorem dX8_fill_7 : decode cX8_fill 7 = .ok (.if_icmp .ge 70, 3) := by decide +kernel
theorem dX8_fill_10 : decode cX8_fill 10 = .ok (.iconst 0, 1) := by decide +kernel
theorem dX8_fill_11 : decode cX8_fill 11 = .ok (.istore 4, 2) := by decide +kernel
theorem dX8_fill_13 : decode cX8_fill 13 = .ok (.iload 4, 2) := by decide +kernel
theorem dX8_fill_15 : decode cX8_fill 15 = .ok (.aload_n 1, 1) := by decide +kernel
theorem dX8_fill_16 : decode cX8_fill 16 = .ok (.getfield 20, 3) := by decide +kernel
theorem dX8_fill_19 : decode cX8_fill 19 = .ok (.if_icmp .ge 52, 3) := by decide +kernel
theorem dX8_fill_22 : decode cX8_fill 22 = .ok (.iload_n 3, 1) := by decide +kernel
theorem dX8_fill_23 : decode cX8_fill 23 = .ok (.iload 4, 2) := by decide +kernel
theorem dX8_fill_25 : decode cX8_fill 25 = .ok (.if_icmp .ne 12, 3) := by decide +kernel
theorem dX8_fill_28 : decode cX8_fill 28 = .ok (.aload_n 1, 1) := by decide +kernel
theorem dX8_fill_29 : decode cX8_fill 29 = .ok (.getfield 37, 3) := by decide +kernel
theorem dX8_fill_32 : decode cX8_fill 32 = .ok (.iload_n 3, 1) := by decide +kernel
theorem dX8_fill_33 : decode cX8_fill 33 = .ok (.iaload, 1) := by decide +kernel
theorem dX8_fill_34 : decode cX8_fill 34 = .ok (.goto 13, 3) := by decide +kernel
theorem dX8_fill_37 : decode cX8_fill 37 = .ok (.aload_n 1, 1) := by decide +kernel
theorem dX8_fill_38 : decode cX8_fill 38 = .ok (.getfield 41, 3) := by decide +kernel
theorem dX8_fill_41 : decode cX8_fill 41 = .ok (.iload_n 3, 1) := by decide +kernel
theorem dX8_fill_42 : decode cX8_fill 42 = .ok (.aaload, 1) := by decide +kernel
theorem dX8_fill_43 : decode cX8_fill 43 = .ok (.iload 4, 2) := by decide +kernel
theorem dX8_fill_45 : decode cX8_fill 45 = .ok (.iaload, 1) := by decide +kernel
theorem dX8_fill_46 : decode cX8_fill 46 = .ok (.ineg, 1) := by decide +kernel
theorem dX8_fill_47 : decode cX8_fill 47 = .ok (.istore 5, 2) := by decide +kernel
theorem dX8_fill_49 : decode cX8_fill 49 = .ok (.aload_n 0, 1) := by decide +kernel
theorem dX8_fill_50 : decode cX8_fill 50 = .ok (.getfield 11, 3) := by decide +kernel
theorem dX8_fill_53 : decode cX8_fill 53 = .ok (.iload_n 3, 1) := by decide +kernel
theorem dX8_fill_54 : decode cX8_fill 54 = .ok (.aaload, 1) := by decide +kernel
theorem dX8_fill_55 : decode cX8_fill 55 = .ok (.iload 4, 2) := by decide +kernel
theorem dX8_fill_57 : decode cX8_fill 57 = .ok (.iload 5, 2) := by decide +kernel
theorem dX8_fill_59 : decode cX8_fill 59 = .ok (.iload_n 2, 1) := by decide +kernel
theorem dX8_fill_60 : decode cX8_fill 60 = .ok (.invokestatic 45, 3) := by decide +kernel
theorem dX8_fill_63 : decode cX8_fill 63 = .ok (.i2l, 1) := by decide +kernel
theorem dX8_fill_64 : decode cX8_fill 64 = .ok (.lastore, 1) := by decide +kernel
theorem dX8_fill_65 : decode cX8_fill 65 = .ok (.iinc 4 1, 3) := by decide +kernel
theorem dX8_fill_68 : decode cX8_fill 68 = .ok (.goto (-55), 3) := by decide +kernel
theorem dX8_fill_71 : decode cX8_fill 71 = .ok (.iinc 3 1, 3) := by decide +kernel
theorem dX8_fill_74 : decode cX8_fill 74 = .ok (.goto (-72), 3) := by decide +kernel
theorem dX8_fill_77 : decode cX8_fill 77 = .ok (.return_, 1) := by decide +kernel
theorem dX8_pivotOf_0 : decode cX8_pivotOf 0 = .ok (.iload_n 1, 1) := by decide +kernel
theorem dX8_pivotOf_1 : decode cX8_pivotOf 1 = .ok (.istore_n 3, 1) := by decide +kernel
theorem dX8_pivotOf_2 : decode cX8_pivotOf 2 = .ok (.iload_n 3, 1) := by decide +kernel
theorem dX8_pivotOf_3 : decode cX8_pivotOf 3 = .ok (.iload_n 2, 1) := by decide +kernel
theorem dX8_pivotOf_4 : decode cX8_pivotOf 4 = .ok (.if_icmp .ge 24, 3) := by decide +kernel
theorem dX8_pivotOf_7 : decode cX8_pivotOf 7 = .ok (.aload_n 0, 1) := by decide +kernel
theorem dX8_pivotOf_8 : decode cX8_pivotOf 8 = .ok (.getfield 11, 3) := by decide +kernel
theorem dX8_pivotOf_11 : decode cX8_pivotOf 11 = .ok (.iload_n 3, 1) := by decide +kernel
theorem dX8_pivotOf_12 : decode cX8_pivotOf 12 = .ok (.aaload, 1) := by decide +kernel
theorem dX8_pivotOf_13 : decode cX8_pivotOf 13 = .ok (.iload_n 1, 1) := by decide +kernel
theorem dX8_pivotOf_14 : decode cX8_pivotOf 14 = .ok (.laload, 1) := by decide +kernel
theorem dX8_pivotOf_15 : decode cX8_pivotOf 15 = .ok (.lconst 0, 1) := by decide +kernel
theorem dX8_pivotOf_16 : decode cX8_pivotOf 16 = .ok (.lcmp, 1) := by decide +kernel
theorem dX8_pivotOf_17 : decode cX8_pivotOf 17 = .ok (.ifCond .eq 5, 3) := by decide +kernel
theorem dX8_pivotOf_20 : decode cX8_pivotOf 20 = .ok (.iload_n 3, 1) := by decide +kernel
theorem dX8_pivotOf_21 : decode cX8_pivotOf 21 = .ok (.ireturn, 1) := by decide +kernel
theorem dX8_pivotOf_22 : decode cX8_pivotOf 22 = .ok (.iinc 3 1, 3) := by decide +kernel
theorem dX8_pivotOf_25 : decode cX8_pivotOf 25 = .ok (.goto (-23), 3) := by decide +kernel
theorem dX8_pivotOf_28 : decode cX8_pivotOf 28 = .ok (.iconst (-1), 1) := by decide +kernel
theorem dX8_pivotOf_29 : decode cX8_pivotOf 29 = .ok (.ireturn, 1) := by decide +kernel
theorem dX8_swapRows_0 : decode cX8_swapRows 0 = .ok (.iconst 0, 1) := by decide +kernel
theorem dX8_swapRows_1 : decode cX8_swapRows 1 = .ok (.istore 4, 2) := by decide +kernel
theorem dX8_swapRows_3 : decode cX8_swapRows 3 = .ok (.iload 4, 2) := by decide +kernel
theorem dX8_swapRows_5 : decode cX8_swapRows 5 = .ok (.iload_n 3, 1) := by decide +kernel
theorem dX8_swapRows_6 : decode cX8_swapRows 6 = .ok (.if_icmp .ge 49, 3) := by decide +kernel
theorem dX8_swapRows_9 : decode cX8_swapRows 9 = .ok (.aload_n 0, 1) := by decide +kernel
theorem dX8_swapRows_10 : decode cX8_swapRows 10 = .ok (.getfield 11, 3) := by decide +kernel
theorem dX8_swapRows_13 : decode cX8_swapRows 13 = .ok (.iload_n 1, 1) := by decide +kernel
theorem dX8_swapRows_14 : decode cX8_swapRows 14 = .ok (.aaload, 1) := by decide +kernel
theorem dX8_swapRows_15 : decode cX8_swapRows 15 = .ok (.iload 4, 2) := by decide +kernel
theorem dX8_swapRows_17 : decode cX8_swapRows 17 = .ok (.laload, 1) := by decide +kernel
theorem dX8_swapRows_18 : decode cX8_swapRows 18 = .ok (.lstore 5, 2) := by decide +kernel
theorem dX8_swapRows_20 : decode cX8_swapRows 20 = .ok (.aload_n 0, 1) := by decide +kernel
theorem dX8_swapRows_21 : decode cX8_swapRows 21 = .ok (.getfield 11, 3) := by decide +kernel
theorem dX8_swapRows_24 : decode cX8_swapRows 24 = .ok (.iload_n 1, 1) := by decide +kernel
theorem dX8_swapRows_25 : decode cX8_swapRows 25 = .ok (.aaload, 1) := by decide +kernel
theorem dX8_swapRows_26 : decode cX8_swapRows 26 = .ok (.iload 4, 2) := by decide +kernel
theorem dX8_swapRows_28 : decode cX8_swapRows 28 = .ok (.aload_n 0, 1) := by decide +kernel
theorem dX8_swapRows_29 : decode cX8_swapRows 29 = .ok (.getfield 11, 3) := by decide +kernel
theorem dX8_swapRows_32 : decode cX8_swapRows 32 = .ok (.iload_n 2, 1) := by decide +kernel
theorem dX8_swapRows_33 : decode cX8_swapRows 33 = .ok (.aaload, 1) := by decide +kernel
theorem dX8_swapRows_34 : decode cX8_swapRows 34 = .ok (.iload 4, 2) := by decide +kernel
theorem dX8_swapRows_36 : decode cX8_swapRows 36 = .ok (.laload, 1) := by decide +kernel
theorem dX8_swapRows_37 : decode cX8_swapRows 37 = .ok (.lastore, 1) := by decide +kernel
theorem dX8_swapRows_38 : decode cX8_swapRows 38 = .ok (.aload_n 0, 1) := by decide +kernel
theorem dX8_swapRows_39 : decode cX8_swapRows 39 = .ok (.getfield 11, 3) := by decide +kernel
theorem dX8_swapRows_42 : decode cX8_swapRows 42 = .ok (.iload_n 2, 1) := by decide +kernel
theorem dX8_swapRows_43 : decode cX8_swapRows 43 = .ok (.aaload, 1) := by decide +kernel
theorem dX8_swapRows_44 : decode cX8_swapRows 44 = .ok (.iload 4, 2) := by decide +kernel
theorem dX8_swapRows_46 : decode cX8_swapRows 46 = .ok (.lload 5, 2) := by decide +kernel
theorem dX8_swapRows_48 : decode cX8_swapRows 48 = .ok (.lastore, 1) := by decide +kernel
theorem dX8_swapRows_49 : decode cX8_swapRows 49 = .ok (.iinc 4 1, 3) := by decide +kernel
theorem dX8_swapRows_52 : decode cX8_swapRows 52 = .ok (.goto (-49), 3) := by decide +kernel
theorem dX8_swapRows_55 : decode cX8_swapRows 55 = .ok (.return_, 1) := by decide +kernel
theorem dX8_clearBelow_0 : decode cX8_clearBelow 0 = .ok (.aload_n 0, 1) := by decide +kernel
theorem dX8_clearBelow_1 : decode cX8_clearBelow 1 = .ok (.getfield 11, 3) := by decide +kernel
theorem dX8_clearBelow_4 : decode cX8_clearBelow 4 = .ok (.iload_n 1, 1) := by decide +kernel
theorem dX8_clearBelow_5 : decode cX8_clearBelow 5 = .ok (.aaload, 1) := by decide +kernel
theorem dX8_clearBelow_6 : decode cX8_clearBelow 6 = .ok (.iload_n 1, 1) := by decide +kernel
theorem dX8_clearBelow_7 : decode cX8_clearBelow 7 = .ok (.laload, 1) := by decide +kernel
theorem dX8_clearBelow_8 : decode cX8_clearBelow 8 = .ok (.iload_n 3, 1) := by decide +kernel
theorem dX8_clearBelow_9 : decode cX8_clearBelow 9 = .ok (.iconst 2, 1) := by decide +kernel
theorem dX8_clearBelow_10 : decode cX8_clearBelow 10 = .ok (.isub, 1) := by decide +kernel
theorem dX8_clearBelow_11 : decode cX8_clearBelow 11 = .ok (.iload_n 3, 1) := by decide +kernel
theorem dX8_clearBelow_12 : decode cX8_clearBelow 12 = .ok (.invokestatic 50, 3) := by decide +kernel
theorem dX8_clearBelow_15 : decode cX8_clearBelow 15 = .ok (.lstore 4, 2) := by decide +kernel
theorem dX8_clearBelow_17 : decode cX8_clearBelow 17 = .ok (.iload_n 1, 1) := by decide +kernel
theorem dX8_clearBelow_18 : decode cX8_clearBelow 18 = .ok (.iconst 1, 1) := by decide +kernel
theorem dX8_clearBelow_19 : decode cX8_clearBelow 19 = .ok (.iadd, 1) := by decide +kernel
theorem dX8_clearBelow_20 : decode cX8_clearBelow 20 = .ok (.istore 6, 2) := by decide +kernel
theorem dX8_clearBelow_22 : decode cX8_clearBelow 22 = .ok (.iload 6, 2) := by decide +kernel
theorem dX8_clearBelow_24 : decode cX8_clearBelow 24 = .ok (.iload_n 2, 1) := by decide +kernel
theorem dX8_clearBelow_25 : decode cX8_clearBelow 25 = .ok (.if_icmp .ge 96, 3) := by decide +kernel
theorem dX8_clearBelow_28 : decode cX8_clearBelow 28 = .ok (.aload_n 0, 1) := by decide +kernel
theorem dX8_clearBelow_29 : decode cX8_clearBelow 29 = .ok (.getfield 11, 3) := by decide +kernel
theorem dX8_clearBelow_32 : decode cX8_clearBelow 32 = .ok (.iload 6, 2) := by decide +kernel
theorem dX8_clearBelow_34 : decode cX8_clearBelow 34 = .ok (.aaload, 1) := by decide +kernel
theorem dX8_clearBelow_35 : decode cX8_clearBelow 35 = .ok (.iload_n 1, 1) := by decide +kernel
theorem dX8_clearBelow_36 : decode cX8_clearBelow 36 = .ok (.laload, 1) := by decide +kernel
theorem dX8_clearBelow_37 : decode cX8_clearBelow 37 = .ok (.lload 4, 2) := by decide +kernel
theorem dX8_clearBelow_39 : decode cX8_clearBelow 39 = .ok (.lmul, 1) := by decide +kernel
theorem dX8_clearBelow_40 : decode cX8_clearBelow 40 = .ok (.iload_n 3, 1) := by decide +kernel
theorem dX8_clearBelow_41 : decode cX8_clearBelow 41 = .ok (.i2l, 1) := by decide +kernel
theorem dX8_clearBelow_42 : decode cX8_clearBelow 42 = .ok (.lrem, 1) := by decide +kernel
theorem dX8_clearBelow_43 : decode cX8_clearBelow 43 = .ok (.lstore 7, 2) := by decide +kernel
theorem dX8_clearBelow_45 : decode cX8_clearBelow 45 = .ok (.iload_n 1, 1) := by decide +kernel
theorem dX8_clearBelow_46 : decode cX8_clearBelow 46 = .ok (.istore 9, 2) := by decide +kernel
theorem dX8_clearBelow_48 : decode cX8_clearBelow 48 = .ok (.iload 9, 2) := by decide +kernel
theorem dX8_clearBelow_50 : decode cX8_clearBelow 50 = .ok (.iload_n 2, 1) := by decide +kernel
theorem dX8_clearBelow_51 : decode cX8_clearBelow 51 = .ok (.if_icmp .ge 64, 3) := by decide +kernel
theorem dX8_clearBelow_54 : decode cX8_clearBelow 54 = .ok (.aload_n 0, 1) := by decide +kernel
theorem dX8_clearBelow_55 : decode cX8_clearBelow 55 = .ok (.getfield 11, 3) := by decide +kernel
theorem dX8_clearBelow_58 : decode cX8_clearBelow 58 = .ok (.iload 6, 2) := by decide +kernel
theorem dX8_clearBelow_60 : decode cX8_clearBelow 60 = .ok (.aaload, 1) := by decide +kernel
theorem dX8_clearBelow_61 : decode cX8_clearBelow 61 = .ok (.iload 9, 2) := by decide +kernel
theorem dX8_clearBelow_63 : decode cX8_clearBelow 63 = .ok (.laload, 1) := by decide +kernel
theorem dX8_clearBelow_64 : decode cX8_clearBelow 64 = .ok (.lload 7, 2) := by decide +kernel
theorem dX8_clearBelow_66 : decode cX8_clearBelow 66 = .ok (.aload_n 0, 1) := by decide +kernel
theorem dX8_clearBelow_67 : decode cX8_clearBelow 67 = .ok (.getfield 11, 3) := by decide +kernel
theorem dX8_clearBelow_70 : decode cX8_clearBelow 70 = .ok (.iload_n 1, 1) := by decide +kernel
theorem dX8_clearBelow_71 : decode cX8_clearBelow 71 = .ok (.aaload, 1) := by decide +kernel
theorem dX8_clearBelow_72 : decode cX8_clearBelow 72 = .ok (.iload 9, 2) := by decide +kernel
theorem dX8_clearBelow_74 : decode cX8_clearBelow 74 = .ok (.laload, 1) := by decide +kernel
theorem dX8_clearBelow_75 : decode cX8_clearBelow 75 = .ok (.lmul, 1) := by decide +kernel
theorem dX8_clearBelow_76 : decode cX8_clearBelow 76 = .ok (.iload_n 3, 1) := by decide +kernel
theorem dX8_clearBelow_77 : decode cX8_clearBelow 77 = .ok (.i2l, 1) := by decide +kernel
theorem dX8_clearBelow_78 : decode cX8_clearBelow 78 = .ok (.lrem, 1) := by decide +kernel
theorem dX8_clearBelow_79 : decode cX8_clearBelow 79 = .ok (.lsub, 1) := by decide +kernel
theorem dX8_clearBelow_80 : decode cX8_clearBelow 80 = .ok (.lstore 10, 2) := by decide +kernel
theorem dX8_clearBelow_82 : decode cX8_clearBelow 82 = .ok (.aload_n 0, 1) := by decide +kernel
theorem dX8_clearBelow_83 : decode cX8_clearBelow 83 = .ok (.getfield 11, 3) := by decide +kernel
theorem dX8_clearBelow_86 : decode cX8_clearBelow 86 = .ok (.iload 6, 2) := by decide +kernel
theorem dX8_clearBelow_88 : decode cX8_clearBelow 88 = .ok (.aaload, 1) := by decide +kernel
theorem dX8_clearBelow_89 : decode cX8_clearBelow 89 = .ok (.iload 9, 2) := by decide +kernel
theorem dX8_clearBelow_91 : decode cX8_clearBelow 91 = .ok (.lload 10, 2) := by decide +kernel
theorem dX8_clearBelow_93 : decode cX8_clearBelow 93 = .ok (.lconst 0, 1) := by decide +kernel
theorem dX8_clearBelow_94 : decode cX8_clearBelow 94 = .ok (.lcmp, 1) := by decide +kernel
theorem dX8_clearBelow_95 : decode cX8_clearBelow 95 = .ok (.ifCond .ge 11, 3) := by decide +kernel
theorem dX8_clearBelow_98 : decode cX8_clearBelow 98 = .ok (.lload 10, 2) := by decide +kernel
theorem dX8_clearBelow_100 : decode cX8_clearBelow 100 = .ok (.iload_n 3, 1) := by decide +kernel
theorem dX8_clearBelow_101 : decode cX8_clearBelow 101 = .ok (.i2l, 1) := by decide +kernel
theorem dX8_clearBelow_102 : decode cX8_clearBelow 102 = .ok (.ladd, 1) := by decide +kernel
theorem dX8_clearBelow_103 : decode cX8_clearBelow 103 = .ok (.goto 5, 3) := by decide +kernel
theorem dX8_clearBelow_106 : decode cX8_clearBelow 106 = .ok (.lload 10, 2) := by decide +kernel
theorem dX8_clearBelow_108 : decode cX8_clearBelow 108 = .ok (.lastore, 1) := by decide +kernel
theorem dX8_clearBelow_109 : decode cX8_clearBelow 109 = .ok (.iinc 9 1, 3) := by decide +kernel
theorem dX8_clearBelow_112 : decode cX8_clearBelow 112 = .ok (.goto (-64), 3) := by decide +kernel
theorem dX8_clearBelow_115 : decode cX8_clearBelow 115 = .ok (.iinc 6 1, 3) := by decide +kernel
theorem dX8_clearBelow_118 : decode cX8_clearBelow 118 = .ok (.goto (-96), 3) := by decide +kernel
theorem dX8_clearBelow_121 : decode cX8_clearBelow 121 = .ok (.return_, 1) := by decide +kernel
theorem dX8_power_0 : decode cX8_power 0 = .ok (.lconst 1, 1) := by decide +kernel
theorem dX8_power_1 : decode cX8_power 1 = .ok (.lstore 4, 2) := by decide +kernel
theorem dX8_power_3 : decode cX8_power 3 = .ok (.lload_n 0, 1) := by decide +kernel
theorem dX8_power_4 : decode cX8_power 4 = .ok (.lstore 6, 2) := by decide +kernel
theorem dX8_power_6 : decode cX8_power 6 = .ok (.iload_n 2, 1) := by decide +kernel
theorem dX8_power_7 : decode cX8_power 7 = .ok (.istore 8, 2) := by decide +kernel
theorem dX8_power_9 : decode cX8_power 9 = .ok (.iload 8, 2) := by decide +kernel
theorem dX8_power_11 : decode cX8_power 11 = .ok (.ifCond .le 39, 3) := by decide +kernel
theorem dX8_power_14 : decode cX8_power 14 = .ok (.iload 8, 2) := by decide +kernel
theorem dX8_power_16 : decode cX8_power 16 = .ok (.iconst 1, 1) := by decide +kernel
theorem dX8_power_17 : decode cX8_power 17 = .ok (.iand, 1) := by decide +kernel
theorem dX8_power_18 : decode cX8_power 18 = .ok (.ifCond .eq 13, 3) := by decide +kernel
theorem dX8_power_21 : decode cX8_power 21 = .ok (.lload 4, 2) := by decide +kernel
theorem dX8_power_23 : decode cX8_power 23 = .ok (.lload 6, 2) := by decide +kernel
theorem dX8_power_25 : decode cX8_power 25 = .ok (.lmul, 1) := by decide +kernel
theorem dX8_power_26 : decode cX8_power 26 = .ok (.iload_n 3, 1) := by decide +kernel
theorem dX8_power_27 : decode cX8_power 27 = .ok (.i2l, 1) := by decide +kernel
theorem dX8_power_28 : decode cX8_power 28 = .ok (.lrem, 1) := by decide +kernel
theorem dX8_power_29 : decode cX8_power 29 = .ok (.lstore 4, 2) := by decide +kernel
theorem dX8_power_31 : decode cX8_power 31 = .ok (.lload 6, 2) := by decide +kernel
theorem dX8_power_33 : decode cX8_power 33 = .ok (.lload 6, 2) := by decide +kernel
theorem dX8_power_35 : decode cX8_power 35 = .ok (.lmul, 1) := by decide +kernel
theorem dX8_power_36 : decode cX8_power 36 = .ok (.iload_n 3, 1) := by decide +kernel
theorem dX8_power_37 : decode cX8_power 37 = .ok (.i2l, 1) := by decide +kernel
theorem dX8_power_38 : decode cX8_power 38 = .ok (.lrem, 1) := by decide +kernel
theorem dX8_power_39 : decode cX8_power 39 = .ok (.lstore 6, 2) := by decide +kernel
theorem dX8_power_41 : decode cX8_power 41 = .ok (.iload 8, 2) := by decide +kernel
theorem dX8_power_43 : decode cX8_power 43 = .ok (.iconst 1, 1) := by decide +kernel
theorem dX8_power_44 : decode cX8_power 44 = .ok (.ishr, 1) := by decide +kernel
theorem dX8_power_45 : decode cX8_power 45 = .ok (.istore 8, 2) := by decide +kernel
theorem dX8_power_47 : decode cX8_power 47 = .ok (.goto (-38), 3) := by decide +kernel
theorem dX8_power_50 : decode cX8_power 50 = .ok (.lload 4, 2) := by decide +kernel
theorem dX8_power_52 : decode cX8_power 52 = .ok (.lreturn, 1) := by decide +kernel
theorem dX9_init_0 : decode cX9_init 0 = .ok (.aload_n 0, 1) := by decide +kernel
theorem dX9_init_1 : decode cX9_init 1 = .ok (.invokespecial 3, 3) := by decide +kernel
theorem dX9_init_4 : decode cX9_init 4 = .ok (.aload_n 0, 1) := by decide +kernel
theorem dX9_init_5 : decode cX9_init 5 = .ok (.bipush 16, 2) := by decide +kernel
theorem dX9_init_7 : decode cX9_init 7 = .ok (.newarray .long, 2) := by decide +kernel
theorem dX9_init_9 : decode cX9_init 9 = .ok (.putfield 9, 3) := by decide +kernel
theorem dX9_init_12 : decode cX9_init 12 = .ok (.return_, 1) := by decide +kernel
theorem dX9_isMissing_0 : decode cX9_isMissing 0 = .ok (.aload_n 0, 1) := by decide +kernel
theorem dX9_isMissing_1 : decode cX9_isMissing 1 = .ok (.getfield 15, 3) := by decide +kernel
theorem dX9_isMissing_4 : decode cX9_isMissing 4 = .ok (.ifCond .ne 7, 3) := by decide +kernel
theorem dX9_isMissing_7 : decode cX9_isMissing 7 = .ok (.iconst 1, 1) := by decide +kernel
theorem dX9_isMissing_8 : decode cX9_isMissing 8 = .ok (.goto 4, 3) := by decide +kernel
theorem dX9_isMissing_11 : decode cX9_isMissing 11 = .ok (.iconst 0, 1) := by decide +kernel
theorem dX9_isMissing_12 : decode cX9_isMissing 12 = .ok (.ireturn, 1) := by decide +kernel
theorem dX9_build_0 : decode cX9_build 0 = .ok (.iconst 0, 1) := by decide +kernel
theorem dX9_build_1 : decode cX9_build 1 = .ok (.istore_n 3, 1) := by decide +kernel
theorem dX9_build_2 : decode cX9_build 2 = .ok (.iload_n 3, 1) := by decide +kernel
theorem dX9_build_3 : decode cX9_build 3 = .ok (.bipush 16, 2) := by decide +kernel
theorem dX9_build_5 : decode cX9_build 5 = .ok (.if_icmp .ge 16, 3) := by decide +kernel
theorem dX9_build_8 : decode cX9_build 8 = .ok (.aload_n 0, 1) := by decide +kernel
theorem dX9_build_9 : decode cX9_build 9 = .ok (.getfield 9, 3) := by decide +kernel
theorem dX9_build_12 : decode cX9_build 12 = .ok (.iload_n 3, 1) := by decide +kernel
theorem dX9_build_13 : decode cX9_build 13 = .ok (.lconst 0, 1) := by decide +kernel
theorem dX9_build_14 : decode cX9_build 14 = .ok (.lastore, 1) := by decide +kernel
theorem dX9_build_15 : decode cX9_build 15 = .ok (.iinc 3 1, 3) := by decide +kernel
theorem dX9_build_18 : decode cX9_build 18 = .ok (.goto (-16), 3) := by decide +kernel
theorem dX9_build_21 : decode cX9_build 21 = .ok (.aload_n 0, 1) := by decide +kernel
theorem dX9_build_22 : decode cX9_build 22 = .ok (.iload_n 1, 1) := by decide +kernel
theorem dX9_build_23 : decode cX9_build 23 = .ok (.putfield 15, 3) := by decide +kernel
theorem dX9_build_26 : decode cX9_build 26 = .ok (.aload_n 0, 1) := by decide +kernel
theorem dX9_build_27 : decode cX9_build 27 = .ok (.iload_n 1, 1) := by decide +kernel
theorem dX9_build_28 : decode cX9_build 28 = .ok (.ifCond .ne 7, 3) := by decide +kernel
theorem dX9_build_31 : decode cX9_build 31 = .ok (.iconst 0, 1) := by decide +kernel
theorem dX9_build_32 : decode cX9_build 32 = .ok (.goto 4, 3) := by decide +kernel
theorem dX9_build_35 : decode cX9_build 35 = .ok (.iload_n 2, 1) := by decide +kernel
theorem dX9_build_36 : decode cX9_build 36 = .ok (.putfield 19, 3) := by decide +kernel
theorem dX9_build_39 : decode cX9_build 39 = .ok (.aload_n 0, 1) := by decide +kernel
theorem dX9_build_40 : decode cX9_build 40 = .ok (.getfield 19, 3) := by decide +kernel
theorem dX9_build_43 : decode cX9_build 43 = .ok (.ireturn, 1) := by decide +kernel
theorem dX9_store_0 : decode cX9_store 0 = .ok (.bipush 64, 2) := by decide +kernel
theorem dX9_store_2 : decode cX9_store 2 = .ok (.aload_n 0, 1) := by decide +kernel
theorem dX9_store_3 : decode cX9_store 3 = .ok (.getfield 15, 3) := by decide +kernel
theorem dX9_store_6 : decode cX9_store 6 = .ok (.isub, 1) := by decide +kernel
theorem dX9_store_7 : decode cX9_store 7 = .ok (.istore 4, 2) := by decide +kernel
theorem dX9_store_9 : decode cX9_store 9 = .ok (.aload_n 0, 1) := by decide +kernel
theorem dX9_store_10 : decode cX9_store 10 = .ok (.getfield 9, 3) := by decide +kernel
theorem dX9_store_13 : decode cX9_store 13 = .ok (.iload_n 1, 1) := by decide +kernel
theorem dX9_store_14 : decode cX9_store 14 = .ok (.lload_n 2, 1) := by decide +kernel
theorem dX9_store_15 : decode cX9_store 15 = .ok (.iload 4, 2) := by decide +kernel
theorem dX9_store_17 : decode cX9_store 17 = .ok (.lshl, 1) := by decide +kernel
theorem dX9_store_18 : decode cX9_store 18 = .ok (.iload 4, 2) := by decide +kernel
theorem dX9_store_20 : decode cX9_store 20 = .ok (.lshr, 1) := by decide +kernel
theorem dX9_store_21 : decode cX9_store 21 = .ok (.lastore, 1) := by decide +kernel
theorem dX9_store_22 : decode cX9_store 22 = .ok (.aload_n 0, 1) := by decide +kernel
theorem dX9_store_23 : decode cX9_store 23 = .ok (.getfield 9, 3) := by decide +kernel
theorem dX9_store_26 : decode cX9_store 26 = .ok (.iload_n 1, 1) := by decide +kernel
theorem dX9_store_27 : decode cX9_store 27 = .ok (.laload, 1) := by decide +kernel
theorem dX9_store_28 : decode cX9_store 28 = .ok (.lreturn, 1) := by decide +kernel
theorem dX10_init_0 : decode cX10_init 0 = .ok (.aload_n 0, 1) := by decide +kernel
theorem dX10_init_1 : decode cX10_init 1 = .ok (.invokespecial 1, 3) := by decide +kernel
theorem dX10_init_4 : decode cX10_init 4 = .ok (.aload_n 0, 1) := by decide +kernel
theorem dX10_init_5 : decode cX10_init 5 = .ok (.new 7, 3) := by decide +kernel
theorem dX10_init_8 : decode cX10_init 8 = .ok (.dup, 1) := by decide +kernel
theorem dX10_init_9 : decode cX10_init 9 = .ok (.invokespecial 9, 3) := by decide +kernel
theorem dX10_init_12 : decode cX10_init 12 = .ok (.putfield 10, 3) := by decide +kernel
theorem dX10_init_15 : decode cX10_init 15 = .ok (.aload_n 0, 1) := by decide +kernel
theorem dX10_init_16 : decode cX10_init 16 = .ok (.new 16, 3) := by decide +kernel
theorem dX10_init_19 : decode cX10_init 19 = .ok (.dup, 1) := by decide +kernel
theorem dX10_init_20 : decode cX10_init 20 = .ok (.aload_n 0, 1) := by decide +kernel
theorem dX10_init_21 : decode cX10_init 21 = .ok (.getfield 10, 3) := by decide +kernel
theorem dX10_init_24 : decode cX10_init 24 = .ok (.invokespecial 18, 3) := by decide +kernel
theorem dX10_init_27 : decode cX10_init 27 = .ok (.putfield 21, 3) := by decide +kernel
theorem dX10_init_30 : decode cX10_init 30 = .ok (.aload_n 0, 1) := by decide +kernel
theorem dX10_init_31 : decode cX10_init 31 = .ok (.new 16, 3) := by decide +kernel
theorem dX10_init_34 : decode cX10_init 34 = .ok (.dup, 1) := by decide +kernel
theorem dX10_init_35 : decode cX10_init 35 = .ok (.aload_n 0, 1) := by decide +kernel
theorem dX10_init_36 : decode cX10_init 36 = .ok (.getfield 10, 3) := by decide +kernel
theorem dX10_init_39 : decode cX10_init 39 = .ok (.invokespecial 18, 3) := by decide +kernel
theorem dX10_init_42 : decode cX10_init 42 = .ok (.putfield 25, 3) := by decide +kernel
theorem dX10_init_45 : decode cX10_init 45 = .ok (.aload_n 0, 1) := by decide +kernel
theorem dX10_init_46 : decode cX10_init 46 = .ok (.new 28, 3) := by decide +kernel
theorem dX10_init_49 : decode cX10_init 49 = .ok (.dup, 1) := by decide +kernel
theorem dX10_init_50 : decode cX10_init 50 = .ok (.aload_n 0, 1) := by decide +kernel
theorem dX10_init_51 : decode cX10_init 51 = .ok (.getfield 10, 3) := by decide +kernel
theorem dX10_init_54 : decode cX10_init 54 = .ok (.aload_n 0, 1) := by decide +kernel
theorem dX10_init_55 : decode cX10_init 55 = .ok (.getfield 21, 3) := by decide +kernel
theorem dX10_init_58 : decode cX10_init 58 = .ok (.invokespecial 30, 3) := by decide +kernel
theorem dX10_init_61 : decode cX10_init 61 = .ok (.putfield 33, 3) := by decide +kernel
theorem dX10_init_64 : decode cX10_init 64 = .ok (.aload_n 0, 1) := by decide +kernel
theorem dX10_init_65 : decode cX10_init 65 = .ok (.new 37, 3) := by decide +kernel
theorem dX10_init_68 : decode cX10_init 68 = .ok (.dup, 1) := by decide +kernel
theorem dX10_init_69 : decode cX10_init 69 = .ok (.invokespecial 39, 3) := by decide +kernel
theorem dX10_init_72 : decode cX10_init 72 = .ok (.putfield 40, 3) := by decide +kernel
theorem dX10_init_75 : decode cX10_init 75 = .ok (.aload_n 0, 1) := by decide +kernel
theorem dX10_init_76 : decode cX10_init 76 = .ok (.new 44, 3) := by decide +kernel
theorem dX10_init_79 : decode cX10_init 79 = .ok (.dup, 1) := by decide +kernel
theorem dX10_init_80 : decode cX10_init 80 = .ok (.invokespecial 46, 3) := by decide +kernel
theorem dX10_init_83 : decode cX10_init 83 = .ok (.putfield 47, 3) := by decide +kernel
theorem dX10_init_86 : decode cX10_init 86 = .ok (.aload_n 0, 1) := by decide +kernel
theorem dX10_init_87 : decode cX10_init 87 = .ok (.new 51, 3) := by decide +kernel
theorem dX10_init_90 : decode cX10_init 90 = .ok (.dup, 1) := by decide +kernel
theorem dX10_init_91 : decode cX10_init 91 = .ok (.invokespecial 53, 3) := by decide +kernel
theorem dX10_init_94 : decode cX10_init 94 = .ok (.putfield 54, 3) := by decide +kernel
theorem dX10_init_97 : decode cX10_init 97 = .ok (.aload_n 0, 1) := by decide +kernel
theorem dX10_init_98 : decode cX10_init 98 = .ok (.new 58, 3) := by decide +kernel
theorem dX10_init_101 : decode cX10_init 101 = .ok (.dup, 1) := by decide +kernel
theorem dX10_init_102 : decode cX10_init 102 = .ok (.invokespecial 60, 3) := by decide +kernel
theorem dX10_init_105 : decode cX10_init 105 = .ok (.putfield 61, 3) := by decide +kernel
theorem dX10_init_108 : decode cX10_init 108 = .ok (.aload_n 0, 1) := by decide +kernel
theorem dX10_init_109 : decode cX10_init 109 = .ok (.bipush 8, 2) := by decide +kernel
theorem dX10_init_111 : decode cX10_init 111 = .ok (.bipush 12, 2) := by decide +kernel
theorem dX10_init_113 : decode cX10_init 113 = .ok (.multianewarray 65 2, 4) := by decide +kernel
theorem dX10_init_117 : decode cX10_init 117 = .ok (.putfield 67, 3) := by decide +kernel
theorem dX10_init_120 : decode cX10_init 120 = .ok (.aload_n 0, 1) := by decide +kernel
theorem dX10_init_121 : decode cX10_init 121 = .ok (.bipush 8, 2) := by decide +kernel
theorem dX10_init_123 : decode cX10_init 123 = .ok (.newarray .boolean, 2) := by decide +kernel
theorem dX10_init_125 : decode cX10_init 125 = .ok (.putfield 70, 3) := by decide +kernel
theorem dX10_init_128 : decode cX10_init 128 = .ok (.aload_n 0, 1) := by decide +kernel
theorem dX10_init_129 : decode cX10_init 129 = .ok (.iconst 4, 1) := by decide +kernel
theorem dX10_init_130 : decode cX10_init 130 = .ok (.anewarray 74, 3) := by decide +kernel
theorem dX10_init_133 : decode cX10_init 133 = .ok (.putfield 76, 3) := by decide +kernel
theorem dX10_init_136 : decode cX10_init 136 = .ok (.iconst 0, 1) := by decide +kernel
theorem dX10_init_137 : decode cX10_init 137 = .ok (.istore_n 1, 1) := by decide +kernel
theorem dX10_init_138 : decode cX10_init 138 = .ok (.iload_n 1, 1) := by decide +kernel
theorem dX10_init_139 : decode cX10_init 139 = .ok (.iconst 4, 1) := by decide +kernel
theorem dX10_init_140 : decode cX10_init 140 = .ok (.if_icmp .ge 22, 3) := by decide +kernel
theorem dX10_init_143 : decode cX10_init 143 = .ok (.aload_n 0, 1) := by decide +kernel
theorem dX10_init_144 : decode cX10_init 144 = .ok (.getfield 76, 3) := by decide +kernel
theorem dX10_init_147 : decode cX10_init 147 = .ok (.iload_n 1, 1) := by decide +kernel
theorem dX10_init_148 : decode cX10_init 148 = .ok (.new 74, 3) := by decide +kernel
theorem dX10_init_151 : decode cX10_init 151 = .ok (.dup, 1) := by decide +kernel
theorem dX10_init_152 : decode cX10_init 152 = .ok (.invokespecial 80, 3) := by decide +kernel
theorem dX10_init_155 : decode cX10_init 155 = .ok (.aastore, 1) := by decide +kernel
theorem dX10_init_156 : decode cX10_init 156 = .ok (.iinc 1 1, 3) := by decide +kernel
theorem dX10_init_159 : decode cX10_init 159 = .ok (.goto (-21), 3) := by decide +kernel
theorem dX10_init_162 : decode cX10_init 162 = .ok (.aload_n 0, 1) := by decide +kernel
theorem dX10_init_163 : decode cX10_init 163 = .ok (.new 81, 3) := by decide +kernel
theorem dX10_init_166 : decode cX10_init 166 = .ok (.dup, 1) := by decide +kernel
theorem dX10_init_167 : decode cX10_init 167 = .ok (.invokespecial 83, 3) := by decide +kernel
theorem dX10_init_170 : decode cX10_init 170 = .ok (.putfield 84, 3) := by decide +kernel
theorem dX10_init_173 : decode cX10_init 173 = .ok (.aload_n 0, 1) := by decide +kernel
theorem dX10_init_174 : decode cX10_init 174 = .ok (.bipush 12, 2) := by decide +kernel
theorem dX10_init_176 : decode cX10_init 176 = .ok (.newarray .int, 2) := by decide +kernel
theorem dX10_init_178 : decode cX10_init 178 = .ok (.putfield 88, 3) := by decide +kernel
theorem dX10_init_181 : decode cX10_init 181 = .ok (.return_, 1) := by decide +kernel
theorem dX10_place_0 : decode cX10_place 0 = .ok (.aload_n 0, 1) := by decide +kernel
theorem dX10_place_1 : decode cX10_place 1 = .ok (.getfield 92, 3) := by decide +kernel
theorem dX10_place_4 : decode cX10_place 4 = .ok (.ifCond .eq 10, 3) := by decide +kernel
theorem dX10_place_7 : decode cX10_place 7 = .ok (.aload_n 0, 1) := by decide +kernel
theorem dX10_place_8 : decode cX10_place 8 = .ok (.bipush (-6), 2) := by decide +kernel
theorem dX10_place_10 : decode cX10_place 10 = .ok (.invokevirtual 96, 3) := by decide +kernel
theorem dX10_place_13 : decode cX10_place 13 = .ok (.ireturn, 1) := by decide +kernel
theorem dX10_place_14 : decode cX10_place 14 = .ok (.iload_n 1, 1) := by decide +kernel
theorem dX10_place_15 : decode cX10_place 15 = .ok (.ifCond .lt 8, 3) := by decide +kernel
theorem dX10_place_18 : decode cX10_place 18 = .ok (.iload_n 1, 1) := by decide +kernel
theorem dX10_place_19 : decode cX10_place 19 = .ok (.iconst 5, 1) := by decide +kernel
theorem dX10_place_20 : decode cX10_place 20 = .ok (.if_icmp .lt 9, 3) := by decide +kernel
theorem dX10_place_23 : decode cX10_place 23 = .ok (.aload_n 0, 1) := by decide +kernel
theorem dX10_place_24 : decode cX10_place 24 = .ok (.iconst (-1), 1) := by decide +kernel
theorem dX10_place_25 : decode cX10_place 25 = .ok (.invokevirtual 96, 3) := by decide +kernel
theorem dX10_place_28 : decode cX10_place 28 = .ok (.ireturn, 1) := by decide +kernel
theorem dX10_place_29 : decode cX10_place 29 = .ok (.aload_n 0, 1) := by decide +kernel
theorem dX10_place_30 : decode cX10_place 30 = .ok (.getfield 10, 3) := by decide +kernel
theorem dX10_place_33 : decode cX10_place 33 = .ok (.getfield 100, 3) := by decide +kernel
theorem dX10_place_36 : decode cX10_place 36 = .ok (.bipush 12, 2) := by decide +kernel
theorem dX10_place_38 : decode cX10_place 38 = .ok (.if_icmp .lt 10, 3) := by decide +kernel
theorem dX10_place_41 : decode cX10_place 41 = .ok (.aload_n 0, 1) := by decide +kernel
theorem dX10_place_42 : decode cX10_place 42 = .ok (.bipush (-5), 2) := by decide +kernel
theorem dX10_place_44 : decode cX10_place 44 = .ok (.invokevirtual 96, 3) := by decide +kernel
theorem dX10_place_47 : decode cX10_place 47 = .ok (.ireturn, 1) := by decide +kernel
theorem dX10_place_48 : decode cX10_place 48 = .ok (.aload_n 0, 1) := by decide +kernel
theorem dX10_place_49 : decode cX10_place 49 = .ok (.getfield 10, 3) := by decide +kernel
theorem dX10_place_52 : decode cX10_place 52 = .ok (.iload_n 1, 1) := by decide +kernel
theorem dX10_place_53 : decode cX10_place 53 = .ok (.invokevirtual 104, 3) := by decide +kernel
theorem dX10_place_56 : decode cX10_place 56 = .ok (.ireturn, 1) := by decide +kernel
theorem dX10_way_0 : decode cX10_way 0 = .ok (.aload_n 0, 1) := by decide +kernel
theorem dX10_way_1 : decode cX10_way 1 = .ok (.getfield 92, 3) := by decide +kernel
theorem dX10_way_4 : decode cX10_way 4 = .ok (.ifCond .eq 10, 3) := by decide +kernel
theorem dX10_way_7 : decode cX10_way 7 = .ok (.aload_n 0, 1) := by decide +kernel
theorem dX10_way_8 : decode cX10_way 8 = .ok (.bipush (-6), 2) := by decide +kernel
theorem dX10_way_10 : decode cX10_way 10 = .ok (.invokevirtual 96, 3) := by decide +kernel
theorem dX10_way_13 : decode cX10_way 13 = .ok (.ireturn, 1) := by decide +kernel
theorem dX10_way_14 : decode cX10_way 14 = .ok (.aload_n 0, 1) := by decide +kernel
theorem dX10_way_15 : decode cX10_way 15 = .ok (.getfield 10, 3) := by decide +kernel
theorem dX10_way_18 : decode cX10_way 18 = .ok (.iload_n 1, 1) := by decide +kernel
theorem dX10_way_19 : decode cX10_way 19 = .ok (.invokevirtual 107, 3) := by decide +kernel
theorem dX10_way_22 : decode cX10_way 22 = .ok (.ifCond .eq 19, 3) := by decide +kernel
theorem dX10_way_25 : decode cX10_way 25 = .ok (.aload_n 0, 1) := by decide +kernel
theorem dX10_way_26 : decode cX10_way 26 = .ok (.getfield 10, 3) := by decide +kernel
theorem dX10_way_29 : decode cX10_way 29 = .ok (.iload_n 2, 1) := by decide +kernel
theorem dX10_way_30 : decode cX10_way 30 = .ok (.invokevirtual 111, 3) := by decide +kernel
theorem dX10_way_33 : decode cX10_way 33 = .ok (.ifCond .eq 8, 3) := by decide +kernel
theorem dX10_way_36 : decode cX10_way 36 = .ok (.iload_n 2, 1) := by decide +kernel
theorem dX10_way_37 : decode cX10_way 37 = .ok (.iload_n 1, 1) := by decide +kernel
theorem dX10_way_38 : decode cX10_way 38 = .ok (.if_icmp .ne 9, 3) := by decide +kernel
theorem dX10_way_41 : decode cX10_way 41 = .ok (.aload_n 0, 1) := by decide +kernel
theorem dX10_way_42 : decode cX10_way 42 = .ok (.iconst (-1), 1) := by decide +kernel
theorem dX10_way_43 : decode cX10_way 43 = .ok (.invokevirtual 96, 3) := by decide +kernel
theorem dX10_way_46 : decode cX10_way 46 = .ok (.ireturn, 1) := by decide +kernel
theorem dX10_way_47 : decode cX10_way 47 = .ok (.iload_n 3, 1) := by decide +kernel
theorem dX10_way_48 : decode cX10_way 48 = .ok (.iconst 1, 1) := by decide +kernel
theorem dX10_way_49 : decode cX10_way 49 = .ok (.if_icmp .lt 9, 3) := by decide +kernel
theorem dX10_way_52 : decode cX10_way 52 = .ok (.iload_n 3, 1) := by decide +kernel
theorem dX10_way_53 : decode cX10_way 53 = .ok (.bipush 9, 2) := by decide +kernel
theorem dX10_way_55 : decode cX10_way 55 = .ok (.if_icmp .le 9, 3) := by decide +kernel
theorem dX10_way_58 : decode cX10_way 58 = .ok (.aload_n 0, 1) := by decide +kernel
theorem dX10_way_59 : decode cX10_way 59 = .ok (.iconst (-1), 1) := by decide +kernel
theorem dX10_way_60 : decode cX10_way 60 = .ok (.invokevirtual 96, 3) := by decide +kernel
theorem dX10_way_63 : decode cX10_way 63 = .ok (.ireturn, 1) := by decide +kernel
theorem dX10_way_64 : decode cX10_way 64 = .ok (.iload_n 3, 1) := by decide +kernel
theorem dX10_way_65 : decode cX10_way 65 = .ok (.iconst 1, 1) := by decide +kernel
theorem dX10_way_66 : decode cX10_way 66 = .ok (.if_icmp .eq 22, 3) := by decide +kernel
theorem dX10_way_69 : decode cX10_way 69 = .ok (.aload_n 0, 1) := by decide +kernel
theorem dX10_way_70 : decode cX10_way 70 = .ok (.getfield 10, 3) := by decide +kernel
theorem dX10_way_73 : decode cX10_way 73 = .ok (.iload_n 1, 1) := by decide +kernel
