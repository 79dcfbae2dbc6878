theorem dX0_init_0 : decode cX0_init 0 = .ok (.aload_n 0, 1) := by decide +kernel
theorem dX0_init_1 : decode cX0_init 1 = .ok (.invokespecial 1, 3) := by decide +kernel
theorem dX0_init_4 : decode cX0_init 4 = .ok (.return_, 1) := by decide +kernel
theorem dX0_add_0 : decode cX0_add 0 = .ok (.aload_n 1, 1) := by decide +kernel
theorem dX0_add_1 : decode cX0_add 1 = .ok (.aconst_null, 1) := by decide +kernel
theorem dX0_add_2 : decode cX0_add 2 = .ok (.putfield 7, 3) := by decide +kernel
theorem dX0_add_5 : decode cX0_add 5 = .ok (.aload_n 0, 1) := by decide +kernel
theorem dX0_add_6 : decode cX0_add 6 = .ok (.getfield 13, 3) := by decide +kernel
theorem dX0_add_9 : decode cX0_add 9 = .ok (.ifnonnull 11, 3) := by decide +kernel
theorem dX0_add_12 : decode cX0_add 12 = .ok (.aload_n 0, 1) := by decide +kernel
theorem dX0_add_13 : decode cX0_add 13 = .ok (.aload_n 1, 1) := by decide +kernel
theorem dX0_add_14 : decode cX0_add 14 = .ok (.putfield 18, 3) := by decide +kernel
theorem dX0_add_17 : decode cX0_add 17 = .ok (.goto 11, 3) := by decide +kernel
theorem dX0_add_20 : decode cX0_add 20 = .ok (.aload_n 0, 1) := by decide +kernel
theorem dX0_add_21 : decode cX0_add 21 = .ok (.getfield 13, 3) := by decide +kernel
theorem dX0_add_24 : decode cX0_add 24 = .ok (.aload_n 1, 1) := by decide +kernel
theorem dX0_add_25 : decode cX0_add 25 = .ok (.putfield 7, 3) := by decide +kernel
theorem dX0_add_28 : decode cX0_add 28 = .ok (.aload_n 0, 1) := by decide +kernel
theorem dX0_add_29 : decode cX0_add 29 = .ok (.aload_n 1, 1) := by decide +kernel
theorem dX0_add_30 : decode cX0_add 30 = .ok (.putfield 13, 3) := by decide +kernel
theorem dX0_add_33 : decode cX0_add 33 = .ok (.aload_n 0, 1) := by decide +kernel
theorem dX0_add_34 : decode cX0_add 34 = .ok (.dup, 1) := by decide +kernel
theorem dX0_add_35 : decode cX0_add 35 = .ok (.getfield 21, 3) := by decide +kernel
theorem dX0_add_38 : decode cX0_add 38 = .ok (.iconst 1, 1) := by decide +kernel
theorem dX0_add_39 : decode cX0_add 39 = .ok (.iadd, 1) := by decide +kernel
theorem dX0_add_40 : decode cX0_add 40 = .ok (.putfield 21, 3) := by decide +kernel
theorem dX0_add_43 : decode cX0_add 43 = .ok (.aload_n 0, 1) := by decide +kernel
theorem dX0_add_44 : decode cX0_add 44 = .ok (.dup, 1) := by decide +kernel
theorem dX0_add_45 : decode cX0_add 45 = .ok (.getfield 25, 3) := by decide +kernel
theorem dX0_add_48 : decode cX0_add 48 = .ok (.aload_n 1, 1) := by decide +kernel
theorem dX0_add_49 : decode cX0_add 49 = .ok (.getfield 28, 3) := by decide +kernel
theorem dX0_add_52 : decode cX0_add 52 = .ok (.iadd, 1) := by decide +kernel
theorem dX0_add_53 : decode cX0_add 53 = .ok (.putfield 25, 3) := by decide +kernel
theorem dX0_add_56 : decode cX0_add 56 = .ok (.return_, 1) := by decide +kernel
theorem dX0_takeAll_0 : decode cX0_takeAll 0 = .ok (.aload_n 1, 1) := by decide +kernel
theorem dX0_takeAll_1 : decode cX0_takeAll 1 = .ok (.getfield 18, 3) := by decide +kernel
theorem dX0_takeAll_4 : decode cX0_takeAll 4 = .ok (.ifnonnull 4, 3) := by decide +kernel
theorem dX0_takeAll_7 : decode cX0_takeAll 7 = .ok (.return_, 1) := by decide +kernel
theorem dX0_takeAll_8 : decode cX0_takeAll 8 = .ok (.aload_n 0, 1) := by decide +kernel
theorem dX0_takeAll_9 : decode cX0_takeAll 9 = .ok (.getfield 13, 3) := by decide +kernel
theorem dX0_takeAll_12 : decode cX0_takeAll 12 = .ok (.ifnonnull 14, 3) := by decide +kernel
theorem dX0_takeAll_15 : decode cX0_takeAll 15 = .ok (.aload_n 0, 1) := by decide +kernel
theorem dX0_takeAll_16 : decode cX0_takeAll 16 = .ok (.aload_n 1, 1) := by decide +kernel
theorem dX0_takeAll_17 : decode cX0_takeAll 17 = .ok (.getfield 18, 3) := by decide +kernel
theorem dX0_takeAll_20 : decode cX0_takeAll 20 = .ok (.putfield 18, 3) := by decide +kernel
theorem dX0_takeAll_23 : decode cX0_takeAll 23 = .ok (.goto 14, 3) := by decide +kernel
theorem dX0_takeAll_26 : decode cX0_takeAll 26 = .ok (.aload_n 0, 1) := by decide +kernel
theorem dX0_takeAll_27 : decode cX0_takeAll 27 = .ok (.getfield 13, 3) := by decide +kernel
theorem dX0_takeAll_30 : decode cX0_takeAll 30 = .ok (.aload_n 1, 1) := by decide +kernel
theorem dX0_takeAll_31 : decode cX0_takeAll 31 = .ok (.getfield 18, 3) := by decide +kernel
theorem dX0_takeAll_34 : decode cX0_takeAll 34 = .ok (.putfield 7, 3) := by decide +kernel
theorem dX0_takeAll_37 : decode cX0_takeAll 37 = .ok (.aload_n 0, 1) := by decide +kernel
theorem dX0_takeAll_38 : decode cX0_takeAll 38 = .ok (.aload_n 1, 1) := by decide +kernel
theorem dX0_takeAll_39 : decode cX0_takeAll 39 = .ok (.getfield 13, 3) := by decide +kernel
theorem dX0_takeAll_42 : decode cX0_takeAll 42 = .ok (.putfield 13, 3) := by decide +kernel
theorem dX0_takeAll_45 : decode cX0_takeAll 45 = .ok (.aload_n 0, 1) := by decide +kernel
theorem dX0_takeAll_46 : decode cX0_takeAll 46 = .ok (.dup, 1) := by decide +kernel
theorem dX0_takeAll_47 : decode cX0_takeAll 47 = .ok (.getfield 21, 3) := by decide +kernel
theorem dX0_takeAll_50 : decode cX0_takeAll 50 = .ok (.aload_n 1, 1) := by decide +kernel
theorem dX0_takeAll_51 : decode cX0_takeAll 51 = .ok (.getfield 21, 3) := by decide +kernel
theorem dX0_takeAll_54 : decode cX0_takeAll 54 = .ok (.iadd, 1) := by decide +kernel
theorem dX0_takeAll_55 : decode cX0_takeAll 55 = .ok (.putfield 21, 3) := by decide +kernel
theorem dX0_takeAll_58 : decode cX0_takeAll 58 = .ok (.aload_n 0, 1) := by decide +kernel
theorem dX0_takeAll_59 : decode cX0_takeAll 59 = .ok (.dup, 1) := by decide +kernel
theorem dX0_takeAll_60 : decode cX0_takeAll 60 = .ok (.getfield 25, 3) := by decide +kernel
theorem dX0_takeAll_63 : decode cX0_takeAll 63 = .ok (.aload_n 1, 1) := by decide +kernel
theorem dX0_takeAll_64 : decode cX0_takeAll 64 = .ok (.getfield 25, 3) := by decide +kernel
theorem dX0_takeAll_67 : decode cX0_takeAll 67 = .ok (.iadd, 1) := by decide +kernel
theorem dX0_takeAll_68 : decode cX0_takeAll 68 = .ok (.putfield 25, 3) := by decide +kernel
theorem dX0_takeAll_71 : decode cX0_takeAll 71 = .ok (.aload_n 1, 1) := by decide +kernel
theorem dX0_takeAll_72 : decode cX0_takeAll 72 = .ok (.invokevirtual 29, 3) := by decide +kernel
theorem dX0_takeAll_75 : decode cX0_takeAll 75 = .ok (.return_, 1) := by decide +kernel
theorem dX0_empty_0 : decode cX0_empty 0 = .ok (.aload_n 0, 1) := by decide +kernel
theorem dX0_empty_1 : decode cX0_empty 1 = .ok (.aconst_null, 1) := by decide +kernel
theorem dX0_empty_2 : decode cX0_empty 2 = .ok (.putfield 18, 3) := by decide +kernel
theorem dX0_empty_5 : decode cX0_empty 5 = .ok (.aload_n 0, 1) := by decide +kernel
theorem dX0_empty_6 : decode cX0_empty 6 = .ok (.aconst_null, 1) := by decide +kernel
theorem dX0_empty_7 : decode cX0_empty 7 = .ok (.putfield 13, 3) := by decide +kernel
theorem dX0_empty_10 : decode cX0_empty 10 = .ok (.aload_n 0, 1) := by decide +kernel
theorem dX0_empty_11 : decode cX0_empty 11 = .ok (.iconst 0, 1) := by decide +kernel
theorem dX0_empty_12 : decode cX0_empty 12 = .ok (.putfield 21, 3) := by decide +kernel
theorem dX0_empty_15 : decode cX0_empty 15 = .ok (.aload_n 0, 1) := by decide +kernel
theorem dX0_empty_16 : decode cX0_empty 16 = .ok (.iconst 0, 1) := by decide +kernel
theorem dX0_empty_17 : decode cX0_empty 17 = .ok (.putfield 25, 3) := by decide +kernel
theorem dX0_empty_20 : decode cX0_empty 20 = .ok (.return_, 1) := by decide +kernel
theorem dX1_init_0 : decode cX1_init 0 = .ok (.aload_n 0, 1) := by decide +kernel
theorem dX1_init_1 : decode cX1_init 1 = .ok (.iload_n 1, 1) := by decide +kernel
theorem dX1_init_2 : decode cX1_init 2 = .ok (.iload_n 2, 1) := by decide +kernel
theorem dX1_init_3 : decode cX1_init 3 = .ok (.invokespecial 1, 3) := by decide +kernel
theorem dX1_init_6 : decode cX1_init 6 = .ok (.aload_n 0, 1) := by decide +kernel
theorem dX1_init_7 : decode cX1_init 7 = .ok (.iload_n 3, 1) := by decide +kernel
theorem dX1_init_8 : decode cX1_init 8 = .ok (.anewarray 2, 3) := by decide +kernel
theorem dX1_init_11 : decode cX1_init 11 = .ok (.putfield 7, 3) := by decide +kernel
theorem dX1_init_14 : decode cX1_init 14 = .ok (.aload_n 0, 1) := by decide +kernel
theorem dX1_init_15 : decode cX1_init 15 = .ok (.iload 4, 2) := by decide +kernel
theorem dX1_init_17 : decode cX1_init 17 = .ok (.newarray .long, 2) := by decide +kernel
theorem dX1_init_19 : decode cX1_init 19 = .ok (.putfield 13, 3) := by decide +kernel
theorem dX1_init_22 : decode cX1_init 22 = .ok (.return_, 1) := by decide +kernel
theorem dX1_leadOn_0 : decode cX1_leadOn 0 = .ok (.aload_n 0, 1) := by decide +kernel
theorem dX1_leadOn_1 : decode cX1_leadOn 1 = .ok (.getfield 7, 3) := by decide +kernel
theorem dX1_leadOn_4 : decode cX1_leadOn 4 = .ok (.astore_n 3, 1) := by decide +kernel
theorem dX1_leadOn_5 : decode cX1_leadOn 5 = .ok (.aload_n 3, 1) := by decide +kernel
theorem dX1_leadOn_6 : decode cX1_leadOn 6 = .ok (.arraylength, 1) := by decide +kernel
theorem dX1_leadOn_7 : decode cX1_leadOn 7 = .ok (.istore 4, 2) := by decide +kernel
theorem dX1_leadOn_9 : decode cX1_leadOn 9 = .ok (.iconst 0, 1) := by decide +kernel
theorem dX1_leadOn_10 : decode cX1_leadOn 10 = .ok (.istore 5, 2) := by decide +kernel
theorem dX1_leadOn_12 : decode cX1_leadOn 12 = .ok (.iload 5, 2) := by decide +kernel
theorem dX1_leadOn_14 : decode cX1_leadOn 14 = .ok (.iload 4, 2) := by decide +kernel
theorem dX1_leadOn_16 : decode cX1_leadOn 16 = .ok (.if_icmp .ge 21, 3) := by decide +kernel
theorem dX1_leadOn_19 : decode cX1_leadOn 19 = .ok (.aload_n 3, 1) := by decide +kernel
theorem dX1_leadOn_20 : decode cX1_leadOn 20 = .ok (.iload 5, 2) := by decide +kernel
theorem dX1_leadOn_22 : decode cX1_leadOn 22 = .ok (.aaload, 1) := by decide +kernel
theorem dX1_leadOn_23 : decode cX1_leadOn 23 = .ok (.astore 6, 2) := by decide +kernel
theorem dX1_leadOn_25 : decode cX1_leadOn 25 = .ok (.aload_n 1, 1) := by decide +kernel
theorem dX1_leadOn_26 : decode cX1_leadOn 26 = .ok (.aload 6, 2) := by decide +kernel
theorem dX1_leadOn_28 : decode cX1_leadOn 28 = .ok (.invokevirtual 17, 3) := by decide +kernel
theorem dX1_leadOn_31 : decode cX1_leadOn 31 = .ok (.iinc 5 1, 3) := by decide +kernel
theorem dX1_leadOn_34 : decode cX1_leadOn 34 = .ok (.goto (-22), 3) := by decide +kernel
theorem dX1_leadOn_37 : decode cX1_leadOn 37 = .ok (.return_, 1) := by decide +kernel
theorem dX1_digestOn_0 : decode cX1_digestOn 0 = .ok (.lload_n 1, 1) := by decide +kernel
theorem dX1_digestOn_1 : decode cX1_digestOn 1 = .ok (.aload_n 0, 1) := by decide +kernel
theorem dX1_digestOn_2 : decode cX1_digestOn 2 = .ok (.getfield 7, 3) := by decide +kernel
theorem dX1_digestOn_5 : decode cX1_digestOn 5 = .ok (.arraylength, 1) := by decide +kernel
theorem dX1_digestOn_6 : decode cX1_digestOn 6 = .ok (.i2l, 1) := by decide +kernel
theorem dX1_digestOn_7 : decode cX1_digestOn 7 = .ok (.invokestatic 23, 3) := by decide +kernel
theorem dX1_digestOn_10 : decode cX1_digestOn 10 = .ok (.lstore 4, 2) := by decide +kernel
theorem dX1_digestOn_12 : decode cX1_digestOn 12 = .ok (.aload_n 0, 1) := by decide +kernel
theorem dX1_digestOn_13 : decode cX1_digestOn 13 = .ok (.getfield 7, 3) := by decide +kernel
theorem dX1_digestOn_16 : decode cX1_digestOn 16 = .ok (.astore 6, 2) := by decide +kernel
theorem dX1_digestOn_18 : decode cX1_digestOn 18 = .ok (.aload 6, 2) := by decide +kernel
theorem dX1_digestOn_20 : decode cX1_digestOn 20 = .ok (.arraylength, 1) := by decide +kernel
theorem dX1_digestOn_21 : decode cX1_digestOn 21 = .ok (.istore 7, 2) := by decide +kernel
theorem dX1_digestOn_23 : decode cX1_digestOn 23 = .ok (.iconst 0, 1) := by decide +kernel
theorem dX1_digestOn_24 : decode cX1_digestOn 24 = .ok (.istore 8, 2) := by decide +kernel
theorem dX1_digestOn_26 : decode cX1_digestOn 26 = .ok (.iload 8, 2) := by decide +kernel
theorem dX1_digestOn_28 : decode cX1_digestOn 28 = .ok (.iload 7, 2) := by decide +kernel
theorem dX1_digestOn_30 : decode cX1_digestOn 30 = .ok (.if_icmp .ge 44, 3) := by decide +kernel
theorem dX1_digestOn_33 : decode cX1_digestOn 33 = .ok (.aload 6, 2) := by decide +kernel
theorem dX1_digestOn_35 : decode cX1_digestOn 35 = .ok (.iload 8, 2) := by decide +kernel
theorem dX1_digestOn_37 : decode cX1_digestOn 37 = .ok (.aaload, 1) := by decide +kernel
theorem dX1_digestOn_38 : decode cX1_digestOn 38 = .ok (.astore 9, 2) := by decide +kernel
theorem dX1_digestOn_40 : decode cX1_digestOn 40 = .ok (.aload_n 3, 1) := by decide +kernel
theorem dX1_digestOn_41 : decode cX1_digestOn 41 = .ok (.aload 9, 2) := by decide +kernel
theorem dX1_digestOn_43 : decode cX1_digestOn 43 = .ok (.invokevirtual 17, 3) := by decide +kernel
theorem dX1_digestOn_46 : decode cX1_digestOn 46 = .ok (.lload 4, 2) := by decide +kernel
theorem dX1_digestOn_48 : decode cX1_digestOn 48 = .ok (.aload 9, 2) := by decide +kernel
theorem dX1_digestOn_50 : decode cX1_digestOn 50 = .ok (.ifnonnull 7, 3) := by decide +kernel
theorem dX1_digestOn_53 : decode cX1_digestOn 53 = .ok (.lconst 0, 1) := by decide +kernel
theorem dX1_digestOn_54 : decode cX1_digestOn 54 = .ok (.goto 9, 3) := by decide +kernel
theorem dX1_digestOn_57 : decode cX1_digestOn 57 = .ok (.aload 9, 2) := by decide +kernel
theorem dX1_digestOn_59 : decode cX1_digestOn 59 = .ok (.getfield 29, 3) := by decide +kernel
theorem dX1_digestOn_62 : decode cX1_digestOn 62 = .ok (.i2l, 1) := by decide +kernel
theorem dX1_digestOn_63 : decode cX1_digestOn 63 = .ok (.invokestatic 23, 3) := by decide +kernel
theorem dX1_digestOn_66 : decode cX1_digestOn 66 = .ok (.lstore 4, 2) := by decide +kernel
theorem dX1_digestOn_68 : decode cX1_digestOn 68 = .ok (.iinc 8 1, 3) := by decide +kernel
theorem dX1_digestOn_71 : decode cX1_digestOn 71 = .ok (.goto (-45), 3) := by decide +kernel
theorem dX1_digestOn_74 : decode cX1_digestOn 74 = .ok (.lload 4, 2) := by decide +kernel
theorem dX1_digestOn_76 : decode cX1_digestOn 76 = .ok (.aload_n 0, 1) := by decide +kernel
theorem dX1_digestOn_77 : decode cX1_digestOn 77 = .ok (.getfield 13, 3) := by decide +kernel
theorem dX1_digestOn_80 : decode cX1_digestOn 80 = .ok (.arraylength, 1) := by decide +kernel
theorem dX1_digestOn_81 : decode cX1_digestOn 81 = .ok (.i2l, 1) := by decide +kernel
theorem dX1_digestOn_82 : decode cX1_digestOn 82 = .ok (.invokestatic 23, 3) := by decide +kernel
theorem dX1_digestOn_85 : decode cX1_digestOn 85 = .ok (.lstore 4, 2) := by decide +kernel
theorem dX1_digestOn_87 : decode cX1_digestOn 87 = .ok (.aload_n 0, 1) := by decide +kernel
theorem dX1_digestOn_88 : decode cX1_digestOn 88 = .ok (.getfield 13, 3) := by decide +kernel
theorem dX1_digestOn_91 : decode cX1_digestOn 91 = .ok (.astore 6, 2) := by decide +kernel
theorem dX1_digestOn_93 : decode cX1_digestOn 93 = .ok (.aload 6, 2) := by decide +kernel
theorem dX1_digestOn_95 : decode cX1_digestOn 95 = .ok (.arraylength, 1) := by decide +kernel
theorem dX1_digestOn_96 : decode cX1_digestOn 96 = .ok (.istore 7, 2) := by decide +kernel
theorem dX1_digestOn_98 : decode cX1_digestOn 98 = .ok (.iconst 0, 1) := by decide +kernel
theorem dX1_digestOn_99 : decode cX1_digestOn 99 = .ok (.istore 8, 2) := by decide +kernel
theorem dX1_digestOn_101 : decode cX1_digestOn 101 = .ok (.iload 8, 2) := by decide +kernel
theorem dX1_digestOn_103 : decode cX1_digestOn 103 = .ok (.iload 7, 2) := by decide +kernel
theorem dX1_digestOn_105 : decode cX1_digestOn 105 = .ok (.if_icmp .ge 25, 3) := by decide +kernel
theorem dX1_digestOn_108 : decode cX1_digestOn 108 = .ok (.aload 6, 2) := by decide +kernel
theorem dX1_digestOn_110 : decode cX1_digestOn 110 = .ok (.iload 8, 2) := by decide +kernel
theorem dX1_digestOn_112 : decode cX1_digestOn 112 = .ok (.laload, 1) := by decide +kernel
theorem dX1_digestOn_113 : decode cX1_digestOn 113 = .ok (.lstore 9, 2) := by decide +kernel
theorem dX1_digestOn_115 : decode cX1_digestOn 115 = .ok (.lload 4, 2) := by decide +kernel
theorem dX1_digestOn_117 : decode cX1_digestOn 117 = .ok (.lload 9, 2) := by decide +kernel
theorem dX1_digestOn_119 : decode cX1_digestOn 119 = .ok (.invokestatic 23, 3) := by decide +kernel
theorem dX1_digestOn_122 : decode cX1_digestOn 122 = .ok (.lstore 4, 2) := by decide +kernel
theorem dX1_digestOn_124 : decode cX1_digestOn 124 = .ok (.iinc 8 1, 3) := by decide +kernel
theorem dX1_digestOn_127 : decode cX1_digestOn 127 = .ok (.goto (-26), 3) := by decide +kernel
theorem dX1_digestOn_130 : decode cX1_digestOn 130 = .ok (.lload 4, 2) := by decide +kernel
theorem dX1_digestOn_132 : decode cX1_digestOn 132 = .ok (.lreturn, 1) := by decide +kernel
theorem dX2_init_0 : decode cX2_init 0 = .ok (.aload_n 0, 1) := by decide +kernel
theorem dX2_init_1 : decode cX2_init 1 = .ok (.iconst 3, 1) := by decide +kernel
theorem dX2_init_2 : decode cX2_init 2 = .ok (.iconst 3, 1) := by decide +kernel
theorem dX2_init_3 : decode cX2_init 3 = .ok (.invokespecial 3, 3) := by decide +kernel
theorem dX2_init_6 : decode cX2_init 6 = .ok (.return_, 1) := by decide +kernel
theorem dX2_add_0 : decode cX2_add 0 = .ok (.aload_n 0, 1) := by decide +kernel
theorem dX2_add_1 : decode cX2_add 1 = .ok (.getfield 9, 3) := by decide +kernel
theorem dX2_add_4 : decode cX2_add 4 = .ok (.ifnonnull 11, 3) := by decide +kernel
theorem dX2_add_7 : decode cX2_add 7 = .ok (.aload_n 0, 1) := by decide +kernel
theorem dX2_add_8 : decode cX2_add 8 = .ok (.aload_n 1, 1) := by decide +kernel
theorem dX2_add_9 : decode cX2_add 9 = .ok (.putfield 15, 3) := by decide +kernel
theorem dX2_add_12 : decode cX2_add 12 = .ok (.goto 11, 3) := by decide +kernel
theorem dX2_add_15 : decode cX2_add 15 = .ok (.aload_n 0, 1) := by decide +kernel
theorem dX2_add_16 : decode cX2_add 16 = .ok (.getfield 9, 3) := by decide +kernel
theorem dX2_add_19 : decode cX2_add 19 = .ok (.aload_n 1, 1) := by decide +kernel
theorem dX2_add_20 : decode cX2_add 20 = .ok (.putfield 18, 3) := by decide +kernel
theorem dX2_add_23 : decode cX2_add 23 = .ok (.aload_n 0, 1) := by decide +kernel
theorem dX2_add_24 : decode cX2_add 24 = .ok (.aload_n 1, 1) := by decide +kernel
theorem dX2_add_25 : decode cX2_add 25 = .ok (.putfield 9, 3) := by decide +kernel
theorem dX2_add_28 : decode cX2_add 28 = .ok (.aload_n 0, 1) := by decide +kernel
theorem dX2_add_29 : decode cX2_add 29 = .ok (.dup, 1) := by decide +kernel
theorem dX2_add_30 : decode cX2_add 30 = .ok (.getfield 23, 3) := by decide +kernel
theorem dX2_add_33 : decode cX2_add 33 = .ok (.iconst 1, 1) := by decide +kernel
theorem dX2_add_34 : decode cX2_add 34 = .ok (.iadd, 1) := by decide +kernel
theorem dX2_add_35 : decode cX2_add 35 = .ok (.putfield 23, 3) := by decide +kernel
theorem dX2_add_38 : decode cX2_add 38 = .ok (.return_, 1) := by decide +kernel
theorem dX2_takeFirst_0 : decode cX2_takeFirst 0 = .ok (.aload_n 0, 1) := by decide +kernel
theorem dX2_takeFirst_1 : decode cX2_takeFirst 1 = .ok (.getfield 15, 3) := by decide +kernel
theorem dX2_takeFirst_4 : decode cX2_takeFirst 4 = .ok (.astore_n 1, 1) := by decide +kernel
theorem dX2_takeFirst_5 : decode cX2_takeFirst 5 = .ok (.aload_n 1, 1) := by decide +kernel
theorem dX2_takeFirst_6 : decode cX2_takeFirst 6 = .ok (.ifnonnull 5, 3) := by decide +kernel
theorem dX2_takeFirst_9 : decode cX2_takeFirst 9 = .ok (.aconst_null, 1) := by decide +kernel
theorem dX2_takeFirst_10 : decode cX2_takeFirst 10 = .ok (.areturn, 1) := by decide +kernel
theorem dX2_takeFirst_11 : decode cX2_takeFirst 11 = .ok (.aload_n 0, 1) := by decide +kernel
theorem dX2_takeFirst_12 : decode cX2_takeFirst 12 = .ok (.aload_n 1, 1) := by decide +kernel
theorem dX2_takeFirst_13 : decode cX2_takeFirst 13 = .ok (.getfield 18, 3) := by decide +kernel
theorem dX2_takeFirst_16 : decode cX2_takeFirst 16 = .ok (.putfield 15, 3) := by decide +kernel
theorem dX2_takeFirst_19 : decode cX2_takeFirst 19 = .ok (.aload_n 1, 1) := by decide +kernel
theorem dX2_takeFirst_20 : decode cX2_takeFirst 20 = .ok (.aconst_null, 1) := by decide +kernel
theorem dX2_takeFirst_21 : decode cX2_takeFirst 21 = .ok (.putfield 18, 3) := by decide +kernel
theorem dX2_takeFirst_24 : decode cX2_takeFirst 24 = .ok (.aload_n 0, 1) := by decide +kernel
theorem dX2_takeFirst_25 : decode cX2_takeFirst 25 = .ok (.getfield 15, 3) := by decide +kernel
theorem dX2_takeFirst_28 : decode cX2_takeFirst 28 = .ok (.ifnonnull 8, 3) := by decide +kernel
theorem dX2_takeFirst_31 : decode cX2_takeFirst 31 = .ok (.aload_n 0, 1) := by decide +kernel
theorem dX2_takeFirst_32 : decode cX2_takeFirst 32 = .ok (.aconst_null, 1) := by decide +kernel
theorem dX2_takeFirst_33 : decode cX2_takeFirst 33 = .ok (.putfield 9, 3) := by decide +kernel
theorem dX2_takeFirst_36 : decode cX2_takeFirst 36 = .ok (.aload_n 0, 1) := by decide +kernel
theorem dX2_takeFirst_37 : decode cX2_takeFirst 37 = .ok (.dup, 1) := by decide +kernel
theorem dX2_takeFirst_38 : decode cX2_takeFirst 38 = .ok (.getfield 23, 3) := by decide +kernel
theorem dX2_takeFirst_41 : decode cX2_takeFirst 41 = .ok (.iconst 1, 1) := by decide +kernel
theorem dX2_takeFirst_42 : decode cX2_takeFirst 42 = .ok (.isub, 1) := by decide +kernel
theorem dX2_takeFirst_43 : decode cX2_takeFirst 43 = .ok (.putfield 23, 3) := by decide +kernel
theorem dX2_takeFirst_46 : decode cX2_takeFirst 46 = .ok (.aload_n 1, 1) := by decide +kernel
theorem dX2_takeFirst_47 : decode cX2_takeFirst 47 = .ok (.areturn, 1) := by decide +kernel
theorem dX2_leadOn_0 : decode cX2_leadOn 0 = .ok (.aload_n 0, 1) := by decide +kernel
theorem dX2_leadOn_1 : decode cX2_leadOn 1 = .ok (.getfield 15, 3) := by decide +kernel
theorem dX2_leadOn_4 : decode cX2_leadOn 4 = .ok (.astore_n 3, 1) := by decide +kernel
theorem dX2_leadOn_5 : decode cX2_leadOn 5 = .ok (.aload_n 3, 1) := by decide +kernel
theorem dX2_leadOn_6 : decode cX2_leadOn 6 = .ok (.ifnull 16, 3) := by decide +kernel
theorem dX2_leadOn_9 : decode cX2_leadOn 9 = .ok (.aload_n 1, 1) := by decide +kernel
theorem dX2_leadOn_10 : decode cX2_leadOn 10 = .ok (.aload_n 3, 1) := by decide +kernel
theorem dX2_leadOn_11 : decode cX2_leadOn 11 = .ok (.invokevirtual 27, 3) := by decide +kernel
theorem dX2_leadOn_14 : decode cX2_leadOn 14 = .ok (.aload_n 3, 1) := by decide +kernel
theorem dX2_leadOn_15 : decode cX2_leadOn 15 = .ok (.getfield 18, 3) := by decide +kernel
theorem dX2_leadOn_18 : decode cX2_leadOn 18 = .ok (.astore_n 3, 1) := by decide +kernel
theorem dX2_leadOn_19 : decode cX2_leadOn 19 = .ok (.goto (-14), 3) := by decide +kernel
theorem dX2_leadOn_22 : decode cX2_leadOn 22 = .ok (.return_, 1) := by decide +kernel
theorem dX3_init_0 : decode cX3_init 0 = .ok (.aload_n 0, 1) := by decide +kernel
theorem dX3_init_1 : decode cX3_init 1 = .ok (.iload_n 1, 1) := by decide +kernel
theorem dX3_init_2 : decode cX3_init 2 = .ok (.iload_n 2, 1) := by decide +kernel
theorem dX3_init_3 : decode cX3_init 3 = .ok (.invokespecial 3, 3) := by decide +kernel
theorem dX3_init_6 : decode cX3_init 6 = .ok (.aload_n 0, 1) := by decide +kernel
theorem dX3_init_7 : decode cX3_init 7 = .ok (.aload_n 3, 1) := by decide +kernel
theorem dX3_init_8 : decode cX3_init 8 = .ok (.putfield 9, 3) := by decide +kernel
theorem dX3_init_11 : decode cX3_init 11 = .ok (.aload_n 0, 1) := by decide +kernel
theorem dX3_init_12 : decode cX3_init 12 = .ok (.aload 4, 2) := by decide +kernel
theorem dX3_init_14 : decode cX3_init 14 = .ok (.putfield 15, 3) := by decide +kernel
theorem dX3_init_17 : decode cX3_init 17 = .ok (.aload_n 0, 1) := by decide +kernel
theorem dX3_init_18 : decode cX3_init 18 = .ok (.aload 5, 2) := by decide +kernel
theorem dX3_init_20 : decode cX3_init 20 = .ok (.putfield 18, 3) := by decide +kernel
theorem dX3_init_23 : decode cX3_init 23 = .ok (.return_, 1) := by decide +kernel
theorem dX3_forget_0 : decode cX3_forget 0 = .ok (.aload_n 0, 1) := by decide +kernel
theorem dX3_forget_1 : decode cX3_forget 1 = .ok (.aconst_null, 1) := by decide +kernel
theorem dX3_forget_2 : decode cX3_forget 2 = .ok (.putfield 9, 3) := by decide +kernel
theorem dX3_forget_5 : decode cX3_forget 5 = .ok (.aload_n 0, 1) := by decide +kernel
theorem dX3_forget_6 : decode cX3_forget 6 = .ok (.aconst_null, 1) := by decide +kernel
theorem dX3_forget_7 : decode cX3_forget 7 = .ok (.putfield 15, 3) := by decide +kernel
theorem dX3_forget_10 : decode cX3_forget 10 = .ok (.return_, 1) := by decide +kernel
theorem dX3_refersOutside_0 : decode cX3_refersOutside 0 = .ok (.aload_n 0, 1) := by decide +kernel
theorem dX3_refersOutside_1 : decode cX3_refersOutside 1 = .ok (.getfield 9, 3) := by decide +kernel
theorem dX3_refersOutside_4 : decode cX3_refersOutside 4 = .ok (.ifnull 18, 3) := by decide +kernel
theorem dX3_refersOutside_7 : decode cX3_refersOutside 7 = .ok (.aload_n 1, 1) := by decide +kernel
theorem dX3_refersOutside_8 : decode cX3_refersOutside 8 = .ok (.aload_n 0, 1) := by decide +kernel
theorem dX3_refersOutside_9 : decode cX3_refersOutside 9 = .ok (.getfield 9, 3) := by decide +kernel
theorem dX3_refersOutside_12 : decode cX3_refersOutside 12 = .ok (.invokevirtual 22, 3) := by decide +kernel
theorem dX3_refersOutside_15 : decode cX3_refersOutside 15 = .ok (.ifCond .ne 7, 3) := by decide +kernel
theorem dX3_refersOutside_18 : decode cX3_refersOutside 18 = .ok (.iconst 1, 1) := by decide +kernel
theorem dX3_refersOutside_19 : decode cX3_refersOutside 19 = .ok (.goto 4, 3) := by decide +kernel
theorem dX3_refersOutside_22 : decode cX3_refersOutside 22 = .ok (.iconst 0, 1) := by decide +kernel
theorem dX3_refersOutside_23 : decode cX3_refersOutside 23 = .ok (.ireturn, 1) := by decide +kernel
theorem dX3_leadOn_0 : decode cX3_leadOn 0 = .ok (.aload_n 0, 1) := by decide +kernel
theorem dX3_leadOn_1 : decode cX3_leadOn 1 = .ok (.getfield 28, 3) := by decide +kernel
theorem dX3_leadOn_4 : decode cX3_leadOn 4 = .ok (.ifCond .ne 11, 3) := by decide +kernel
theorem dX3_leadOn_7 : decode cX3_leadOn 7 = .ok (.aload_n 1, 1) := by decide +kernel
theorem dX3_leadOn_8 : decode cX3_leadOn 8 = .ok (.aload_n 0, 1) := by decide +kernel
theorem dX3_leadOn_9 : decode cX3_leadOn 9 = .ok (.getfield 18, 3) := by decide +kernel
theorem dX3_leadOn_12 : decode cX3_leadOn 12 = .ok (.invokevirtual 32, 3) := by decide +kernel
theorem dX3_leadOn_15 : decode cX3_leadOn 15 = .ok (.aload_n 0, 1) := by decide +kernel
theorem dX3_leadOn_16 : decode cX3_leadOn 16 = .ok (.getfield 36, 3) := by decide +kernel
theorem dX3_leadOn_19 : decode cX3_leadOn 19 = .ok (.iconst 4, 1) := by decide +kernel
theorem dX3_leadOn_20 : decode cX3_leadOn 20 = .ok (.if_icmp .ne 15, 3) := by decide +kernel
theorem dX3_leadOn_23 : decode cX3_leadOn 23 = .ok (.iload_n 2, 1) := by decide +kernel
theorem dX3_leadOn_24 : decode cX3_leadOn 24 = .ok (.ifCond .ne 11, 3) := by decide +kernel
theorem dX3_leadOn_27 : decode cX3_leadOn 27 = .ok (.aload_n 1, 1) := by decide +kernel
theorem dX3_leadOn_28 : decode cX3_leadOn 28 = .ok (.aload_n 0, 1) := by decide +kernel
theorem dX3_leadOn_29 : decode cX3_leadOn 29 = .ok (.getfield 9, 3) := by decide +kernel
theorem dX3_leadOn_32 : decode cX3_leadOn 32 = .ok (.invokevirtual 32, 3) := by decide +kernel
theorem dX3_leadOn_35 : decode cX3_leadOn 35 = .ok (.aload_n 0, 1) := by decide +kernel
theorem dX3_leadOn_36 : decode cX3_leadOn 36 = .ok (.getfield 36, 3) := by decide +kernel
theorem dX3_leadOn_39 : decode cX3_leadOn 39 = .ok (.bipush 7, 2) := by decide +kernel
theorem dX3_leadOn_41 : decode cX3_leadOn 41 = .ok (.if_icmp .ne 51, 3) := by decide +kernel
theorem dX3_leadOn_44 : decode cX3_leadOn 44 = .ok (.aload_n 0, 1) := by decide +kernel
theorem dX3_leadOn_45 : decode cX3_leadOn 45 = .ok (.getfield 9, 3) := by decide +kernel
theorem dX3_leadOn_48 : decode cX3_leadOn 48 = .ok (.ifnull 44, 3) := by decide +kernel
theorem dX3_leadOn_51 : decode cX3_leadOn 51 = .ok (.aload_n 1, 1) := by decide +kernel
theorem dX3_leadOn_52 : decode cX3_leadOn 52 = .ok (.aload_n 0, 1) := by decide +kernel
theorem dX3_leadOn_53 : decode cX3_leadOn 53 = .ok (.getfield 9, 3) := by decide +kernel
theorem dX3_leadOn_56 : decode cX3_leadOn 56 = .ok (.invokevirtual 22, 3) := by decide +kernel
theorem dX3_leadOn_59 : decode cX3_leadOn 59 = .ok (.ifCond .eq 14, 3) := by decide +kernel
theorem dX3_leadOn_62 : decode cX3_leadOn 62 = .ok (.aload_n 1, 1) := by decide +kernel
theorem dX3_leadOn_63 : decode cX3_leadOn 63 = .ok (.aload_n 0, 1) := by decide +kernel
theorem dX3_leadOn_64 : decode cX3_leadOn 64 = .ok (.getfield 15, 3) := by decide +kernel
theorem dX3_leadOn_67 : decode cX3_leadOn 67 = .ok (.invokevirtual 32, 3) := by decide +kernel
theorem dX3_leadOn_70 : decode cX3_leadOn 70 = .ok (.goto 22, 3) := by decide +kernel
theorem dX3_leadOn_73 : decode cX3_leadOn 73 = .ok (.aload_n 0, 1) := by decide +kernel
theorem dX3_leadOn_74 : decode cX3_leadOn 74 = .ok (.aload_n 0, 1) := by decide +kernel
theorem dX3_leadOn_75 : decode cX3_leadOn 75 = .ok (.getfield 9, 3) := by decide +kernel
theorem dX3_leadOn_78 : decode cX3_leadOn 78 = .ok (.getfield 40, 3) := by decide +kernel
theorem dX3_leadOn_81 : decode cX3_leadOn 81 = .ok (.putfield 44, 3) := by decide +kernel
theorem dX3_leadOn_84 : decode cX3_leadOn 84 = .ok (.aload_n 0, 1) := by decide +kernel
theorem dX3_leadOn_85 : decode cX3_leadOn 85 = .ok (.getfield 9, 3) := by decide +kernel
theorem dX3_leadOn_88 : decode cX3_leadOn 88 = .ok (.aload_n 0, 1) := by decide +kernel
theorem dX3_leadOn_89 : decode cX3_leadOn 89 = .ok (.putfield 40, 3) := by decide +kernel
theorem dX3_leadOn_92 : decode cX3_leadOn 92 = .ok (.return_, 1) := by decide +kernel
theorem dX4_init_0 : decode cX4_init 0 = .ok (.aload_n 0, 1) := by decide +kernel
theorem dX4_init_1 : decode cX4_init 1 = .ok (.invokespecial 1, 3) := by decide +kernel
theorem dX4_init_4 : decode cX4_init 4 = .ok (.aload_n 0, 1) := by decide +kernel
theorem dX4_init_5 : decode cX4_init 5 = .ok (.iload_n 1, 1) := by decide +kernel
theorem dX4_init_6 : decode cX4_init 6 = .ok (.putfield 7, 3) := by decide +kernel
theorem dX4_init_9 : decode cX4_init 9 = .ok (.aload_n 0, 1) := by decide +kernel
theorem dX4_init_10 : decode cX4_init 10 = .ok (.iload_n 2, 1) := by decide +kernel
theorem dX4_init_11 : decode cX4_init 11 = .ok (.putfield 13, 3) := by decide +kernel
theorem dX4_init_14 : decode cX4_init 14 = .ok (.return_, 1) := by decide +kernel
theorem dX4_digestOn_0 : decode cX4_digestOn 0 = .ok (.lload_n 1, 1) := by decide +kernel
theorem dX4_digestOn_1 : decode cX4_digestOn 1 = .ok (.lconst 0, 1) := by decide +kernel
theorem dX4_digestOn_2 : decode cX4_digestOn 2 = .ok (.invokestatic 16, 3) := by decide +kernel
theorem dX4_digestOn_5 : decode cX4_digestOn 5 = .ok (.lconst 0, 1) := by decide +kernel
theorem dX4_digestOn_6 : decode cX4_digestOn 6 = .ok (.invokestatic 16, 3) := by decide +kernel
theorem dX4_digestOn_9 : decode cX4_digestOn 9 = .ok (.lreturn, 1) := by decide +kernel
theorem dX4_leadOnAsKey_0 : decode cX4_leadOnAsKey 0 = .ok (.aload_n 0, 1) := by decide +kernel
theorem dX4_leadOnAsKey_1 : decode cX4_leadOnAsKey 1 = .ok (.getfield 22, 3) := by decide +kernel
theorem dX4_leadOnAsKey_4 : decode cX4_leadOnAsKey 4 = .ok (.astore_n 2, 1) := by decide +kernel
theorem dX4_leadOnAsKey_5 : decode cX4_leadOnAsKey 5 = .ok (.aload_n 2, 1) := by decide +kernel
theorem dX4_leadOnAsKey_6 : decode cX4_leadOnAsKey 6 = .ok (.ifnull 19, 3) := by decide +kernel
theorem dX4_leadOnAsKey_9 : decode cX4_leadOnAsKey 9 = .ok (.aload_n 1, 1) := by decide +kernel
theorem dX4_leadOnAsKey_10 : decode cX4_leadOnAsKey 10 = .ok (.aload_n 2, 1) := by decide +kernel
theorem dX4_leadOnAsKey_11 : decode cX4_leadOnAsKey 11 = .ok (.getfield 26, 3) := by decide +kernel
theorem dX4_leadOnAsKey_14 : decode cX4_leadOnAsKey 14 = .ok (.invokevirtual 32, 3) := by decide +kernel
theorem dX4_leadOnAsKey_17 : decode cX4_leadOnAsKey 17 = .ok (.aload_n 2, 1) := by decide +kernel
theorem dX4_leadOnAsKey_18 : decode cX4_leadOnAsKey 18 = .ok (.getfield 38, 3) := by decide +kernel
theorem dX4_leadOnAsKey_21 : decode cX4_leadOnAsKey 21 = .ok (.astore_n 2, 1) := by decide +kernel
theorem dX4_leadOnAsKey_22 : decode cX4_leadOnAsKey 22 = .ok (.goto (-17), 3) := by decide +kernel
theorem dX4_leadOnAsKey_25 : decode cX4_leadOnAsKey 25 = .ok (.aload_n 0, 1) := by decide +kernel
theorem dX4_leadOnAsKey_26 : decode cX4_leadOnAsKey 26 = .ok (.aconst_null, 1) := by decide +kernel
theorem dX4_leadOnAsKey_27 : decode cX4_leadOnAsKey 27 = .ok (.putfield 22, 3) := by decide +kernel
theorem dX4_leadOnAsKey_30 : decode cX4_leadOnAsKey 30 = .ok (.return_, 1) := by decide +kernel
theorem dX5_init_0 : decode cX5_init 0 = .ok (.aload_n 0, 1) := by decide +kernel
theorem dX5_init_1 : decode cX5_init 1 = .ok (.invokespecial 1, 3) := by decide +kernel
theorem dX5_init_4 : decode cX5_init 4 = .ok (.return_, 1) := by decide +kernel
theorem dX5_begin_0 : decode cX5_begin 0 = .ok (.aload_n 0, 1) := by decide +kernel
theorem dX5_begin_1 : decode cX5_begin 1 = .ok (.aconst_null, 1) := by decide +kernel
theorem dX5_begin_2 : decode cX5_begin 2 = .ok (.putfield 7, 3) := by decide +kernel
theorem dX5_begin_5 : decode cX5_begin 5 = .ok (.aload_n 0, 1) := by decide +kernel
theorem dX5_begin_6 : decode cX5_begin 6 = .ok (.aconst_null, 1) := by decide +kernel
theorem dX5_begin_7 : decode cX5_begin 7 = .ok (.putfield 13, 3) := by decide +kernel
theorem dX5_begin_10 : decode cX5_begin 10 = .ok (.aload_n 0, 1) := by decide +kernel
theorem dX5_begin_11 : decode cX5_begin 11 = .ok (.iconst 0, 1) := by decide +kernel
theorem dX5_begin_12 : decode cX5_begin 12 = .ok (.putfield 16, 3) := by decide +kernel
theorem dX5_begin_15 : decode cX5_begin 15 = .ok (.aload_n 0, 1) := by decide +kernel
theorem dX5_begin_16 : decode cX5_begin 16 = .ok (.dup, 1) := by decide +kernel
theorem dX5_begin_17 : decode cX5_begin 17 = .ok (.getfield 20, 3) := by decide +kernel
theorem dX5_begin_20 : decode cX5_begin 20 = .ok (.iconst 1, 1) := by decide +kernel
theorem dX5_begin_21 : decode cX5_begin 21 = .ok (.iadd, 1) := by decide +kernel
theorem dX5_begin_22 : decode cX5_begin 22 = .ok (.putfield 20, 3) := by decide +kernel
theorem dX5_begin_25 : decode cX5_begin 25 = .ok (.return_, 1) := by decide +kernel
theorem dX5_has_0 : decode cX5_has 0 = .ok (.aload_n 1, 1) := by decide +kernel
theorem dX5_has_1 : decode cX5_has 1 = .ok (.getfield 23, 3) := by decide +kernel
theorem dX5_has_4 : decode cX5_has 4 = .ok (.aload_n 0, 1) := by decide +kernel
theorem dX5_has_5 : decode cX5_has 5 = .ok (.getfield 20, 3) := by decide +kernel
theorem dX5_has_8 : decode cX5_has 8 = .ok (.if_icmp .ne 7, 3) := by decide +kernel
theorem dX5_has_11 : decode cX5_has 11 = .ok (.iconst 1, 1) := by decide +kernel
theorem dX5_has_12 : decode cX5_has 12 = .ok (.goto 4, 3) := by decide +kernel
theorem dX5_has_15 : decode cX5_has 15 = .ok (.iconst 0, 1) := by decide +kernel
theorem dX5_has_16 : decode cX5_has 16 = .ok (.ireturn, 1) := by decide +kernel
theorem dX5_comeTo_0 : decode cX5_comeTo 0 = .ok (.aload_n 1, 1) := by decide +kernel
theorem dX5_comeTo_1 : decode cX5_comeTo 1 = .ok (.ifnull 11, 3) := by decide +kernel
theorem dX5_comeTo_4 : decode cX5_comeTo 4 = .ok (.aload_n 0, 1) := by decide +kernel
theorem dX5_comeTo_5 : decode cX5_comeTo 5 = .ok (.aload_n 1, 1) := by decide +kernel
theorem dX5_comeTo_6 : decode cX5_comeTo 6 = .ok (.invokevirtual 28, 3) := by decide +kernel
theorem dX5_comeTo_9 : decode cX5_comeTo 9 = .ok (.ifCond .eq 4, 3) := by decide +kernel
theorem dX5_comeTo_12 : decode cX5_comeTo 12 = .ok (.return_, 1) := by decide +kernel
theorem dX5_comeTo_13 : decode cX5_comeTo 13 = .ok (.aload_n 1, 1) := by decide +kernel
theorem dX5_comeTo_14 : decode cX5_comeTo 14 = .ok (.aload_n 0, 1) := by decide +kernel
theorem dX5_comeTo_15 : decode cX5_comeTo 15 = .ok (.getfield 20, 3) := by decide +kernel
theorem dX5_comeTo_18 : decode cX5_comeTo 18 = .ok (.putfield 23, 3) := by decide +kernel
theorem dX5_comeTo_21 : decode cX5_comeTo 21 = .ok (.aload_n 1, 1) := by decide +kernel
theorem dX5_comeTo_22 : decode cX5_comeTo 22 = .ok (.aconst_null, 1) := by decide +kernel
theorem dX5_comeTo_23 : decode cX5_comeTo 23 = .ok (.putfield 32, 3) := by decide +kernel
theorem dX5_comeTo_26 : decode cX5_comeTo 26 = .ok (.aload_n 0, 1) := by decide +kernel
theorem dX5_comeTo_27 : decode cX5_comeTo 27 = .ok (.getfield 13, 3) := by decide +kernel
theorem dX5_comeTo_30 : decode cX5_comeTo 30 = .ok (.ifnonnull 11, 3) := by decide +kernel
theorem dX5_comeTo_33 : decode cX5_comeTo 33 = .ok (.aload_n 0, 1) := by decide +kernel
theorem dX5_comeTo_34 : decode cX5_comeTo 34 = .ok (.aload_n 1, 1) := by decide +kernel
theorem dX5_comeTo_35 : decode cX5_comeTo 35 = .ok (.putfield 7, 3) := by decide +kernel
theorem dX5_comeTo_38 : decode cX5_comeTo 38 = .ok (.goto 11, 3) := by decide +kernel
theorem dX5_comeTo_41 : decode cX5_comeTo 41 = .ok (.aload_n 0, 1) := by decide +kernel
theorem dX5_comeTo_42 : decode cX5_comeTo 42 = .ok (.getfield 13, 3) := by decide +kernel
theorem dX5_comeTo_45 : decode cX5_comeTo 45 = .ok (.aload_n 1, 1) := by decide +kernel
theorem dX5_comeTo_46 : decode cX5_comeTo 46 = .ok (.putfield 32, 3) := by decide +kernel
theorem dX5_comeTo_49 : decode cX5_comeTo 49 = .ok (.aload_n 0, 1) := by decide +kernel
theorem dX5_comeTo_50 : decode cX5_comeTo 50 = .ok (.aload_n 1, 1) := by decide +kernel
theorem dX5_comeTo_51 : decode cX5_comeTo 51 = .ok (.putfield 13, 3) := by decide +kernel
theorem dX5_comeTo_54 : decode cX5_comeTo 54 = .ok (.aload_n 0, 1) := by decide +kernel
theorem dX5_comeTo_55 : decode cX5_comeTo 55 = .ok (.dup, 1) := by decide +kernel
theorem dX5_comeTo_56 : decode cX5_comeTo 56 = .ok (.getfield 16, 3) := by decide +kernel
theorem dX5_comeTo_59 : decode cX5_comeTo 59 = .ok (.iconst 1, 1) := by decide +kernel
theorem dX5_comeTo_60 : decode cX5_comeTo 60 = .ok (.iadd, 1) := by decide +kernel
theorem dX5_comeTo_61 : decode cX5_comeTo 61 = .ok (.putfield 16, 3) := by decide +kernel
theorem dX5_comeTo_64 : decode cX5_comeTo 64 = .ok (.aload_n 1, 1) := by decide +kernel
theorem dX5_comeTo_65 : decode cX5_comeTo 65 = .ok (.aload_n 0, 1) := by decide +kernel
theorem dX5_comeTo_66 : decode cX5_comeTo 66 = .ok (.getfield 16, 3) := by decide +kernel
theorem dX5_comeTo_69 : decode cX5_comeTo 69 = .ok (.putfield 35, 3) := by decide +kernel
theorem dX5_comeTo_72 : decode cX5_comeTo 72 = .ok (.return_, 1) := by decide +kernel
theorem dX6_init_0 : decode cX6_init 0 = .ok (.aload_n 0, 1) := by decide +kernel
theorem dX6_init_1 : decode cX6_init 1 = .ok (.invokespecial 1, 3) := by decide +kernel
theorem dX6_init_4 : decode cX6_init 4 = .ok (.aload_n 0, 1) := by decide +kernel
theorem dX6_init_5 : decode cX6_init 5 = .ok (.sipush 384, 3) := by decide +kernel
theorem dX6_init_8 : decode cX6_init 8 = .ok (.anewarray 9, 3) := by decide +kernel
theorem dX6_init_11 : decode cX6_init 11 = .ok (.putfield 11, 3) := by decide +kernel
theorem dX6_init_14 : decode cX6_init 14 = .ok (.aload_n 0, 1) := by decide +kernel
theorem dX6_init_15 : decode cX6_init 15 = .ok (.bipush 20, 2) := by decide +kernel
theorem dX6_init_17 : decode cX6_init 17 = .ok (.newarray .int, 2) := by decide +kernel
theorem dX6_init_19 : decode cX6_init 19 = .ok (.putfield 15, 3) := by decide +kernel
theorem dX6_init_22 : decode cX6_init 22 = .ok (.aload_n 0, 1) := by decide +kernel
theorem dX6_init_23 : decode cX6_init 23 = .ok (.bipush 10, 2) := by decide +kernel
theorem dX6_init_25 : decode cX6_init 25 = .ok (.newarray .int, 2) := by decide +kernel
theorem dX6_init_27 : decode cX6_init 27 = .ok (.putfield 19, 3) := by decide +kernel
theorem dX6_init_30 : decode cX6_init 30 = .ok (.aload_n 0, 1) := by decide +kernel
theorem dX6_init_31 : decode cX6_init 31 = .ok (.new 22, 3) := by decide +kernel
theorem dX6_init_34 : decode cX6_init 34 = .ok (.dup, 1) := by decide +kernel
theorem dX6_init_35 : decode cX6_init 35 = .ok (.invokespecial 24, 3) := by decide +kernel
theorem dX6_init_38 : decode cX6_init 38 = .ok (.putfield 25, 3) := by decide +kernel
theorem dX6_init_41 : decode cX6_init 41 = .ok (.aload_n 0, 1) := by decide +kernel
theorem dX6_init_42 : decode cX6_init 42 = .ok (.new 22, 3) := by decide +kernel
theorem dX6_init_45 : decode cX6_init 45 = .ok (.dup, 1) := by decide +kernel
theorem dX6_init_46 : decode cX6_init 46 = .ok (.invokespecial 24, 3) := by decide +kernel
theorem dX6_init_49 : decode cX6_init 49 = .ok (.putfield 29, 3) := by decide +kernel
theorem dX6_init_52 : decode cX6_init 52 = .ok (.aload_n 0, 1) := by decide +kernel
theorem dX6_init_53 : decode cX6_init 53 = .ok (.new 32, 3) := by decide +kernel
theorem dX6_init_56 : decode cX6_init 56 = .ok (.dup, 1) := by decide +kernel
theorem dX6_init_57 : decode cX6_init 57 = .ok (.invokespecial 34, 3) := by decide +kernel
theorem dX6_init_60 : decode cX6_init 60 = .ok (.putfield 35, 3) := by decide +kernel
theorem dX6_init_63 : decode cX6_init 63 = .ok (.aload_n 0, 1) := by decide +kernel
theorem dX6_init_64 : decode cX6_init 64 = .ok (.sipush 600, 3) := by decide +kernel
theorem dX6_init_67 : decode cX6_init 67 = .ok (.sipush 30000, 3) := by decide +kernel
theorem dX6_init_70 : decode cX6_init 70 = .ok (.iload_n 1, 1) := by decide +kernel
theorem dX6_init_71 : decode cX6_init 71 = .ok (.invokestatic 39, 3) := by decide +kernel
theorem dX6_init_74 : decode cX6_init 74 = .ok (.invokestatic 45, 3) := by decide +kernel
theorem dX6_init_77 : decode cX6_init 77 = .ok (.putfield 48, 3) := by decide +kernel
theorem dX6_init_80 : decode cX6_init 80 = .ok (.aload_n 0, 1) := by decide +kernel
theorem dX6_init_81 : decode cX6_init 81 = .ok (.bipush 64, 2) := by decide +kernel
theorem dX6_init_83 : decode cX6_init 83 = .ok (.sipush 4000, 3) := by decide +kernel
theorem dX6_init_86 : decode cX6_init 86 = .ok (.iload_n 2, 1) := by decide +kernel
theorem dX6_init_87 : decode cX6_init 87 = .ok (.invokestatic 39, 3) := by decide +kernel
theorem dX6_init_90 : decode cX6_init 90 = .ok (.invokestatic 45, 3) := by decide +kernel
theorem dX6_init_93 : decode cX6_init 93 = .ok (.putfield 52, 3) := by decide +kernel
theorem dX6_init_96 : decode cX6_init 96 = .ok (.aload_n 0, 1) := by decide +kernel
theorem dX6_init_97 : decode cX6_init 97 = .ok (.getfield 19, 3) := by decide +kernel
theorem dX6_init_100 : decode cX6_init 100 = .ok (.bipush 7, 2) := by decide +kernel
theorem dX6_init_102 : decode cX6_init 102 = .ok (.bipush 64, 2) := by decide +kernel
theorem dX6_init_104 : decode cX6_init 104 = .ok (.iastore, 1) := by decide +kernel
theorem dX6_init_105 : decode cX6_init 105 = .ok (.return_, 1) := by decide +kernel
theorem dX6_plain_0 : decode cX6_plain 0 = .ok (.aload_n 0, 1) := by decide +kernel
theorem dX6_plain_1 : decode cX6_plain 1 = .ok (.iload_n 1, 1) := by decide +kernel
theorem dX6_plain_2 : decode cX6_plain 2 = .ok (.invokevirtual 55, 3) := by decide +kernel
theorem dX6_plain_5 : decode cX6_plain 5 = .ok (.iload_n 2, 1) := by decide +kernel
theorem dX6_plain_6 : decode cX6_plain 6 = .ok (.iconst 0, 1) := by decide +kernel
theorem dX6_plain_7 : decode cX6_plain 7 = .ok (.bipush 20, 2) := by decide +kernel
theorem dX6_plain_9 : decode cX6_plain 9 = .ok (.invokestatic 59, 3) := by decide +kernel
theorem dX6_plain_12 : decode cX6_plain 12 = .ok (.iload_n 3, 1) := by decide +kernel
theorem dX6_plain_13 : decode cX6_plain 13 = .ok (.iconst 0, 1) := by decide +kernel
theorem dX6_plain_14 : decode cX6_plain 14 = .ok (.bipush 20, 2) := by decide +kernel
theorem dX6_plain_16 : decode cX6_plain 16 = .ok (.invokestatic 59, 3) := by decide +kernel
theorem dX6_plain_19 : decode cX6_plain 19 = .ok (.iconst 2, 1) := by decide +kernel
theorem dX6_plain_20 : decode cX6_plain 20 = .ok (.iload_n 2, 1) := by decide +kernel
theorem dX6_plain_21 : decode cX6_plain 21 = .ok (.iadd, 1) := by decide +kernel
theorem dX6_plain_22 : decode cX6_plain 22 = .ok (.iload_n 3, 1) := by decide +kernel
theorem dX6_plain_23 : decode cX6_plain 23 = .ok (.iadd, 1) := by decide +kernel
theorem dX6_plain_24 : decode cX6_plain 24 = .ok (.istore 4, 2) := by decide +kernel
theorem dX6_plain_26 : decode cX6_plain 26 = .ok (.aload_n 0, 1) := by decide +kernel
theorem dX6_plain_27 : decode cX6_plain 27 = .ok (.iload 4, 2) := by decide +kernel
theorem dX6_plain_29 : decode cX6_plain 29 = .ok (.invokevirtual 63, 3) := by decide +kernel
theorem dX6_plain_32 : decode cX6_plain 32 = .ok (.ifCond .eq 23, 3) := by decide +kernel
theorem dX6_plain_35 : decode cX6_plain 35 = .ok (.aload_n 0, 1) := by decide +kernel
theorem dX6_plain_36 : decode cX6_plain 36 = .ok (.iload_n 1, 1) := by decide +kernel
theorem dX6_plain_37 : decode cX6_plain 37 = .ok (.new 67, 3) := by decide +kernel
theorem dX6_plain_40 : decode cX6_plain 40 = .ok (.dup, 1) := by decide +kernel
theorem dX6_plain_41 : decode cX6_plain 41 = .ok (.iconst 0, 1) := by decide +kernel
theorem dX6_plain_42 : decode cX6_plain 42 = .ok (.iload 4, 2) := by decide +kernel
theorem dX6_plain_44 : decode cX6_plain 44 = .ok (.iload_n 2, 1) := by decide +kernel
theorem dX6_plain_45 : decode cX6_plain 45 = .ok (.iload_n 3, 1) := by decide +kernel
theorem dX6_plain_46 : decode cX6_plain 46 = .ok (.invokespecial 69, 3) := by decide +kernel
theorem dX6_plain_49 : decode cX6_plain 49 = .ok (.invokevirtual 72, 3) := by decide +kernel
theorem dX6_plain_52 : decode cX6_plain 52 = .ok (.goto 4, 3) := by decide +kernel
theorem dX6_plain_55 : decode cX6_plain 55 = .ok (.iconst 0, 1) := by decide +kernel
theorem dX6_plain_56 : decode cX6_plain 56 = .ok (.ireturn, 1) := by decide +kernel
theorem dX6_row_0 : decode cX6_row 0 = .ok (.aload_n 0, 1) := by decide +kernel
theorem dX6_row_1 : decode cX6_row 1 = .ok (.iload_n 1, 1) := by decide +kernel
theorem dX6_row_2 : decode cX6_row 2 = .ok (.invokevirtual 55, 3) := by decide +kernel
theorem dX6_row_5 : decode cX6_row 5 = .ok (.iload_n 2, 1) := by decide +kernel
theorem dX6_row_6 : decode cX6_row 6 = .ok (.iconst 0, 1) := by decide +kernel
theorem dX6_row_7 : decode cX6_row 7 = .ok (.sipush 3000, 3) := by decide +kernel
theorem dX6_row_10 : decode cX6_row 10 = .ok (.invokestatic 59, 3) := by decide +kernel
theorem dX6_row_13 : decode cX6_row 13 = .ok (.iconst 2, 1) := by decide +kernel
theorem dX6_row_14 : decode cX6_row 14 = .ok (.iload_n 2, 1) := by decide +kernel
theorem dX6_row_15 : decode cX6_row 15 = .ok (.iadd, 1) := by decide +kernel
theorem dX6_row_16 : decode cX6_row 16 = .ok (.istore 4, 2) := by decide +kernel
theorem dX6_row_18 : decode cX6_row 18 = .ok (.aload_n 0, 1) := by decide +kernel
theorem dX6_row_19 : decode cX6_row 19 = .ok (.iload 4, 2) := by decide +kernel
theorem dX6_row_21 : decode cX6_row 21 = .ok (.invokevirtual 63, 3) := by decide +kernel
theorem dX6_row_24 : decode cX6_row 24 = .ok (.ifCond .ne 5, 3) := by decide +kernel
theorem dX6_row_27 : decode cX6_row 27 = .ok (.iconst 0, 1) := by decide +kernel
theorem dX6_row_28 : decode cX6_row 28 = .ok (.ireturn, 1) := by decide +kernel
theorem dX6_row_29 : decode cX6_row 29 = .ok (.aload_n 0, 1) := by decide +kernel
theorem dX6_row_30 : decode cX6_row 30 = .ok (.iload_n 1, 1) := by decide +kernel
theorem dX6_row_31 : decode cX6_row 31 = .ok (.iload_n 3, 1) := by decide +kernel
theorem dX6_row_32 : decode cX6_row 32 = .ok (.ifCond .eq 18, 3) := by decide +kernel
theorem dX6_row_35 : decode cX6_row 35 = .ok (.new 67, 3) := by decide +kernel
theorem dX6_row_38 : decode cX6_row 38 = .ok (.dup, 1) := by decide +kernel
theorem dX6_row_39 : decode cX6_row 39 = .ok (.iconst 1, 1) := by decide +kernel
theorem dX6_row_40 : decode cX6_row 40 = .ok (.iload 4, 2) := by decide +kernel
theorem dX6_row_42 : decode cX6_row 42 = .ok (.iload_n 2, 1) := by decide +kernel
theorem dX6_row_43 : decode cX6_row 43 = .ok (.iconst 0, 1) := by decide +kernel
theorem dX6_row_44 : decode cX6_row 44 = .ok (.invokespecial 69, 3) := by decide +kernel
theorem dX6_row_47 : decode cX6_row 47 = .ok (.goto 15, 3) := by decide +kernel
theorem dX6_row_50 : decode cX6_row 50 = .ok (.new 67, 3) := by decide +kernel
theorem dX6_row_53 : decode cX6_row 53 = .ok (.dup, 1) := by decide +kernel
theorem dX6_row_54 : decode cX6_row 54 = .ok (.iconst 2, 1) := by decide +kernel
theorem dX6_row_55 : decode cX6_row 55 = .ok (.iload 4, 2) := by decide +kernel
theorem dX6_row_57 : decode cX6_row 57 = .ok (.iconst 0, 1) := by decide +kernel
theorem dX6_row_58 : decode cX6_row 58 = .ok (.iload_n 2, 1) := by decide +kernel
theorem dX6_row_59 : decode cX6_row 59 = .ok (.invokespecial 69, 3) := by decide +kernel
theorem dX6_row_62 : decode cX6_row 62 = .ok (.invokevirtual 72, 3) := by decide +kernel
theorem dX6_row_65 : decode cX6_row 65 = .ok (.ireturn, 1) := by decide +kernel
theorem dX6_queue_0 : decode cX6_queue 0 = .ok (.aload_n 0, 1) := by decide +kernel
theorem dX6_queue_1 : decode cX6_queue 1 = .ok (.iload_n 1, 1) := by decide +kernel
theorem dX6_queue_2 : decode cX6_queue 2 = .ok (.invokevirtual 55, 3) := by decide +kernel
theorem dX6_queue_5 : decode cX6_queue 5 = .ok (.aload_n 0, 1) := by decide +kernel
theorem dX6_queue_6 : decode cX6_queue 6 = .ok (.iconst 3, 1) := by decide +kernel
theorem dX6_queue_7 : decode cX6_queue 7 = .ok (.invokevirtual 63, 3) := by decide +kernel
theorem dX6_queue_10 : decode cX6_queue 10 = .ok (.ifCond .eq 18, 3) := by decide +kernel
theorem dX6_queue_13 : decode cX6_queue 13 = .ok (.aload_n 0, 1) := by decide +kernel
theorem dX6_queue_14 : decode cX6_queue 14 = .ok (.iload_n 1, 1) := by decide +kernel
theorem dX6_queue_15 : decode cX6_queue 15 = .ok (.new 76, 3) := by decide +kernel
theorem dX6_queue_18 : decode cX6_queue 18 = .ok (.dup, 1) := by decide +kernel
theorem dX6_queue_19 : decode cX6_queue 19 = .ok (.invokespecial 78, 3) := by decide +kernel
theorem dX6_queue_22 : decode cX6_queue 22 = .ok (.invokevirtual 72, 3) := by decide +kernel
theorem dX6_queue_25 : decode cX6_queue 25 = .ok (.goto 4, 3) := by decide +kernel
theorem dX6_queue_28 : decode cX6_queue 28 = .ok (.iconst 0, 1) := by decide +kernel
theorem dX6_queue_29 : decode cX6_queue 29 = .ok (.ireturn, 1) := by decide +kernel
theorem dX6_loose_0 : decode cX6_loose 0 = .ok (.aload_n 0, 1) := by decide +kernel
theorem dX6_loose_1 : decode cX6_loose 1 = .ok (.iload_n 1, 1) := by decide +kernel
theorem dX6_loose_2 : decode cX6_loose 2 = .ok (.invokevirtual 55, 3) := by decide +kernel
theorem dX6_loose_5 : decode cX6_loose 5 = .ok (.iload_n 2, 1) := by decide +kernel
theorem dX6_loose_6 : decode cX6_loose 6 = .ok (.iconst 0, 1) := by decide +kernel
theorem dX6_loose_7 : decode cX6_loose 7 = .ok (.iconst 2, 1) := by decide +kernel
theorem dX6_loose_8 : decode cX6_loose 8 = .ok (.invokestatic 59, 3) := by decide +kernel
theorem dX6_loose_11 : decode cX6_loose 11 = .ok (.aload_n 0, 1) := by decide +kernel
theorem dX6_loose_12 : decode cX6_loose 12 = .ok (.iload_n 3, 1) := by decide +kernel
theorem dX6_loose_13 : decode cX6_loose 13 = .ok (.invokevirtual 55, 3) := by decide +kernel
theorem dX6_loose_16 : decode cX6_loose 16 = .ok (.aload_n 0, 1) := by decide +kernel
theorem dX6_loose_17 : decode cX6_loose 17 = .ok (.iload 4, 2) := by decide +kernel
theorem dX6_loose_19 : decode cX6_loose 19 = .ok (.invokevirtual 79, 3) := by decide +kernel
theorem dX6_loose_22 : decode cX6_loose 22 = .ok (.aload_n 0, 1) := by decide +kernel
theorem dX6_loose_23 : decode cX6_loose 23 = .ok (.iload_n 3, 1) := by decide +kernel
theorem dX6_loose_24 : decode cX6_loose 24 = .ok (.invokevirtual 82, 3) := by decide +kernel
theorem dX6_loose_27 : decode cX6_loose 27 = .ok (.astore 5, 2) := by decide +kernel
theorem dX6_loose_29 : decode cX6_loose 29 = .ok (.aload_n 0, 1) := by decide +kernel
theorem dX6_loose_30 : decode cX6_loose 30 = .ok (.iload 4, 2) := by decide +kernel
theorem dX6_loose_32 : decode cX6_loose 32 = .ok (.invokevirtual 86, 3) := by decide +kernel
theorem dX6_loose_35 : decode cX6_loose 35 = .ok (.astore 6, 2) := by decide +kernel
theorem dX6_loose_37 : decode cX6_loose 37 = .ok (.aload_n 0, 1) := by decide +kernel
theorem dX6_loose_38 : decode cX6_loose 38 = .ok (.iconst 4, 1) := by decide +kernel
theorem dX6_loose_39 : decode cX6_loose 39 = .ok (.invokevirtual 63, 3) := by decide +kernel
theorem dX6_loose_42 : decode cX6_loose 42 = .ok (.ifCond .eq 27, 3) := by decide +kernel
theorem dX6_loose_45 : decode cX6_loose 45 = .ok (.aload_n 0, 1) := by decide +kernel
theorem dX6_loose_46 : decode cX6_loose 46 = .ok (.iload_n 1, 1) := by decide +kernel
theorem dX6_loose_47 : decode cX6_loose 47 = .ok (.new 90, 3) := by decide +kernel
theorem dX6_loose_50 : decode cX6_loose 50 = .ok (.dup, 1) := by decide +kernel
theorem dX6_loose_51 : decode cX6_loose 51 = .ok (.iconst 4, 1) := by decide +kernel
theorem dX6_loose_52 : decode cX6_loose 52 = .ok (.iload_n 2, 1) := by decide +kernel
theorem dX6_loose_53 : decode cX6_loose 53 = .ok (.iadd, 1) := by decide +kernel
theorem dX6_loose_54 : decode cX6_loose 54 = .ok (.iconst 4, 1) := by decide +kernel
theorem dX6_loose_55 : decode cX6_loose 55 = .ok (.aload 5, 2) := by decide +kernel
theorem dX6_loose_57 : decode cX6_loose 57 = .ok (.aconst_null, 1) := by decide +kernel
theorem dX6_loose_58 : decode cX6_loose 58 = .ok (.aload 6, 2) := by decide +kernel
theorem dX6_loose_60 : decode cX6_loose 60 = .ok (.invokespecial 92, 3) := by decide +kernel
theorem dX6_loose_63 : decode cX6_loose 63 = .ok (.invokevirtual 72, 3) := by decide +kernel
theorem dX6_loose_66 : decode cX6_loose 66 = .ok (.goto 4, 3) := by decide +kernel
theorem dX6_loose_69 : decode cX6_loose 69 = .ok (.iconst 0, 1) := by decide +kernel
theorem dX6_loose_70 : decode cX6_loose 70 = .ok (.ireturn, 1) := by decide +kernel
theorem dX6_pair_0 : decode cX6_pair 0 = .ok (.aload_n 0, 1) := by decide +kernel
theorem dX6_pair_1 : decode cX6_pair 1 = .ok (.iload_n 1, 1) := by decide +kernel
theorem dX6_pair_2 : decode cX6_pair 2 = .ok (.invokevirtual 55, 3) := by decide +kernel
theorem dX6_pair_5 : decode cX6_pair 5 = .ok (.aload_n 0, 1) := by decide +kernel
theorem dX6_pair_6 : decode cX6_pair 6 = .ok (.iload_n 2, 1) := by decide +kernel
theorem dX6_pair_7 : decode cX6_pair 7 = .ok (.invokevirtual 55, 3) := by decide +kernel
theorem dX6_pair_10 : decode cX6_pair 10 = .ok (.aload_n 0, 1) := by decide +kernel
theorem dX6_pair_11 : decode cX6_pair 11 = .ok (.iload_n 3, 1) := by decide +kernel
theorem dX6_pair_12 : decode cX6_pair 12 = .ok (.invokevirtual 79, 3) := by decide +kernel
theorem dX6_pair_15 : decode cX6_pair 15 = .ok (.aload_n 0, 1) := by decide +kernel
theorem dX6_pair_16 : decode cX6_pair 16 = .ok (.iload 4, 2) := by decide +kernel
theorem dX6_pair_18 : decode cX6_pair 18 = .ok (.invokevirtual 79, 3) := by decide +kernel
theorem dX6_pair_21 : decode cX6_pair 21 = .ok (.aload_n 0, 1) := by decide +kernel
theorem dX6_pair_22 : decode cX6_pair 22 = .ok (.iload_n 2, 1) := by decide +kernel
theorem dX6_pair_23 : decode cX6_pair 23 = .ok (.invokevirtual 82, 3) := by decide +kernel
theorem dX6_pair_26 : decode cX6_pair 26 = .ok (.astore 5, 2) := by decide +kernel
theorem dX6_pair_28 : decode cX6_pair 28 = .ok (.aload_n 0, 1) := by decide +kernel
theorem dX6_pair_29 : decode cX6_pair 29 = .ok (.iload_n 3, 1) := by decide +kernel
theorem dX6_pair_30 : decode cX6_pair 30 = .ok (.invokevirtual 95, 3) := by decide +kernel
theorem dX6_pair_33 : decode cX6_pair 33 = .ok (.astore 6, 2) := by decide +kernel
theorem dX6_pair_35 : decode cX6_pair 35 = .ok (.aload_n 0, 1) := by decide +kernel
theorem dX6_pair_36 : decode cX6_pair 36 = .ok (.iload 4, 2) := by decide +kernel
theorem dX6_pair_38 : decode cX6_pair 38 = .ok (.invokevirtual 86, 3) := by decide +kernel
theorem dX6_pair_41 : decode cX6_pair 41 = .ok (.astore 7, 2) := by decide +kernel
theorem dX6_pair_43 : decode cX6_pair 43 = .ok (.aload_n 0, 1) := by decide +kernel
theorem dX6_pair_44 : decode cX6_pair 44 = .ok (.iconst 5, 1) := by decide +kernel
theorem dX6_pair_45 : decode cX6_pair 45 = .ok (.invokevirtual 63, 3) := by decide +kernel
theorem dX6_pair_48 : decode cX6_pair 48 = .ok (.ifCond .eq 27, 3) := by decide +kernel
theorem dX6_pair_51 : decode cX6_pair 51 = .ok (.aload_n 0, 1) := by decide +kernel
theorem dX6_pair_52 : decode cX6_pair 52 = .ok (.iload_n 1, 1) := by decide +kernel
theorem dX6_pair_53 : decode cX6_pair 53 = .ok (.new 90, 3) := by decide +kernel
theorem dX6_pair_56 : decode cX6_pair 56 = .ok (.dup, 1) := by decide +kernel
theorem dX6_pair_57 : decode cX6_pair 57 = .ok (.bipush 7, 2) := by decide +kernel
theorem dX6_pair_59 : decode cX6_pair 59 = .ok (.iconst 5, 1) := by decide +kernel
theorem dX6_pair_60 : decode cX6_pair 60 = .ok (.aload 5, 2) := by decide +kernel
theorem dX6_pair_62 : decode cX6_pair 62 = .ok (.aload 6, 2) := by decide +kernel
theorem dX6_pair_64 : decode cX6_pair 64 = .ok (.aload 7, 2) := by decide +kernel
theorem dX6_pair_66 : decode cX6_pair 66 = .ok (.invokespecial 92, 3) := by decide +kernel
theorem dX6_pair_69 : decode cX6_pair 69 = .ok (.invokevirtual 72, 3) := by decide +kernel
theorem dX6_pair_72 : decode cX6_pair 72 = .ok (.goto 4, 3) := by decide +kernel
theorem dX6_pair_75 : decode cX6_pair 75 = .ok (.iconst 0, 1) := by decide +kernel
theorem dX6_pair_76 : decode cX6_pair 76 = .ok (.ireturn, 1) := by decide +kernel
theorem dX6_copy_0 : decode cX6_copy 0 = .ok (.aload_n 0, 1) := by decide +kernel
theorem dX6_copy_1 : decode cX6_copy 1 = .ok (.iload_n 1, 1) := by decide +kernel
theorem dX6_copy_2 : decode cX6_copy 2 = .ok (.invokevirtual 55, 3) := by decide +kernel
theorem dX6_copy_5 : decode cX6_copy 5 = .ok (.aload_n 0, 1) := by decide +kernel
theorem dX6_copy_6 : decode cX6_copy 6 = .ok (.iload_n 2, 1) := by decide +kernel
theorem dX6_copy_7 : decode cX6_copy 7 = .ok (.invokevirtual 79, 3) := by decide +kernel
theorem dX6_copy_10 : decode cX6_copy 10 = .ok (.aload_n 0, 1) := by decide +kernel
theorem dX6_copy_11 : decode cX6_copy 11 = .ok (.iload_n 1, 1) := by decide +kernel
theorem dX6_copy_12 : decode cX6_copy 12 = .ok (.aload_n 0, 1) := by decide +kernel
theorem dX6_copy_13 : decode cX6_copy 13 = .ok (.iload_n 2, 1) := by decide +kernel
theorem dX6_copy_14 : decode cX6_copy 14 = .ok (.invokevirtual 95, 3) := by decide +kernel
theorem dX6_copy_17 : decode cX6_copy 17 = .ok (.invokevirtual 98, 3) := by decide +kernel
theorem dX6_copy_20 : decode cX6_copy 20 = .ok (.ireturn, 1) := by decide +kernel
theorem dX6_link_0 : decode cX6_link 0 = .ok (.aload_n 0, 1) := by decide +kernel
theorem dX6_link_1 : decode cX6_link 1 = .ok (.iload_n 1, 1) := by decide +kernel
theorem dX6_link_2 : decode cX6_link 2 = .ok (.invokevirtual 55, 3) := by decide +kernel
theorem dX6_link_5 : decode cX6_link 5 = .ok (.iload_n 2, 1) := by decide +kernel
theorem dX6_link_6 : decode cX6_link 6 = .ok (.invokestatic 101, 3) := by decide +kernel
theorem dX6_link_9 : decode cX6_link 9 = .ok (.aload_n 0, 1) := by decide +kernel
theorem dX6_link_10 : decode cX6_link 10 = .ok (.iload_n 3, 1) := by decide +kernel
theorem dX6_link_11 : decode cX6_link 11 = .ok (.invokevirtual 79, 3) := by decide +kernel
theorem dX6_link_14 : decode cX6_link 14 = .ok (.aload_n 0, 1) := by decide +kernel
theorem dX6_link_15 : decode cX6_link 15 = .ok (.iload_n 1, 1) := by decide +kernel
theorem dX6_link_16 : decode cX6_link 16 = .ok (.iload_n 2, 1) := by decide +kernel
theorem dX6_link_17 : decode cX6_link 17 = .ok (.invokevirtual 104, 3) := by decide +kernel
theorem dX6_link_20 : decode cX6_link 20 = .ok (.astore 4, 2) := by decide +kernel
theorem dX6_link_22 : decode cX6_link 22 = .ok (.aload 4, 2) := by decide +kernel
theorem dX6_link_24 : decode cX6_link 24 = .ok (.getfield 108, 3) := by decide +kernel
theorem dX6_link_27 : decode cX6_link 27 = .ok (.iload_n 2, 1) := by decide +kernel
theorem dX6_link_28 : decode cX6_link 28 = .ok (.aload_n 0, 1) := by decide +kernel
theorem dX6_link_29 : decode cX6_link 29 = .ok (.iload_n 3, 1) := by decide +kernel
theorem dX6_link_30 : decode cX6_link 30 = .ok (.invokevirtual 95, 3) := by decide +kernel
theorem dX6_link_33 : decode cX6_link 33 = .ok (.aastore, 1) := by decide +kernel
theorem dX6_link_34 : decode cX6_link 34 = .ok (.aload 4, 2) := by decide +kernel
theorem dX6_link_36 : decode cX6_link 36 = .ok (.getfield 108, 3) := by decide +kernel
theorem dX6_link_39 : decode cX6_link 39 = .ok (.iload_n 2, 1) := by decide +kernel
theorem dX6_link_40 : decode cX6_link 40 = .ok (.aaload, 1) := by decide +kernel
theorem dX6_link_41 : decode cX6_link 41 = .ok (.invokestatic 111, 3) := by decide +kernel
theorem dX6_link_44 : decode cX6_link 44 = .ok (.ireturn, 1) := by decide +kernel
theorem dX6_fetch_0 : decode cX6_fetch 0 = .ok (.aload_n 0, 1) := by decide +kernel
theorem dX6_fetch_1 : decode cX6_fetch 1 = .ok (.iload_n 1, 1) := by decide +kernel
theorem dX6_fetch_2 : decode cX6_fetch 2 = .ok (.invokevirtual 55, 3) := by decide +kernel
theorem dX6_fetch_5 : decode cX6_fetch 5 = .ok (.aload_n 0, 1) := by decide +kernel
theorem dX6_fetch_6 : decode cX6_fetch 6 = .ok (.iload_n 2, 1) := by decide +kernel
theorem dX6_fetch_7 : decode cX6_fetch 7 = .ok (.invokevirtual 55, 3) := by decide +kernel
theorem dX6_fetch_10 : decode cX6_fetch 10 = .ok (.iload_n 3, 1) := by decide +kernel
theorem dX6_fetch_11 : decode cX6_fetch 11 = .ok (.invokestatic 101, 3) := by decide +kernel
theorem dX6_fetch_14 : decode cX6_fetch 14 = .ok (.aload_n 0, 1) := by decide +kernel
theorem dX6_fetch_15 : decode cX6_fetch 15 = .ok (.iload_n 1, 1) := by decide +kernel
theorem dX6_fetch_16 : decode cX6_fetch 16 = .ok (.aload_n 0, 1) := by decide +kernel
theorem dX6_fetch_17 : decode cX6_fetch 17 = .ok (.iload_n 2, 1) := by decide +kernel
theorem dX6_fetch_18 : decode cX6_fetch 18 = .ok (.iload_n 3, 1) := by decide +kernel
theorem dX6_fetch_19 : decode cX6_fetch 19 = .ok (.invokevirtual 104, 3) := by decide +kernel
theorem dX6_fetch_22 : decode cX6_fetch 22 = .ok (.getfield 108, 3) := by decide +kernel
theorem dX6_fetch_25 : decode cX6_fetch 25 = .ok (.iload_n 3, 1) := by decide +kernel
theorem dX6_fetch_26 : decode cX6_fetch 26 = .ok (.aaload, 1) := by decide +kernel
theorem dX6_fetch_27 : decode cX6_fetch 27 = .ok (.invokevirtual 98, 3) := by decide +kernel
theorem dX6_fetch_30 : decode cX6_fetch 30 = .ok (.ireturn, 1) := by decide +kernel
theorem dX6_set_0 : decode cX6_set 0 = .ok (.aload_n 0, 1) := by decide +kernel
theorem dX6_set_1 : decode cX6_set 1 = .ok (.iload_n 1, 1) := by decide +kernel
theorem dX6_set_2 : decode cX6_set 2 = .ok (.invokevirtual 55, 3) := by decide +kernel
theorem dX6_set_5 : decode cX6_set 5 = .ok (.iload_n 2, 1) := by decide +kernel
theorem dX6_set_6 : decode cX6_set 6 = .ok (.invokestatic 101, 3) := by decide +kernel
theorem dX6_set_9 : decode cX6_set 9 = .ok (.aload_n 0, 1) := by decide +kernel
theorem dX6_set_10 : decode cX6_set 10 = .ok (.iload_n 1, 1) := by decide +kernel
theorem dX6_set_11 : decode cX6_set 11 = .ok (.iload_n 2, 1) := by decide +kernel
theorem dX6_set_12 : decode cX6_set 12 = .ok (.invokevirtual 115, 3) := by decide +kernel
theorem dX6_set_15 : decode cX6_set 15 = .ok (.astore 5, 2) := by decide +kernel
theorem dX6_set_17 : decode cX6_set 17 = .ok (.aload 5, 2) := by decide +kernel
theorem dX6_set_19 : decode cX6_set 19 = .ok (.getfield 118, 3) := by decide +kernel
theorem dX6_set_22 : decode cX6_set 22 = .ok (.iload_n 2, 1) := by decide +kernel
theorem dX6_set_23 : decode cX6_set 23 = .ok (.laload, 1) := by decide +kernel
theorem dX6_set_24 : decode cX6_set 24 = .ok (.lstore 6, 2) := by decide +kernel
theorem dX6_set_26 : decode cX6_set 26 = .ok (.aload 5, 2) := by decide +kernel
theorem dX6_set_28 : decode cX6_set 28 = .ok (.getfield 118, 3) := by decide +kernel
theorem dX6_set_31 : decode cX6_set 31 = .ok (.iload_n 2, 1) := by decide +kernel
theorem dX6_set_32 : decode cX6_set 32 = .ok (.lload_n 3, 1) := by decide +kernel
theorem dX6_set_33 : decode cX6_set 33 = .ok (.lastore, 1) := by decide +kernel
theorem dX6_set_34 : decode cX6_set 34 = .ok (.lload 6, 2) := by decide +kernel
theorem dX6_set_36 : decode cX6_set 36 = .ok (.lreturn, 1) := by decide +kernel
theorem dX6_get_0 : decode cX6_get 0 = .ok (.aload_n 0, 1) := by decide +kernel
theorem dX6_get_1 : decode cX6_get 1 = .ok (.iload_n 1, 1) := by decide +kernel
theorem dX6_get_2 : decode cX6_get 2 = .ok (.invokevirtual 55, 3) := by decide +kernel
theorem dX6_get_5 : decode cX6_get 5 = .ok (.iload_n 2, 1) := by decide +kernel
theorem dX6_get_6 : decode cX6_get 6 = .ok (.invokestatic 101, 3) := by decide +kernel
theorem dX6_get_9 : decode cX6_get 9 = .ok (.aload_n 0, 1) := by decide +kernel
theorem dX6_get_10 : decode cX6_get 10 = .ok (.iload_n 1, 1) := by decide +kernel
theorem dX6_get_11 : decode cX6_get 11 = .ok (.iload_n 2, 1) := by decide +kernel
theorem dX6_get_12 : decode cX6_get 12 = .ok (.invokevirtual 115, 3) := by decide +kernel
theorem dX6_get_15 : decode cX6_get 15 = .ok (.getfield 118, 3) := by decide +kernel
theorem dX6_get_18 : decode cX6_get 18 = .ok (.iload_n 2, 1) := by decide +kernel
theorem dX6_get_19 : decode cX6_get 19 = .ok (.laload, 1) := by decide +kernel
theorem dX6_get_20 : decode cX6_get 20 = .ok (.lreturn, 1) := by decide +kernel
theorem dX6_referent_0 : decode cX6_referent 0 = .ok (.aload_n 0, 1) := by decide +kernel
theorem dX6_referent_1 : decode cX6_referent 1 = .ok (.iload_n 1, 1) := by decide +kernel
theorem dX6_referent_2 : decode cX6_referent 2 = .ok (.invokevirtual 55, 3) := by decide +kernel
theorem dX6_referent_5 : decode cX6_referent 5 = .ok (.aload_n 0, 1) := by decide +kernel
theorem dX6_referent_6 : decode cX6_referent 6 = .ok (.iload_n 2, 1) := by decide +kernel
theorem dX6_referent_7 : decode cX6_referent 7 = .ok (.invokevirtual 55, 3) := by decide +kernel
theorem dX6_referent_10 : decode cX6_referent 10 = .ok (.iload_n 3, 1) := by decide +kernel
theorem dX6_referent_11 : decode cX6_referent 11 = .ok (.ifCond .eq 17, 3) := by decide +kernel
theorem dX6_referent_14 : decode cX6_referent 14 = .ok (.aload_n 0, 1) := by decide +kernel
theorem dX6_referent_15 : decode cX6_referent 15 = .ok (.iload_n 1, 1) := by decide +kernel
theorem dX6_referent_16 : decode cX6_referent 16 = .ok (.aload_n 0, 1) := by decide +kernel
theorem dX6_referent_17 : decode cX6_referent 17 = .ok (.iload_n 2, 1) := by decide +kernel
theorem dX6_referent_18 : decode cX6_referent 18 = .ok (.invokevirtual 122, 3) := by decide +kernel
theorem dX6_referent_21 : decode cX6_referent 21 = .ok (.getfield 126, 3) := by decide +kernel
theorem dX6_referent_24 : decode cX6_referent 24 = .ok (.invokevirtual 98, 3) := by decide +kernel
theorem dX6_referent_27 : decode cX6_referent 27 = .ok (.ireturn, 1) := by decide +kernel
theorem dX6_referent_28 : decode cX6_referent 28 = .ok (.aload_n 0, 1) := by decide +kernel
theorem dX6_referent_29 : decode cX6_referent 29 = .ok (.iload_n 2, 1) := by decide +kernel
theorem dX6_referent_30 : decode cX6_referent 30 = .ok (.invokevirtual 130, 3) := by decide +kernel
theorem dX6_referent_33 : decode cX6_referent 33 = .ok (.astore 4, 2) := by decide +kernel
theorem dX6_referent_35 : decode cX6_referent 35 = .ok (.aload_n 0, 1) := by decide +kernel
theorem dX6_referent_36 : decode cX6_referent 36 = .ok (.iload_n 1, 1) := by decide +kernel
theorem dX6_referent_37 : decode cX6_referent 37 = .ok (.aload 4, 2) := by decide +kernel
theorem dX6_referent_39 : decode cX6_referent 39 = .ok (.getfield 133, 3) := by decide +kernel
theorem dX6_referent_42 : decode cX6_referent 42 = .ok (.bipush 6, 2) := by decide +kernel
theorem dX6_referent_44 : decode cX6_referent 44 = .ok (.if_icmp .ne 7, 3) := by decide +kernel
theorem dX6_referent_47 : decode cX6_referent 47 = .ok (.aconst_null, 1) := by decide +kernel
theorem dX6_referent_48 : decode cX6_referent 48 = .ok (.goto 8, 3) := by decide +kernel
theorem dX6_referent_51 : decode cX6_referent 51 = .ok (.aload 4, 2) := by decide +kernel
theorem dX6_referent_53 : decode cX6_referent 53 = .ok (.getfield 136, 3) := by decide +kernel
theorem dX6_referent_56 : decode cX6_referent 56 = .ok (.invokevirtual 98, 3) := by decide +kernel
theorem dX6_referent_59 : decode cX6_referent 59 = .ok (.ireturn, 1) := by decide +kernel
theorem dX6_give_0 : decode cX6_give 0 = .ok (.aload_n 0, 1) := by decide +kernel
theorem dX6_give_1 : decode cX6_give 1 = .ok (.iload_n 1, 1) := by decide +kernel
theorem dX6_give_2 : decode cX6_give 2 = .ok (.invokevirtual 55, 3) := by decide +kernel
theorem dX6_give_5 : decode cX6_give 5 = .ok (.aload_n 0, 1) := by decide +kernel
theorem dX6_give_6 : decode cX6_give 6 = .ok (.iload_n 2, 1) := by decide +kernel
theorem dX6_give_7 : decode cX6_give 7 = .ok (.invokevirtual 79, 3) := by decide +kernel
theorem dX6_give_10 : decode cX6_give 10 = .ok (.aload_n 0, 1) := by decide +kernel
theorem dX6_give_11 : decode cX6_give 11 = .ok (.iload_n 1, 1) := by decide +kernel
theorem dX6_give_12 : decode cX6_give 12 = .ok (.invokevirtual 122, 3) := by decide +kernel
theorem dX6_give_15 : decode cX6_give 15 = .ok (.astore_n 3, 1) := by decide +kernel
theorem dX6_give_16 : decode cX6_give 16 = .ok (.aload_n 3, 1) := by decide +kernel
theorem dX6_give_17 : decode cX6_give 17 = .ok (.getfield 136, 3) := by decide +kernel
theorem dX6_give_20 : decode cX6_give 20 = .ok (.ifnonnull 5, 3) := by decide +kernel
theorem dX6_give_23 : decode cX6_give 23 = .ok (.iconst 0, 1) := by decide +kernel
theorem dX6_give_24 : decode cX6_give 24 = .ok (.ireturn, 1) := by decide +kernel
theorem dX6_give_25 : decode cX6_give 25 = .ok (.aload_n 3, 1) := by decide +kernel
theorem dX6_give_26 : decode cX6_give 26 = .ok (.aload_n 0, 1) := by decide +kernel
theorem dX6_give_27 : decode cX6_give 27 = .ok (.iload_n 2, 1) := by decide +kernel
theorem dX6_give_28 : decode cX6_give 28 = .ok (.invokevirtual 95, 3) := by decide +kernel
theorem dX6_give_31 : decode cX6_give 31 = .ok (.putfield 126, 3) := by decide +kernel
theorem dX6_give_34 : decode cX6_give 34 = .ok (.iconst 1, 1) := by decide +kernel
theorem dX6_give_35 : decode cX6_give 35 = .ok (.ireturn, 1) := by decide +kernel
theorem dX6_clear_0 : decode cX6_clear 0 = .ok (.aload_n 0, 1) := by decide +kernel
theorem dX6_clear_1 : decode cX6_clear 1 = .ok (.iload_n 1, 1) := by decide +kernel
theorem dX6_clear_2 : decode cX6_clear 2 = .ok (.invokevirtual 55, 3) := by decide +kernel
theorem dX6_clear_5 : decode cX6_clear 5 = .ok (.aload_n 0, 1) := by decide +kernel
theorem dX6_clear_6 : decode cX6_clear 6 = .ok (.iload_n 1, 1) := by decide +kernel
theorem dX6_clear_7 : decode cX6_clear 7 = .ok (.invokevirtual 130, 3) := by decide +kernel
theorem dX6_clear_10 : decode cX6_clear 10 = .ok (.astore_n 3, 1) := by decide +kernel
theorem dX6_clear_11 : decode cX6_clear 11 = .ok (.aload_n 3, 1) := by decide +kernel
theorem dX6_clear_12 : decode cX6_clear 12 = .ok (.invokevirtual 139, 3) := by decide +kernel
theorem dX6_clear_15 : decode cX6_clear 15 = .ok (.iload_n 2, 1) := by decide +kernel
theorem dX6_clear_16 : decode cX6_clear 16 = .ok (.ifCond .eq 11, 3) := by decide +kernel
theorem dX6_clear_19 : decode cX6_clear 19 = .ok (.aload_n 0, 1) := by decide +kernel
theorem dX6_clear_20 : decode cX6_clear 20 = .ok (.aload_n 3, 1) := by decide +kernel
theorem dX6_clear_21 : decode cX6_clear 21 = .ok (.invokevirtual 142, 3) := by decide +kernel
theorem dX6_clear_24 : decode cX6_clear 24 = .ok (.goto 4, 3) := by decide +kernel
theorem dX6_clear_27 : decode cX6_clear 27 = .ok (.iconst 0, 1) := by decide +kernel
theorem dX6_clear_28 : decode cX6_clear 28 = .ok (.ireturn, 1) := by decide +kernel
theorem dX6_poll_0 : decode cX6_poll 0 = .ok (.aload_n 0, 1) := by decide +kernel
theorem dX6_poll_1 : decode cX6_poll 1 = .ok (.iload_n 1, 1) := by decide +kernel
theorem dX6_poll_2 : decode cX6_poll 2 = .ok (.invokevirtual 55, 3) := by decide +kernel
theorem dX6_poll_5 : decode cX6_poll 5 = .ok (.aload_n 0, 1) := by decide +kernel
theorem dX6_poll_6 : decode cX6_poll 6 = .ok (.iload_n 2, 1) := by decide +kernel
theorem dX6_poll_7 : decode cX6_poll 7 = .ok (.invokevirtual 55, 3) := by decide +kernel
theorem dX6_poll_10 : decode cX6_poll 10 = .ok (.aload_n 0, 1) := by decide +kernel
theorem dX6_poll_11 : decode cX6_poll 11 = .ok (.iload_n 1, 1) := by decide +kernel
theorem dX6_poll_12 : decode cX6_poll 12 = .ok (.aload_n 0, 1) := by decide +kernel
theorem dX6_poll_13 : decode cX6_poll 13 = .ok (.iload_n 2, 1) := by decide +kernel
theorem dX6_poll_14 : decode cX6_poll 14 = .ok (.invokevirtual 146, 3) := by decide +kernel
theorem dX6_poll_17 : decode cX6_poll 17 = .ok (.invokevirtual 149, 3) := by decide +kernel
theorem dX6_poll_20 : decode cX6_poll 20 = .ok (.invokevirtual 98, 3) := by decide +kernel
theorem dX6_poll_23 : decode cX6_poll 23 = .ok (.ireturn, 1) := by decide +kernel
theorem dX6_waiting_0 : decode cX6_waiting 0 = .ok (.aload_n 0, 1) := by decide +kernel
theorem dX6_waiting_1 : decode cX6_waiting 1 = .ok (.iload_n 1, 1) := by decide +kernel
theorem dX6_waiting_2 : decode cX6_waiting 2 = .ok (.invokevirtual 55, 3) := by decide +kernel
theorem dX6_waiting_5 : decode cX6_waiting 5 = .ok (.aload_n 0, 1) := by decide +kernel
theorem dX6_waiting_6 : decode cX6_waiting 6 = .ok (.iload_n 1, 1) := by decide +kernel
theorem dX6_waiting_7 : decode cX6_waiting 7 = .ok (.invokevirtual 146, 3) := by decide +kernel
theorem dX6_waiting_10 : decode cX6_waiting 10 = .ok (.getfield 153, 3) := by decide +kernel
theorem dX6_waiting_13 : decode cX6_waiting 13 = .ok (.ireturn, 1) := by decide +kernel
theorem dX6_kind_0 : decode cX6_kind 0 = .ok (.aload_n 0, 1) := by decide +kernel
theorem dX6_kind_1 : decode cX6_kind 1 = .ok (.iload_n 1, 1) := by decide +kernel
theorem dX6_kind_2 : decode cX6_kind 2 = .ok (.invokevirtual 55, 3) := by decide +kernel
theorem dX6_kind_5 : decode cX6_kind 5 = .ok (.aload_n 0, 1) := by decide +kernel
theorem dX6_kind_6 : decode cX6_kind 6 = .ok (.getfield 11, 3) := by decide +kernel
theorem dX6_kind_9 : decode cX6_kind 9 = .ok (.iload_n 1, 1) := by decide +kernel
theorem dX6_kind_10 : decode cX6_kind 10 = .ok (.aaload, 1) := by decide +kernel
theorem dX6_kind_11 : decode cX6_kind 11 = .ok (.astore_n 2, 1) := by decide +kernel
theorem dX6_kind_12 : decode cX6_kind 12 = .ok (.aload_n 2, 1) := by decide +kernel
theorem dX6_kind_13 : decode cX6_kind 13 = .ok (.ifnonnull 7, 3) := by decide +kernel
theorem dX6_kind_16 : decode cX6_kind 16 = .ok (.iconst (-1), 1) := by decide +kernel
theorem dX6_kind_17 : decode cX6_kind 17 = .ok (.goto 7, 3) := by decide +kernel
theorem dX6_kind_20 : decode cX6_kind 20 = .ok (.aload_n 2, 1) := by decide +kernel
theorem dX6_kind_21 : decode cX6_kind 21 = .ok (.getfield 156, 3) := by decide +kernel
theorem dX6_kind_24 : decode cX6_kind 24 = .ok (.ireturn, 1) := by decide +kernel
theorem dX6_hash_0 : decode cX6_hash 0 = .ok (.aload_n 0, 1) := by decide +kernel
theorem dX6_hash_1 : decode cX6_hash 1 = .ok (.iload_n 1, 1) := by decide +kernel
theorem dX6_hash_2 : decode cX6_hash 2 = .ok (.invokevirtual 55, 3) := by decide +kernel
theorem dX6_hash_5 : decode cX6_hash 5 = .ok (.aload_n 0, 1) := by decide +kernel
theorem dX6_hash_6 : decode cX6_hash 6 = .ok (.getfield 11, 3) := by decide +kernel
theorem dX6_hash_9 : decode cX6_hash 9 = .ok (.iload_n 1, 1) := by decide +kernel
theorem dX6_hash_10 : decode cX6_hash 10 = .ok (.aaload, 1) := by decide +kernel
theorem dX6_hash_11 : decode cX6_hash 11 = .ok (.astore_n 2, 1) := by decide +kernel
theorem dX6_hash_12 : decode cX6_hash 12 = .ok (.aload_n 2, 1) := by decide +kernel
theorem dX6_hash_13 : decode cX6_hash 13 = .ok (.ifnonnull 5, 3) := by decide +kernel
theorem dX6_hash_16 : decode cX6_hash 16 = .ok (.iconst 0, 1) := by decide +kernel
theorem dX6_hash_17 : decode cX6_hash 17 = .ok (.ireturn, 1) := by decide +kernel
theorem dX6_hash_18 : decode cX6_hash 18 = .ok (.aload_n 2, 1) := by decide +kernel
theorem dX6_hash_19 : decode cX6_hash 19 = .ok (.getfield 157, 3) := by decide +kernel
theorem dX6_hash_22 : decode cX6_hash 22 = .ok (.ifCond .ne 25, 3) := by decide +kernel
theorem dX6_hash_25 : decode cX6_hash 25 = .ok (.aload_n 0, 1) := by decide +kernel
theorem dX6_hash_26 : decode cX6_hash 26 = .ok (.getfield 19, 3) := by decide +kernel
theorem dX6_hash_29 : decode cX6_hash 29 = .ok (.bipush 8, 2) := by decide +kernel
theorem dX6_hash_31 : decode cX6_hash 31 = .ok (.dup2, 1) := by decide +kernel
theorem dX6_hash_32 : decode cX6_hash 32 = .ok (.iaload, 1) := by decide +kernel
theorem dX6_hash_33 : decode cX6_hash 33 = .ok (.iconst 1, 1) := by decide +kernel
theorem dX6_hash_34 : decode cX6_hash 34 = .ok (.iadd, 1) := by decide +kernel
theorem dX6_hash_35 : decode cX6_hash 35 = .ok (.iastore, 1) := by decide +kernel
theorem dX6_hash_36 : decode cX6_hash 36 = .ok (.aload_n 2, 1) := by decide +kernel
theorem dX6_hash_37 : decode cX6_hash 37 = .ok (.aload_n 0, 1) := by decide +kernel
theorem dX6_hash_38 : decode cX6_hash 38 = .ok (.getfield 19, 3) := by decide +kernel
theorem dX6_hash_41 : decode cX6_hash 41 = .ok (.bipush 8, 2) := by decide +kernel
theorem dX6_hash_43 : decode cX6_hash 43 = .ok (.iaload, 1) := by decide +kernel
theorem dX6_hash_44 : decode cX6_hash 44 = .ok (.putfield 157, 3) := by decide +kernel
theorem dX6_hash_47 : decode cX6_hash 47 = .ok (.aload_n 2, 1) := by decide +kernel
theorem dX6_hash_48 : decode cX6_hash 48 = .ok (.getfield 157, 3) := by decide +kernel
theorem dX6_hash_51 : decode cX6_hash 51 = .ok (.ireturn, 1) := by decide +kernel
theorem dX6_same_0 : decode cX6_same 0 = .ok (.aload_n 0, 1) := by decide +kernel
theorem dX6_same_1 : decode cX6_same 1 = .ok (.iload_n 1, 1) := by decide +kernel
theorem dX6_same_2 : decode cX6_same 2 = .ok (.invokevirtual 55, 3) := by decide +kernel
theorem dX6_same_5 : decode cX6_same 5 = .ok (.aload_n 0, 1) := by decide +kernel
theorem dX6_same_6 : decode cX6_same 6 = .ok (.iload_n 2, 1) := by decide +kernel
theorem dX6_same_7 : decode cX6_same 7 = .ok (.invokevirtual 55, 3) := by decide +kernel
theorem dX6_same_10 : decode cX6_same 10 = .ok (.aload_n 0, 1) := by decide +kernel
theorem dX6_same_11 : decode cX6_same 11 = .ok (.getfield 11, 3) := by decide +kernel
theorem dX6_same_14 : decode cX6_same 14 = .ok (.iload_n 1, 1) := by decide +kernel
theorem dX6_same_15 : decode cX6_same 15 = .ok (.aaload, 1) := by decide +kernel
theorem dX6_same_16 : decode cX6_same 16 = .ok (.aload_n 0, 1) := by decide +kernel
theorem dX6_same_17 : decode cX6_same 17 = .ok (.getfield 11, 3) := by decide +kernel
theorem dX6_same_20 : decode cX6_same 20 = .ok (.iload_n 2, 1) := by decide +kernel
theorem dX6_same_21 : decode cX6_same 21 = .ok (.aaload, 1) := by decide +kernel
theorem dX6_same_22 : decode cX6_same 22 = .ok (.if_acmp .ne 7, 3) := by decide +kernel
theorem dX6_same_25 : decode cX6_same 25 = .ok (.iconst 1, 1) := by decide +kernel
theorem dX6_same_26 : decode cX6_same 26 = .ok (.goto 4, 3) := by decide +kernel
theorem dX6_same_29 : decode cX6_same 29 = .ok (.iconst 0, 1) := by decide +kernel
theorem dX6_same_30 : decode cX6_same 30 = .ok (.ireturn, 1) := by decide +kernel
theorem dX6_open_0 : decode cX6_open 0 = .ok (.iload_n 1, 1) := by decide +kernel
theorem dX6_open_1 : decode cX6_open 1 = .ok (.iconst 1, 1) := by decide +kernel
theorem dX6_open_2 : decode cX6_open 2 = .ok (.bipush 16, 2) := by decide +kernel
theorem dX6_open_4 : decode cX6_open 4 = .ok (.invokestatic 59, 3) := by decide +kernel
theorem dX6_open_7 : decode cX6_open 7 = .ok (.aload_n 0, 1) := by decide +kernel
theorem dX6_open_8 : decode cX6_open 8 = .ok (.getfield 160, 3) := by decide +kernel
theorem dX6_open_11 : decode cX6_open 11 = .ok (.bipush 20, 2) := by decide +kernel
theorem dX6_open_13 : decode cX6_open 13 = .ok (.if_icmp .lt 13, 3) := by decide +kernel
theorem dX6_open_16 : decode cX6_open 16 = .ok (.new 163, 3) := by decide +kernel
theorem dX6_open_19 : decode cX6_open 19 = .ok (.dup, 1) := by decide +kernel
theorem dX6_open_20 : decode cX6_open 20 = .ok (.ldc 165, 2) := by decide +kernel
theorem dX6_open_22 : decode cX6_open 22 = .ok (.invokespecial 167, 3) := by decide +kernel
theorem dX6_open_25 : decode cX6_open 25 = .ok (.athrow, 1) := by decide +kernel
theorem dX6_open_26 : decode cX6_open 26 = .ok (.aload_n 0, 1) := by decide +kernel
theorem dX6_open_27 : decode cX6_open 27 = .ok (.getfield 19, 3) := by decide +kernel
theorem dX6_open_30 : decode cX6_open 30 = .ok (.bipush 7, 2) := by decide +kernel
theorem dX6_open_32 : decode cX6_open 32 = .ok (.iaload, 1) := by decide +kernel
theorem dX6_open_33 : decode cX6_open 33 = .ok (.istore_n 2, 1) := by decide +kernel
theorem dX6_open_34 : decode cX6_open 34 = .ok (.aload_n 0, 1) := by decide +kernel
theorem dX6_open_35 : decode cX6_open 35 = .ok (.getfield 15, 3) := by decide +kernel
theorem dX6_open_38 : decode cX6_open 38 = .ok (.aload_n 0, 1) := by decide +kernel
theorem dX6_open_39 : decode cX6_open 39 = .ok (.getfield 160, 3) := by decide +kernel
theorem dX6_open_42 : decode cX6_open 42 = .ok (.iload_n 2, 1) := by decide +kernel
theorem dX6_open_43 : decode cX6_open 43 = .ok (.iastore, 1) := by decide +kernel
theorem dX6_open_44 : decode cX6_open 44 = .ok (.aload_n 0, 1) := by decide +kernel
theorem dX6_open_45 : decode cX6_open 45 = .ok (.dup, 1) := by decide +kernel
theorem dX6_open_46 : decode cX6_open 46 = .ok (.getfield 160, 3) := by decide +kernel
theorem dX6_open_49 : decode cX6_open 49 = .ok (.iconst 1, 1) := by decide +kernel
theorem dX6_open_50 : decode cX6_open 50 = .ok (.iadd, 1) := by decide +kernel
theorem dX6_open_51 : decode cX6_open 51 = .ok (.putfield 160, 3) := by decide +kernel
theorem dX6_open_54 : decode cX6_open 54 = .ok (.aload_n 0, 1) := by decide +kernel
theorem dX6_open_55 : decode cX6_open 55 = .ok (.getfield 19, 3) := by decide +kernel
theorem dX6_open_58 : decode cX6_open 58 = .ok (.bipush 7, 2) := by decide +kernel
theorem dX6_open_60 : decode cX6_open 60 = .ok (.iload_n 2, 1) := by decide +kernel
theorem dX6_open_61 : decode cX6_open 61 = .ok (.iload_n 1, 1) := by decide +kernel
theorem dX6_open_62 : decode cX6_open 62 = .ok (.iadd, 1) := by decide +kernel
theorem dX6_open_63 : decode cX6_open 63 = .ok (.iastore, 1) := by decide +kernel
theorem dX6_open_64 : decode cX6_open 64 = .ok (.iload_n 2, 1) := by decide +kernel
theorem dX6_open_65 : decode cX6_open 65 = .ok (.ireturn, 1) := by decide +kernel
theorem dX6_close_0 : decode cX6_close 0 = .ok (.aload_n 0, 1) := by decide +kernel
theorem dX6_close_1 : decode cX6_close 1 = .ok (.getfield 160, 3) := by decide +kernel
theorem dX6_close_4 : decode cX6_close 4 = .ok (.ifCond .gt 13, 3) := by decide +kernel
theorem dX6_close_7 : decode cX6_close 7 = .ok (.new 163, 3) := by decide +kernel
theorem dX6_close_10 : decode cX6_close 10 = .ok (.dup, 1) := by decide +kernel
theorem dX6_close_11 : decode cX6_close 11 = .ok (.ldc 170, 2) := by decide +kernel
theorem dX6_close_13 : decode cX6_close 13 = .ok (.invokespecial 167, 3) := by decide +kernel
theorem dX6_close_16 : decode cX6_close 16 = .ok (.athrow, 1) := by decide +kernel
theorem dX6_close_17 : decode cX6_close 17 = .ok (.aload_n 0, 1) := by decide +kernel
theorem dX6_close_18 : decode cX6_close 18 = .ok (.dup, 1) := by decide +kernel
theorem dX6_close_19 : decode cX6_close 19 = .ok (.getfield 160, 3) := by decide +kernel
theorem dX6_close_22 : decode cX6_close 22 = .ok (.iconst 1, 1) := by decide +kernel
theorem dX6_close_23 : decode cX6_close 23 = .ok (.isub, 1) := by decide +kernel
theorem dX6_close_24 : decode cX6_close 24 = .ok (.putfield 160, 3) := by decide +kernel
theorem dX6_close_27 : decode cX6_close 27 = .ok (.aload_n 0, 1) := by decide +kernel
theorem dX6_close_28 : decode cX6_close 28 = .ok (.getfield 15, 3) := by decide +kernel
theorem dX6_close_31 : decode cX6_close 31 = .ok (.aload_n 0, 1) := by decide +kernel
theorem dX6_close_32 : decode cX6_close 32 = .ok (.getfield 160, 3) := by decide +kernel
theorem dX6_close_35 : decode cX6_close 35 = .ok (.iaload, 1) := by decide +kernel
theorem dX6_close_36 : decode cX6_close 36 = .ok (.istore_n 1, 1) := by decide +kernel
theorem dX6_close_37 : decode cX6_close 37 = .ok (.iload_n 1, 1) := by decide +kernel
theorem dX6_close_38 : decode cX6_close 38 = .ok (.istore_n 2, 1) := by decide +kernel
theorem dX6_close_39 : decode cX6_close 39 = .ok (.iload_n 2, 1) := by decide +kernel
theorem dX6_close_40 : decode cX6_close 40 = .ok (.aload_n 0, 1) := by decide +kernel
theorem dX6_close_41 : decode cX6_close 41 = .ok (.getfield 19, 3) := by decide +kernel
theorem dX6_close_44 : decode cX6_close 44 = .ok (.bipush 7, 2) := by decide +kernel
theorem dX6_close_46 : decode cX6_close 46 = .ok (.iaload, 1) := by decide +kernel
theorem dX6_close_47 : decode cX6_close 47 = .ok (.if_icmp .ge 16, 3) := by decide +kernel
theorem dX6_close_50 : decode cX6_close 50 = .ok (.aload_n 0, 1) := by decide +kernel
theorem dX6_close_51 : decode cX6_close 51 = .ok (.getfield 11, 3) := by decide +kernel
theorem dX6_close_54 : decode cX6_close 54 = .ok (.iload_n 2, 1) := by decide +kernel
theorem dX6_close_55 : decode cX6_close 55 = .ok (.aconst_null, 1) := by decide +kernel
theorem dX6_close_56 : decode cX6_close 56 = .ok (.aastore, 1) := by decide +kernel
theorem dX6_close_57 : decode cX6_close 57 = .ok (.iinc 2 1, 3) := by decide +kernel
theorem dX6_close_60 : decode cX6_close 60 = .ok (.goto (-21), 3) := by decide +kernel
theorem dX6_close_63 : decode cX6_close 63 = .ok (.aload_n 0, 1) := by decide +kernel
theorem dX6_close_64 : decode cX6_close 64 = .ok (.getfield 19, 3) := by decide +kernel
theorem dX6_close_67 : decode cX6_close 67 = .ok (.bipush 7, 2) := by decide +kernel
theorem dX6_close_69 : decode cX6_close 69 = .ok (.iload_n 1, 1) := by decide +kernel
theorem dX6_close_70 : decode cX6_close 70 = .ok (.iastore, 1) := by decide +kernel
theorem dX6_close_71 : decode cX6_close 71 = .ok (.iload_n 1, 1) := by decide +kernel
theorem dX6_close_72 : decode cX6_close 72 = .ok (.ireturn, 1) := by decide +kernel
theorem dX6_collect_0 : decode cX6_collect 0 = .ok (.aload_n 0, 1) := by decide +kernel
theorem dX6_collect_1 : decode cX6_collect 1 = .ok (.iload_n 1, 1) := by decide +kernel
theorem dX6_collect_2 : decode cX6_collect 2 = .ok (.invokevirtual 172, 3) := by decide +kernel
theorem dX6_collect_5 : decode cX6_collect 5 = .ok (.ireturn, 1) := by decide +kernel
theorem dX6_every_0 : decode cX6_every 0 = .ok (.iload_n 1, 1) := by decide +kernel
theorem dX6_every_1 : decode cX6_every 1 = .ok (.invokestatic 101, 3) := by decide +kernel
theorem dX6_every_4 : decode cX6_every 4 = .ok (.aload_n 0, 1) := by decide +kernel
theorem dX6_every_5 : decode cX6_every 5 = .ok (.iload_n 1, 1) := by decide +kernel
theorem dX6_every_6 : decode cX6_every 6 = .ok (.putfield 176, 3) := by decide +kernel
theorem dX6_every_9 : decode cX6_every 9 = .ok (.aload_n 0, 1) := by decide +kernel
theorem dX6_every_10 : decode cX6_every 10 = .ok (.iconst 0, 1) := by decide +kernel
theorem dX6_every_11 : decode cX6_every 11 = .ok (.putfield 179, 3) := by decide +kernel
theorem dX6_every_14 : decode cX6_every 14 = .ok (.iload_n 1, 1) := by decide +kernel
theorem dX6_every_15 : decode cX6_every 15 = .ok (.ireturn, 1) := by decide +kernel
theorem dX6_count_0 : decode cX6_count 0 = .ok (.iload_n 1, 1) := by decide +kernel
theorem dX6_count_1 : decode cX6_count 1 = .ok (.iconst 0, 1) := by decide +kernel
theorem dX6_count_2 : decode cX6_count 2 = .ok (.bipush 9, 2) := by decide +kernel
theorem dX6_count_4 : decode cX6_count 4 = .ok (.invokestatic 59, 3) := by decide +kernel
theorem dX6_count_7 : decode cX6_count 7 = .ok (.aload_n 0, 1) := by decide +kernel
theorem dX6_count_8 : decode cX6_count 8 = .ok (.getfield 19, 3) := by decide +kernel
theorem dX6_count_11 : decode cX6_count 11 = .ok (.iload_n 1, 1) := by decide +kernel
theorem dX6_count_12 : decode cX6_count 12 = .ok (.iaload, 1) := by decide +kernel
theorem dX6_count_13 : decode cX6_count 13 = .ok (.ireturn, 1) := by decide +kernel
theorem dX6_digest_0 : decode cX6_digest 0 = .ok (.aload_n 0, 1) := by decide +kernel
theorem dX6_digest_1 : decode cX6_digest 1 = .ok (.iload_n 1, 1) := by decide +kernel
theorem dX6_digest_2 : decode cX6_digest 2 = .ok (.invokevirtual 55, 3) := by decide +kernel
theorem dX6_digest_5 : decode cX6_digest 5 = .ok (.ldc2_w 182, 3) := by decide +kernel
theorem dX6_digest_8 : decode cX6_digest 8 = .ok (.lstore_n 2, 1) := by decide +kernel
theorem dX6_digest_9 : decode cX6_digest 9 = .ok (.aload_n 0, 1) := by decide +kernel
theorem dX6_digest_10 : decode cX6_digest 10 = .ok (.getfield 35, 3) := by decide +kernel
theorem dX6_digest_13 : decode cX6_digest 13 = .ok (.invokevirtual 184, 3) := by decide +kernel
theorem dX6_digest_16 : decode cX6_digest 16 = .ok (.aload_n 0, 1) := by decide +kernel
theorem dX6_digest_17 : decode cX6_digest 17 = .ok (.getfield 35, 3) := by decide +kernel
theorem dX6_digest_20 : decode cX6_digest 20 = .ok (.aload_n 0, 1) := by decide +kernel
theorem dX6_digest_21 : decode cX6_digest 21 = .ok (.getfield 11, 3) := by decide +kernel
theorem dX6_digest_24 : decode cX6_digest 24 = .ok (.iload_n 1, 1) := by decide +kernel
theorem dX6_digest_25 : decode cX6_digest 25 = .ok (.aaload, 1) := by decide +kernel
theorem dX6_digest_26 : decode cX6_digest 26 = .ok (.invokevirtual 187, 3) := by decide +kernel
theorem dX6_digest_29 : decode cX6_digest 29 = .ok (.aload_n 0, 1) := by decide +kernel
theorem dX6_digest_30 : decode cX6_digest 30 = .ok (.getfield 19, 3) := by decide +kernel
theorem dX6_digest_33 : decode cX6_digest 33 = .ok (.iconst 1, 1) := by decide +kernel
theorem dX6_digest_34 : decode cX6_digest 34 = .ok (.iaload, 1) := by decide +kernel
theorem dX6_digest_35 : decode cX6_digest 35 = .ok (.istore 4, 2) := by decide +kernel
theorem dX6_digest_37 : decode cX6_digest 37 = .ok (.aload_n 0, 1) := by decide +kernel
theorem dX6_digest_38 : decode cX6_digest 38 = .ok (.getfield 35, 3) := by decide +kernel
theorem dX6_digest_41 : decode cX6_digest 41 = .ok (.getfield 191, 3) := by decide +kernel
theorem dX6_digest_44 : decode cX6_digest 44 = .ok (.astore 5, 2) := by decide +kernel
theorem dX6_digest_46 : decode cX6_digest 46 = .ok (.aload 5, 2) := by decide +kernel
theorem dX6_digest_48 : decode cX6_digest 48 = .ok (.ifnull 41, 3) := by decide +kernel
theorem dX6_digest_51 : decode cX6_digest 51 = .ok (.iload 4, 2) := by decide +kernel
theorem dX6_digest_53 : decode cX6_digest 53 = .ok (.ifCond .le 36, 3) := by decide +kernel
theorem dX6_digest_56 : decode cX6_digest 56 = .ok (.aload 5, 2) := by decide +kernel
theorem dX6_digest_58 : decode cX6_digest 58 = .ok (.lload_n 2, 1) := by decide +kernel
theorem dX6_digest_59 : decode cX6_digest 59 = .ok (.aload 5, 2) := by decide +kernel
theorem dX6_digest_61 : decode cX6_digest 61 = .ok (.getfield 156, 3) := by decide +kernel
theorem dX6_digest_64 : decode cX6_digest 64 = .ok (.i2l, 1) := by decide +kernel
theorem dX6_digest_65 : decode cX6_digest 65 = .ok (.invokestatic 194, 3) := by decide +kernel
theorem dX6_digest_68 : decode cX6_digest 68 = .ok (.aload_n 0, 1) := by decide +kernel
theorem dX6_digest_69 : decode cX6_digest 69 = .ok (.getfield 35, 3) := by decide +kernel
theorem dX6_digest_72 : decode cX6_digest 72 = .ok (.invokevirtual 198, 3) := by decide +kernel
theorem dX6_digest_75 : decode cX6_digest 75 = .ok (.lstore_n 2, 1) := by decide +kernel
theorem dX6_digest_76 : decode cX6_digest 76 = .ok (.iinc 4 (-1), 3) := by decide +kernel
theorem dX6_digest_79 : decode cX6_digest 79 = .ok (.aload 5, 2) := by decide +kernel
theorem dX6_digest_81 : decode cX6_digest 81 = .ok (.getfield 202, 3) := by decide +kernel
theorem dX6_digest_84 : decode cX6_digest 84 = .ok (.astore 5, 2) := by decide +kernel
theorem dX6_digest_86 : decode cX6_digest 86 = .ok (.goto (-40), 3) := by decide +kernel
theorem dX6_digest_89 : decode cX6_digest 89 = .ok (.lload_n 2, 1) := by decide +kernel
theorem dX6_digest_90 : decode cX6_digest 90 = .ok (.lreturn, 1) := by decide +kernel
