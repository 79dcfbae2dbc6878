theorem dX6_mix_0 : decode cX6_mix 0 = .ok (.ldc2_w 205, 3) := by decide +kernel
theorem dX6_mix_3 : decode cX6_mix 3 = .ok (.lload_n 0, 1) := by decide +kernel
theorem dX6_mix_4 : decode cX6_mix 4 = .ok (.lmul, 1) := by decide +kernel
theorem dX6_mix_5 : decode cX6_mix 5 = .ok (.lload_n 2, 1) := by decide +kernel
theorem dX6_mix_6 : decode cX6_mix 6 = .ok (.ladd, 1) := by decide +kernel
theorem dX6_mix_7 : decode cX6_mix 7 = .ok (.lreturn, 1) := by decide +kernel
theorem dX6_oneIfObject_0 : decode cX6_oneIfObject 0 = .ok (.aload_n 0, 1) := by decide +kernel
theorem dX6_oneIfObject_1 : decode cX6_oneIfObject 1 = .ok (.ifnonnull 7, 3) := by decide +kernel
theorem dX6_oneIfObject_4 : decode cX6_oneIfObject 4 = .ok (.iconst 0, 1) := by decide +kernel
theorem dX6_oneIfObject_5 : decode cX6_oneIfObject 5 = .ok (.goto 4, 3) := by decide +kernel
theorem dX6_oneIfObject_8 : decode cX6_oneIfObject 8 = .ok (.iconst 1, 1) := by decide +kernel
theorem dX6_oneIfObject_9 : decode cX6_oneIfObject 9 = .ok (.ireturn, 1) := by decide +kernel
theorem dX6_checkRange_0 : decode cX6_checkRange 0 = .ok (.iload_n 0, 1) := by decide +kernel
theorem dX6_checkRange_1 : decode cX6_checkRange 1 = .ok (.iload_n 1, 1) := by decide +kernel
theorem dX6_checkRange_2 : decode cX6_checkRange 2 = .ok (.if_icmp .lt 8, 3) := by decide +kernel
theorem dX6_checkRange_5 : decode cX6_checkRange 5 = .ok (.iload_n 0, 1) := by decide +kernel
theorem dX6_checkRange_6 : decode cX6_checkRange 6 = .ok (.iload_n 2, 1) := by decide +kernel
theorem dX6_checkRange_7 : decode cX6_checkRange 7 = .ok (.if_icmp .le 13, 3) := by decide +kernel
theorem dX6_checkRange_10 : decode cX6_checkRange 10 = .ok (.new 207, 3) := by decide +kernel
theorem dX6_checkRange_13 : decode cX6_checkRange 13 = .ok (.dup, 1) := by decide +kernel
theorem dX6_checkRange_14 : decode cX6_checkRange 14 = .ok (.ldc 209, 2) := by decide +kernel
theorem dX6_checkRange_16 : decode cX6_checkRange 16 = .ok (.invokespecial 211, 3) := by decide +kernel
theorem dX6_checkRange_19 : decode cX6_checkRange 19 = .ok (.athrow, 1) := by decide +kernel
theorem dX6_checkRange_20 : decode cX6_checkRange 20 = .ok (.return_, 1) := by decide +kernel
theorem dX6_checkNotNegative_0 : decode cX6_checkNotNegative 0 = .ok (.iload_n 0, 1) := by decide +kernel
theorem dX6_checkNotNegative_1 : decode cX6_checkNotNegative 1 = .ok (.ifCond .ge 13, 3) := by decide +kernel
theorem dX6_checkNotNegative_4 : decode cX6_checkNotNegative 4 = .ok (.new 207, 3) := by decide +kernel
theorem dX6_checkNotNegative_7 : decode cX6_checkNotNegative 7 = .ok (.dup, 1) := by decide +kernel
theorem dX6_checkNotNegative_8 : decode cX6_checkNotNegative 8 = .ok (.ldc 212, 2) := by decide +kernel
theorem dX6_checkNotNegative_10 : decode cX6_checkNotNegative 10 = .ok (.invokespecial 211, 3) := by decide +kernel
theorem dX6_checkNotNegative_13 : decode cX6_checkNotNegative 13 = .ok (.athrow, 1) := by decide +kernel
theorem dX6_checkNotNegative_14 : decode cX6_checkNotNegative 14 = .ok (.return_, 1) := by decide +kernel
theorem dX6_checkRoot_0 : decode cX6_checkRoot 0 = .ok (.iload_n 1, 1) := by decide +kernel
theorem dX6_checkRoot_1 : decode cX6_checkRoot 1 = .ok (.iconst 0, 1) := by decide +kernel
theorem dX6_checkRoot_2 : decode cX6_checkRoot 2 = .ok (.aload_n 0, 1) := by decide +kernel
theorem dX6_checkRoot_3 : decode cX6_checkRoot 3 = .ok (.getfield 19, 3) := by decide +kernel
theorem dX6_checkRoot_6 : decode cX6_checkRoot 6 = .ok (.bipush 7, 2) := by decide +kernel
theorem dX6_checkRoot_8 : decode cX6_checkRoot 8 = .ok (.iaload, 1) := by decide +kernel
theorem dX6_checkRoot_9 : decode cX6_checkRoot 9 = .ok (.iconst 1, 1) := by decide +kernel
theorem dX6_checkRoot_10 : decode cX6_checkRoot 10 = .ok (.isub, 1) := by decide +kernel
theorem dX6_checkRoot_11 : decode cX6_checkRoot 11 = .ok (.invokestatic 59, 3) := by decide +kernel
theorem dX6_checkRoot_14 : decode cX6_checkRoot 14 = .ok (.return_, 1) := by decide +kernel
theorem dX6_checkRootOrNone_0 : decode cX6_checkRootOrNone 0 = .ok (.iload_n 1, 1) := by decide +kernel
theorem dX6_checkRootOrNone_1 : decode cX6_checkRootOrNone 1 = .ok (.iconst (-1), 1) := by decide +kernel
theorem dX6_checkRootOrNone_2 : decode cX6_checkRootOrNone 2 = .ok (.aload_n 0, 1) := by decide +kernel
theorem dX6_checkRootOrNone_3 : decode cX6_checkRootOrNone 3 = .ok (.getfield 19, 3) := by decide +kernel
theorem dX6_checkRootOrNone_6 : decode cX6_checkRootOrNone 6 = .ok (.bipush 7, 2) := by decide +kernel
theorem dX6_checkRootOrNone_8 : decode cX6_checkRootOrNone 8 = .ok (.iaload, 1) := by decide +kernel
theorem dX6_checkRootOrNone_9 : decode cX6_checkRootOrNone 9 = .ok (.iconst 1, 1) := by decide +kernel
theorem dX6_checkRootOrNone_10 : decode cX6_checkRootOrNone 10 = .ok (.isub, 1) := by decide +kernel
theorem dX6_checkRootOrNone_11 : decode cX6_checkRootOrNone 11 = .ok (.invokestatic 59, 3) := by decide +kernel
theorem dX6_checkRootOrNone_14 : decode cX6_checkRootOrNone 14 = .ok (.return_, 1) := by decide +kernel
theorem dX6_atOrNone_0 : decode cX6_atOrNone 0 = .ok (.iload_n 1, 1) := by decide +kernel
theorem dX6_atOrNone_1 : decode cX6_atOrNone 1 = .ok (.iconst (-1), 1) := by decide +kernel
theorem dX6_atOrNone_2 : decode cX6_atOrNone 2 = .ok (.if_icmp .ne 7, 3) := by decide +kernel
theorem dX6_atOrNone_5 : decode cX6_atOrNone 5 = .ok (.aconst_null, 1) := by decide +kernel
theorem dX6_atOrNone_6 : decode cX6_atOrNone 6 = .ok (.goto 9, 3) := by decide +kernel
theorem dX6_atOrNone_9 : decode cX6_atOrNone 9 = .ok (.aload_n 0, 1) := by decide +kernel
theorem dX6_atOrNone_10 : decode cX6_atOrNone 10 = .ok (.getfield 11, 3) := by decide +kernel
theorem dX6_atOrNone_13 : decode cX6_atOrNone 13 = .ok (.iload_n 1, 1) := by decide +kernel
theorem dX6_atOrNone_14 : decode cX6_atOrNone 14 = .ok (.aaload, 1) := by decide +kernel
theorem dX6_atOrNone_15 : decode cX6_atOrNone 15 = .ok (.areturn, 1) := by decide +kernel
theorem dX6_putRoot_0 : decode cX6_putRoot 0 = .ok (.aload_n 0, 1) := by decide +kernel
theorem dX6_putRoot_1 : decode cX6_putRoot 1 = .ok (.getfield 11, 3) := by decide +kernel
theorem dX6_putRoot_4 : decode cX6_putRoot 4 = .ok (.iload_n 1, 1) := by decide +kernel
theorem dX6_putRoot_5 : decode cX6_putRoot 5 = .ok (.aload_n 2, 1) := by decide +kernel
theorem dX6_putRoot_6 : decode cX6_putRoot 6 = .ok (.aastore, 1) := by decide +kernel
theorem dX6_putRoot_7 : decode cX6_putRoot 7 = .ok (.aload_n 2, 1) := by decide +kernel
theorem dX6_putRoot_8 : decode cX6_putRoot 8 = .ok (.invokestatic 111, 3) := by decide +kernel
theorem dX6_putRoot_11 : decode cX6_putRoot 11 = .ok (.ireturn, 1) := by decide +kernel
theorem dX6_objectAt_0 : decode cX6_objectAt 0 = .ok (.aload_n 0, 1) := by decide +kernel
theorem dX6_objectAt_1 : decode cX6_objectAt 1 = .ok (.getfield 11, 3) := by decide +kernel
theorem dX6_objectAt_4 : decode cX6_objectAt 4 = .ok (.iload_n 1, 1) := by decide +kernel
theorem dX6_objectAt_5 : decode cX6_objectAt 5 = .ok (.aaload, 1) := by decide +kernel
theorem dX6_objectAt_6 : decode cX6_objectAt 6 = .ok (.astore_n 2, 1) := by decide +kernel
theorem dX6_objectAt_7 : decode cX6_objectAt 7 = .ok (.aload_n 2, 1) := by decide +kernel
theorem dX6_objectAt_8 : decode cX6_objectAt 8 = .ok (.ifnonnull 13, 3) := by decide +kernel
theorem dX6_objectAt_11 : decode cX6_objectAt 11 = .ok (.new 163, 3) := by decide +kernel
theorem dX6_objectAt_14 : decode cX6_objectAt 14 = .ok (.dup, 1) := by decide +kernel
theorem dX6_objectAt_15 : decode cX6_objectAt 15 = .ok (.ldc 214, 2) := by decide +kernel
theorem dX6_objectAt_17 : decode cX6_objectAt 17 = .ok (.invokespecial 167, 3) := by decide +kernel
theorem dX6_objectAt_20 : decode cX6_objectAt 20 = .ok (.athrow, 1) := by decide +kernel
theorem dX6_objectAt_21 : decode cX6_objectAt 21 = .ok (.aload_n 2, 1) := by decide +kernel
theorem dX6_objectAt_22 : decode cX6_objectAt 22 = .ok (.areturn, 1) := by decide +kernel
theorem dX6_lineAt_0 : decode cX6_lineAt 0 = .ok (.aload_n 0, 1) := by decide +kernel
theorem dX6_lineAt_1 : decode cX6_lineAt 1 = .ok (.getfield 11, 3) := by decide +kernel
theorem dX6_lineAt_4 : decode cX6_lineAt 4 = .ok (.iload_n 1, 1) := by decide +kernel
theorem dX6_lineAt_5 : decode cX6_lineAt 5 = .ok (.aaload, 1) := by decide +kernel
theorem dX6_lineAt_6 : decode cX6_lineAt 6 = .ok (.astore_n 3, 1) := by decide +kernel
theorem dX6_lineAt_7 : decode cX6_lineAt 7 = .ok (.aload_n 3, 1) := by decide +kernel
theorem dX6_lineAt_8 : decode cX6_lineAt 8 = .ok (.instanceof 76, 3) := by decide +kernel
theorem dX6_lineAt_11 : decode cX6_lineAt 11 = .ok (.ifCond .eq 10, 3) := by decide +kernel
theorem dX6_lineAt_14 : decode cX6_lineAt 14 = .ok (.aload_n 3, 1) := by decide +kernel
theorem dX6_lineAt_15 : decode cX6_lineAt 15 = .ok (.checkcast 76, 3) := by decide +kernel
theorem dX6_lineAt_18 : decode cX6_lineAt 18 = .ok (.astore_n 2, 1) := by decide +kernel
theorem dX6_lineAt_19 : decode cX6_lineAt 19 = .ok (.aload_n 2, 1) := by decide +kernel
theorem dX6_lineAt_20 : decode cX6_lineAt 20 = .ok (.areturn, 1) := by decide +kernel
theorem dX6_lineAt_21 : decode cX6_lineAt 21 = .ok (.new 163, 3) := by decide +kernel
theorem dX6_lineAt_24 : decode cX6_lineAt 24 = .ok (.dup, 1) := by decide +kernel
theorem dX6_lineAt_25 : decode cX6_lineAt 25 = .ok (.ldc 216, 2) := by decide +kernel
theorem dX6_lineAt_27 : decode cX6_lineAt 27 = .ok (.invokespecial 167, 3) := by decide +kernel
theorem dX6_lineAt_30 : decode cX6_lineAt 30 = .ok (.athrow, 1) := by decide +kernel
theorem dX6_lineAtOrNone_0 : decode cX6_lineAtOrNone 0 = .ok (.iload_n 1, 1) := by decide +kernel
theorem dX6_lineAtOrNone_1 : decode cX6_lineAtOrNone 1 = .ok (.iconst (-1), 1) := by decide +kernel
theorem dX6_lineAtOrNone_2 : decode cX6_lineAtOrNone 2 = .ok (.if_icmp .ne 7, 3) := by decide +kernel
theorem dX6_lineAtOrNone_5 : decode cX6_lineAtOrNone 5 = .ok (.aconst_null, 1) := by decide +kernel
theorem dX6_lineAtOrNone_6 : decode cX6_lineAtOrNone 6 = .ok (.goto 8, 3) := by decide +kernel
theorem dX6_lineAtOrNone_9 : decode cX6_lineAtOrNone 9 = .ok (.aload_n 0, 1) := by decide +kernel
theorem dX6_lineAtOrNone_10 : decode cX6_lineAtOrNone 10 = .ok (.iload_n 1, 1) := by decide +kernel
theorem dX6_lineAtOrNone_11 : decode cX6_lineAtOrNone 11 = .ok (.invokevirtual 146, 3) := by decide +kernel
theorem dX6_lineAtOrNone_14 : decode cX6_lineAtOrNone 14 = .ok (.areturn, 1) := by decide +kernel
theorem dX6_looseAt_0 : decode cX6_looseAt 0 = .ok (.aload_n 0, 1) := by decide +kernel
theorem dX6_looseAt_1 : decode cX6_looseAt 1 = .ok (.getfield 11, 3) := by decide +kernel
theorem dX6_looseAt_4 : decode cX6_looseAt 4 = .ok (.iload_n 1, 1) := by decide +kernel
theorem dX6_looseAt_5 : decode cX6_looseAt 5 = .ok (.aaload, 1) := by decide +kernel
theorem dX6_looseAt_6 : decode cX6_looseAt 6 = .ok (.astore_n 3, 1) := by decide +kernel
theorem dX6_looseAt_7 : decode cX6_looseAt 7 = .ok (.aload_n 3, 1) := by decide +kernel
theorem dX6_looseAt_8 : decode cX6_looseAt 8 = .ok (.instanceof 90, 3) := by decide +kernel
theorem dX6_looseAt_11 : decode cX6_looseAt 11 = .ok (.ifCond .eq 10, 3) := by decide +kernel
theorem dX6_looseAt_14 : decode cX6_looseAt 14 = .ok (.aload_n 3, 1) := by decide +kernel
theorem dX6_looseAt_15 : decode cX6_looseAt 15 = .ok (.checkcast 90, 3) := by decide +kernel
theorem dX6_looseAt_18 : decode cX6_looseAt 18 = .ok (.astore_n 2, 1) := by decide +kernel
theorem dX6_looseAt_19 : decode cX6_looseAt 19 = .ok (.aload_n 2, 1) := by decide +kernel
theorem dX6_looseAt_20 : decode cX6_looseAt 20 = .ok (.areturn, 1) := by decide +kernel
theorem dX6_looseAt_21 : decode cX6_looseAt 21 = .ok (.new 163, 3) := by decide +kernel
theorem dX6_looseAt_24 : decode cX6_looseAt 24 = .ok (.dup, 1) := by decide +kernel
theorem dX6_looseAt_25 : decode cX6_looseAt 25 = .ok (.ldc 218, 2) := by decide +kernel
theorem dX6_looseAt_27 : decode cX6_looseAt 27 = .ok (.invokespecial 167, 3) := by decide +kernel
theorem dX6_looseAt_30 : decode cX6_looseAt 30 = .ok (.athrow, 1) := by decide +kernel
theorem dX6_pairAt_0 : decode cX6_pairAt 0 = .ok (.aload_n 0, 1) := by decide +kernel
theorem dX6_pairAt_1 : decode cX6_pairAt 1 = .ok (.iload_n 1, 1) := by decide +kernel
theorem dX6_pairAt_2 : decode cX6_pairAt 2 = .ok (.invokevirtual 130, 3) := by decide +kernel
theorem dX6_pairAt_5 : decode cX6_pairAt 5 = .ok (.astore_n 2, 1) := by decide +kernel
theorem dX6_pairAt_6 : decode cX6_pairAt 6 = .ok (.aload_n 2, 1) := by decide +kernel
theorem dX6_pairAt_7 : decode cX6_pairAt 7 = .ok (.getfield 133, 3) := by decide +kernel
theorem dX6_pairAt_10 : decode cX6_pairAt 10 = .ok (.bipush 7, 2) := by decide +kernel
theorem dX6_pairAt_12 : decode cX6_pairAt 12 = .ok (.if_icmp .eq 13, 3) := by decide +kernel
theorem dX6_pairAt_15 : decode cX6_pairAt 15 = .ok (.new 163, 3) := by decide +kernel
theorem dX6_pairAt_18 : decode cX6_pairAt 18 = .ok (.dup, 1) := by decide +kernel
theorem dX6_pairAt_19 : decode cX6_pairAt 19 = .ok (.ldc 220, 2) := by decide +kernel
theorem dX6_pairAt_21 : decode cX6_pairAt 21 = .ok (.invokespecial 167, 3) := by decide +kernel
theorem dX6_pairAt_24 : decode cX6_pairAt 24 = .ok (.athrow, 1) := by decide +kernel
theorem dX6_pairAt_25 : decode cX6_pairAt 25 = .ok (.aload_n 2, 1) := by decide +kernel
theorem dX6_pairAt_26 : decode cX6_pairAt 26 = .ok (.areturn, 1) := by decide +kernel
theorem dX6_holderAt_0 : decode cX6_holderAt 0 = .ok (.aload_n 0, 1) := by decide +kernel
theorem dX6_holderAt_1 : decode cX6_holderAt 1 = .ok (.getfield 11, 3) := by decide +kernel
theorem dX6_holderAt_4 : decode cX6_holderAt 4 = .ok (.iload_n 1, 1) := by decide +kernel
theorem dX6_holderAt_5 : decode cX6_holderAt 5 = .ok (.aaload, 1) := by decide +kernel
theorem dX6_holderAt_6 : decode cX6_holderAt 6 = .ok (.astore_n 3, 1) := by decide +kernel
theorem dX6_holderAt_7 : decode cX6_holderAt 7 = .ok (.aload_n 3, 1) := by decide +kernel
theorem dX6_holderAt_8 : decode cX6_holderAt 8 = .ok (.instanceof 67, 3) := by decide +kernel
theorem dX6_holderAt_11 : decode cX6_holderAt 11 = .ok (.ifCond .eq 10, 3) := by decide +kernel
theorem dX6_holderAt_14 : decode cX6_holderAt 14 = .ok (.aload_n 3, 1) := by decide +kernel
theorem dX6_holderAt_15 : decode cX6_holderAt 15 = .ok (.checkcast 67, 3) := by decide +kernel
theorem dX6_holderAt_18 : decode cX6_holderAt 18 = .ok (.astore_n 2, 1) := by decide +kernel
theorem dX6_holderAt_19 : decode cX6_holderAt 19 = .ok (.aload_n 2, 1) := by decide +kernel
theorem dX6_holderAt_20 : decode cX6_holderAt 20 = .ok (.areturn, 1) := by decide +kernel
theorem dX6_holderAt_21 : decode cX6_holderAt 21 = .ok (.new 163, 3) := by decide +kernel
theorem dX6_holderAt_24 : decode cX6_holderAt 24 = .ok (.dup, 1) := by decide +kernel
theorem dX6_holderAt_25 : decode cX6_holderAt 25 = .ok (.ldc 222, 2) := by decide +kernel
theorem dX6_holderAt_27 : decode cX6_holderAt 27 = .ok (.invokespecial 167, 3) := by decide +kernel
theorem dX6_holderAt_30 : decode cX6_holderAt 30 = .ok (.athrow, 1) := by decide +kernel
theorem dX6_holderOfRef_0 : decode cX6_holderOfRef 0 = .ok (.aload_n 0, 1) := by decide +kernel
theorem dX6_holderOfRef_1 : decode cX6_holderOfRef 1 = .ok (.iload_n 1, 1) := by decide +kernel
theorem dX6_holderOfRef_2 : decode cX6_holderOfRef 2 = .ok (.invokevirtual 224, 3) := by decide +kernel
theorem dX6_holderOfRef_5 : decode cX6_holderOfRef 5 = .ok (.astore_n 3, 1) := by decide +kernel
theorem dX6_holderOfRef_6 : decode cX6_holderOfRef 6 = .ok (.iload_n 2, 1) := by decide +kernel
theorem dX6_holderOfRef_7 : decode cX6_holderOfRef 7 = .ok (.aload_n 3, 1) := by decide +kernel
theorem dX6_holderOfRef_8 : decode cX6_holderOfRef 8 = .ok (.getfield 108, 3) := by decide +kernel
theorem dX6_holderOfRef_11 : decode cX6_holderOfRef 11 = .ok (.arraylength, 1) := by decide +kernel
theorem dX6_holderOfRef_12 : decode cX6_holderOfRef 12 = .ok (.if_icmp .lt 13, 3) := by decide +kernel
theorem dX6_holderOfRef_15 : decode cX6_holderOfRef 15 = .ok (.new 163, 3) := by decide +kernel
theorem dX6_holderOfRef_18 : decode cX6_holderOfRef 18 = .ok (.dup, 1) := by decide +kernel
theorem dX6_holderOfRef_19 : decode cX6_holderOfRef 19 = .ok (.ldc 228, 2) := by decide +kernel
theorem dX6_holderOfRef_21 : decode cX6_holderOfRef 21 = .ok (.invokespecial 167, 3) := by decide +kernel
theorem dX6_holderOfRef_24 : decode cX6_holderOfRef 24 = .ok (.athrow, 1) := by decide +kernel
theorem dX6_holderOfRef_25 : decode cX6_holderOfRef 25 = .ok (.aload_n 3, 1) := by decide +kernel
theorem dX6_holderOfRef_26 : decode cX6_holderOfRef 26 = .ok (.areturn, 1) := by decide +kernel
theorem dX6_holderOfNumber_0 : decode cX6_holderOfNumber 0 = .ok (.aload_n 0, 1) := by decide +kernel
theorem dX6_holderOfNumber_1 : decode cX6_holderOfNumber 1 = .ok (.iload_n 1, 1) := by decide +kernel
theorem dX6_holderOfNumber_2 : decode cX6_holderOfNumber 2 = .ok (.invokevirtual 224, 3) := by decide +kernel
theorem dX6_holderOfNumber_5 : decode cX6_holderOfNumber 5 = .ok (.astore_n 3, 1) := by decide +kernel
theorem dX6_holderOfNumber_6 : decode cX6_holderOfNumber 6 = .ok (.iload_n 2, 1) := by decide +kernel
theorem dX6_holderOfNumber_7 : decode cX6_holderOfNumber 7 = .ok (.aload_n 3, 1) := by decide +kernel
theorem dX6_holderOfNumber_8 : decode cX6_holderOfNumber 8 = .ok (.getfield 118, 3) := by decide +kernel
theorem dX6_holderOfNumber_11 : decode cX6_holderOfNumber 11 = .ok (.arraylength, 1) := by decide +kernel
theorem dX6_holderOfNumber_12 : decode cX6_holderOfNumber 12 = .ok (.if_icmp .lt 13, 3) := by decide +kernel
theorem dX6_holderOfNumber_15 : decode cX6_holderOfNumber 15 = .ok (.new 163, 3) := by decide +kernel
theorem dX6_holderOfNumber_18 : decode cX6_holderOfNumber 18 = .ok (.dup, 1) := by decide +kernel
theorem dX6_holderOfNumber_19 : decode cX6_holderOfNumber 19 = .ok (.ldc 230, 2) := by decide +kernel
theorem dX6_holderOfNumber_21 : decode cX6_holderOfNumber 21 = .ok (.invokespecial 167, 3) := by decide +kernel
theorem dX6_holderOfNumber_24 : decode cX6_holderOfNumber 24 = .ok (.athrow, 1) := by decide +kernel
theorem dX6_holderOfNumber_25 : decode cX6_holderOfNumber 25 = .ok (.aload_n 3, 1) := by decide +kernel
theorem dX6_holderOfNumber_26 : decode cX6_holderOfNumber 26 = .ok (.areturn, 1) := by decide +kernel
theorem dX6_fits_0 : decode cX6_fits 0 = .ok (.aload_n 0, 1) := by decide +kernel
theorem dX6_fits_1 : decode cX6_fits 1 = .ok (.getfield 19, 3) := by decide +kernel
theorem dX6_fits_4 : decode cX6_fits 4 = .ok (.iconst 0, 1) := by decide +kernel
theorem dX6_fits_5 : decode cX6_fits 5 = .ok (.iaload, 1) := by decide +kernel
theorem dX6_fits_6 : decode cX6_fits 6 = .ok (.iload_n 1, 1) := by decide +kernel
theorem dX6_fits_7 : decode cX6_fits 7 = .ok (.iadd, 1) := by decide +kernel
theorem dX6_fits_8 : decode cX6_fits 8 = .ok (.aload_n 0, 1) := by decide +kernel
theorem dX6_fits_9 : decode cX6_fits 9 = .ok (.getfield 48, 3) := by decide +kernel
theorem dX6_fits_12 : decode cX6_fits 12 = .ok (.if_icmp .gt 7, 3) := by decide +kernel
theorem dX6_fits_15 : decode cX6_fits 15 = .ok (.iconst 1, 1) := by decide +kernel
theorem dX6_fits_16 : decode cX6_fits 16 = .ok (.goto 4, 3) := by decide +kernel
theorem dX6_fits_19 : decode cX6_fits 19 = .ok (.iconst 0, 1) := by decide +kernel
theorem dX6_fits_20 : decode cX6_fits 20 = .ok (.ireturn, 1) := by decide +kernel
theorem dX6_makeRoom_0 : decode cX6_makeRoom 0 = .ok (.aload_n 0, 1) := by decide +kernel
theorem dX6_makeRoom_1 : decode cX6_makeRoom 1 = .ok (.iload_n 1, 1) := by decide +kernel
theorem dX6_makeRoom_2 : decode cX6_makeRoom 2 = .ok (.invokevirtual 232, 3) := by decide +kernel
theorem dX6_makeRoom_5 : decode cX6_makeRoom 5 = .ok (.ifCond .ne 9, 3) := by decide +kernel
theorem dX6_makeRoom_8 : decode cX6_makeRoom 8 = .ok (.aload_n 0, 1) := by decide +kernel
theorem dX6_makeRoom_9 : decode cX6_makeRoom 9 = .ok (.iconst 0, 1) := by decide +kernel
theorem dX6_makeRoom_10 : decode cX6_makeRoom 10 = .ok (.invokevirtual 172, 3) := by decide +kernel
theorem dX6_makeRoom_13 : decode cX6_makeRoom 13 = .ok (.pop, 1) := by decide +kernel
theorem dX6_makeRoom_14 : decode cX6_makeRoom 14 = .ok (.aload_n 0, 1) := by decide +kernel
theorem dX6_makeRoom_15 : decode cX6_makeRoom 15 = .ok (.iload_n 1, 1) := by decide +kernel
theorem dX6_makeRoom_16 : decode cX6_makeRoom 16 = .ok (.invokevirtual 232, 3) := by decide +kernel
theorem dX6_makeRoom_19 : decode cX6_makeRoom 19 = .ok (.ifCond .ne 9, 3) := by decide +kernel
theorem dX6_makeRoom_22 : decode cX6_makeRoom 22 = .ok (.aload_n 0, 1) := by decide +kernel
theorem dX6_makeRoom_23 : decode cX6_makeRoom 23 = .ok (.iconst 1, 1) := by decide +kernel
theorem dX6_makeRoom_24 : decode cX6_makeRoom 24 = .ok (.invokevirtual 172, 3) := by decide +kernel
theorem dX6_makeRoom_27 : decode cX6_makeRoom 27 = .ok (.pop, 1) := by decide +kernel
theorem dX6_makeRoom_28 : decode cX6_makeRoom 28 = .ok (.aload_n 0, 1) := by decide +kernel
theorem dX6_makeRoom_29 : decode cX6_makeRoom 29 = .ok (.iload_n 1, 1) := by decide +kernel
theorem dX6_makeRoom_30 : decode cX6_makeRoom 30 = .ok (.invokevirtual 232, 3) := by decide +kernel
theorem dX6_makeRoom_33 : decode cX6_makeRoom 33 = .ok (.ifCond .ne 16, 3) := by decide +kernel
theorem dX6_makeRoom_36 : decode cX6_makeRoom 36 = .ok (.aload_n 0, 1) := by decide +kernel
theorem dX6_makeRoom_37 : decode cX6_makeRoom 37 = .ok (.getfield 19, 3) := by decide +kernel
theorem dX6_makeRoom_40 : decode cX6_makeRoom 40 = .ok (.bipush 9, 2) := by decide +kernel
theorem dX6_makeRoom_42 : decode cX6_makeRoom 42 = .ok (.dup2, 1) := by decide +kernel
theorem dX6_makeRoom_43 : decode cX6_makeRoom 43 = .ok (.iaload, 1) := by decide +kernel
theorem dX6_makeRoom_44 : decode cX6_makeRoom 44 = .ok (.iconst 1, 1) := by decide +kernel
theorem dX6_makeRoom_45 : decode cX6_makeRoom 45 = .ok (.iadd, 1) := by decide +kernel
theorem dX6_makeRoom_46 : decode cX6_makeRoom 46 = .ok (.iastore, 1) := by decide +kernel
theorem dX6_makeRoom_47 : decode cX6_makeRoom 47 = .ok (.iconst 0, 1) := by decide +kernel
theorem dX6_makeRoom_48 : decode cX6_makeRoom 48 = .ok (.ireturn, 1) := by decide +kernel
theorem dX6_makeRoom_49 : decode cX6_makeRoom 49 = .ok (.iconst 1, 1) := by decide +kernel
theorem dX6_makeRoom_50 : decode cX6_makeRoom 50 = .ok (.ireturn, 1) := by decide +kernel
theorem dX6_keep_0 : decode cX6_keep 0 = .ok (.aload_n 0, 1) := by decide +kernel
theorem dX6_keep_1 : decode cX6_keep 1 = .ok (.getfield 19, 3) := by decide +kernel
theorem dX6_keep_4 : decode cX6_keep 4 = .ok (.iconst 2, 1) := by decide +kernel
theorem dX6_keep_5 : decode cX6_keep 5 = .ok (.dup2, 1) := by decide +kernel
theorem dX6_keep_6 : decode cX6_keep 6 = .ok (.iaload, 1) := by decide +kernel
theorem dX6_keep_7 : decode cX6_keep 7 = .ok (.iconst 1, 1) := by decide +kernel
theorem dX6_keep_8 : decode cX6_keep 8 = .ok (.iadd, 1) := by decide +kernel
theorem dX6_keep_9 : decode cX6_keep 9 = .ok (.iastore, 1) := by decide +kernel
theorem dX6_keep_10 : decode cX6_keep 10 = .ok (.aload_n 0, 1) := by decide +kernel
theorem dX6_keep_11 : decode cX6_keep 11 = .ok (.getfield 19, 3) := by decide +kernel
theorem dX6_keep_14 : decode cX6_keep 14 = .ok (.iconst 1, 1) := by decide +kernel
theorem dX6_keep_15 : decode cX6_keep 15 = .ok (.dup2, 1) := by decide +kernel
theorem dX6_keep_16 : decode cX6_keep 16 = .ok (.iaload, 1) := by decide +kernel
theorem dX6_keep_17 : decode cX6_keep 17 = .ok (.iconst 1, 1) := by decide +kernel
theorem dX6_keep_18 : decode cX6_keep 18 = .ok (.iadd, 1) := by decide +kernel
theorem dX6_keep_19 : decode cX6_keep 19 = .ok (.iastore, 1) := by decide +kernel
theorem dX6_keep_20 : decode cX6_keep 20 = .ok (.aload_n 0, 1) := by decide +kernel
theorem dX6_keep_21 : decode cX6_keep 21 = .ok (.getfield 19, 3) := by decide +kernel
theorem dX6_keep_24 : decode cX6_keep 24 = .ok (.iconst 0, 1) := by decide +kernel
theorem dX6_keep_25 : decode cX6_keep 25 = .ok (.dup2, 1) := by decide +kernel
theorem dX6_keep_26 : decode cX6_keep 26 = .ok (.iaload, 1) := by decide +kernel
theorem dX6_keep_27 : decode cX6_keep 27 = .ok (.aload_n 2, 1) := by decide +kernel
theorem dX6_keep_28 : decode cX6_keep 28 = .ok (.getfield 235, 3) := by decide +kernel
theorem dX6_keep_31 : decode cX6_keep 31 = .ok (.iadd, 1) := by decide +kernel
theorem dX6_keep_32 : decode cX6_keep 32 = .ok (.iastore, 1) := by decide +kernel
theorem dX6_keep_33 : decode cX6_keep 33 = .ok (.aload_n 0, 1) := by decide +kernel
theorem dX6_keep_34 : decode cX6_keep 34 = .ok (.getfield 19, 3) := by decide +kernel
theorem dX6_keep_37 : decode cX6_keep 37 = .ok (.bipush 6, 2) := by decide +kernel
theorem dX6_keep_39 : decode cX6_keep 39 = .ok (.aload_n 0, 1) := by decide +kernel
theorem dX6_keep_40 : decode cX6_keep 40 = .ok (.getfield 19, 3) := by decide +kernel
theorem dX6_keep_43 : decode cX6_keep 43 = .ok (.bipush 6, 2) := by decide +kernel
theorem dX6_keep_45 : decode cX6_keep 45 = .ok (.iaload, 1) := by decide +kernel
theorem dX6_keep_46 : decode cX6_keep 46 = .ok (.aload_n 0, 1) := by decide +kernel
theorem dX6_keep_47 : decode cX6_keep 47 = .ok (.getfield 19, 3) := by decide +kernel
theorem dX6_keep_50 : decode cX6_keep 50 = .ok (.iconst 0, 1) := by decide +kernel
theorem dX6_keep_51 : decode cX6_keep 51 = .ok (.iaload, 1) := by decide +kernel
theorem dX6_keep_52 : decode cX6_keep 52 = .ok (.invokestatic 45, 3) := by decide +kernel
theorem dX6_keep_55 : decode cX6_keep 55 = .ok (.iastore, 1) := by decide +kernel
theorem dX6_keep_56 : decode cX6_keep 56 = .ok (.aload_n 0, 1) := by decide +kernel
theorem dX6_keep_57 : decode cX6_keep 57 = .ok (.getfield 11, 3) := by decide +kernel
theorem dX6_keep_60 : decode cX6_keep 60 = .ok (.iload_n 1, 1) := by decide +kernel
theorem dX6_keep_61 : decode cX6_keep 61 = .ok (.aload_n 2, 1) := by decide +kernel
theorem dX6_keep_62 : decode cX6_keep 62 = .ok (.aastore, 1) := by decide +kernel
theorem dX6_keep_63 : decode cX6_keep 63 = .ok (.aload_n 0, 1) := by decide +kernel
theorem dX6_keep_64 : decode cX6_keep 64 = .ok (.getfield 25, 3) := by decide +kernel
theorem dX6_keep_67 : decode cX6_keep 67 = .ok (.aload_n 2, 1) := by decide +kernel
theorem dX6_keep_68 : decode cX6_keep 68 = .ok (.invokevirtual 238, 3) := by decide +kernel
theorem dX6_keep_71 : decode cX6_keep 71 = .ok (.aload_n 0, 1) := by decide +kernel
theorem dX6_keep_72 : decode cX6_keep 72 = .ok (.dup, 1) := by decide +kernel
theorem dX6_keep_73 : decode cX6_keep 73 = .ok (.getfield 179, 3) := by decide +kernel
theorem dX6_keep_76 : decode cX6_keep 76 = .ok (.iconst 1, 1) := by decide +kernel
theorem dX6_keep_77 : decode cX6_keep 77 = .ok (.iadd, 1) := by decide +kernel
theorem dX6_keep_78 : decode cX6_keep 78 = .ok (.putfield 179, 3) := by decide +kernel
theorem dX6_keep_81 : decode cX6_keep 81 = .ok (.aload_n 0, 1) := by decide +kernel
theorem dX6_keep_82 : decode cX6_keep 82 = .ok (.invokevirtual 241, 3) := by decide +kernel
theorem dX6_keep_85 : decode cX6_keep 85 = .ok (.ifCond .eq 12, 3) := by decide +kernel
theorem dX6_keep_88 : decode cX6_keep 88 = .ok (.aload_n 0, 1) := by decide +kernel
theorem dX6_keep_89 : decode cX6_keep 89 = .ok (.invokevirtual 245, 3) := by decide +kernel
theorem dX6_keep_92 : decode cX6_keep 92 = .ok (.aload_n 0, 1) := by decide +kernel
theorem dX6_keep_93 : decode cX6_keep 93 = .ok (.iconst 0, 1) := by decide +kernel
theorem dX6_keep_94 : decode cX6_keep 94 = .ok (.putfield 179, 3) := by decide +kernel
theorem dX6_keep_97 : decode cX6_keep 97 = .ok (.aload_n 2, 1) := by decide +kernel
theorem dX6_keep_98 : decode cX6_keep 98 = .ok (.getfield 235, 3) := by decide +kernel
theorem dX6_keep_101 : decode cX6_keep 101 = .ok (.ireturn, 1) := by decide +kernel
theorem dX6_isCarryDue_0 : decode cX6_isCarryDue 0 = .ok (.aload_n 0, 1) := by decide +kernel
theorem dX6_isCarryDue_1 : decode cX6_isCarryDue 1 = .ok (.getfield 176, 3) := by decide +kernel
theorem dX6_isCarryDue_4 : decode cX6_isCarryDue 4 = .ok (.ifCond .ne 25, 3) := by decide +kernel
theorem dX6_isCarryDue_7 : decode cX6_isCarryDue 7 = .ok (.aload_n 0, 1) := by decide +kernel
theorem dX6_isCarryDue_8 : decode cX6_isCarryDue 8 = .ok (.getfield 25, 3) := by decide +kernel
theorem dX6_isCarryDue_11 : decode cX6_isCarryDue 11 = .ok (.getfield 248, 3) := by decide +kernel
theorem dX6_isCarryDue_14 : decode cX6_isCarryDue 14 = .ok (.aload_n 0, 1) := by decide +kernel
theorem dX6_isCarryDue_15 : decode cX6_isCarryDue 15 = .ok (.getfield 52, 3) := by decide +kernel
theorem dX6_isCarryDue_18 : decode cX6_isCarryDue 18 = .ok (.if_icmp .lt 7, 3) := by decide +kernel
theorem dX6_isCarryDue_21 : decode cX6_isCarryDue 21 = .ok (.iconst 1, 1) := by decide +kernel
theorem dX6_isCarryDue_22 : decode cX6_isCarryDue 22 = .ok (.goto 23, 3) := by decide +kernel
theorem dX6_isCarryDue_25 : decode cX6_isCarryDue 25 = .ok (.iconst 0, 1) := by decide +kernel
theorem dX6_isCarryDue_26 : decode cX6_isCarryDue 26 = .ok (.goto 19, 3) := by decide +kernel
theorem dX6_isCarryDue_29 : decode cX6_isCarryDue 29 = .ok (.aload_n 0, 1) := by decide +kernel
theorem dX6_isCarryDue_30 : decode cX6_isCarryDue 30 = .ok (.getfield 179, 3) := by decide +kernel
theorem dX6_isCarryDue_33 : decode cX6_isCarryDue 33 = .ok (.aload_n 0, 1) := by decide +kernel
theorem dX6_isCarryDue_34 : decode cX6_isCarryDue 34 = .ok (.getfield 176, 3) := by decide +kernel
theorem dX6_isCarryDue_37 : decode cX6_isCarryDue 37 = .ok (.if_icmp .lt 7, 3) := by decide +kernel
theorem dX6_isCarryDue_40 : decode cX6_isCarryDue 40 = .ok (.iconst 1, 1) := by decide +kernel
theorem dX6_isCarryDue_41 : decode cX6_isCarryDue 41 = .ok (.goto 4, 3) := by decide +kernel
theorem dX6_isCarryDue_44 : decode cX6_isCarryDue 44 = .ok (.iconst 0, 1) := by decide +kernel
theorem dX6_isCarryDue_45 : decode cX6_isCarryDue 45 = .ok (.ireturn, 1) := by decide +kernel
theorem dX6_carryOver_0 : decode cX6_carryOver 0 = .ok (.aload_n 0, 1) := by decide +kernel
theorem dX6_carryOver_1 : decode cX6_carryOver 1 = .ok (.getfield 29, 3) := by decide +kernel
theorem dX6_carryOver_4 : decode cX6_carryOver 4 = .ok (.aload_n 0, 1) := by decide +kernel
theorem dX6_carryOver_5 : decode cX6_carryOver 5 = .ok (.getfield 25, 3) := by decide +kernel
theorem dX6_carryOver_8 : decode cX6_carryOver 8 = .ok (.invokevirtual 249, 3) := by decide +kernel
theorem dX6_carryOver_11 : decode cX6_carryOver 11 = .ok (.return_, 1) := by decide +kernel
theorem dX6_collectWhole_0 : decode cX6_collectWhole 0 = .ok (.aload_n 0, 1) := by decide +kernel
theorem dX6_collectWhole_1 : decode cX6_collectWhole 1 = .ok (.getfield 19, 3) := by decide +kernel
theorem dX6_collectWhole_4 : decode cX6_collectWhole 4 = .ok (.iconst 3, 1) := by decide +kernel
theorem dX6_collectWhole_5 : decode cX6_collectWhole 5 = .ok (.dup2, 1) := by decide +kernel
theorem dX6_collectWhole_6 : decode cX6_collectWhole 6 = .ok (.iaload, 1) := by decide +kernel
theorem dX6_collectWhole_7 : decode cX6_collectWhole 7 = .ok (.iconst 1, 1) := by decide +kernel
theorem dX6_collectWhole_8 : decode cX6_collectWhole 8 = .ok (.iadd, 1) := by decide +kernel
theorem dX6_collectWhole_9 : decode cX6_collectWhole 9 = .ok (.iastore, 1) := by decide +kernel
theorem dX6_collectWhole_10 : decode cX6_collectWhole 10 = .ok (.aload_n 0, 1) := by decide +kernel
theorem dX6_collectWhole_11 : decode cX6_collectWhole 11 = .ok (.invokevirtual 245, 3) := by decide +kernel
theorem dX6_collectWhole_14 : decode cX6_collectWhole 14 = .ok (.aload_n 0, 1) := by decide +kernel
theorem dX6_collectWhole_15 : decode cX6_collectWhole 15 = .ok (.iload_n 1, 1) := by decide +kernel
theorem dX6_collectWhole_16 : decode cX6_collectWhole 16 = .ok (.invokevirtual 253, 3) := by decide +kernel
theorem dX6_collectWhole_19 : decode cX6_collectWhole 19 = .ok (.aload_n 0, 1) := by decide +kernel
theorem dX6_collectWhole_20 : decode cX6_collectWhole 20 = .ok (.invokevirtual 257, 3) := by decide +kernel
theorem dX6_collectWhole_23 : decode cX6_collectWhole 23 = .ok (.aload_n 0, 1) := by decide +kernel
theorem dX6_collectWhole_24 : decode cX6_collectWhole 24 = .ok (.invokevirtual 260, 3) := by decide +kernel
theorem dX6_collectWhole_27 : decode cX6_collectWhole 27 = .ok (.ireturn, 1) := by decide +kernel
theorem dX6_reachFromRoots_0 : decode cX6_reachFromRoots 0 = .ok (.aload_n 0, 1) := by decide +kernel
theorem dX6_reachFromRoots_1 : decode cX6_reachFromRoots 1 = .ok (.getfield 35, 3) := by decide +kernel
theorem dX6_reachFromRoots_4 : decode cX6_reachFromRoots 4 = .ok (.invokevirtual 184, 3) := by decide +kernel
theorem dX6_reachFromRoots_7 : decode cX6_reachFromRoots 7 = .ok (.iconst 0, 1) := by decide +kernel
theorem dX6_reachFromRoots_8 : decode cX6_reachFromRoots 8 = .ok (.istore_n 2, 1) := by decide +kernel
theorem dX6_reachFromRoots_9 : decode cX6_reachFromRoots 9 = .ok (.iload_n 2, 1) := by decide +kernel
theorem dX6_reachFromRoots_10 : decode cX6_reachFromRoots 10 = .ok (.aload_n 0, 1) := by decide +kernel
theorem dX6_reachFromRoots_11 : decode cX6_reachFromRoots 11 = .ok (.getfield 19, 3) := by decide +kernel
theorem dX6_reachFromRoots_14 : decode cX6_reachFromRoots 14 = .ok (.bipush 7, 2) := by decide +kernel
theorem dX6_reachFromRoots_16 : decode cX6_reachFromRoots 16 = .ok (.iaload, 1) := by decide +kernel
theorem dX6_reachFromRoots_17 : decode cX6_reachFromRoots 17 = .ok (.if_icmp .ge 22, 3) := by decide +kernel
theorem dX6_reachFromRoots_20 : decode cX6_reachFromRoots 20 = .ok (.aload_n 0, 1) := by decide +kernel
theorem dX6_reachFromRoots_21 : decode cX6_reachFromRoots 21 = .ok (.getfield 35, 3) := by decide +kernel
theorem dX6_reachFromRoots_24 : decode cX6_reachFromRoots 24 = .ok (.aload_n 0, 1) := by decide +kernel
theorem dX6_reachFromRoots_25 : decode cX6_reachFromRoots 25 = .ok (.getfield 11, 3) := by decide +kernel
theorem dX6_reachFromRoots_28 : decode cX6_reachFromRoots 28 = .ok (.iload_n 2, 1) := by decide +kernel
theorem dX6_reachFromRoots_29 : decode cX6_reachFromRoots 29 = .ok (.aaload, 1) := by decide +kernel
theorem dX6_reachFromRoots_30 : decode cX6_reachFromRoots 30 = .ok (.invokevirtual 187, 3) := by decide +kernel
theorem dX6_reachFromRoots_33 : decode cX6_reachFromRoots 33 = .ok (.iinc 2 1, 3) := by decide +kernel
theorem dX6_reachFromRoots_36 : decode cX6_reachFromRoots 36 = .ok (.goto (-27), 3) := by decide +kernel
theorem dX6_reachFromRoots_39 : decode cX6_reachFromRoots 39 = .ok (.aload_n 0, 1) := by decide +kernel
theorem dX6_reachFromRoots_40 : decode cX6_reachFromRoots 40 = .ok (.getfield 19, 3) := by decide +kernel
theorem dX6_reachFromRoots_43 : decode cX6_reachFromRoots 43 = .ok (.iconst 1, 1) := by decide +kernel
theorem dX6_reachFromRoots_44 : decode cX6_reachFromRoots 44 = .ok (.iaload, 1) := by decide +kernel
theorem dX6_reachFromRoots_45 : decode cX6_reachFromRoots 45 = .ok (.istore_n 2, 1) := by decide +kernel
theorem dX6_reachFromRoots_46 : decode cX6_reachFromRoots 46 = .ok (.aload_n 0, 1) := by decide +kernel
theorem dX6_reachFromRoots_47 : decode cX6_reachFromRoots 47 = .ok (.getfield 35, 3) := by decide +kernel
theorem dX6_reachFromRoots_50 : decode cX6_reachFromRoots 50 = .ok (.getfield 191, 3) := by decide +kernel
theorem dX6_reachFromRoots_53 : decode cX6_reachFromRoots 53 = .ok (.astore_n 3, 1) := by decide +kernel
theorem dX6_reachFromRoots_54 : decode cX6_reachFromRoots 54 = .ok (.aload_n 3, 1) := by decide +kernel
theorem dX6_reachFromRoots_55 : decode cX6_reachFromRoots 55 = .ok (.ifnull 35, 3) := by decide +kernel
theorem dX6_reachFromRoots_58 : decode cX6_reachFromRoots 58 = .ok (.iload_n 2, 1) := by decide +kernel
theorem dX6_reachFromRoots_59 : decode cX6_reachFromRoots 59 = .ok (.ifCond .le 31, 3) := by decide +kernel
theorem dX6_reachFromRoots_62 : decode cX6_reachFromRoots 62 = .ok (.aload_n 3, 1) := by decide +kernel
theorem dX6_reachFromRoots_63 : decode cX6_reachFromRoots 63 = .ok (.aload_n 0, 1) := by decide +kernel
theorem dX6_reachFromRoots_64 : decode cX6_reachFromRoots 64 = .ok (.getfield 35, 3) := by decide +kernel
theorem dX6_reachFromRoots_67 : decode cX6_reachFromRoots 67 = .ok (.iload_n 1, 1) := by decide +kernel
theorem dX6_reachFromRoots_68 : decode cX6_reachFromRoots 68 = .ok (.invokevirtual 264, 3) := by decide +kernel
theorem dX6_reachFromRoots_71 : decode cX6_reachFromRoots 71 = .ok (.aload_n 3, 1) := by decide +kernel
theorem dX6_reachFromRoots_72 : decode cX6_reachFromRoots 72 = .ok (.aload_n 0, 1) := by decide +kernel
theorem dX6_reachFromRoots_73 : decode cX6_reachFromRoots 73 = .ok (.getfield 35, 3) := by decide +kernel
theorem dX6_reachFromRoots_76 : decode cX6_reachFromRoots 76 = .ok (.invokevirtual 268, 3) := by decide +kernel
theorem dX6_reachFromRoots_79 : decode cX6_reachFromRoots 79 = .ok (.iinc 2 (-1), 3) := by decide +kernel
theorem dX6_reachFromRoots_82 : decode cX6_reachFromRoots 82 = .ok (.aload_n 3, 1) := by decide +kernel
theorem dX6_reachFromRoots_83 : decode cX6_reachFromRoots 83 = .ok (.getfield 202, 3) := by decide +kernel
theorem dX6_reachFromRoots_86 : decode cX6_reachFromRoots 86 = .ok (.astore_n 3, 1) := by decide +kernel
theorem dX6_reachFromRoots_87 : decode cX6_reachFromRoots 87 = .ok (.goto (-33), 3) := by decide +kernel
theorem dX6_reachFromRoots_90 : decode cX6_reachFromRoots 90 = .ok (.return_, 1) := by decide +kernel
theorem dX6_letGoOfUnreached_0 : decode cX6_letGoOfUnreached 0 = .ok (.aload_n 0, 1) := by decide +kernel
theorem dX6_letGoOfUnreached_1 : decode cX6_letGoOfUnreached 1 = .ok (.getfield 29, 3) := by decide +kernel
theorem dX6_letGoOfUnreached_4 : decode cX6_letGoOfUnreached 4 = .ok (.getfield 272, 3) := by decide +kernel
theorem dX6_letGoOfUnreached_7 : decode cX6_letGoOfUnreached 7 = .ok (.astore_n 1, 1) := by decide +kernel
theorem dX6_letGoOfUnreached_8 : decode cX6_letGoOfUnreached 8 = .ok (.aload_n 1, 1) := by decide +kernel
theorem dX6_letGoOfUnreached_9 : decode cX6_letGoOfUnreached 9 = .ok (.ifnull 65, 3) := by decide +kernel
theorem dX6_letGoOfUnreached_12 : decode cX6_letGoOfUnreached 12 = .ok (.aload_n 1, 1) := by decide +kernel
theorem dX6_letGoOfUnreached_13 : decode cX6_letGoOfUnreached 13 = .ok (.instanceof 90, 3) := by decide +kernel
theorem dX6_letGoOfUnreached_16 : decode cX6_letGoOfUnreached 16 = .ok (.ifCond .eq 50, 3) := by decide +kernel
theorem dX6_letGoOfUnreached_19 : decode cX6_letGoOfUnreached 19 = .ok (.aload_n 1, 1) := by decide +kernel
theorem dX6_letGoOfUnreached_20 : decode cX6_letGoOfUnreached 20 = .ok (.checkcast 90, 3) := by decide +kernel
theorem dX6_letGoOfUnreached_23 : decode cX6_letGoOfUnreached 23 = .ok (.astore_n 2, 1) := by decide +kernel
theorem dX6_letGoOfUnreached_24 : decode cX6_letGoOfUnreached 24 = .ok (.aload_n 0, 1) := by decide +kernel
theorem dX6_letGoOfUnreached_25 : decode cX6_letGoOfUnreached 25 = .ok (.getfield 35, 3) := by decide +kernel
theorem dX6_letGoOfUnreached_28 : decode cX6_letGoOfUnreached 28 = .ok (.aload_n 2, 1) := by decide +kernel
theorem dX6_letGoOfUnreached_29 : decode cX6_letGoOfUnreached 29 = .ok (.invokevirtual 273, 3) := by decide +kernel
theorem dX6_letGoOfUnreached_32 : decode cX6_letGoOfUnreached 32 = .ok (.ifCond .eq 34, 3) := by decide +kernel
theorem dX6_letGoOfUnreached_35 : decode cX6_letGoOfUnreached 35 = .ok (.aload_n 2, 1) := by decide +kernel
theorem dX6_letGoOfUnreached_36 : decode cX6_letGoOfUnreached 36 = .ok (.aload_n 0, 1) := by decide +kernel
theorem dX6_letGoOfUnreached_37 : decode cX6_letGoOfUnreached 37 = .ok (.getfield 35, 3) := by decide +kernel
theorem dX6_letGoOfUnreached_40 : decode cX6_letGoOfUnreached 40 = .ok (.invokevirtual 277, 3) := by decide +kernel
theorem dX6_letGoOfUnreached_43 : decode cX6_letGoOfUnreached 43 = .ok (.ifCond .eq 23, 3) := by decide +kernel
theorem dX6_letGoOfUnreached_46 : decode cX6_letGoOfUnreached 46 = .ok (.aload_n 2, 1) := by decide +kernel
theorem dX6_letGoOfUnreached_47 : decode cX6_letGoOfUnreached 47 = .ok (.invokevirtual 139, 3) := by decide +kernel
theorem dX6_letGoOfUnreached_50 : decode cX6_letGoOfUnreached 50 = .ok (.aload_n 0, 1) := by decide +kernel
theorem dX6_letGoOfUnreached_51 : decode cX6_letGoOfUnreached 51 = .ok (.getfield 19, 3) := by decide +kernel
theorem dX6_letGoOfUnreached_54 : decode cX6_letGoOfUnreached 54 = .ok (.iconst 5, 1) := by decide +kernel
theorem dX6_letGoOfUnreached_55 : decode cX6_letGoOfUnreached 55 = .ok (.dup2, 1) := by decide +kernel
theorem dX6_letGoOfUnreached_56 : decode cX6_letGoOfUnreached 56 = .ok (.iaload, 1) := by decide +kernel
theorem dX6_letGoOfUnreached_57 : decode cX6_letGoOfUnreached 57 = .ok (.iconst 1, 1) := by decide +kernel
theorem dX6_letGoOfUnreached_58 : decode cX6_letGoOfUnreached 58 = .ok (.iadd, 1) := by decide +kernel
theorem dX6_letGoOfUnreached_59 : decode cX6_letGoOfUnreached 59 = .ok (.iastore, 1) := by decide +kernel
theorem dX6_letGoOfUnreached_60 : decode cX6_letGoOfUnreached 60 = .ok (.aload_n 0, 1) := by decide +kernel
theorem dX6_letGoOfUnreached_61 : decode cX6_letGoOfUnreached 61 = .ok (.aload_n 2, 1) := by decide +kernel
theorem dX6_letGoOfUnreached_62 : decode cX6_letGoOfUnreached 62 = .ok (.invokevirtual 142, 3) := by decide +kernel
theorem dX6_letGoOfUnreached_65 : decode cX6_letGoOfUnreached 65 = .ok (.pop, 1) := by decide +kernel
theorem dX6_letGoOfUnreached_66 : decode cX6_letGoOfUnreached 66 = .ok (.aload_n 1, 1) := by decide +kernel
theorem dX6_letGoOfUnreached_67 : decode cX6_letGoOfUnreached 67 = .ok (.getfield 281, 3) := by decide +kernel
theorem dX6_letGoOfUnreached_70 : decode cX6_letGoOfUnreached 70 = .ok (.astore_n 1, 1) := by decide +kernel
theorem dX6_letGoOfUnreached_71 : decode cX6_letGoOfUnreached 71 = .ok (.goto (-63), 3) := by decide +kernel
theorem dX6_letGoOfUnreached_74 : decode cX6_letGoOfUnreached 74 = .ok (.return_, 1) := by decide +kernel
theorem dX6_freeUnreached_0 : decode cX6_freeUnreached 0 = .ok (.aload_n 0, 1) := by decide +kernel
theorem dX6_freeUnreached_1 : decode cX6_freeUnreached 1 = .ok (.getfield 19, 3) := by decide +kernel
theorem dX6_freeUnreached_4 : decode cX6_freeUnreached 4 = .ok (.iconst 0, 1) := by decide +kernel
theorem dX6_freeUnreached_5 : decode cX6_freeUnreached 5 = .ok (.iaload, 1) := by decide +kernel
theorem dX6_freeUnreached_6 : decode cX6_freeUnreached 6 = .ok (.istore_n 1, 1) := by decide +kernel
theorem dX6_freeUnreached_7 : decode cX6_freeUnreached 7 = .ok (.aload_n 0, 1) := by decide +kernel
theorem dX6_freeUnreached_8 : decode cX6_freeUnreached 8 = .ok (.getfield 29, 3) := by decide +kernel
theorem dX6_freeUnreached_11 : decode cX6_freeUnreached 11 = .ok (.getfield 272, 3) := by decide +kernel
theorem dX6_freeUnreached_14 : decode cX6_freeUnreached 14 = .ok (.astore_n 2, 1) := by decide +kernel
theorem dX6_freeUnreached_15 : decode cX6_freeUnreached 15 = .ok (.aload_n 0, 1) := by decide +kernel
theorem dX6_freeUnreached_16 : decode cX6_freeUnreached 16 = .ok (.getfield 29, 3) := by decide +kernel
theorem dX6_freeUnreached_19 : decode cX6_freeUnreached 19 = .ok (.invokevirtual 284, 3) := by decide +kernel
theorem dX6_freeUnreached_22 : decode cX6_freeUnreached 22 = .ok (.aload_n 2, 1) := by decide +kernel
theorem dX6_freeUnreached_23 : decode cX6_freeUnreached 23 = .ok (.ifnull 32, 3) := by decide +kernel
theorem dX6_freeUnreached_26 : decode cX6_freeUnreached 26 = .ok (.aload_n 2, 1) := by decide +kernel
theorem dX6_freeUnreached_27 : decode cX6_freeUnreached 27 = .ok (.getfield 281, 3) := by decide +kernel
theorem dX6_freeUnreached_30 : decode cX6_freeUnreached 30 = .ok (.astore_n 3, 1) := by decide +kernel
theorem dX6_freeUnreached_31 : decode cX6_freeUnreached 31 = .ok (.aload_n 0, 1) := by decide +kernel
theorem dX6_freeUnreached_32 : decode cX6_freeUnreached 32 = .ok (.getfield 35, 3) := by decide +kernel
theorem dX6_freeUnreached_35 : decode cX6_freeUnreached 35 = .ok (.aload_n 2, 1) := by decide +kernel
theorem dX6_freeUnreached_36 : decode cX6_freeUnreached 36 = .ok (.invokevirtual 273, 3) := by decide +kernel
theorem dX6_freeUnreached_39 : decode cX6_freeUnreached 39 = .ok (.ifCond .eq 11, 3) := by decide +kernel
theorem dX6_freeUnreached_42 : decode cX6_freeUnreached 42 = .ok (.aload_n 0, 1) := by decide +kernel
theorem dX6_freeUnreached_43 : decode cX6_freeUnreached 43 = .ok (.getfield 29, 3) := by decide +kernel
theorem dX6_freeUnreached_46 : decode cX6_freeUnreached 46 = .ok (.aload_n 2, 1) := by decide +kernel
theorem dX6_freeUnreached_47 : decode cX6_freeUnreached 47 = .ok (.invokevirtual 238, 3) := by decide +kernel
theorem dX6_freeUnreached_50 : decode cX6_freeUnreached 50 = .ok (.aload_n 3, 1) := by decide +kernel
theorem dX6_freeUnreached_51 : decode cX6_freeUnreached 51 = .ok (.astore_n 2, 1) := by decide +kernel
theorem dX6_freeUnreached_52 : decode cX6_freeUnreached 52 = .ok (.goto (-30), 3) := by decide +kernel
theorem dX6_freeUnreached_55 : decode cX6_freeUnreached 55 = .ok (.aload_n 0, 1) := by decide +kernel
theorem dX6_freeUnreached_56 : decode cX6_freeUnreached 56 = .ok (.getfield 19, 3) := by decide +kernel
theorem dX6_freeUnreached_59 : decode cX6_freeUnreached 59 = .ok (.iconst 1, 1) := by decide +kernel
theorem dX6_freeUnreached_60 : decode cX6_freeUnreached 60 = .ok (.aload_n 0, 1) := by decide +kernel
theorem dX6_freeUnreached_61 : decode cX6_freeUnreached 61 = .ok (.getfield 29, 3) := by decide +kernel
theorem dX6_freeUnreached_64 : decode cX6_freeUnreached 64 = .ok (.getfield 287, 3) := by decide +kernel
theorem dX6_freeUnreached_67 : decode cX6_freeUnreached 67 = .ok (.iastore, 1) := by decide +kernel
theorem dX6_freeUnreached_68 : decode cX6_freeUnreached 68 = .ok (.aload_n 0, 1) := by decide +kernel
theorem dX6_freeUnreached_69 : decode cX6_freeUnreached 69 = .ok (.getfield 19, 3) := by decide +kernel
theorem dX6_freeUnreached_72 : decode cX6_freeUnreached 72 = .ok (.iconst 0, 1) := by decide +kernel
theorem dX6_freeUnreached_73 : decode cX6_freeUnreached 73 = .ok (.aload_n 0, 1) := by decide +kernel
theorem dX6_freeUnreached_74 : decode cX6_freeUnreached 74 = .ok (.getfield 29, 3) := by decide +kernel
theorem dX6_freeUnreached_77 : decode cX6_freeUnreached 77 = .ok (.getfield 248, 3) := by decide +kernel
theorem dX6_freeUnreached_80 : decode cX6_freeUnreached 80 = .ok (.iastore, 1) := by decide +kernel
theorem dX6_freeUnreached_81 : decode cX6_freeUnreached 81 = .ok (.iload_n 1, 1) := by decide +kernel
theorem dX6_freeUnreached_82 : decode cX6_freeUnreached 82 = .ok (.aload_n 0, 1) := by decide +kernel
theorem dX6_freeUnreached_83 : decode cX6_freeUnreached 83 = .ok (.getfield 29, 3) := by decide +kernel
theorem dX6_freeUnreached_86 : decode cX6_freeUnreached 86 = .ok (.getfield 248, 3) := by decide +kernel
theorem dX6_freeUnreached_89 : decode cX6_freeUnreached 89 = .ok (.isub, 1) := by decide +kernel
theorem dX6_freeUnreached_90 : decode cX6_freeUnreached 90 = .ok (.ireturn, 1) := by decide +kernel
theorem dX6_tellQueue_0 : decode cX6_tellQueue 0 = .ok (.aload_n 1, 1) := by decide +kernel
theorem dX6_tellQueue_1 : decode cX6_tellQueue 1 = .ok (.getfield 288, 3) := by decide +kernel
theorem dX6_tellQueue_4 : decode cX6_tellQueue 4 = .ok (.ifnull 10, 3) := by decide +kernel
theorem dX6_tellQueue_7 : decode cX6_tellQueue 7 = .ok (.aload_n 1, 1) := by decide +kernel
theorem dX6_tellQueue_8 : decode cX6_tellQueue 8 = .ok (.getfield 292, 3) := by decide +kernel
theorem dX6_tellQueue_11 : decode cX6_tellQueue 11 = .ok (.ifCond .eq 5, 3) := by decide +kernel
theorem dX6_tellQueue_14 : decode cX6_tellQueue 14 = .ok (.iconst 0, 1) := by decide +kernel
theorem dX6_tellQueue_15 : decode cX6_tellQueue 15 = .ok (.ireturn, 1) := by decide +kernel
theorem dX6_tellQueue_16 : decode cX6_tellQueue 16 = .ok (.aload_n 1, 1) := by decide +kernel
theorem dX6_tellQueue_17 : decode cX6_tellQueue 17 = .ok (.iconst 1, 1) := by decide +kernel
theorem dX6_tellQueue_18 : decode cX6_tellQueue 18 = .ok (.putfield 292, 3) := by decide +kernel
theorem dX6_tellQueue_21 : decode cX6_tellQueue 21 = .ok (.aload_n 1, 1) := by decide +kernel
theorem dX6_tellQueue_22 : decode cX6_tellQueue 22 = .ok (.getfield 288, 3) := by decide +kernel
theorem dX6_tellQueue_25 : decode cX6_tellQueue 25 = .ok (.aload_n 1, 1) := by decide +kernel
theorem dX6_tellQueue_26 : decode cX6_tellQueue 26 = .ok (.invokevirtual 296, 3) := by decide +kernel
theorem dX6_tellQueue_29 : decode cX6_tellQueue 29 = .ok (.aload_n 0, 1) := by decide +kernel
theorem dX6_tellQueue_30 : decode cX6_tellQueue 30 = .ok (.getfield 19, 3) := by decide +kernel
theorem dX6_tellQueue_33 : decode cX6_tellQueue 33 = .ok (.iconst 4, 1) := by decide +kernel
theorem dX6_tellQueue_34 : decode cX6_tellQueue 34 = .ok (.dup2, 1) := by decide +kernel
theorem dX6_tellQueue_35 : decode cX6_tellQueue 35 = .ok (.iaload, 1) := by decide +kernel
theorem dX6_tellQueue_36 : decode cX6_tellQueue 36 = .ok (.iconst 1, 1) := by decide +kernel
theorem dX6_tellQueue_37 : decode cX6_tellQueue 37 = .ok (.iadd, 1) := by decide +kernel
theorem dX6_tellQueue_38 : decode cX6_tellQueue 38 = .ok (.iastore, 1) := by decide +kernel
theorem dX6_tellQueue_39 : decode cX6_tellQueue 39 = .ok (.iconst 1, 1) := by decide +kernel
theorem dX6_tellQueue_40 : decode cX6_tellQueue 40 = .ok (.ireturn, 1) := by decide +kernel
theorem dX7_thrown_0 : decode cX7_thrown 0 = .ok (.aload_n 0, 1) := by decide +kernel
theorem dX7_thrown_1 : decode cX7_thrown 1 = .ok (.getfield 1, 3) := by decide +kernel
theorem dX7_thrown_4 : decode cX7_thrown 4 = .ok (.ireturn, 1) := by decide +kernel
theorem dX7_init_0 : decode cX7_init 0 = .ok (.aload_n 0, 1) := by decide +kernel
theorem dX7_init_1 : decode cX7_init 1 = .ok (.invokespecial 7, 3) := by decide +kernel
theorem dX7_init_4 : decode cX7_init 4 = .ok (.aload_n 0, 1) := by decide +kernel
theorem dX7_init_5 : decode cX7_init 5 = .ok (.sipush 15100, 3) := by decide +kernel
theorem dX7_init_8 : decode cX7_init 8 = .ok (.newarray .int, 2) := by decide +kernel
theorem dX7_init_10 : decode cX7_init 10 = .ok (.putfield 13, 3) := by decide +kernel
theorem dX7_init_13 : decode cX7_init 13 = .ok (.aload_n 0, 1) := by decide +kernel
theorem dX7_init_14 : decode cX7_init 14 = .ok (.sipush 15100, 3) := by decide +kernel
theorem dX7_init_17 : decode cX7_init 17 = .ok (.newarray .int, 2) := by decide +kernel
theorem dX7_init_19 : decode cX7_init 19 = .ok (.putfield 17, 3) := by decide +kernel
theorem dX7_init_22 : decode cX7_init 22 = .ok (.aload_n 0, 1) := by decide +kernel
theorem dX7_init_23 : decode cX7_init 23 = .ok (.sipush 15100, 3) := by decide +kernel
theorem dX7_init_26 : decode cX7_init 26 = .ok (.newarray .int, 2) := by decide +kernel
theorem dX7_init_28 : decode cX7_init 28 = .ok (.putfield 20, 3) := by decide +kernel
theorem dX7_init_31 : decode cX7_init 31 = .ok (.aload_n 0, 1) := by decide +kernel
theorem dX7_init_32 : decode cX7_init 32 = .ok (.sipush 15100, 3) := by decide +kernel
theorem dX7_init_35 : decode cX7_init 35 = .ok (.newarray .int, 2) := by decide +kernel
theorem dX7_init_37 : decode cX7_init 37 = .ok (.putfield 23, 3) := by decide +kernel
theorem dX7_init_40 : decode cX7_init 40 = .ok (.aload_n 0, 1) := by decide +kernel
theorem dX7_init_41 : decode cX7_init 41 = .ok (.sipush 15100, 3) := by decide +kernel
theorem dX7_init_44 : decode cX7_init 44 = .ok (.newarray .int, 2) := by decide +kernel
theorem dX7_init_46 : decode cX7_init 46 = .ok (.putfield 26, 3) := by decide +kernel
theorem dX7_init_49 : decode cX7_init 49 = .ok (.aload_n 0, 1) := by decide +kernel
theorem dX7_init_50 : decode cX7_init 50 = .ok (.sipush 15100, 3) := by decide +kernel
theorem dX7_init_53 : decode cX7_init 53 = .ok (.newarray .int, 2) := by decide +kernel
theorem dX7_init_55 : decode cX7_init 55 = .ok (.putfield 29, 3) := by decide +kernel
theorem dX7_init_58 : decode cX7_init 58 = .ok (.aload_n 0, 1) := by decide +kernel
theorem dX7_init_59 : decode cX7_init 59 = .ok (.sipush 15100, 3) := by decide +kernel
theorem dX7_init_62 : decode cX7_init 62 = .ok (.newarray .int, 2) := by decide +kernel
theorem dX7_init_64 : decode cX7_init 64 = .ok (.putfield 32, 3) := by decide +kernel
theorem dX7_init_67 : decode cX7_init 67 = .ok (.aload_n 0, 1) := by decide +kernel
theorem dX7_init_68 : decode cX7_init 68 = .ok (.sipush 15100, 3) := by decide +kernel
theorem dX7_init_71 : decode cX7_init 71 = .ok (.newarray .int, 2) := by decide +kernel
theorem dX7_init_73 : decode cX7_init 73 = .ok (.putfield 35, 3) := by decide +kernel
theorem dX7_init_76 : decode cX7_init 76 = .ok (.aload_n 0, 1) := by decide +kernel
theorem dX7_init_77 : decode cX7_init 77 = .ok (.sipush 15100, 3) := by decide +kernel
theorem dX7_init_80 : decode cX7_init 80 = .ok (.newarray .int, 2) := by decide +kernel
theorem dX7_init_82 : decode cX7_init 82 = .ok (.putfield 38, 3) := by decide +kernel
theorem dX7_init_85 : decode cX7_init 85 = .ok (.aload_n 0, 1) := by decide +kernel
theorem dX7_init_86 : decode cX7_init 86 = .ok (.sipush 15100, 3) := by decide +kernel
theorem dX7_init_89 : decode cX7_init 89 = .ok (.newarray .int, 2) := by decide +kernel
theorem dX7_init_91 : decode cX7_init 91 = .ok (.putfield 41, 3) := by decide +kernel
theorem dX7_init_94 : decode cX7_init 94 = .ok (.aload_n 0, 1) := by decide +kernel
theorem dX7_init_95 : decode cX7_init 95 = .ok (.sipush 15100, 3) := by decide +kernel
theorem dX7_init_98 : decode cX7_init 98 = .ok (.newarray .boolean, 2) := by decide +kernel
theorem dX7_init_100 : decode cX7_init 100 = .ok (.putfield 44, 3) := by decide +kernel
theorem dX7_init_103 : decode cX7_init 103 = .ok (.aload_n 0, 1) := by decide +kernel
theorem dX7_init_104 : decode cX7_init 104 = .ok (.sipush 15100, 3) := by decide +kernel
theorem dX7_init_107 : decode cX7_init 107 = .ok (.newarray .boolean, 2) := by decide +kernel
theorem dX7_init_109 : decode cX7_init 109 = .ok (.putfield 48, 3) := by decide +kernel
theorem dX7_init_112 : decode cX7_init 112 = .ok (.aload_n 0, 1) := by decide +kernel
theorem dX7_init_113 : decode cX7_init 113 = .ok (.sipush 15100, 3) := by decide +kernel
theorem dX7_init_116 : decode cX7_init 116 = .ok (.newarray .int, 2) := by decide +kernel
theorem dX7_init_118 : decode cX7_init 118 = .ok (.putfield 51, 3) := by decide +kernel
theorem dX7_init_121 : decode cX7_init 121 = .ok (.aload_n 0, 1) := by decide +kernel
theorem dX7_init_122 : decode cX7_init 122 = .ok (.sipush 15100, 3) := by decide +kernel
theorem dX7_init_125 : decode cX7_init 125 = .ok (.newarray .int, 2) := by decide +kernel
theorem dX7_init_127 : decode cX7_init 127 = .ok (.putfield 54, 3) := by decide +kernel
theorem dX7_init_130 : decode cX7_init 130 = .ok (.aload_n 0, 1) := by decide +kernel
theorem dX7_init_131 : decode cX7_init 131 = .ok (.sipush 31000, 3) := by decide +kernel
theorem dX7_init_134 : decode cX7_init 134 = .ok (.newarray .long, 2) := by decide +kernel
theorem dX7_init_136 : decode cX7_init 136 = .ok (.putfield 57, 3) := by decide +kernel
theorem dX7_init_139 : decode cX7_init 139 = .ok (.aload_n 0, 1) := by decide +kernel
theorem dX7_init_140 : decode cX7_init 140 = .ok (.iconst 1, 1) := by decide +kernel
theorem dX7_init_141 : decode cX7_init 141 = .ok (.putfield 61, 3) := by decide +kernel
theorem dX7_init_144 : decode cX7_init 144 = .ok (.aload_n 0, 1) := by decide +kernel
theorem dX7_init_145 : decode cX7_init 145 = .ok (.sipush 384, 3) := by decide +kernel
theorem dX7_init_148 : decode cX7_init 148 = .ok (.newarray .int, 2) := by decide +kernel
theorem dX7_init_150 : decode cX7_init 150 = .ok (.putfield 64, 3) := by decide +kernel
theorem dX7_init_153 : decode cX7_init 153 = .ok (.aload_n 0, 1) := by decide +kernel
theorem dX7_init_154 : decode cX7_init 154 = .ok (.bipush 20, 2) := by decide +kernel
theorem dX7_init_156 : decode cX7_init 156 = .ok (.newarray .int, 2) := by decide +kernel
theorem dX7_init_158 : decode cX7_init 158 = .ok (.putfield 67, 3) := by decide +kernel
theorem dX7_init_161 : decode cX7_init 161 = .ok (.aload_n 0, 1) := by decide +kernel
theorem dX7_init_162 : decode cX7_init 162 = .ok (.bipush 64, 2) := by decide +kernel
theorem dX7_init_164 : decode cX7_init 164 = .ok (.putfield 70, 3) := by decide +kernel
theorem dX7_init_167 : decode cX7_init 167 = .ok (.aload_n 0, 1) := by decide +kernel
theorem dX7_init_168 : decode cX7_init 168 = .ok (.iload_n 1, 1) := by decide +kernel
theorem dX7_init_169 : decode cX7_init 169 = .ok (.sipush 600, 3) := by decide +kernel
theorem dX7_init_172 : decode cX7_init 172 = .ok (.if_icmp .ge 9, 3) := by decide +kernel
theorem dX7_init_175 : decode cX7_init 175 = .ok (.sipush 600, 3) := by decide +kernel
theorem dX7_init_178 : decode cX7_init 178 = .ok (.goto 17, 3) := by decide +kernel
theorem dX7_init_181 : decode cX7_init 181 = .ok (.iload_n 1, 1) := by decide +kernel
theorem dX7_init_182 : decode cX7_init 182 = .ok (.sipush 30000, 3) := by decide +kernel
theorem dX7_init_185 : decode cX7_init 185 = .ok (.if_icmp .le 9, 3) := by decide +kernel
theorem dX7_init_188 : decode cX7_init 188 = .ok (.sipush 30000, 3) := by decide +kernel
theorem dX7_init_191 : decode cX7_init 191 = .ok (.goto 4, 3) := by decide +kernel
theorem dX7_init_194 : decode cX7_init 194 = .ok (.iload_n 1, 1) := by decide +kernel
theorem dX7_init_195 : decode cX7_init 195 = .ok (.putfield 73, 3) := by decide +kernel
theorem dX7_init_198 : decode cX7_init 198 = .ok (.iconst 0, 1) := by decide +kernel
theorem dX7_init_199 : decode cX7_init 199 = .ok (.istore_n 3, 1) := by decide +kernel
theorem dX7_init_200 : decode cX7_init 200 = .ok (.iload_n 3, 1) := by decide +kernel
theorem dX7_init_201 : decode cX7_init 201 = .ok (.sipush 15100, 3) := by decide +kernel
theorem dX7_init_204 : decode cX7_init 204 = .ok (.if_icmp .ge 16, 3) := by decide +kernel
theorem dX7_init_207 : decode cX7_init 207 = .ok (.aload_n 0, 1) := by decide +kernel
theorem dX7_init_208 : decode cX7_init 208 = .ok (.getfield 13, 3) := by decide +kernel
theorem dX7_init_211 : decode cX7_init 211 = .ok (.iload_n 3, 1) := by decide +kernel
theorem dX7_init_212 : decode cX7_init 212 = .ok (.iconst (-1), 1) := by decide +kernel
theorem dX7_init_213 : decode cX7_init 213 = .ok (.iastore, 1) := by decide +kernel
theorem dX7_init_214 : decode cX7_init 214 = .ok (.iinc 3 1, 3) := by decide +kernel
theorem dX7_init_217 : decode cX7_init 217 = .ok (.goto (-17), 3) := by decide +kernel
theorem dX7_init_220 : decode cX7_init 220 = .ok (.return_, 1) := by decide +kernel
theorem dX7_bad_0 : decode cX7_bad 0 = .ok (.aload_n 0, 1) := by decide +kernel
theorem dX7_bad_1 : decode cX7_bad 1 = .ok (.iconst 1, 1) := by decide +kernel
theorem dX7_bad_2 : decode cX7_bad 2 = .ok (.putfield 1, 3) := by decide +kernel
theorem dX7_bad_5 : decode cX7_bad 5 = .ok (.iconst 0, 1) := by decide +kernel
theorem dX7_bad_6 : decode cX7_bad 6 = .ok (.ireturn, 1) := by decide +kernel
theorem dX7_wrong_0 : decode cX7_wrong 0 = .ok (.aload_n 0, 1) := by decide +kernel
theorem dX7_wrong_1 : decode cX7_wrong 1 = .ok (.iconst 2, 1) := by decide +kernel
theorem dX7_wrong_2 : decode cX7_wrong 2 = .ok (.putfield 1, 3) := by decide +kernel
theorem dX7_wrong_5 : decode cX7_wrong 5 = .ok (.iconst 0, 1) := by decide +kernel
theorem dX7_wrong_6 : decode cX7_wrong 6 = .ok (.ireturn, 1) := by decide +kernel
theorem dX7_none_0 : decode cX7_none 0 = .ok (.iload_n 1, 1) := by decide +kernel
theorem dX7_none_1 : decode cX7_none 1 = .ok (.ifCond .lt 11, 3) := by decide +kernel
theorem dX7_none_4 : decode cX7_none 4 = .ok (.iload_n 1, 1) := by decide +kernel
theorem dX7_none_5 : decode cX7_none 5 = .ok (.aload_n 0, 1) := by decide +kernel
theorem dX7_none_6 : decode cX7_none 6 = .ok (.getfield 70, 3) := by decide +kernel
theorem dX7_none_9 : decode cX7_none 9 = .ok (.if_icmp .lt 7, 3) := by decide +kernel
theorem dX7_none_12 : decode cX7_none 12 = .ok (.iconst 1, 1) := by decide +kernel
theorem dX7_none_13 : decode cX7_none 13 = .ok (.goto 4, 3) := by decide +kernel
theorem dX7_none_16 : decode cX7_none 16 = .ok (.iconst 0, 1) := by decide +kernel
theorem dX7_none_17 : decode cX7_none 17 = .ok (.ireturn, 1) := by decide +kernel
theorem dX7_noneOrNull_0 : decode cX7_noneOrNull 0 = .ok (.iload_n 1, 1) := by decide +kernel
theorem dX7_noneOrNull_1 : decode cX7_noneOrNull 1 = .ok (.iconst (-1), 1) := by decide +kernel
theorem dX7_noneOrNull_2 : decode cX7_noneOrNull 2 = .ok (.if_icmp .lt 11, 3) := by decide +kernel
theorem dX7_noneOrNull_5 : decode cX7_noneOrNull 5 = .ok (.iload_n 1, 1) := by decide +kernel
theorem dX7_noneOrNull_6 : decode cX7_noneOrNull 6 = .ok (.aload_n 0, 1) := by decide +kernel
theorem dX7_noneOrNull_7 : decode cX7_noneOrNull 7 = .ok (.getfield 70, 3) := by decide +kernel
theorem dX7_noneOrNull_10 : decode cX7_noneOrNull 10 = .ok (.if_icmp .lt 7, 3) := by decide +kernel
theorem dX7_noneOrNull_13 : decode cX7_noneOrNull 13 = .ok (.iconst 1, 1) := by decide +kernel
theorem dX7_noneOrNull_14 : decode cX7_noneOrNull 14 = .ok (.goto 4, 3) := by decide +kernel
theorem dX7_noneOrNull_17 : decode cX7_noneOrNull 17 = .ok (.iconst 0, 1) := by decide +kernel
theorem dX7_noneOrNull_18 : decode cX7_noneOrNull 18 = .ok (.ireturn, 1) := by decide +kernel
theorem dX7_of_0 : decode cX7_of 0 = .ok (.iload_n 1, 1) := by decide +kernel
theorem dX7_of_1 : decode cX7_of 1 = .ok (.ifCond .ge 7, 3) := by decide +kernel
theorem dX7_of_4 : decode cX7_of 4 = .ok (.iconst 0, 1) := by decide +kernel
theorem dX7_of_5 : decode cX7_of 5 = .ok (.goto 9, 3) := by decide +kernel
theorem dX7_of_8 : decode cX7_of 8 = .ok (.aload_n 0, 1) := by decide +kernel
theorem dX7_of_9 : decode cX7_of 9 = .ok (.getfield 64, 3) := by decide +kernel
theorem dX7_of_12 : decode cX7_of 12 = .ok (.iload_n 1, 1) := by decide +kernel
theorem dX7_of_13 : decode cX7_of 13 = .ok (.iaload, 1) := by decide +kernel
theorem dX7_of_14 : decode cX7_of 14 = .ok (.ireturn, 1) := by decide +kernel
theorem dX7_is_0 : decode cX7_is 0 = .ok (.aload_n 0, 1) := by decide +kernel
theorem dX7_is_1 : decode cX7_is 1 = .ok (.getfield 64, 3) := by decide +kernel
theorem dX7_is_4 : decode cX7_is 4 = .ok (.iload_n 1, 1) := by decide +kernel
theorem dX7_is_5 : decode cX7_is 5 = .ok (.iaload, 1) := by decide +kernel
theorem dX7_is_6 : decode cX7_is 6 = .ok (.ifCond .eq 22, 3) := by decide +kernel
theorem dX7_is_9 : decode cX7_is 9 = .ok (.aload_n 0, 1) := by decide +kernel
theorem dX7_is_10 : decode cX7_is 10 = .ok (.getfield 13, 3) := by decide +kernel
theorem dX7_is_13 : decode cX7_is 13 = .ok (.aload_n 0, 1) := by decide +kernel
theorem dX7_is_14 : decode cX7_is 14 = .ok (.getfield 64, 3) := by decide +kernel
theorem dX7_is_17 : decode cX7_is 17 = .ok (.iload_n 1, 1) := by decide +kernel
theorem dX7_is_18 : decode cX7_is 18 = .ok (.iaload, 1) := by decide +kernel
theorem dX7_is_19 : decode cX7_is 19 = .ok (.iaload, 1) := by decide +kernel
theorem dX7_is_20 : decode cX7_is 20 = .ok (.iload_n 2, 1) := by decide +kernel
theorem dX7_is_21 : decode cX7_is 21 = .ok (.if_icmp .ne 7, 3) := by decide +kernel
theorem dX7_is_24 : decode cX7_is 24 = .ok (.iconst 1, 1) := by decide +kernel
theorem dX7_is_25 : decode cX7_is 25 = .ok (.goto 4, 3) := by decide +kernel
theorem dX7_is_28 : decode cX7_is 28 = .ok (.iconst 0, 1) := by decide +kernel
theorem dX7_is_29 : decode cX7_is 29 = .ok (.ireturn, 1) := by decide +kernel
theorem dX7_isLoose_0 : decode cX7_isLoose 0 = .ok (.iload_n 1, 1) := by decide +kernel
theorem dX7_isLoose_1 : decode cX7_isLoose 1 = .ok (.ifCond .eq 17, 3) := by decide +kernel
theorem dX7_isLoose_4 : decode cX7_isLoose 4 = .ok (.aload_n 0, 1) := by decide +kernel
theorem dX7_isLoose_5 : decode cX7_isLoose 5 = .ok (.getfield 13, 3) := by decide +kernel
theorem dX7_isLoose_8 : decode cX7_isLoose 8 = .ok (.iload_n 1, 1) := by decide +kernel
theorem dX7_isLoose_9 : decode cX7_isLoose 9 = .ok (.iaload, 1) := by decide +kernel
theorem dX7_isLoose_10 : decode cX7_isLoose 10 = .ok (.iconst 4, 1) := by decide +kernel
theorem dX7_isLoose_11 : decode cX7_isLoose 11 = .ok (.if_icmp .lt 7, 3) := by decide +kernel
theorem dX7_isLoose_14 : decode cX7_isLoose 14 = .ok (.iconst 1, 1) := by decide +kernel
theorem dX7_isLoose_15 : decode cX7_isLoose 15 = .ok (.goto 4, 3) := by decide +kernel
theorem dX7_isLoose_18 : decode cX7_isLoose 18 = .ok (.iconst 0, 1) := by decide +kernel
theorem dX7_isLoose_19 : decode cX7_isLoose 19 = .ok (.ireturn, 1) := by decide +kernel
theorem dX7_cells_0 : decode cX7_cells 0 = .ok (.iload_n 0, 1) := by decide +kernel
theorem dX7_cells_1 : decode cX7_cells 1 = .ok (.iconst 2, 1) := by decide +kernel
theorem dX7_cells_2 : decode cX7_cells 2 = .ok (.if_icmp .gt 9, 3) := by decide +kernel
theorem dX7_cells_5 : decode cX7_cells 5 = .ok (.iconst 2, 1) := by decide +kernel
theorem dX7_cells_6 : decode cX7_cells 6 = .ok (.iload_n 1, 1) := by decide +kernel
theorem dX7_cells_7 : decode cX7_cells 7 = .ok (.iadd, 1) := by decide +kernel
theorem dX7_cells_8 : decode cX7_cells 8 = .ok (.goto 23, 3) := by decide +kernel
theorem dX7_cells_11 : decode cX7_cells 11 = .ok (.iload_n 0, 1) := by decide +kernel
theorem dX7_cells_12 : decode cX7_cells 12 = .ok (.iconst 3, 1) := by decide +kernel
theorem dX7_cells_13 : decode cX7_cells 13 = .ok (.if_icmp .ne 7, 3) := by decide +kernel
theorem dX7_cells_16 : decode cX7_cells 16 = .ok (.iconst 3, 1) := by decide +kernel
theorem dX7_cells_17 : decode cX7_cells 17 = .ok (.goto 14, 3) := by decide +kernel
theorem dX7_cells_20 : decode cX7_cells 20 = .ok (.iload_n 0, 1) := by decide +kernel
theorem dX7_cells_21 : decode cX7_cells 21 = .ok (.bipush 7, 2) := by decide +kernel
theorem dX7_cells_23 : decode cX7_cells 23 = .ok (.if_icmp .ne 7, 3) := by decide +kernel
theorem dX7_cells_26 : decode cX7_cells 26 = .ok (.iconst 5, 1) := by decide +kernel
theorem dX7_cells_27 : decode cX7_cells 27 = .ok (.goto 4, 3) := by decide +kernel
theorem dX7_cells_30 : decode cX7_cells 30 = .ok (.iconst 4, 1) := by decide +kernel
theorem dX7_cells_31 : decode cX7_cells 31 = .ok (.ireturn, 1) := by decide +kernel
theorem dX7_make_0 : decode cX7_make 0 = .ok (.iload_n 1, 1) := by decide +kernel
theorem dX7_make_1 : decode cX7_make 1 = .ok (.iload_n 2, 1) := by decide +kernel
theorem dX7_make_2 : decode cX7_make 2 = .ok (.iload_n 3, 1) := by decide +kernel
theorem dX7_make_3 : decode cX7_make 3 = .ok (.iadd, 1) := by decide +kernel
theorem dX7_make_4 : decode cX7_make 4 = .ok (.invokestatic 76, 3) := by decide +kernel
theorem dX7_make_7 : decode cX7_make 7 = .ok (.istore 4, 2) := by decide +kernel
theorem dX7_make_9 : decode cX7_make 9 = .ok (.aload_n 0, 1) := by decide +kernel
theorem dX7_make_10 : decode cX7_make 10 = .ok (.getfield 80, 3) := by decide +kernel
theorem dX7_make_13 : decode cX7_make 13 = .ok (.iload 4, 2) := by decide +kernel
theorem dX7_make_15 : decode cX7_make 15 = .ok (.iadd, 1) := by decide +kernel
theorem dX7_make_16 : decode cX7_make 16 = .ok (.aload_n 0, 1) := by decide +kernel
theorem dX7_make_17 : decode cX7_make 17 = .ok (.getfield 73, 3) := by decide +kernel
theorem dX7_make_20 : decode cX7_make 20 = .ok (.if_icmp .le 9, 3) := by decide +kernel
theorem dX7_make_23 : decode cX7_make 23 = .ok (.aload_n 0, 1) := by decide +kernel
theorem dX7_make_24 : decode cX7_make 24 = .ok (.iconst 0, 1) := by decide +kernel
theorem dX7_make_25 : decode cX7_make 25 = .ok (.invokevirtual 83, 3) := by decide +kernel
theorem dX7_make_28 : decode cX7_make 28 = .ok (.pop, 1) := by decide +kernel
theorem dX7_make_29 : decode cX7_make 29 = .ok (.aload_n 0, 1) := by decide +kernel
theorem dX7_make_30 : decode cX7_make 30 = .ok (.getfield 80, 3) := by decide +kernel
theorem dX7_make_33 : decode cX7_make 33 = .ok (.iload 4, 2) := by decide +kernel
theorem dX7_make_35 : decode cX7_make 35 = .ok (.iadd, 1) := by decide +kernel
theorem dX7_make_36 : decode cX7_make 36 = .ok (.aload_n 0, 1) := by decide +kernel
theorem dX7_make_37 : decode cX7_make 37 = .ok (.getfield 73, 3) := by decide +kernel
theorem dX7_make_40 : decode cX7_make 40 = .ok (.if_icmp .le 9, 3) := by decide +kernel
theorem dX7_make_43 : decode cX7_make 43 = .ok (.aload_n 0, 1) := by decide +kernel
theorem dX7_make_44 : decode cX7_make 44 = .ok (.iconst 1, 1) := by decide +kernel
theorem dX7_make_45 : decode cX7_make 45 = .ok (.invokevirtual 83, 3) := by decide +kernel
theorem dX7_make_48 : decode cX7_make 48 = .ok (.pop, 1) := by decide +kernel
theorem dX7_make_49 : decode cX7_make 49 = .ok (.aload_n 0, 1) := by decide +kernel
theorem dX7_make_50 : decode cX7_make 50 = .ok (.getfield 80, 3) := by decide +kernel
theorem dX7_make_53 : decode cX7_make 53 = .ok (.iload 4, 2) := by decide +kernel
theorem dX7_make_55 : decode cX7_make 55 = .ok (.iadd, 1) := by decide +kernel
theorem dX7_make_56 : decode cX7_make 56 = .ok (.aload_n 0, 1) := by decide +kernel
theorem dX7_make_57 : decode cX7_make 57 = .ok (.getfield 73, 3) := by decide +kernel
theorem dX7_make_60 : decode cX7_make 60 = .ok (.if_icmp .le 15, 3) := by decide +kernel
theorem dX7_make_63 : decode cX7_make 63 = .ok (.aload_n 0, 1) := by decide +kernel
theorem dX7_make_64 : decode cX7_make 64 = .ok (.dup, 1) := by decide +kernel
theorem dX7_make_65 : decode cX7_make 65 = .ok (.getfield 87, 3) := by decide +kernel
theorem dX7_make_68 : decode cX7_make 68 = .ok (.iconst 1, 1) := by decide +kernel
theorem dX7_make_69 : decode cX7_make 69 = .ok (.iadd, 1) := by decide +kernel
theorem dX7_make_70 : decode cX7_make 70 = .ok (.putfield 87, 3) := by decide +kernel
theorem dX7_make_73 : decode cX7_make 73 = .ok (.iconst 0, 1) := by decide +kernel
theorem dX7_make_74 : decode cX7_make 74 = .ok (.ireturn, 1) := by decide +kernel
theorem dX7_make_75 : decode cX7_make 75 = .ok (.aload_n 0, 1) := by decide +kernel
theorem dX7_make_76 : decode cX7_make 76 = .ok (.getfield 90, 3) := by decide +kernel
theorem dX7_make_79 : decode cX7_make 79 = .ok (.istore 5, 2) := by decide +kernel
theorem dX7_make_81 : decode cX7_make 81 = .ok (.iload 5, 2) := by decide +kernel
theorem dX7_make_83 : decode cX7_make 83 = .ok (.ifCond .eq 17, 3) := by decide +kernel
theorem dX7_make_86 : decode cX7_make 86 = .ok (.aload_n 0, 1) := by decide +kernel
theorem dX7_make_87 : decode cX7_make 87 = .ok (.aload_n 0, 1) := by decide +kernel
theorem dX7_make_88 : decode cX7_make 88 = .ok (.getfield 29, 3) := by decide +kernel
theorem dX7_make_91 : decode cX7_make 91 = .ok (.iload 5, 2) := by decide +kernel
theorem dX7_make_93 : decode cX7_make 93 = .ok (.iaload, 1) := by decide +kernel
theorem dX7_make_94 : decode cX7_make 94 = .ok (.putfield 90, 3) := by decide +kernel
theorem dX7_make_97 : decode cX7_make 97 = .ok (.goto 16, 3) := by decide +kernel
theorem dX7_make_100 : decode cX7_make 100 = .ok (.aload_n 0, 1) := by decide +kernel
theorem dX7_make_101 : decode cX7_make 101 = .ok (.dup, 1) := by decide +kernel
theorem dX7_make_102 : decode cX7_make 102 = .ok (.getfield 61, 3) := by decide +kernel
theorem dX7_make_105 : decode cX7_make 105 = .ok (.dup_x1, 1) := by decide +kernel
theorem dX7_make_106 : decode cX7_make 106 = .ok (.iconst 1, 1) := by decide +kernel
theorem dX7_make_107 : decode cX7_make 107 = .ok (.iadd, 1) := by decide +kernel
theorem dX7_make_108 : decode cX7_make 108 = .ok (.putfield 61, 3) := by decide +kernel
theorem dX7_make_111 : decode cX7_make 111 = .ok (.istore 5, 2) := by decide +kernel
theorem dX7_make_113 : decode cX7_make 113 = .ok (.aload_n 0, 1) := by decide +kernel
theorem dX7_make_114 : decode cX7_make 114 = .ok (.getfield 93, 3) := by decide +kernel
theorem dX7_make_117 : decode cX7_make 117 = .ok (.iload_n 2, 1) := by decide +kernel
theorem dX7_make_118 : decode cX7_make 118 = .ok (.iadd, 1) := by decide +kernel
theorem dX7_make_119 : decode cX7_make 119 = .ok (.iload_n 3, 1) := by decide +kernel
theorem dX7_make_120 : decode cX7_make 120 = .ok (.iadd, 1) := by decide +kernel
theorem dX7_make_121 : decode cX7_make 121 = .ok (.sipush 31000, 3) := by decide +kernel
theorem dX7_make_124 : decode cX7_make 124 = .ok (.if_icmp .le 7, 3) := by decide +kernel
theorem dX7_make_127 : decode cX7_make 127 = .ok (.aload_n 0, 1) := by decide +kernel
theorem dX7_make_128 : decode cX7_make 128 = .ok (.invokevirtual 96, 3) := by decide +kernel
theorem dX7_make_131 : decode cX7_make 131 = .ok (.aload_n 0, 1) := by decide +kernel
theorem dX7_make_132 : decode cX7_make 132 = .ok (.getfield 13, 3) := by decide +kernel
theorem dX7_make_135 : decode cX7_make 135 = .ok (.iload 5, 2) := by decide +kernel
theorem dX7_make_137 : decode cX7_make 137 = .ok (.iload_n 1, 1) := by decide +kernel
theorem dX7_make_138 : decode cX7_make 138 = .ok (.iastore, 1) := by decide +kernel
theorem dX7_make_139 : decode cX7_make 139 = .ok (.aload_n 0, 1) := by decide +kernel
theorem dX7_make_140 : decode cX7_make 140 = .ok (.getfield 17, 3) := by decide +kernel
theorem dX7_make_143 : decode cX7_make 143 = .ok (.iload 5, 2) := by decide +kernel
theorem dX7_make_145 : decode cX7_make 145 = .ok (.aload_n 0, 1) := by decide +kernel
theorem dX7_make_146 : decode cX7_make 146 = .ok (.getfield 93, 3) := by decide +kernel
theorem dX7_make_149 : decode cX7_make 149 = .ok (.iastore, 1) := by decide +kernel
theorem dX7_make_150 : decode cX7_make 150 = .ok (.aload_n 0, 1) := by decide +kernel
theorem dX7_make_151 : decode cX7_make 151 = .ok (.getfield 20, 3) := by decide +kernel
theorem dX7_make_154 : decode cX7_make 154 = .ok (.iload 5, 2) := by decide +kernel
theorem dX7_make_156 : decode cX7_make 156 = .ok (.iload_n 2, 1) := by decide +kernel
theorem dX7_make_157 : decode cX7_make 157 = .ok (.iastore, 1) := by decide +kernel
theorem dX7_make_158 : decode cX7_make 158 = .ok (.aload_n 0, 1) := by decide +kernel
theorem dX7_make_159 : decode cX7_make 159 = .ok (.getfield 23, 3) := by decide +kernel
theorem dX7_make_162 : decode cX7_make 162 = .ok (.iload 5, 2) := by decide +kernel
theorem dX7_make_164 : decode cX7_make 164 = .ok (.iload_n 3, 1) := by decide +kernel
theorem dX7_make_165 : decode cX7_make 165 = .ok (.iastore, 1) := by decide +kernel
theorem dX7_make_166 : decode cX7_make 166 = .ok (.aload_n 0, 1) := by decide +kernel
theorem dX7_make_167 : decode cX7_make 167 = .ok (.getfield 26, 3) := by decide +kernel
theorem dX7_make_170 : decode cX7_make 170 = .ok (.iload 5, 2) := by decide +kernel
theorem dX7_make_172 : decode cX7_make 172 = .ok (.iconst 0, 1) := by decide +kernel
theorem dX7_make_173 : decode cX7_make 173 = .ok (.iastore, 1) := by decide +kernel
theorem dX7_make_174 : decode cX7_make 174 = .ok (.aload_n 0, 1) := by decide +kernel
theorem dX7_make_175 : decode cX7_make 175 = .ok (.getfield 29, 3) := by decide +kernel
theorem dX7_make_178 : decode cX7_make 178 = .ok (.iload 5, 2) := by decide +kernel
theorem dX7_make_180 : decode cX7_make 180 = .ok (.iconst 0, 1) := by decide +kernel
theorem dX7_make_181 : decode cX7_make 181 = .ok (.iastore, 1) := by decide +kernel
theorem dX7_make_182 : decode cX7_make 182 = .ok (.aload_n 0, 1) := by decide +kernel
theorem dX7_make_183 : decode cX7_make 183 = .ok (.getfield 32, 3) := by decide +kernel
theorem dX7_make_186 : decode cX7_make 186 = .ok (.iload 5, 2) := by decide +kernel
theorem dX7_make_188 : decode cX7_make 188 = .ok (.iconst 0, 1) := by decide +kernel
theorem dX7_make_189 : decode cX7_make 189 = .ok (.iastore, 1) := by decide +kernel
theorem dX7_make_190 : decode cX7_make 190 = .ok (.aload_n 0, 1) := by decide +kernel
theorem dX7_make_191 : decode cX7_make 191 = .ok (.getfield 35, 3) := by decide +kernel
theorem dX7_make_194 : decode cX7_make 194 = .ok (.iload 5, 2) := by decide +kernel
theorem dX7_make_196 : decode cX7_make 196 = .ok (.iconst 0, 1) := by decide +kernel
theorem dX7_make_197 : decode cX7_make 197 = .ok (.iastore, 1) := by decide +kernel
theorem dX7_make_198 : decode cX7_make 198 = .ok (.aload_n 0, 1) := by decide +kernel
theorem dX7_make_199 : decode cX7_make 199 = .ok (.getfield 38, 3) := by decide +kernel
theorem dX7_make_202 : decode cX7_make 202 = .ok (.iload 5, 2) := by decide +kernel
theorem dX7_make_204 : decode cX7_make 204 = .ok (.iconst 0, 1) := by decide +kernel
theorem dX7_make_205 : decode cX7_make 205 = .ok (.iastore, 1) := by decide +kernel
theorem dX7_make_206 : decode cX7_make 206 = .ok (.aload_n 0, 1) := by decide +kernel
theorem dX7_make_207 : decode cX7_make 207 = .ok (.getfield 44, 3) := by decide +kernel
theorem dX7_make_210 : decode cX7_make 210 = .ok (.iload 5, 2) := by decide +kernel
theorem dX7_make_212 : decode cX7_make 212 = .ok (.iconst 0, 1) := by decide +kernel
theorem dX7_make_213 : decode cX7_make 213 = .ok (.bastore, 1) := by decide +kernel
theorem dX7_make_214 : decode cX7_make 214 = .ok (.iconst 0, 1) := by decide +kernel
theorem dX7_make_215 : decode cX7_make 215 = .ok (.istore 6, 2) := by decide +kernel
theorem dX7_make_217 : decode cX7_make 217 = .ok (.iload 6, 2) := by decide +kernel
theorem dX7_make_219 : decode cX7_make 219 = .ok (.iload_n 2, 1) := by decide +kernel
theorem dX7_make_220 : decode cX7_make 220 = .ok (.iload_n 3, 1) := by decide +kernel
theorem dX7_make_221 : decode cX7_make 221 = .ok (.iadd, 1) := by decide +kernel
theorem dX7_make_222 : decode cX7_make 222 = .ok (.if_icmp .ge 22, 3) := by decide +kernel
theorem dX7_make_225 : decode cX7_make 225 = .ok (.aload_n 0, 1) := by decide +kernel
theorem dX7_make_226 : decode cX7_make 226 = .ok (.getfield 57, 3) := by decide +kernel
theorem dX7_make_229 : decode cX7_make 229 = .ok (.aload_n 0, 1) := by decide +kernel
theorem dX7_make_230 : decode cX7_make 230 = .ok (.getfield 93, 3) := by decide +kernel
theorem dX7_make_233 : decode cX7_make 233 = .ok (.iload 6, 2) := by decide +kernel
theorem dX7_make_235 : decode cX7_make 235 = .ok (.iadd, 1) := by decide +kernel
theorem dX7_make_236 : decode cX7_make 236 = .ok (.lconst 0, 1) := by decide +kernel
theorem dX7_make_237 : decode cX7_make 237 = .ok (.lastore, 1) := by decide +kernel
theorem dX7_make_238 : decode cX7_make 238 = .ok (.iinc 6 1, 3) := by decide +kernel
theorem dX7_make_241 : decode cX7_make 241 = .ok (.goto (-24), 3) := by decide +kernel
theorem dX7_make_244 : decode cX7_make 244 = .ok (.aload_n 0, 1) := by decide +kernel
theorem dX7_make_245 : decode cX7_make 245 = .ok (.dup, 1) := by decide +kernel
theorem dX7_make_246 : decode cX7_make 246 = .ok (.getfield 93, 3) := by decide +kernel
theorem dX7_make_249 : decode cX7_make 249 = .ok (.iload_n 2, 1) := by decide +kernel
theorem dX7_make_250 : decode cX7_make 250 = .ok (.iload_n 3, 1) := by decide +kernel
theorem dX7_make_251 : decode cX7_make 251 = .ok (.iadd, 1) := by decide +kernel
theorem dX7_make_252 : decode cX7_make 252 = .ok (.iadd, 1) := by decide +kernel
theorem dX7_make_253 : decode cX7_make 253 = .ok (.putfield 93, 3) := by decide +kernel
theorem dX7_make_256 : decode cX7_make 256 = .ok (.aload_n 0, 1) := by decide +kernel
theorem dX7_make_257 : decode cX7_make 257 = .ok (.dup, 1) := by decide +kernel
theorem dX7_make_258 : decode cX7_make 258 = .ok (.getfield 80, 3) := by decide +kernel
theorem dX7_make_261 : decode cX7_make 261 = .ok (.iload 4, 2) := by decide +kernel
theorem dX7_make_263 : decode cX7_make 263 = .ok (.iadd, 1) := by decide +kernel
theorem dX7_make_264 : decode cX7_make 264 = .ok (.putfield 80, 3) := by decide +kernel
theorem dX7_make_267 : decode cX7_make 267 = .ok (.aload_n 0, 1) := by decide +kernel
theorem dX7_make_268 : decode cX7_make 268 = .ok (.dup, 1) := by decide +kernel
theorem dX7_make_269 : decode cX7_make 269 = .ok (.getfield 99, 3) := by decide +kernel
theorem dX7_make_272 : decode cX7_make 272 = .ok (.iconst 1, 1) := by decide +kernel
theorem dX7_make_273 : decode cX7_make 273 = .ok (.iadd, 1) := by decide +kernel
theorem dX7_make_274 : decode cX7_make 274 = .ok (.putfield 99, 3) := by decide +kernel
theorem dX7_make_277 : decode cX7_make 277 = .ok (.aload_n 0, 1) := by decide +kernel
theorem dX7_make_278 : decode cX7_make 278 = .ok (.dup, 1) := by decide +kernel
theorem dX7_make_279 : decode cX7_make 279 = .ok (.getfield 102, 3) := by decide +kernel
theorem dX7_make_282 : decode cX7_make 282 = .ok (.iconst 1, 1) := by decide +kernel
theorem dX7_make_283 : decode cX7_make 283 = .ok (.iadd, 1) := by decide +kernel
theorem dX7_make_284 : decode cX7_make 284 = .ok (.putfield 102, 3) := by decide +kernel
theorem dX7_make_287 : decode cX7_make 287 = .ok (.aload_n 0, 1) := by decide +kernel
theorem dX7_make_288 : decode cX7_make 288 = .ok (.getfield 80, 3) := by decide +kernel
theorem dX7_make_291 : decode cX7_make 291 = .ok (.aload_n 0, 1) := by decide +kernel
theorem dX7_make_292 : decode cX7_make 292 = .ok (.getfield 105, 3) := by decide +kernel
theorem dX7_make_295 : decode cX7_make 295 = .ok (.if_icmp .le 11, 3) := by decide +kernel
theorem dX7_make_298 : decode cX7_make 298 = .ok (.aload_n 0, 1) := by decide +kernel
theorem dX7_make_299 : decode cX7_make 299 = .ok (.aload_n 0, 1) := by decide +kernel
theorem dX7_make_300 : decode cX7_make 300 = .ok (.getfield 80, 3) := by decide +kernel
theorem dX7_make_303 : decode cX7_make 303 = .ok (.putfield 105, 3) := by decide +kernel
theorem dX7_make_306 : decode cX7_make 306 = .ok (.iload 5, 2) := by decide +kernel
theorem dX7_make_308 : decode cX7_make 308 = .ok (.ireturn, 1) := by decide +kernel
theorem dX7_cellsOf_0 : decode cX7_cellsOf 0 = .ok (.aload_n 0, 1) := by decide +kernel
theorem dX7_cellsOf_1 : decode cX7_cellsOf 1 = .ok (.getfield 13, 3) := by decide +kernel
theorem dX7_cellsOf_4 : decode cX7_cellsOf 4 = .ok (.iload_n 1, 1) := by decide +kernel
theorem dX7_cellsOf_5 : decode cX7_cellsOf 5 = .ok (.iaload, 1) := by decide +kernel
theorem dX7_cellsOf_6 : decode cX7_cellsOf 6 = .ok (.aload_n 0, 1) := by decide +kernel
theorem dX7_cellsOf_7 : decode cX7_cellsOf 7 = .ok (.getfield 20, 3) := by decide +kernel
theorem dX7_cellsOf_10 : decode cX7_cellsOf 10 = .ok (.iload_n 1, 1) := by decide +kernel
theorem dX7_cellsOf_11 : decode cX7_cellsOf 11 = .ok (.iaload, 1) := by decide +kernel
theorem dX7_cellsOf_12 : decode cX7_cellsOf 12 = .ok (.aload_n 0, 1) := by decide +kernel
theorem dX7_cellsOf_13 : decode cX7_cellsOf 13 = .ok (.getfield 23, 3) := by decide +kernel
theorem dX7_cellsOf_16 : decode cX7_cellsOf 16 = .ok (.iload_n 1, 1) := by decide +kernel
theorem dX7_cellsOf_17 : decode cX7_cellsOf 17 = .ok (.iaload, 1) := by decide +kernel
theorem dX7_cellsOf_18 : decode cX7_cellsOf 18 = .ok (.iadd, 1) := by decide +kernel
theorem dX7_cellsOf_19 : decode cX7_cellsOf 19 = .ok (.invokestatic 76, 3) := by decide +kernel
theorem dX7_cellsOf_22 : decode cX7_cellsOf 22 = .ok (.ireturn, 1) := by decide +kernel
theorem dX7_push_0 : decode cX7_push 0 = .ok (.iconst 0, 1) := by decide +kernel
theorem dX7_push_1 : decode cX7_push 1 = .ok (.istore_n 1, 1) := by decide +kernel
theorem dX7_push_2 : decode cX7_push 2 = .ok (.iconst 1, 1) := by decide +kernel
theorem dX7_push_3 : decode cX7_push 3 = .ok (.istore_n 2, 1) := by decide +kernel
theorem dX7_push_4 : decode cX7_push 4 = .ok (.iload_n 2, 1) := by decide +kernel
theorem dX7_push_5 : decode cX7_push 5 = .ok (.aload_n 0, 1) := by decide +kernel
theorem dX7_push_6 : decode cX7_push 6 = .ok (.getfield 61, 3) := by decide +kernel
theorem dX7_push_9 : decode cX7_push 9 = .ok (.if_icmp .ge 28, 3) := by decide +kernel
theorem dX7_push_12 : decode cX7_push 12 = .ok (.aload_n 0, 1) := by decide +kernel
theorem dX7_push_13 : decode cX7_push 13 = .ok (.getfield 13, 3) := by decide +kernel
theorem dX7_push_16 : decode cX7_push 16 = .ok (.iload_n 2, 1) := by decide +kernel
theorem dX7_push_17 : decode cX7_push 17 = .ok (.iaload, 1) := by decide +kernel
theorem dX7_push_18 : decode cX7_push 18 = .ok (.ifCond .lt 13, 3) := by decide +kernel
theorem dX7_push_21 : decode cX7_push 21 = .ok (.aload_n 0, 1) := by decide +kernel
theorem dX7_push_22 : decode cX7_push 22 = .ok (.getfield 51, 3) := by decide +kernel
theorem dX7_push_25 : decode cX7_push 25 = .ok (.iload_n 1, 1) := by decide +kernel
theorem dX7_push_26 : decode cX7_push 26 = .ok (.iinc 1 1, 3) := by decide +kernel
theorem dX7_push_29 : decode cX7_push 29 = .ok (.iload_n 2, 1) := by decide +kernel
theorem dX7_push_30 : decode cX7_push 30 = .ok (.iastore, 1) := by decide +kernel
theorem dX7_push_31 : decode cX7_push 31 = .ok (.iinc 2 1, 3) := by decide +kernel
theorem dX7_push_34 : decode cX7_push 34 = .ok (.goto (-30), 3) := by decide +kernel
theorem dX7_push_37 : decode cX7_push 37 = .ok (.iload_n 1, 1) := by decide +kernel
theorem dX7_push_38 : decode cX7_push 38 = .ok (.iconst 2, 1) := by decide +kernel
theorem dX7_push_39 : decode cX7_push 39 = .ok (.idiv, 1) := by decide +kernel
theorem dX7_push_40 : decode cX7_push 40 = .ok (.istore_n 2, 1) := by decide +kernel
theorem dX7_push_41 : decode cX7_push 41 = .ok (.iload_n 2, 1) := by decide +kernel
theorem dX7_push_42 : decode cX7_push 42 = .ok (.ifCond .le 98, 3) := by decide +kernel
theorem dX7_push_45 : decode cX7_push 45 = .ok (.iload_n 2, 1) := by decide +kernel
theorem dX7_push_46 : decode cX7_push 46 = .ok (.istore_n 3, 1) := by decide +kernel
theorem dX7_push_47 : decode cX7_push 47 = .ok (.iload_n 3, 1) := by decide +kernel
theorem dX7_push_48 : decode cX7_push 48 = .ok (.iload_n 1, 1) := by decide +kernel
theorem dX7_push_49 : decode cX7_push 49 = .ok (.if_icmp .ge 84, 3) := by decide +kernel
theorem dX7_push_52 : decode cX7_push 52 = .ok (.aload_n 0, 1) := by decide +kernel
theorem dX7_push_53 : decode cX7_push 53 = .ok (.getfield 51, 3) := by decide +kernel
theorem dX7_push_56 : decode cX7_push 56 = .ok (.iload_n 3, 1) := by decide +kernel
theorem dX7_push_57 : decode cX7_push 57 = .ok (.iaload, 1) := by decide +kernel
theorem dX7_push_58 : decode cX7_push 58 = .ok (.istore 4, 2) := by decide +kernel
theorem dX7_push_60 : decode cX7_push 60 = .ok (.iload_n 3, 1) := by decide +kernel
theorem dX7_push_61 : decode cX7_push 61 = .ok (.istore 5, 2) := by decide +kernel
theorem dX7_push_63 : decode cX7_push 63 = .ok (.iload 5, 2) := by decide +kernel
theorem dX7_push_65 : decode cX7_push 65 = .ok (.iload_n 2, 1) := by decide +kernel
theorem dX7_push_66 : decode cX7_push 66 = .ok (.if_icmp .lt 52, 3) := by decide +kernel
theorem dX7_push_69 : decode cX7_push 69 = .ok (.aload_n 0, 1) := by decide +kernel
theorem dX7_push_70 : decode cX7_push 70 = .ok (.getfield 17, 3) := by decide +kernel
theorem dX7_push_73 : decode cX7_push 73 = .ok (.aload_n 0, 1) := by decide +kernel
theorem dX7_push_74 : decode cX7_push 74 = .ok (.getfield 51, 3) := by decide +kernel
theorem dX7_push_77 : decode cX7_push 77 = .ok (.iload 5, 2) := by decide +kernel
theorem dX7_push_79 : decode cX7_push 79 = .ok (.iload_n 2, 1) := by decide +kernel
theorem dX7_push_80 : decode cX7_push 80 = .ok (.isub, 1) := by decide +kernel
theorem dX7_push_81 : decode cX7_push 81 = .ok (.iaload, 1) := by decide +kernel
theorem dX7_push_82 : decode cX7_push 82 = .ok (.iaload, 1) := by decide +kernel
theorem dX7_push_83 : decode cX7_push 83 = .ok (.aload_n 0, 1) := by decide +kernel
theorem dX7_push_84 : decode cX7_push 84 = .ok (.getfield 17, 3) := by decide +kernel
theorem dX7_push_87 : decode cX7_push 87 = .ok (.iload 4, 2) := by decide +kernel
theorem dX7_push_89 : decode cX7_push 89 = .ok (.iaload, 1) := by decide +kernel
theorem dX7_push_90 : decode cX7_push 90 = .ok (.if_icmp .le 28, 3) := by decide +kernel
theorem dX7_push_93 : decode cX7_push 93 = .ok (.aload_n 0, 1) := by decide +kernel
theorem dX7_push_94 : decode cX7_push 94 = .ok (.getfield 51, 3) := by decide +kernel
theorem dX7_push_97 : decode cX7_push 97 = .ok (.iload 5, 2) := by decide +kernel
theorem dX7_push_99 : decode cX7_push 99 = .ok (.aload_n 0, 1) := by decide +kernel
theorem dX7_push_100 : decode cX7_push 100 = .ok (.getfield 51, 3) := by decide +kernel
theorem dX7_push_103 : decode cX7_push 103 = .ok (.iload 5, 2) := by decide +kernel
theorem dX7_push_105 : decode cX7_push 105 = .ok (.iload_n 2, 1) := by decide +kernel
theorem dX7_push_106 : decode cX7_push 106 = .ok (.isub, 1) := by decide +kernel
theorem dX7_push_107 : decode cX7_push 107 = .ok (.iaload, 1) := by decide +kernel
theorem dX7_push_108 : decode cX7_push 108 = .ok (.iastore, 1) := by decide +kernel
theorem dX7_push_109 : decode cX7_push 109 = .ok (.iload 5, 2) := by decide +kernel
theorem dX7_push_111 : decode cX7_push 111 = .ok (.iload_n 2, 1) := by decide +kernel
theorem dX7_push_112 : decode cX7_push 112 = .ok (.isub, 1) := by decide +kernel
theorem dX7_push_113 : decode cX7_push 113 = .ok (.istore 5, 2) := by decide +kernel
theorem dX7_push_115 : decode cX7_push 115 = .ok (.goto (-52), 3) := by decide +kernel
theorem dX7_push_118 : decode cX7_push 118 = .ok (.aload_n 0, 1) := by decide +kernel
theorem dX7_push_119 : decode cX7_push 119 = .ok (.getfield 51, 3) := by decide +kernel
theorem dX7_push_122 : decode cX7_push 122 = .ok (.iload 5, 2) := by decide +kernel
theorem dX7_push_124 : decode cX7_push 124 = .ok (.iload 4, 2) := by decide +kernel
theorem dX7_push_126 : decode cX7_push 126 = .ok (.iastore, 1) := by decide +kernel
theorem dX7_push_127 : decode cX7_push 127 = .ok (.iinc 3 1, 3) := by decide +kernel
theorem dX7_push_130 : decode cX7_push 130 = .ok (.goto (-83), 3) := by decide +kernel
theorem dX7_push_133 : decode cX7_push 133 = .ok (.iload_n 2, 1) := by decide +kernel
theorem dX7_push_134 : decode cX7_push 134 = .ok (.iconst 2, 1) := by decide +kernel
theorem dX7_push_135 : decode cX7_push 135 = .ok (.idiv, 1) := by decide +kernel
theorem dX7_push_136 : decode cX7_push 136 = .ok (.istore_n 2, 1) := by decide +kernel
theorem dX7_push_137 : decode cX7_push 137 = .ok (.goto (-96), 3) := by decide +kernel
theorem dX7_push_140 : decode cX7_push 140 = .ok (.iconst 0, 1) := by decide +kernel
theorem dX7_push_141 : decode cX7_push 141 = .ok (.istore_n 2, 1) := by decide +kernel
theorem dX7_push_142 : decode cX7_push 142 = .ok (.iconst 0, 1) := by decide +kernel
theorem dX7_push_143 : decode cX7_push 143 = .ok (.istore_n 3, 1) := by decide +kernel
theorem dX7_push_144 : decode cX7_push 144 = .ok (.iload_n 3, 1) := by decide +kernel
theorem dX7_push_145 : decode cX7_push 145 = .ok (.iload_n 1, 1) := by decide +kernel
theorem dX7_push_146 : decode cX7_push 146 = .ok (.if_icmp .ge 87, 3) := by decide +kernel
theorem dX7_push_149 : decode cX7_push 149 = .ok (.aload_n 0, 1) := by decide +kernel
theorem dX7_push_150 : decode cX7_push 150 = .ok (.getfield 51, 3) := by decide +kernel
theorem dX7_push_153 : decode cX7_push 153 = .ok (.iload_n 3, 1) := by decide +kernel
theorem dX7_push_154 : decode cX7_push 154 = .ok (.iaload, 1) := by decide +kernel
theorem dX7_push_155 : decode cX7_push 155 = .ok (.istore 4, 2) := by decide +kernel
theorem dX7_push_157 : decode cX7_push 157 = .ok (.aload_n 0, 1) := by decide +kernel
theorem dX7_push_158 : decode cX7_push 158 = .ok (.getfield 20, 3) := by decide +kernel
theorem dX7_push_161 : decode cX7_push 161 = .ok (.iload 4, 2) := by decide +kernel
theorem dX7_push_163 : decode cX7_push 163 = .ok (.iaload, 1) := by decide +kernel
theorem dX7_push_164 : decode cX7_push 164 = .ok (.aload_n 0, 1) := by decide +kernel
theorem dX7_push_165 : decode cX7_push 165 = .ok (.getfield 23, 3) := by decide +kernel
theorem dX7_push_168 : decode cX7_push 168 = .ok (.iload 4, 2) := by decide +kernel
theorem dX7_push_170 : decode cX7_push 170 = .ok (.iaload, 1) := by decide +kernel
theorem dX7_push_171 : decode cX7_push 171 = .ok (.iadd, 1) := by decide +kernel
theorem dX7_push_172 : decode cX7_push 172 = .ok (.istore 5, 2) := by decide +kernel
theorem dX7_push_174 : decode cX7_push 174 = .ok (.iconst 0, 1) := by decide +kernel
theorem dX7_push_175 : decode cX7_push 175 = .ok (.istore 6, 2) := by decide +kernel
theorem dX7_push_177 : decode cX7_push 177 = .ok (.iload 6, 2) := by decide +kernel
theorem dX7_push_179 : decode cX7_push 179 = .ok (.iload 5, 2) := by decide +kernel
theorem dX7_push_181 : decode cX7_push 181 = .ok (.if_icmp .ge 33, 3) := by decide +kernel
theorem dX7_push_184 : decode cX7_push 184 = .ok (.aload_n 0, 1) := by decide +kernel
theorem dX7_push_185 : decode cX7_push 185 = .ok (.getfield 57, 3) := by decide +kernel
theorem dX7_push_188 : decode cX7_push 188 = .ok (.iload_n 2, 1) := by decide +kernel
theorem dX7_push_189 : decode cX7_push 189 = .ok (.iload 6, 2) := by decide +kernel
theorem dX7_push_191 : decode cX7_push 191 = .ok (.iadd, 1) := by decide +kernel
theorem dX7_push_192 : decode cX7_push 192 = .ok (.aload_n 0, 1) := by decide +kernel
theorem dX7_push_193 : decode cX7_push 193 = .ok (.getfield 57, 3) := by decide +kernel
theorem dX7_push_196 : decode cX7_push 196 = .ok (.aload_n 0, 1) := by decide +kernel
theorem dX7_push_197 : decode cX7_push 197 = .ok (.getfield 17, 3) := by decide +kernel
theorem dX7_push_200 : decode cX7_push 200 = .ok (.iload 4, 2) := by decide +kernel
theorem dX7_push_202 : decode cX7_push 202 = .ok (.iaload, 1) := by decide +kernel
theorem dX7_push_203 : decode cX7_push 203 = .ok (.iload 6, 2) := by decide +kernel
theorem dX7_push_205 : decode cX7_push 205 = .ok (.iadd, 1) := by decide +kernel
theorem dX7_push_206 : decode cX7_push 206 = .ok (.laload, 1) := by decide +kernel
theorem dX7_push_207 : decode cX7_push 207 = .ok (.lastore, 1) := by decide +kernel
theorem dX7_push_208 : decode cX7_push 208 = .ok (.iinc 6 1, 3) := by decide +kernel
theorem dX7_push_211 : decode cX7_push 211 = .ok (.goto (-34), 3) := by decide +kernel
theorem dX7_push_214 : decode cX7_push 214 = .ok (.aload_n 0, 1) := by decide +kernel
theorem dX7_push_215 : decode cX7_push 215 = .ok (.getfield 17, 3) := by decide +kernel
theorem dX7_push_218 : decode cX7_push 218 = .ok (.iload 4, 2) := by decide +kernel
theorem dX7_push_220 : decode cX7_push 220 = .ok (.iload_n 2, 1) := by decide +kernel
theorem dX7_push_221 : decode cX7_push 221 = .ok (.iastore, 1) := by decide +kernel
theorem dX7_push_222 : decode cX7_push 222 = .ok (.iload_n 2, 1) := by decide +kernel
theorem dX7_push_223 : decode cX7_push 223 = .ok (.iload 5, 2) := by decide +kernel
theorem dX7_push_225 : decode cX7_push 225 = .ok (.iadd, 1) := by decide +kernel
theorem dX7_push_226 : decode cX7_push 226 = .ok (.istore_n 2, 1) := by decide +kernel
theorem dX7_push_227 : decode cX7_push 227 = .ok (.iinc 3 1, 3) := by decide +kernel
theorem dX7_push_230 : decode cX7_push 230 = .ok (.goto (-86), 3) := by decide +kernel
theorem dX7_push_233 : decode cX7_push 233 = .ok (.aload_n 0, 1) := by decide +kernel
theorem dX7_push_234 : decode cX7_push 234 = .ok (.iload_n 2, 1) := by decide +kernel
theorem dX7_push_235 : decode cX7_push 235 = .ok (.putfield 93, 3) := by decide +kernel
theorem dX7_push_238 : decode cX7_push 238 = .ok (.return_, 1) := by decide +kernel
theorem dX7_reach_0 : decode cX7_reach 0 = .ok (.iload_n 1, 1) := by decide +kernel
theorem dX7_reach_1 : decode cX7_reach 1 = .ok (.ifCond .eq 12, 3) := by decide +kernel
theorem dX7_reach_4 : decode cX7_reach 4 = .ok (.aload_n 0, 1) := by decide +kernel
theorem dX7_reach_5 : decode cX7_reach 5 = .ok (.getfield 48, 3) := by decide +kernel
theorem dX7_reach_8 : decode cX7_reach 8 = .ok (.iload_n 1, 1) := by decide +kernel
theorem dX7_reach_9 : decode cX7_reach 9 = .ok (.baload, 1) := by decide +kernel
theorem dX7_reach_10 : decode cX7_reach 10 = .ok (.ifCond .eq 4, 3) := by decide +kernel
theorem dX7_reach_13 : decode cX7_reach 13 = .ok (.return_, 1) := by decide +kernel
theorem dX7_reach_14 : decode cX7_reach 14 = .ok (.aload_n 0, 1) := by decide +kernel
