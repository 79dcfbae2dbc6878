theorem dX7_give_33 : decode cX7_give 33 = .ok (.ifCond .ne 8, 3) := by decide +kernel
theorem dX7_give_36 : decode cX7_give 36 = .ok (.aload_n 0, 1) := by decide +kernel
theorem dX7_give_37 : decode cX7_give 37 = .ok (.invokevirtual 160, 3) := by decide +kernel
theorem dX7_give_40 : decode cX7_give 40 = .ok (.ireturn, 1) := by decide +kernel
theorem dX7_give_41 : decode cX7_give 41 = .ok (.aload_n 0, 1) := by decide +kernel
theorem dX7_give_42 : decode cX7_give 42 = .ok (.getfield 32, 3) := by decide +kernel
theorem dX7_give_45 : decode cX7_give 45 = .ok (.aload_n 0, 1) := by decide +kernel
theorem dX7_give_46 : decode cX7_give 46 = .ok (.getfield 64, 3) := by decide +kernel
theorem dX7_give_49 : decode cX7_give 49 = .ok (.iload_n 1, 1) := by decide +kernel
theorem dX7_give_50 : decode cX7_give 50 = .ok (.iaload, 1) := by decide +kernel
theorem dX7_give_51 : decode cX7_give 51 = .ok (.iaload, 1) := by decide +kernel
theorem dX7_give_52 : decode cX7_give 52 = .ok (.ifCond .ne 5, 3) := by decide +kernel
theorem dX7_give_55 : decode cX7_give 55 = .ok (.iconst 0, 1) := by decide +kernel
theorem dX7_give_56 : decode cX7_give 56 = .ok (.ireturn, 1) := by decide +kernel
theorem dX7_give_57 : decode cX7_give 57 = .ok (.aload_n 0, 1) := by decide +kernel
theorem dX7_give_58 : decode cX7_give 58 = .ok (.getfield 35, 3) := by decide +kernel
theorem dX7_give_61 : decode cX7_give 61 = .ok (.aload_n 0, 1) := by decide +kernel
theorem dX7_give_62 : decode cX7_give 62 = .ok (.getfield 64, 3) := by decide +kernel
theorem dX7_give_65 : decode cX7_give 65 = .ok (.iload_n 1, 1) := by decide +kernel
theorem dX7_give_66 : decode cX7_give 66 = .ok (.iaload, 1) := by decide +kernel
theorem dX7_give_67 : decode cX7_give 67 = .ok (.aload_n 0, 1) := by decide +kernel
theorem dX7_give_68 : decode cX7_give 68 = .ok (.iload_n 2, 1) := by decide +kernel
theorem dX7_give_69 : decode cX7_give 69 = .ok (.invokevirtual 163, 3) := by decide +kernel
theorem dX7_give_72 : decode cX7_give 72 = .ok (.iastore, 1) := by decide +kernel
theorem dX7_give_73 : decode cX7_give 73 = .ok (.iconst 1, 1) := by decide +kernel
theorem dX7_give_74 : decode cX7_give 74 = .ok (.ireturn, 1) := by decide +kernel
theorem dX7_clear_0 : decode cX7_clear 0 = .ok (.aload_n 0, 1) := by decide +kernel
theorem dX7_clear_1 : decode cX7_clear 1 = .ok (.iconst 0, 1) := by decide +kernel
theorem dX7_clear_2 : decode cX7_clear 2 = .ok (.putfield 1, 3) := by decide +kernel
theorem dX7_clear_5 : decode cX7_clear 5 = .ok (.aload_n 0, 1) := by decide +kernel
theorem dX7_clear_6 : decode cX7_clear 6 = .ok (.iload_n 1, 1) := by decide +kernel
theorem dX7_clear_7 : decode cX7_clear 7 = .ok (.invokevirtual 136, 3) := by decide +kernel
theorem dX7_clear_10 : decode cX7_clear 10 = .ok (.ifCond .eq 8, 3) := by decide +kernel
theorem dX7_clear_13 : decode cX7_clear 13 = .ok (.aload_n 0, 1) := by decide +kernel
theorem dX7_clear_14 : decode cX7_clear 14 = .ok (.invokevirtual 139, 3) := by decide +kernel
theorem dX7_clear_17 : decode cX7_clear 17 = .ok (.ireturn, 1) := by decide +kernel
theorem dX7_clear_18 : decode cX7_clear 18 = .ok (.aload_n 0, 1) := by decide +kernel
theorem dX7_clear_19 : decode cX7_clear 19 = .ok (.getfield 64, 3) := by decide +kernel
theorem dX7_clear_22 : decode cX7_clear 22 = .ok (.iload_n 1, 1) := by decide +kernel
theorem dX7_clear_23 : decode cX7_clear 23 = .ok (.iaload, 1) := by decide +kernel
theorem dX7_clear_24 : decode cX7_clear 24 = .ok (.istore_n 3, 1) := by decide +kernel
theorem dX7_clear_25 : decode cX7_clear 25 = .ok (.aload_n 0, 1) := by decide +kernel
theorem dX7_clear_26 : decode cX7_clear 26 = .ok (.iload_n 3, 1) := by decide +kernel
theorem dX7_clear_27 : decode cX7_clear 27 = .ok (.invokevirtual 176, 3) := by decide +kernel
theorem dX7_clear_30 : decode cX7_clear 30 = .ok (.ifCond .ne 8, 3) := by decide +kernel
theorem dX7_clear_33 : decode cX7_clear 33 = .ok (.aload_n 0, 1) := by decide +kernel
theorem dX7_clear_34 : decode cX7_clear 34 = .ok (.invokevirtual 160, 3) := by decide +kernel
theorem dX7_clear_37 : decode cX7_clear 37 = .ok (.ireturn, 1) := by decide +kernel
theorem dX7_clear_38 : decode cX7_clear 38 = .ok (.aload_n 0, 1) := by decide +kernel
theorem dX7_clear_39 : decode cX7_clear 39 = .ok (.getfield 32, 3) := by decide +kernel
theorem dX7_clear_42 : decode cX7_clear 42 = .ok (.iload_n 3, 1) := by decide +kernel
theorem dX7_clear_43 : decode cX7_clear 43 = .ok (.iconst 0, 1) := by decide +kernel
theorem dX7_clear_44 : decode cX7_clear 44 = .ok (.iastore, 1) := by decide +kernel
theorem dX7_clear_45 : decode cX7_clear 45 = .ok (.aload_n 0, 1) := by decide +kernel
theorem dX7_clear_46 : decode cX7_clear 46 = .ok (.getfield 35, 3) := by decide +kernel
theorem dX7_clear_49 : decode cX7_clear 49 = .ok (.iload_n 3, 1) := by decide +kernel
theorem dX7_clear_50 : decode cX7_clear 50 = .ok (.iconst 0, 1) := by decide +kernel
theorem dX7_clear_51 : decode cX7_clear 51 = .ok (.iastore, 1) := by decide +kernel
theorem dX7_clear_52 : decode cX7_clear 52 = .ok (.iload_n 2, 1) := by decide +kernel
theorem dX7_clear_53 : decode cX7_clear 53 = .ok (.ifCond .eq 15, 3) := by decide +kernel
theorem dX7_clear_56 : decode cX7_clear 56 = .ok (.aload_n 0, 1) := by decide +kernel
theorem dX7_clear_57 : decode cX7_clear 57 = .ok (.iload_n 3, 1) := by decide +kernel
theorem dX7_clear_58 : decode cX7_clear 58 = .ok (.invokevirtual 125, 3) := by decide +kernel
theorem dX7_clear_61 : decode cX7_clear 61 = .ok (.ifCond .eq 7, 3) := by decide +kernel
theorem dX7_clear_64 : decode cX7_clear 64 = .ok (.iconst 1, 1) := by decide +kernel
theorem dX7_clear_65 : decode cX7_clear 65 = .ok (.goto 4, 3) := by decide +kernel
theorem dX7_clear_68 : decode cX7_clear 68 = .ok (.iconst 0, 1) := by decide +kernel
theorem dX7_clear_69 : decode cX7_clear 69 = .ok (.ireturn, 1) := by decide +kernel
theorem dX7_poll_0 : decode cX7_poll 0 = .ok (.aload_n 0, 1) := by decide +kernel
theorem dX7_poll_1 : decode cX7_poll 1 = .ok (.iconst 0, 1) := by decide +kernel
theorem dX7_poll_2 : decode cX7_poll 2 = .ok (.putfield 1, 3) := by decide +kernel
theorem dX7_poll_5 : decode cX7_poll 5 = .ok (.aload_n 0, 1) := by decide +kernel
theorem dX7_poll_6 : decode cX7_poll 6 = .ok (.iload_n 1, 1) := by decide +kernel
theorem dX7_poll_7 : decode cX7_poll 7 = .ok (.invokevirtual 136, 3) := by decide +kernel
theorem dX7_poll_10 : decode cX7_poll 10 = .ok (.ifCond .ne 11, 3) := by decide +kernel
theorem dX7_poll_13 : decode cX7_poll 13 = .ok (.aload_n 0, 1) := by decide +kernel
theorem dX7_poll_14 : decode cX7_poll 14 = .ok (.iload_n 2, 1) := by decide +kernel
theorem dX7_poll_15 : decode cX7_poll 15 = .ok (.invokevirtual 136, 3) := by decide +kernel
theorem dX7_poll_18 : decode cX7_poll 18 = .ok (.ifCond .eq 8, 3) := by decide +kernel
theorem dX7_poll_21 : decode cX7_poll 21 = .ok (.aload_n 0, 1) := by decide +kernel
theorem dX7_poll_22 : decode cX7_poll 22 = .ok (.invokevirtual 139, 3) := by decide +kernel
theorem dX7_poll_25 : decode cX7_poll 25 = .ok (.ireturn, 1) := by decide +kernel
theorem dX7_poll_26 : decode cX7_poll 26 = .ok (.aload_n 0, 1) := by decide +kernel
theorem dX7_poll_27 : decode cX7_poll 27 = .ok (.iload_n 2, 1) := by decide +kernel
theorem dX7_poll_28 : decode cX7_poll 28 = .ok (.iconst 3, 1) := by decide +kernel
theorem dX7_poll_29 : decode cX7_poll 29 = .ok (.invokevirtual 156, 3) := by decide +kernel
theorem dX7_poll_32 : decode cX7_poll 32 = .ok (.ifCond .ne 8, 3) := by decide +kernel
theorem dX7_poll_35 : decode cX7_poll 35 = .ok (.aload_n 0, 1) := by decide +kernel
theorem dX7_poll_36 : decode cX7_poll 36 = .ok (.invokevirtual 160, 3) := by decide +kernel
theorem dX7_poll_39 : decode cX7_poll 39 = .ok (.ireturn, 1) := by decide +kernel
theorem dX7_poll_40 : decode cX7_poll 40 = .ok (.aload_n 0, 1) := by decide +kernel
theorem dX7_poll_41 : decode cX7_poll 41 = .ok (.getfield 64, 3) := by decide +kernel
theorem dX7_poll_44 : decode cX7_poll 44 = .ok (.iload_n 2, 1) := by decide +kernel
theorem dX7_poll_45 : decode cX7_poll 45 = .ok (.iaload, 1) := by decide +kernel
theorem dX7_poll_46 : decode cX7_poll 46 = .ok (.istore_n 3, 1) := by decide +kernel
theorem dX7_poll_47 : decode cX7_poll 47 = .ok (.aload_n 0, 1) := by decide +kernel
theorem dX7_poll_48 : decode cX7_poll 48 = .ok (.getfield 32, 3) := by decide +kernel
theorem dX7_poll_51 : decode cX7_poll 51 = .ok (.iload_n 3, 1) := by decide +kernel
theorem dX7_poll_52 : decode cX7_poll 52 = .ok (.iaload, 1) := by decide +kernel
theorem dX7_poll_53 : decode cX7_poll 53 = .ok (.istore 4, 2) := by decide +kernel
theorem dX7_poll_55 : decode cX7_poll 55 = .ok (.iload 4, 2) := by decide +kernel
theorem dX7_poll_57 : decode cX7_poll 57 = .ok (.ifCond .eq 51, 3) := by decide +kernel
theorem dX7_poll_60 : decode cX7_poll 60 = .ok (.aload_n 0, 1) := by decide +kernel
theorem dX7_poll_61 : decode cX7_poll 61 = .ok (.getfield 32, 3) := by decide +kernel
theorem dX7_poll_64 : decode cX7_poll 64 = .ok (.iload_n 3, 1) := by decide +kernel
theorem dX7_poll_65 : decode cX7_poll 65 = .ok (.aload_n 0, 1) := by decide +kernel
theorem dX7_poll_66 : decode cX7_poll 66 = .ok (.getfield 29, 3) := by decide +kernel
theorem dX7_poll_69 : decode cX7_poll 69 = .ok (.iload 4, 2) := by decide +kernel
theorem dX7_poll_71 : decode cX7_poll 71 = .ok (.iaload, 1) := by decide +kernel
theorem dX7_poll_72 : decode cX7_poll 72 = .ok (.iastore, 1) := by decide +kernel
theorem dX7_poll_73 : decode cX7_poll 73 = .ok (.aload_n 0, 1) := by decide +kernel
theorem dX7_poll_74 : decode cX7_poll 74 = .ok (.getfield 29, 3) := by decide +kernel
theorem dX7_poll_77 : decode cX7_poll 77 = .ok (.iload 4, 2) := by decide +kernel
theorem dX7_poll_79 : decode cX7_poll 79 = .ok (.iaload, 1) := by decide +kernel
theorem dX7_poll_80 : decode cX7_poll 80 = .ok (.ifCond .ne 10, 3) := by decide +kernel
theorem dX7_poll_83 : decode cX7_poll 83 = .ok (.aload_n 0, 1) := by decide +kernel
theorem dX7_poll_84 : decode cX7_poll 84 = .ok (.getfield 35, 3) := by decide +kernel
theorem dX7_poll_87 : decode cX7_poll 87 = .ok (.iload_n 3, 1) := by decide +kernel
theorem dX7_poll_88 : decode cX7_poll 88 = .ok (.iconst 0, 1) := by decide +kernel
theorem dX7_poll_89 : decode cX7_poll 89 = .ok (.iastore, 1) := by decide +kernel
theorem dX7_poll_90 : decode cX7_poll 90 = .ok (.aload_n 0, 1) := by decide +kernel
theorem dX7_poll_91 : decode cX7_poll 91 = .ok (.getfield 29, 3) := by decide +kernel
theorem dX7_poll_94 : decode cX7_poll 94 = .ok (.iload 4, 2) := by decide +kernel
theorem dX7_poll_96 : decode cX7_poll 96 = .ok (.iconst 0, 1) := by decide +kernel
theorem dX7_poll_97 : decode cX7_poll 97 = .ok (.iastore, 1) := by decide +kernel
theorem dX7_poll_98 : decode cX7_poll 98 = .ok (.aload_n 0, 1) := by decide +kernel
theorem dX7_poll_99 : decode cX7_poll 99 = .ok (.getfield 41, 3) := by decide +kernel
theorem dX7_poll_102 : decode cX7_poll 102 = .ok (.iload_n 3, 1) := by decide +kernel
theorem dX7_poll_103 : decode cX7_poll 103 = .ok (.dup2, 1) := by decide +kernel
theorem dX7_poll_104 : decode cX7_poll 104 = .ok (.iaload, 1) := by decide +kernel
theorem dX7_poll_105 : decode cX7_poll 105 = .ok (.iconst 1, 1) := by decide +kernel
theorem dX7_poll_106 : decode cX7_poll 106 = .ok (.isub, 1) := by decide +kernel
theorem dX7_poll_107 : decode cX7_poll 107 = .ok (.iastore, 1) := by decide +kernel
theorem dX7_poll_108 : decode cX7_poll 108 = .ok (.aload_n 0, 1) := by decide +kernel
theorem dX7_poll_109 : decode cX7_poll 109 = .ok (.iload_n 1, 1) := by decide +kernel
theorem dX7_poll_110 : decode cX7_poll 110 = .ok (.iload 4, 2) := by decide +kernel
theorem dX7_poll_112 : decode cX7_poll 112 = .ok (.invokevirtual 170, 3) := by decide +kernel
theorem dX7_poll_115 : decode cX7_poll 115 = .ok (.ireturn, 1) := by decide +kernel
theorem dX7_waiting_0 : decode cX7_waiting 0 = .ok (.aload_n 0, 1) := by decide +kernel
theorem dX7_waiting_1 : decode cX7_waiting 1 = .ok (.iconst 0, 1) := by decide +kernel
theorem dX7_waiting_2 : decode cX7_waiting 2 = .ok (.putfield 1, 3) := by decide +kernel
theorem dX7_waiting_5 : decode cX7_waiting 5 = .ok (.aload_n 0, 1) := by decide +kernel
theorem dX7_waiting_6 : decode cX7_waiting 6 = .ok (.iload_n 1, 1) := by decide +kernel
theorem dX7_waiting_7 : decode cX7_waiting 7 = .ok (.invokevirtual 136, 3) := by decide +kernel
theorem dX7_waiting_10 : decode cX7_waiting 10 = .ok (.ifCond .eq 8, 3) := by decide +kernel
theorem dX7_waiting_13 : decode cX7_waiting 13 = .ok (.aload_n 0, 1) := by decide +kernel
theorem dX7_waiting_14 : decode cX7_waiting 14 = .ok (.invokevirtual 139, 3) := by decide +kernel
theorem dX7_waiting_17 : decode cX7_waiting 17 = .ok (.ireturn, 1) := by decide +kernel
theorem dX7_waiting_18 : decode cX7_waiting 18 = .ok (.aload_n 0, 1) := by decide +kernel
theorem dX7_waiting_19 : decode cX7_waiting 19 = .ok (.iload_n 1, 1) := by decide +kernel
theorem dX7_waiting_20 : decode cX7_waiting 20 = .ok (.iconst 3, 1) := by decide +kernel
theorem dX7_waiting_21 : decode cX7_waiting 21 = .ok (.invokevirtual 156, 3) := by decide +kernel
theorem dX7_waiting_24 : decode cX7_waiting 24 = .ok (.ifCond .eq 17, 3) := by decide +kernel
theorem dX7_waiting_27 : decode cX7_waiting 27 = .ok (.aload_n 0, 1) := by decide +kernel
theorem dX7_waiting_28 : decode cX7_waiting 28 = .ok (.getfield 41, 3) := by decide +kernel
theorem dX7_waiting_31 : decode cX7_waiting 31 = .ok (.aload_n 0, 1) := by decide +kernel
theorem dX7_waiting_32 : decode cX7_waiting 32 = .ok (.getfield 64, 3) := by decide +kernel
theorem dX7_waiting_35 : decode cX7_waiting 35 = .ok (.iload_n 1, 1) := by decide +kernel
theorem dX7_waiting_36 : decode cX7_waiting 36 = .ok (.iaload, 1) := by decide +kernel
theorem dX7_waiting_37 : decode cX7_waiting 37 = .ok (.iaload, 1) := by decide +kernel
theorem dX7_waiting_38 : decode cX7_waiting 38 = .ok (.goto 7, 3) := by decide +kernel
theorem dX7_waiting_41 : decode cX7_waiting 41 = .ok (.aload_n 0, 1) := by decide +kernel
theorem dX7_waiting_42 : decode cX7_waiting 42 = .ok (.invokevirtual 160, 3) := by decide +kernel
theorem dX7_waiting_45 : decode cX7_waiting 45 = .ok (.ireturn, 1) := by decide +kernel
theorem dX7_kind_0 : decode cX7_kind 0 = .ok (.aload_n 0, 1) := by decide +kernel
theorem dX7_kind_1 : decode cX7_kind 1 = .ok (.iconst 0, 1) := by decide +kernel
theorem dX7_kind_2 : decode cX7_kind 2 = .ok (.putfield 1, 3) := by decide +kernel
theorem dX7_kind_5 : decode cX7_kind 5 = .ok (.aload_n 0, 1) := by decide +kernel
theorem dX7_kind_6 : decode cX7_kind 6 = .ok (.iload_n 1, 1) := by decide +kernel
theorem dX7_kind_7 : decode cX7_kind 7 = .ok (.invokevirtual 136, 3) := by decide +kernel
theorem dX7_kind_10 : decode cX7_kind 10 = .ok (.ifCond .eq 8, 3) := by decide +kernel
theorem dX7_kind_13 : decode cX7_kind 13 = .ok (.aload_n 0, 1) := by decide +kernel
theorem dX7_kind_14 : decode cX7_kind 14 = .ok (.invokevirtual 139, 3) := by decide +kernel
theorem dX7_kind_17 : decode cX7_kind 17 = .ok (.ireturn, 1) := by decide +kernel
theorem dX7_kind_18 : decode cX7_kind 18 = .ok (.aload_n 0, 1) := by decide +kernel
theorem dX7_kind_19 : decode cX7_kind 19 = .ok (.getfield 64, 3) := by decide +kernel
theorem dX7_kind_22 : decode cX7_kind 22 = .ok (.iload_n 1, 1) := by decide +kernel
theorem dX7_kind_23 : decode cX7_kind 23 = .ok (.iaload, 1) := by decide +kernel
theorem dX7_kind_24 : decode cX7_kind 24 = .ok (.ifCond .ne 7, 3) := by decide +kernel
theorem dX7_kind_27 : decode cX7_kind 27 = .ok (.iconst (-1), 1) := by decide +kernel
theorem dX7_kind_28 : decode cX7_kind 28 = .ok (.goto 14, 3) := by decide +kernel
theorem dX7_kind_31 : decode cX7_kind 31 = .ok (.aload_n 0, 1) := by decide +kernel
theorem dX7_kind_32 : decode cX7_kind 32 = .ok (.getfield 13, 3) := by decide +kernel
theorem dX7_kind_35 : decode cX7_kind 35 = .ok (.aload_n 0, 1) := by decide +kernel
theorem dX7_kind_36 : decode cX7_kind 36 = .ok (.getfield 64, 3) := by decide +kernel
theorem dX7_kind_39 : decode cX7_kind 39 = .ok (.iload_n 1, 1) := by decide +kernel
theorem dX7_kind_40 : decode cX7_kind 40 = .ok (.iaload, 1) := by decide +kernel
theorem dX7_kind_41 : decode cX7_kind 41 = .ok (.iaload, 1) := by decide +kernel
theorem dX7_kind_42 : decode cX7_kind 42 = .ok (.ireturn, 1) := by decide +kernel
theorem dX7_hash_0 : decode cX7_hash 0 = .ok (.aload_n 0, 1) := by decide +kernel
theorem dX7_hash_1 : decode cX7_hash 1 = .ok (.iconst 0, 1) := by decide +kernel
theorem dX7_hash_2 : decode cX7_hash 2 = .ok (.putfield 1, 3) := by decide +kernel
theorem dX7_hash_5 : decode cX7_hash 5 = .ok (.aload_n 0, 1) := by decide +kernel
theorem dX7_hash_6 : decode cX7_hash 6 = .ok (.iload_n 1, 1) := by decide +kernel
theorem dX7_hash_7 : decode cX7_hash 7 = .ok (.invokevirtual 136, 3) := by decide +kernel
theorem dX7_hash_10 : decode cX7_hash 10 = .ok (.ifCond .eq 8, 3) := by decide +kernel
theorem dX7_hash_13 : decode cX7_hash 13 = .ok (.aload_n 0, 1) := by decide +kernel
theorem dX7_hash_14 : decode cX7_hash 14 = .ok (.invokevirtual 139, 3) := by decide +kernel
theorem dX7_hash_17 : decode cX7_hash 17 = .ok (.ireturn, 1) := by decide +kernel
theorem dX7_hash_18 : decode cX7_hash 18 = .ok (.aload_n 0, 1) := by decide +kernel
theorem dX7_hash_19 : decode cX7_hash 19 = .ok (.getfield 64, 3) := by decide +kernel
theorem dX7_hash_22 : decode cX7_hash 22 = .ok (.iload_n 1, 1) := by decide +kernel
theorem dX7_hash_23 : decode cX7_hash 23 = .ok (.iaload, 1) := by decide +kernel
theorem dX7_hash_24 : decode cX7_hash 24 = .ok (.istore_n 2, 1) := by decide +kernel
theorem dX7_hash_25 : decode cX7_hash 25 = .ok (.iload_n 2, 1) := by decide +kernel
theorem dX7_hash_26 : decode cX7_hash 26 = .ok (.ifCond .eq 29, 3) := by decide +kernel
theorem dX7_hash_29 : decode cX7_hash 29 = .ok (.aload_n 0, 1) := by decide +kernel
theorem dX7_hash_30 : decode cX7_hash 30 = .ok (.getfield 26, 3) := by decide +kernel
theorem dX7_hash_33 : decode cX7_hash 33 = .ok (.iload_n 2, 1) := by decide +kernel
theorem dX7_hash_34 : decode cX7_hash 34 = .ok (.iaload, 1) := by decide +kernel
theorem dX7_hash_35 : decode cX7_hash 35 = .ok (.ifCond .ne 20, 3) := by decide +kernel
theorem dX7_hash_38 : decode cX7_hash 38 = .ok (.aload_n 0, 1) := by decide +kernel
theorem dX7_hash_39 : decode cX7_hash 39 = .ok (.getfield 26, 3) := by decide +kernel
theorem dX7_hash_42 : decode cX7_hash 42 = .ok (.iload_n 2, 1) := by decide +kernel
theorem dX7_hash_43 : decode cX7_hash 43 = .ok (.aload_n 0, 1) := by decide +kernel
theorem dX7_hash_44 : decode cX7_hash 44 = .ok (.dup, 1) := by decide +kernel
theorem dX7_hash_45 : decode cX7_hash 45 = .ok (.getfield 179, 3) := by decide +kernel
theorem dX7_hash_48 : decode cX7_hash 48 = .ok (.iconst 1, 1) := by decide +kernel
theorem dX7_hash_49 : decode cX7_hash 49 = .ok (.iadd, 1) := by decide +kernel
theorem dX7_hash_50 : decode cX7_hash 50 = .ok (.dup_x1, 1) := by decide +kernel
theorem dX7_hash_51 : decode cX7_hash 51 = .ok (.putfield 179, 3) := by decide +kernel
theorem dX7_hash_54 : decode cX7_hash 54 = .ok (.iastore, 1) := by decide +kernel
theorem dX7_hash_55 : decode cX7_hash 55 = .ok (.iload_n 2, 1) := by decide +kernel
theorem dX7_hash_56 : decode cX7_hash 56 = .ok (.ifCond .ne 7, 3) := by decide +kernel
theorem dX7_hash_59 : decode cX7_hash 59 = .ok (.iconst 0, 1) := by decide +kernel
theorem dX7_hash_60 : decode cX7_hash 60 = .ok (.goto 9, 3) := by decide +kernel
theorem dX7_hash_63 : decode cX7_hash 63 = .ok (.aload_n 0, 1) := by decide +kernel
theorem dX7_hash_64 : decode cX7_hash 64 = .ok (.getfield 26, 3) := by decide +kernel
theorem dX7_hash_67 : decode cX7_hash 67 = .ok (.iload_n 2, 1) := by decide +kernel
theorem dX7_hash_68 : decode cX7_hash 68 = .ok (.iaload, 1) := by decide +kernel
theorem dX7_hash_69 : decode cX7_hash 69 = .ok (.ireturn, 1) := by decide +kernel
theorem dX7_same_0 : decode cX7_same 0 = .ok (.aload_n 0, 1) := by decide +kernel
theorem dX7_same_1 : decode cX7_same 1 = .ok (.iconst 0, 1) := by decide +kernel
theorem dX7_same_2 : decode cX7_same 2 = .ok (.putfield 1, 3) := by decide +kernel
theorem dX7_same_5 : decode cX7_same 5 = .ok (.aload_n 0, 1) := by decide +kernel
theorem dX7_same_6 : decode cX7_same 6 = .ok (.iload_n 1, 1) := by decide +kernel
theorem dX7_same_7 : decode cX7_same 7 = .ok (.invokevirtual 136, 3) := by decide +kernel
theorem dX7_same_10 : decode cX7_same 10 = .ok (.ifCond .ne 11, 3) := by decide +kernel
theorem dX7_same_13 : decode cX7_same 13 = .ok (.aload_n 0, 1) := by decide +kernel
theorem dX7_same_14 : decode cX7_same 14 = .ok (.iload_n 2, 1) := by decide +kernel
theorem dX7_same_15 : decode cX7_same 15 = .ok (.invokevirtual 136, 3) := by decide +kernel
theorem dX7_same_18 : decode cX7_same 18 = .ok (.ifCond .eq 10, 3) := by decide +kernel
theorem dX7_same_21 : decode cX7_same 21 = .ok (.aload_n 0, 1) := by decide +kernel
theorem dX7_same_22 : decode cX7_same 22 = .ok (.iconst 1, 1) := by decide +kernel
theorem dX7_same_23 : decode cX7_same 23 = .ok (.putfield 1, 3) := by decide +kernel
theorem dX7_same_26 : decode cX7_same 26 = .ok (.iconst 0, 1) := by decide +kernel
theorem dX7_same_27 : decode cX7_same 27 = .ok (.ireturn, 1) := by decide +kernel
theorem dX7_same_28 : decode cX7_same 28 = .ok (.aload_n 0, 1) := by decide +kernel
theorem dX7_same_29 : decode cX7_same 29 = .ok (.getfield 64, 3) := by decide +kernel
theorem dX7_same_32 : decode cX7_same 32 = .ok (.iload_n 1, 1) := by decide +kernel
theorem dX7_same_33 : decode cX7_same 33 = .ok (.iaload, 1) := by decide +kernel
theorem dX7_same_34 : decode cX7_same 34 = .ok (.aload_n 0, 1) := by decide +kernel
theorem dX7_same_35 : decode cX7_same 35 = .ok (.getfield 64, 3) := by decide +kernel
theorem dX7_same_38 : decode cX7_same 38 = .ok (.iload_n 2, 1) := by decide +kernel
theorem dX7_same_39 : decode cX7_same 39 = .ok (.iaload, 1) := by decide +kernel
theorem dX7_same_40 : decode cX7_same 40 = .ok (.if_icmp .ne 7, 3) := by decide +kernel
theorem dX7_same_43 : decode cX7_same 43 = .ok (.iconst 1, 1) := by decide +kernel
theorem dX7_same_44 : decode cX7_same 44 = .ok (.goto 4, 3) := by decide +kernel
theorem dX7_same_47 : decode cX7_same 47 = .ok (.iconst 0, 1) := by decide +kernel
theorem dX7_same_48 : decode cX7_same 48 = .ok (.ireturn, 1) := by decide +kernel
theorem dX7_open_0 : decode cX7_open 0 = .ok (.aload_n 0, 1) := by decide +kernel
theorem dX7_open_1 : decode cX7_open 1 = .ok (.iconst 0, 1) := by decide +kernel
theorem dX7_open_2 : decode cX7_open 2 = .ok (.putfield 1, 3) := by decide +kernel
theorem dX7_open_5 : decode cX7_open 5 = .ok (.iload_n 1, 1) := by decide +kernel
theorem dX7_open_6 : decode cX7_open 6 = .ok (.iconst 1, 1) := by decide +kernel
theorem dX7_open_7 : decode cX7_open 7 = .ok (.if_icmp .lt 9, 3) := by decide +kernel
theorem dX7_open_10 : decode cX7_open 10 = .ok (.iload_n 1, 1) := by decide +kernel
theorem dX7_open_11 : decode cX7_open 11 = .ok (.bipush 16, 2) := by decide +kernel
theorem dX7_open_13 : decode cX7_open 13 = .ok (.if_icmp .le 8, 3) := by decide +kernel
theorem dX7_open_16 : decode cX7_open 16 = .ok (.aload_n 0, 1) := by decide +kernel
theorem dX7_open_17 : decode cX7_open 17 = .ok (.invokevirtual 139, 3) := by decide +kernel
theorem dX7_open_20 : decode cX7_open 20 = .ok (.ireturn, 1) := by decide +kernel
theorem dX7_open_21 : decode cX7_open 21 = .ok (.aload_n 0, 1) := by decide +kernel
theorem dX7_open_22 : decode cX7_open 22 = .ok (.getfield 182, 3) := by decide +kernel
theorem dX7_open_25 : decode cX7_open 25 = .ok (.bipush 20, 2) := by decide +kernel
theorem dX7_open_27 : decode cX7_open 27 = .ok (.if_icmp .ne 8, 3) := by decide +kernel
theorem dX7_open_30 : decode cX7_open 30 = .ok (.aload_n 0, 1) := by decide +kernel
theorem dX7_open_31 : decode cX7_open 31 = .ok (.invokevirtual 160, 3) := by decide +kernel
theorem dX7_open_34 : decode cX7_open 34 = .ok (.ireturn, 1) := by decide +kernel
theorem dX7_open_35 : decode cX7_open 35 = .ok (.aload_n 0, 1) := by decide +kernel
theorem dX7_open_36 : decode cX7_open 36 = .ok (.getfield 67, 3) := by decide +kernel
theorem dX7_open_39 : decode cX7_open 39 = .ok (.aload_n 0, 1) := by decide +kernel
theorem dX7_open_40 : decode cX7_open 40 = .ok (.dup, 1) := by decide +kernel
theorem dX7_open_41 : decode cX7_open 41 = .ok (.getfield 182, 3) := by decide +kernel
theorem dX7_open_44 : decode cX7_open 44 = .ok (.dup_x1, 1) := by decide +kernel
theorem dX7_open_45 : decode cX7_open 45 = .ok (.iconst 1, 1) := by decide +kernel
theorem dX7_open_46 : decode cX7_open 46 = .ok (.iadd, 1) := by decide +kernel
theorem dX7_open_47 : decode cX7_open 47 = .ok (.putfield 182, 3) := by decide +kernel
theorem dX7_open_50 : decode cX7_open 50 = .ok (.aload_n 0, 1) := by decide +kernel
theorem dX7_open_51 : decode cX7_open 51 = .ok (.getfield 70, 3) := by decide +kernel
theorem dX7_open_54 : decode cX7_open 54 = .ok (.iastore, 1) := by decide +kernel
theorem dX7_open_55 : decode cX7_open 55 = .ok (.iconst 0, 1) := by decide +kernel
theorem dX7_open_56 : decode cX7_open 56 = .ok (.istore_n 2, 1) := by decide +kernel
theorem dX7_open_57 : decode cX7_open 57 = .ok (.iload_n 2, 1) := by decide +kernel
theorem dX7_open_58 : decode cX7_open 58 = .ok (.iload_n 1, 1) := by decide +kernel
theorem dX7_open_59 : decode cX7_open 59 = .ok (.if_icmp .ge 26, 3) := by decide +kernel
theorem dX7_open_62 : decode cX7_open 62 = .ok (.aload_n 0, 1) := by decide +kernel
theorem dX7_open_63 : decode cX7_open 63 = .ok (.getfield 64, 3) := by decide +kernel
theorem dX7_open_66 : decode cX7_open 66 = .ok (.aload_n 0, 1) := by decide +kernel
theorem dX7_open_67 : decode cX7_open 67 = .ok (.dup, 1) := by decide +kernel
theorem dX7_open_68 : decode cX7_open 68 = .ok (.getfield 70, 3) := by decide +kernel
theorem dX7_open_71 : decode cX7_open 71 = .ok (.dup_x1, 1) := by decide +kernel
theorem dX7_open_72 : decode cX7_open 72 = .ok (.iconst 1, 1) := by decide +kernel
theorem dX7_open_73 : decode cX7_open 73 = .ok (.iadd, 1) := by decide +kernel
theorem dX7_open_74 : decode cX7_open 74 = .ok (.putfield 70, 3) := by decide +kernel
theorem dX7_open_77 : decode cX7_open 77 = .ok (.iconst 0, 1) := by decide +kernel
theorem dX7_open_78 : decode cX7_open 78 = .ok (.iastore, 1) := by decide +kernel
theorem dX7_open_79 : decode cX7_open 79 = .ok (.iinc 2 1, 3) := by decide +kernel
theorem dX7_open_82 : decode cX7_open 82 = .ok (.goto (-25), 3) := by decide +kernel
theorem dX7_open_85 : decode cX7_open 85 = .ok (.aload_n 0, 1) := by decide +kernel
theorem dX7_open_86 : decode cX7_open 86 = .ok (.getfield 70, 3) := by decide +kernel
theorem dX7_open_89 : decode cX7_open 89 = .ok (.iload_n 1, 1) := by decide +kernel
theorem dX7_open_90 : decode cX7_open 90 = .ok (.isub, 1) := by decide +kernel
theorem dX7_open_91 : decode cX7_open 91 = .ok (.ireturn, 1) := by decide +kernel
theorem dX7_close_0 : decode cX7_close 0 = .ok (.aload_n 0, 1) := by decide +kernel
theorem dX7_close_1 : decode cX7_close 1 = .ok (.iconst 0, 1) := by decide +kernel
theorem dX7_close_2 : decode cX7_close 2 = .ok (.putfield 1, 3) := by decide +kernel
theorem dX7_close_5 : decode cX7_close 5 = .ok (.aload_n 0, 1) := by decide +kernel
theorem dX7_close_6 : decode cX7_close 6 = .ok (.getfield 182, 3) := by decide +kernel
theorem dX7_close_9 : decode cX7_close 9 = .ok (.ifCond .ne 10, 3) := by decide +kernel
theorem dX7_close_12 : decode cX7_close 12 = .ok (.aload_n 0, 1) := by decide +kernel
theorem dX7_close_13 : decode cX7_close 13 = .ok (.iconst 1, 1) := by decide +kernel
theorem dX7_close_14 : decode cX7_close 14 = .ok (.putfield 1, 3) := by decide +kernel
theorem dX7_close_17 : decode cX7_close 17 = .ok (.iconst 0, 1) := by decide +kernel
theorem dX7_close_18 : decode cX7_close 18 = .ok (.ireturn, 1) := by decide +kernel
theorem dX7_close_19 : decode cX7_close 19 = .ok (.aload_n 0, 1) := by decide +kernel
theorem dX7_close_20 : decode cX7_close 20 = .ok (.aload_n 0, 1) := by decide +kernel
theorem dX7_close_21 : decode cX7_close 21 = .ok (.getfield 67, 3) := by decide +kernel
theorem dX7_close_24 : decode cX7_close 24 = .ok (.aload_n 0, 1) := by decide +kernel
theorem dX7_close_25 : decode cX7_close 25 = .ok (.dup, 1) := by decide +kernel
theorem dX7_close_26 : decode cX7_close 26 = .ok (.getfield 182, 3) := by decide +kernel
theorem dX7_close_29 : decode cX7_close 29 = .ok (.iconst 1, 1) := by decide +kernel
theorem dX7_close_30 : decode cX7_close 30 = .ok (.isub, 1) := by decide +kernel
theorem dX7_close_31 : decode cX7_close 31 = .ok (.dup_x1, 1) := by decide +kernel
theorem dX7_close_32 : decode cX7_close 32 = .ok (.putfield 182, 3) := by decide +kernel
theorem dX7_close_35 : decode cX7_close 35 = .ok (.iaload, 1) := by decide +kernel
theorem dX7_close_36 : decode cX7_close 36 = .ok (.putfield 70, 3) := by decide +kernel
theorem dX7_close_39 : decode cX7_close 39 = .ok (.aload_n 0, 1) := by decide +kernel
theorem dX7_close_40 : decode cX7_close 40 = .ok (.getfield 70, 3) := by decide +kernel
theorem dX7_close_43 : decode cX7_close 43 = .ok (.ireturn, 1) := by decide +kernel
theorem dX7_collect_0 : decode cX7_collect 0 = .ok (.aload_n 0, 1) := by decide +kernel
theorem dX7_collect_1 : decode cX7_collect 1 = .ok (.iconst 0, 1) := by decide +kernel
theorem dX7_collect_2 : decode cX7_collect 2 = .ok (.putfield 1, 3) := by decide +kernel
theorem dX7_collect_5 : decode cX7_collect 5 = .ok (.aload_n 0, 1) := by decide +kernel
theorem dX7_collect_6 : decode cX7_collect 6 = .ok (.iload_n 1, 1) := by decide +kernel
theorem dX7_collect_7 : decode cX7_collect 7 = .ok (.invokevirtual 83, 3) := by decide +kernel
theorem dX7_collect_10 : decode cX7_collect 10 = .ok (.ireturn, 1) := by decide +kernel
theorem dX7_every_0 : decode cX7_every 0 = .ok (.aload_n 0, 1) := by decide +kernel
theorem dX7_every_1 : decode cX7_every 1 = .ok (.iconst 0, 1) := by decide +kernel
theorem dX7_every_2 : decode cX7_every 2 = .ok (.putfield 1, 3) := by decide +kernel
theorem dX7_every_5 : decode cX7_every 5 = .ok (.iload_n 1, 1) := by decide +kernel
theorem dX7_every_6 : decode cX7_every 6 = .ok (.ifCond .ge 10, 3) := by decide +kernel
theorem dX7_every_9 : decode cX7_every 9 = .ok (.aload_n 0, 1) := by decide +kernel
theorem dX7_every_10 : decode cX7_every 10 = .ok (.invokevirtual 139, 3) := by decide +kernel
theorem dX7_every_13 : decode cX7_every 13 = .ok (.goto 4, 3) := by decide +kernel
theorem dX7_every_16 : decode cX7_every 16 = .ok (.iload_n 1, 1) := by decide +kernel
theorem dX7_every_17 : decode cX7_every 17 = .ok (.ireturn, 1) := by decide +kernel
theorem dX7_count_0 : decode cX7_count 0 = .ok (.aload_n 0, 1) := by decide +kernel
theorem dX7_count_1 : decode cX7_count 1 = .ok (.iconst 0, 1) := by decide +kernel
theorem dX7_count_2 : decode cX7_count 2 = .ok (.putfield 1, 3) := by decide +kernel
theorem dX7_count_5 : decode cX7_count 5 = .ok (.iload_n 1, 1) := by decide +kernel
theorem dX7_count_6 : decode cX7_count 6 = .ok (.tableswitch 104 0 9 #[54, 59, 64, 69, 74, 79, 84, 89, 94, 99], 54) := by decide +kernel
theorem dX7_count_60 : decode cX7_count 60 = .ok (.aload_n 0, 1) := by decide +kernel
theorem dX7_count_61 : decode cX7_count 61 = .ok (.getfield 80, 3) := by decide +kernel
theorem dX7_count_64 : decode cX7_count 64 = .ok (.ireturn, 1) := by decide +kernel
theorem dX7_count_65 : decode cX7_count 65 = .ok (.aload_n 0, 1) := by decide +kernel
theorem dX7_count_66 : decode cX7_count 66 = .ok (.getfield 99, 3) := by decide +kernel
theorem dX7_count_69 : decode cX7_count 69 = .ok (.ireturn, 1) := by decide +kernel
theorem dX7_count_70 : decode cX7_count 70 = .ok (.aload_n 0, 1) := by decide +kernel
theorem dX7_count_71 : decode cX7_count 71 = .ok (.getfield 102, 3) := by decide +kernel
theorem dX7_count_74 : decode cX7_count 74 = .ok (.ireturn, 1) := by decide +kernel
theorem dX7_count_75 : decode cX7_count 75 = .ok (.aload_n 0, 1) := by decide +kernel
theorem dX7_count_76 : decode cX7_count 76 = .ok (.getfield 115, 3) := by decide +kernel
theorem dX7_count_79 : decode cX7_count 79 = .ok (.ireturn, 1) := by decide +kernel
theorem dX7_count_80 : decode cX7_count 80 = .ok (.aload_n 0, 1) := by decide +kernel
theorem dX7_count_81 : decode cX7_count 81 = .ok (.getfield 133, 3) := by decide +kernel
theorem dX7_count_84 : decode cX7_count 84 = .ok (.ireturn, 1) := by decide +kernel
theorem dX7_count_85 : decode cX7_count 85 = .ok (.aload_n 0, 1) := by decide +kernel
theorem dX7_count_86 : decode cX7_count 86 = .ok (.getfield 122, 3) := by decide +kernel
theorem dX7_count_89 : decode cX7_count 89 = .ok (.ireturn, 1) := by decide +kernel
theorem dX7_count_90 : decode cX7_count 90 = .ok (.aload_n 0, 1) := by decide +kernel
theorem dX7_count_91 : decode cX7_count 91 = .ok (.getfield 105, 3) := by decide +kernel
theorem dX7_count_94 : decode cX7_count 94 = .ok (.ireturn, 1) := by decide +kernel
theorem dX7_count_95 : decode cX7_count 95 = .ok (.aload_n 0, 1) := by decide +kernel
theorem dX7_count_96 : decode cX7_count 96 = .ok (.getfield 70, 3) := by decide +kernel
theorem dX7_count_99 : decode cX7_count 99 = .ok (.ireturn, 1) := by decide +kernel
theorem dX7_count_100 : decode cX7_count 100 = .ok (.aload_n 0, 1) := by decide +kernel
theorem dX7_count_101 : decode cX7_count 101 = .ok (.getfield 179, 3) := by decide +kernel
theorem dX7_count_104 : decode cX7_count 104 = .ok (.ireturn, 1) := by decide +kernel
theorem dX7_count_105 : decode cX7_count 105 = .ok (.aload_n 0, 1) := by decide +kernel
theorem dX7_count_106 : decode cX7_count 106 = .ok (.getfield 87, 3) := by decide +kernel
theorem dX7_count_109 : decode cX7_count 109 = .ok (.ireturn, 1) := by decide +kernel
theorem dX7_count_110 : decode cX7_count 110 = .ok (.aload_n 0, 1) := by decide +kernel
theorem dX7_count_111 : decode cX7_count 111 = .ok (.invokevirtual 139, 3) := by decide +kernel
theorem dX7_count_114 : decode cX7_count 114 = .ok (.ireturn, 1) := by decide +kernel
theorem dX7_digest_0 : decode cX7_digest 0 = .ok (.aload_n 0, 1) := by decide +kernel
theorem dX7_digest_1 : decode cX7_digest 1 = .ok (.iconst 0, 1) := by decide +kernel
theorem dX7_digest_2 : decode cX7_digest 2 = .ok (.putfield 1, 3) := by decide +kernel
theorem dX7_digest_5 : decode cX7_digest 5 = .ok (.aload_n 0, 1) := by decide +kernel
theorem dX7_digest_6 : decode cX7_digest 6 = .ok (.iload_n 1, 1) := by decide +kernel
theorem dX7_digest_7 : decode cX7_digest 7 = .ok (.invokevirtual 136, 3) := by decide +kernel
theorem dX7_digest_10 : decode cX7_digest 10 = .ok (.ifCond .eq 9, 3) := by decide +kernel
theorem dX7_digest_13 : decode cX7_digest 13 = .ok (.aload_n 0, 1) := by decide +kernel
theorem dX7_digest_14 : decode cX7_digest 14 = .ok (.invokevirtual 139, 3) := by decide +kernel
theorem dX7_digest_17 : decode cX7_digest 17 = .ok (.i2l, 1) := by decide +kernel
theorem dX7_digest_18 : decode cX7_digest 18 = .ok (.lreturn, 1) := by decide +kernel
theorem dX7_digest_19 : decode cX7_digest 19 = .ok (.ldc2_w 185, 3) := by decide +kernel
theorem dX7_digest_22 : decode cX7_digest 22 = .ok (.lstore_n 2, 1) := by decide +kernel
theorem dX7_digest_23 : decode cX7_digest 23 = .ok (.aload_n 0, 1) := by decide +kernel
theorem dX7_digest_24 : decode cX7_digest 24 = .ok (.getfield 64, 3) := by decide +kernel
theorem dX7_digest_27 : decode cX7_digest 27 = .ok (.iload_n 1, 1) := by decide +kernel
theorem dX7_digest_28 : decode cX7_digest 28 = .ok (.iaload, 1) := by decide +kernel
theorem dX7_digest_29 : decode cX7_digest 29 = .ok (.ifCond .ne 5, 3) := by decide +kernel
theorem dX7_digest_32 : decode cX7_digest 32 = .ok (.lload_n 2, 1) := by decide +kernel
theorem dX7_digest_33 : decode cX7_digest 33 = .ok (.lreturn, 1) := by decide +kernel
theorem dX7_digest_34 : decode cX7_digest 34 = .ok (.iconst 1, 1) := by decide +kernel
theorem dX7_digest_35 : decode cX7_digest 35 = .ok (.istore 4, 2) := by decide +kernel
theorem dX7_digest_37 : decode cX7_digest 37 = .ok (.iload 4, 2) := by decide +kernel
theorem dX7_digest_39 : decode cX7_digest 39 = .ok (.aload_n 0, 1) := by decide +kernel
theorem dX7_digest_40 : decode cX7_digest 40 = .ok (.getfield 61, 3) := by decide +kernel
theorem dX7_digest_43 : decode cX7_digest 43 = .ok (.if_icmp .ge 17, 3) := by decide +kernel
theorem dX7_digest_46 : decode cX7_digest 46 = .ok (.aload_n 0, 1) := by decide +kernel
theorem dX7_digest_47 : decode cX7_digest 47 = .ok (.getfield 54, 3) := by decide +kernel
theorem dX7_digest_50 : decode cX7_digest 50 = .ok (.iload 4, 2) := by decide +kernel
theorem dX7_digest_52 : decode cX7_digest 52 = .ok (.iconst 0, 1) := by decide +kernel
theorem dX7_digest_53 : decode cX7_digest 53 = .ok (.iastore, 1) := by decide +kernel
theorem dX7_digest_54 : decode cX7_digest 54 = .ok (.iinc 4 1, 3) := by decide +kernel
theorem dX7_digest_57 : decode cX7_digest 57 = .ok (.goto (-20), 3) := by decide +kernel
theorem dX7_digest_60 : decode cX7_digest 60 = .ok (.iconst 0, 1) := by decide +kernel
theorem dX7_digest_61 : decode cX7_digest 61 = .ok (.istore 4, 2) := by decide +kernel
theorem dX7_digest_63 : decode cX7_digest 63 = .ok (.aload_n 0, 1) := by decide +kernel
theorem dX7_digest_64 : decode cX7_digest 64 = .ok (.getfield 51, 3) := by decide +kernel
theorem dX7_digest_67 : decode cX7_digest 67 = .ok (.iload 4, 2) := by decide +kernel
theorem dX7_digest_69 : decode cX7_digest 69 = .ok (.iinc 4 1, 3) := by decide +kernel
theorem dX7_digest_72 : decode cX7_digest 72 = .ok (.aload_n 0, 1) := by decide +kernel
theorem dX7_digest_73 : decode cX7_digest 73 = .ok (.getfield 64, 3) := by decide +kernel
theorem dX7_digest_76 : decode cX7_digest 76 = .ok (.iload_n 1, 1) := by decide +kernel
theorem dX7_digest_77 : decode cX7_digest 77 = .ok (.iaload, 1) := by decide +kernel
theorem dX7_digest_78 : decode cX7_digest 78 = .ok (.iastore, 1) := by decide +kernel
theorem dX7_digest_79 : decode cX7_digest 79 = .ok (.aload_n 0, 1) := by decide +kernel
theorem dX7_digest_80 : decode cX7_digest 80 = .ok (.getfield 54, 3) := by decide +kernel
theorem dX7_digest_83 : decode cX7_digest 83 = .ok (.aload_n 0, 1) := by decide +kernel
theorem dX7_digest_84 : decode cX7_digest 84 = .ok (.getfield 64, 3) := by decide +kernel
theorem dX7_digest_87 : decode cX7_digest 87 = .ok (.iload_n 1, 1) := by decide +kernel
theorem dX7_digest_88 : decode cX7_digest 88 = .ok (.iaload, 1) := by decide +kernel
theorem dX7_digest_89 : decode cX7_digest 89 = .ok (.iload 4, 2) := by decide +kernel
theorem dX7_digest_91 : decode cX7_digest 91 = .ok (.iastore, 1) := by decide +kernel
theorem dX7_digest_92 : decode cX7_digest 92 = .ok (.iconst 0, 1) := by decide +kernel
theorem dX7_digest_93 : decode cX7_digest 93 = .ok (.istore 5, 2) := by decide +kernel
theorem dX7_digest_95 : decode cX7_digest 95 = .ok (.iload 5, 2) := by decide +kernel
theorem dX7_digest_97 : decode cX7_digest 97 = .ok (.iload 4, 2) := by decide +kernel
theorem dX7_digest_99 : decode cX7_digest 99 = .ok (.if_icmp .ge 213, 3) := by decide +kernel
theorem dX7_digest_102 : decode cX7_digest 102 = .ok (.aload_n 0, 1) := by decide +kernel
theorem dX7_digest_103 : decode cX7_digest 103 = .ok (.getfield 51, 3) := by decide +kernel
theorem dX7_digest_106 : decode cX7_digest 106 = .ok (.iload 5, 2) := by decide +kernel
theorem dX7_digest_108 : decode cX7_digest 108 = .ok (.iaload, 1) := by decide +kernel
theorem dX7_digest_109 : decode cX7_digest 109 = .ok (.istore 6, 2) := by decide +kernel
theorem dX7_digest_111 : decode cX7_digest 111 = .ok (.ldc2_w 187, 3) := by decide +kernel
theorem dX7_digest_114 : decode cX7_digest 114 = .ok (.lload_n 2, 1) := by decide +kernel
theorem dX7_digest_115 : decode cX7_digest 115 = .ok (.lmul, 1) := by decide +kernel
theorem dX7_digest_116 : decode cX7_digest 116 = .ok (.aload_n 0, 1) := by decide +kernel
theorem dX7_digest_117 : decode cX7_digest 117 = .ok (.getfield 13, 3) := by decide +kernel
theorem dX7_digest_120 : decode cX7_digest 120 = .ok (.iload 6, 2) := by decide +kernel
theorem dX7_digest_122 : decode cX7_digest 122 = .ok (.iaload, 1) := by decide +kernel
theorem dX7_digest_123 : decode cX7_digest 123 = .ok (.i2l, 1) := by decide +kernel
theorem dX7_digest_124 : decode cX7_digest 124 = .ok (.ladd, 1) := by decide +kernel
theorem dX7_digest_125 : decode cX7_digest 125 = .ok (.lstore_n 2, 1) := by decide +kernel
theorem dX7_digest_126 : decode cX7_digest 126 = .ok (.ldc2_w 187, 3) := by decide +kernel
theorem dX7_digest_129 : decode cX7_digest 129 = .ok (.lload_n 2, 1) := by decide +kernel
theorem dX7_digest_130 : decode cX7_digest 130 = .ok (.lmul, 1) := by decide +kernel
theorem dX7_digest_131 : decode cX7_digest 131 = .ok (.aload_n 0, 1) := by decide +kernel
theorem dX7_digest_132 : decode cX7_digest 132 = .ok (.getfield 20, 3) := by decide +kernel
theorem dX7_digest_135 : decode cX7_digest 135 = .ok (.iload 6, 2) := by decide +kernel
theorem dX7_digest_137 : decode cX7_digest 137 = .ok (.iaload, 1) := by decide +kernel
theorem dX7_digest_138 : decode cX7_digest 138 = .ok (.i2l, 1) := by decide +kernel
theorem dX7_digest_139 : decode cX7_digest 139 = .ok (.ladd, 1) := by decide +kernel
theorem dX7_digest_140 : decode cX7_digest 140 = .ok (.lstore_n 2, 1) := by decide +kernel
theorem dX7_digest_141 : decode cX7_digest 141 = .ok (.iconst 0, 1) := by decide +kernel
theorem dX7_digest_142 : decode cX7_digest 142 = .ok (.istore 7, 2) := by decide +kernel
theorem dX7_digest_144 : decode cX7_digest 144 = .ok (.iload 7, 2) := by decide +kernel
theorem dX7_digest_146 : decode cX7_digest 146 = .ok (.aload_n 0, 1) := by decide +kernel
theorem dX7_digest_147 : decode cX7_digest 147 = .ok (.getfield 20, 3) := by decide +kernel
theorem dX7_digest_150 : decode cX7_digest 150 = .ok (.iload 6, 2) := by decide +kernel
theorem dX7_digest_152 : decode cX7_digest 152 = .ok (.iaload, 1) := by decide +kernel
theorem dX7_digest_153 : decode cX7_digest 153 = .ok (.if_icmp .ge 87, 3) := by decide +kernel
theorem dX7_digest_156 : decode cX7_digest 156 = .ok (.aload_n 0, 1) := by decide +kernel
theorem dX7_digest_157 : decode cX7_digest 157 = .ok (.getfield 57, 3) := by decide +kernel
theorem dX7_digest_160 : decode cX7_digest 160 = .ok (.aload_n 0, 1) := by decide +kernel
theorem dX7_digest_161 : decode cX7_digest 161 = .ok (.getfield 17, 3) := by decide +kernel
theorem dX7_digest_164 : decode cX7_digest 164 = .ok (.iload 6, 2) := by decide +kernel
theorem dX7_digest_166 : decode cX7_digest 166 = .ok (.iaload, 1) := by decide +kernel
theorem dX7_digest_167 : decode cX7_digest 167 = .ok (.iload 7, 2) := by decide +kernel
theorem dX7_digest_169 : decode cX7_digest 169 = .ok (.iadd, 1) := by decide +kernel
theorem dX7_digest_170 : decode cX7_digest 170 = .ok (.laload, 1) := by decide +kernel
theorem dX7_digest_171 : decode cX7_digest 171 = .ok (.l2i, 1) := by decide +kernel
theorem dX7_digest_172 : decode cX7_digest 172 = .ok (.istore 8, 2) := by decide +kernel
theorem dX7_digest_174 : decode cX7_digest 174 = .ok (.iload 8, 2) := by decide +kernel
theorem dX7_digest_176 : decode cX7_digest 176 = .ok (.ifCond .eq 34, 3) := by decide +kernel
theorem dX7_digest_179 : decode cX7_digest 179 = .ok (.aload_n 0, 1) := by decide +kernel
theorem dX7_digest_180 : decode cX7_digest 180 = .ok (.getfield 54, 3) := by decide +kernel
theorem dX7_digest_183 : decode cX7_digest 183 = .ok (.iload 8, 2) := by decide +kernel
theorem dX7_digest_185 : decode cX7_digest 185 = .ok (.iaload, 1) := by decide +kernel
theorem dX7_digest_186 : decode cX7_digest 186 = .ok (.ifCond .ne 24, 3) := by decide +kernel
theorem dX7_digest_189 : decode cX7_digest 189 = .ok (.aload_n 0, 1) := by decide +kernel
theorem dX7_digest_190 : decode cX7_digest 190 = .ok (.getfield 51, 3) := by decide +kernel
theorem dX7_digest_193 : decode cX7_digest 193 = .ok (.iload 4, 2) := by decide +kernel
theorem dX7_digest_195 : decode cX7_digest 195 = .ok (.iinc 4 1, 3) := by decide +kernel
theorem dX7_digest_198 : decode cX7_digest 198 = .ok (.iload 8, 2) := by decide +kernel
theorem dX7_digest_200 : decode cX7_digest 200 = .ok (.iastore, 1) := by decide +kernel
theorem dX7_digest_201 : decode cX7_digest 201 = .ok (.aload_n 0, 1) := by decide +kernel
theorem dX7_digest_202 : decode cX7_digest 202 = .ok (.getfield 54, 3) := by decide +kernel
theorem dX7_digest_205 : decode cX7_digest 205 = .ok (.iload 8, 2) := by decide +kernel
theorem dX7_digest_207 : decode cX7_digest 207 = .ok (.iload 4, 2) := by decide +kernel
theorem dX7_digest_209 : decode cX7_digest 209 = .ok (.iastore, 1) := by decide +kernel
theorem dX7_digest_210 : decode cX7_digest 210 = .ok (.ldc2_w 187, 3) := by decide +kernel
theorem dX7_digest_213 : decode cX7_digest 213 = .ok (.lload_n 2, 1) := by decide +kernel
theorem dX7_digest_214 : decode cX7_digest 214 = .ok (.lmul, 1) := by decide +kernel
theorem dX7_digest_215 : decode cX7_digest 215 = .ok (.iload 8, 2) := by decide +kernel
theorem dX7_digest_217 : decode cX7_digest 217 = .ok (.ifCond .ne 7, 3) := by decide +kernel
theorem dX7_digest_220 : decode cX7_digest 220 = .ok (.iconst 0, 1) := by decide +kernel
theorem dX7_digest_221 : decode cX7_digest 221 = .ok (.goto 10, 3) := by decide +kernel
theorem dX7_digest_224 : decode cX7_digest 224 = .ok (.aload_n 0, 1) := by decide +kernel
theorem dX7_digest_225 : decode cX7_digest 225 = .ok (.getfield 54, 3) := by decide +kernel
theorem dX7_digest_228 : decode cX7_digest 228 = .ok (.iload 8, 2) := by decide +kernel
theorem dX7_digest_230 : decode cX7_digest 230 = .ok (.iaload, 1) := by decide +kernel
theorem dX7_digest_231 : decode cX7_digest 231 = .ok (.i2l, 1) := by decide +kernel
theorem dX7_digest_232 : decode cX7_digest 232 = .ok (.ladd, 1) := by decide +kernel
theorem dX7_digest_233 : decode cX7_digest 233 = .ok (.lstore_n 2, 1) := by decide +kernel
theorem dX7_digest_234 : decode cX7_digest 234 = .ok (.iinc 7 1, 3) := by decide +kernel
theorem dX7_digest_237 : decode cX7_digest 237 = .ok (.goto (-93), 3) := by decide +kernel
theorem dX7_digest_240 : decode cX7_digest 240 = .ok (.ldc2_w 187, 3) := by decide +kernel
theorem dX7_digest_243 : decode cX7_digest 243 = .ok (.lload_n 2, 1) := by decide +kernel
theorem dX7_digest_244 : decode cX7_digest 244 = .ok (.lmul, 1) := by decide +kernel
theorem dX7_digest_245 : decode cX7_digest 245 = .ok (.aload_n 0, 1) := by decide +kernel
theorem dX7_digest_246 : decode cX7_digest 246 = .ok (.getfield 23, 3) := by decide +kernel
theorem dX7_digest_249 : decode cX7_digest 249 = .ok (.iload 6, 2) := by decide +kernel
theorem dX7_digest_251 : decode cX7_digest 251 = .ok (.iaload, 1) := by decide +kernel
theorem dX7_digest_252 : decode cX7_digest 252 = .ok (.i2l, 1) := by decide +kernel
theorem dX7_digest_253 : decode cX7_digest 253 = .ok (.ladd, 1) := by decide +kernel
theorem dX7_digest_254 : decode cX7_digest 254 = .ok (.lstore_n 2, 1) := by decide +kernel
theorem dX7_digest_255 : decode cX7_digest 255 = .ok (.iconst 0, 1) := by decide +kernel
theorem dX7_digest_256 : decode cX7_digest 256 = .ok (.istore 7, 2) := by decide +kernel
theorem dX7_digest_258 : decode cX7_digest 258 = .ok (.iload 7, 2) := by decide +kernel
theorem dX7_digest_260 : decode cX7_digest 260 = .ok (.aload_n 0, 1) := by decide +kernel
theorem dX7_digest_261 : decode cX7_digest 261 = .ok (.getfield 23, 3) := by decide +kernel
theorem dX7_digest_264 : decode cX7_digest 264 = .ok (.iload 6, 2) := by decide +kernel
theorem dX7_digest_266 : decode cX7_digest 266 = .ok (.iaload, 1) := by decide +kernel
theorem dX7_digest_267 : decode cX7_digest 267 = .ok (.if_icmp .ge 39, 3) := by decide +kernel
theorem dX7_digest_270 : decode cX7_digest 270 = .ok (.ldc2_w 187, 3) := by decide +kernel
theorem dX7_digest_273 : decode cX7_digest 273 = .ok (.lload_n 2, 1) := by decide +kernel
theorem dX7_digest_274 : decode cX7_digest 274 = .ok (.lmul, 1) := by decide +kernel
theorem dX7_digest_275 : decode cX7_digest 275 = .ok (.aload_n 0, 1) := by decide +kernel
theorem dX7_digest_276 : decode cX7_digest 276 = .ok (.getfield 57, 3) := by decide +kernel
theorem dX7_digest_279 : decode cX7_digest 279 = .ok (.aload_n 0, 1) := by decide +kernel
theorem dX7_digest_280 : decode cX7_digest 280 = .ok (.getfield 17, 3) := by decide +kernel
theorem dX7_digest_283 : decode cX7_digest 283 = .ok (.iload 6, 2) := by decide +kernel
theorem dX7_digest_285 : decode cX7_digest 285 = .ok (.iaload, 1) := by decide +kernel
theorem dX7_digest_286 : decode cX7_digest 286 = .ok (.aload_n 0, 1) := by decide +kernel
theorem dX7_digest_287 : decode cX7_digest 287 = .ok (.getfield 20, 3) := by decide +kernel
theorem dX7_digest_290 : decode cX7_digest 290 = .ok (.iload 6, 2) := by decide +kernel
theorem dX7_digest_292 : decode cX7_digest 292 = .ok (.iaload, 1) := by decide +kernel
theorem dX7_digest_293 : decode cX7_digest 293 = .ok (.iadd, 1) := by decide +kernel
theorem dX7_digest_294 : decode cX7_digest 294 = .ok (.iload 7, 2) := by decide +kernel
theorem dX7_digest_296 : decode cX7_digest 296 = .ok (.iadd, 1) := by decide +kernel
theorem dX7_digest_297 : decode cX7_digest 297 = .ok (.laload, 1) := by decide +kernel
theorem dX7_digest_298 : decode cX7_digest 298 = .ok (.ladd, 1) := by decide +kernel
theorem dX7_digest_299 : decode cX7_digest 299 = .ok (.lstore_n 2, 1) := by decide +kernel
theorem dX7_digest_300 : decode cX7_digest 300 = .ok (.iinc 7 1, 3) := by decide +kernel
theorem dX7_digest_303 : decode cX7_digest 303 = .ok (.goto (-45), 3) := by decide +kernel
theorem dX7_digest_306 : decode cX7_digest 306 = .ok (.iinc 5 1, 3) := by decide +kernel
theorem dX7_digest_309 : decode cX7_digest 309 = .ok (.goto (-214), 3) := by decide +kernel
theorem dX7_digest_312 : decode cX7_digest 312 = .ok (.lload_n 2, 1) := by decide +kernel
theorem dX7_digest_313 : decode cX7_digest 313 = .ok (.lreturn, 1) := by decide +kernel
theorem dL_cell_0 : decode cL_cell 0 = .ok (.iload_n 1, 1) := by decide +kernel
theorem dL_cell_1 : decode cL_cell 1 = .ok (.aload_n 0, 1) := by decide +kernel
theorem dL_cell_2 : decode cL_cell 2 = .ok (.arraylength, 1) := by decide +kernel
theorem dL_cell_3 : decode cL_cell 3 = .ok (.if_icmp .ge 9, 3) := by decide +kernel
theorem dL_cell_6 : decode cL_cell 6 = .ok (.aload_n 0, 1) := by decide +kernel
theorem dL_cell_7 : decode cL_cell 7 = .ok (.iload_n 1, 1) := by decide +kernel
theorem dL_cell_8 : decode cL_cell 8 = .ok (.iaload, 1) := by decide +kernel
theorem dL_cell_9 : decode cL_cell 9 = .ok (.goto 4, 3) := by decide +kernel
theorem dL_cell_12 : decode cL_cell 12 = .ok (.iconst 0, 1) := by decide +kernel
theorem dL_cell_13 : decode cL_cell 13 = .ok (.ireturn, 1) := by decide +kernel
theorem dL_plain_0 : decode cL_plain 0 = .ok (.aload 4, 2) := by decide +kernel
theorem dL_plain_2 : decode cL_plain 2 = .ok (.iconst 0, 1) := by decide +kernel
theorem dL_plain_3 : decode cL_plain 3 = .ok (.aload_n 0, 1) := by decide +kernel
theorem dL_plain_4 : decode cL_plain 4 = .ok (.iload_n 1, 1) := by decide +kernel
theorem dL_plain_5 : decode cL_plain 5 = .ok (.iload_n 2, 1) := by decide +kernel
theorem dL_plain_6 : decode cL_plain 6 = .ok (.iload_n 3, 1) := by decide +kernel
theorem dL_plain_7 : decode cL_plain 7 = .ok (.invokevirtual 7, 3) := by decide +kernel
theorem dL_plain_10 : decode cL_plain 10 = .ok (.i2l, 1) := by decide +kernel
theorem dL_plain_11 : decode cL_plain 11 = .ok (.lastore, 1) := by decide +kernel
theorem dL_plain_12 : decode cL_plain 12 = .ok (.goto 7, 3) := by decide +kernel
theorem dL_plain_15 : decode cL_plain 15 = .ok (.astore 5, 2) := by decide +kernel
theorem dL_plain_17 : decode cL_plain 17 = .ok (.iconst 1, 1) := by decide +kernel
theorem dL_plain_18 : decode cL_plain 18 = .ok (.ireturn, 1) := by decide +kernel
theorem dL_plain_19 : decode cL_plain 19 = .ok (.iconst 0, 1) := by decide +kernel
theorem dL_plain_20 : decode cL_plain 20 = .ok (.ireturn, 1) := by decide +kernel
theorem dL_row_0 : decode cL_row 0 = .ok (.aload 4, 2) := by decide +kernel
theorem dL_row_2 : decode cL_row 2 = .ok (.iconst 0, 1) := by decide +kernel
theorem dL_row_3 : decode cL_row 3 = .ok (.aload_n 0, 1) := by decide +kernel
theorem dL_row_4 : decode cL_row 4 = .ok (.iload_n 1, 1) := by decide +kernel
theorem dL_row_5 : decode cL_row 5 = .ok (.iload_n 2, 1) := by decide +kernel
theorem dL_row_6 : decode cL_row 6 = .ok (.iload_n 3, 1) := by decide +kernel
theorem dL_row_7 : decode cL_row 7 = .ok (.invokevirtual 15, 3) := by decide +kernel
theorem dL_row_10 : decode cL_row 10 = .ok (.i2l, 1) := by decide +kernel
theorem dL_row_11 : decode cL_row 11 = .ok (.lastore, 1) := by decide +kernel
theorem dL_row_12 : decode cL_row 12 = .ok (.goto 7, 3) := by decide +kernel
theorem dL_row_15 : decode cL_row 15 = .ok (.astore 5, 2) := by decide +kernel
theorem dL_row_17 : decode cL_row 17 = .ok (.iconst 1, 1) := by decide +kernel
theorem dL_row_18 : decode cL_row 18 = .ok (.ireturn, 1) := by decide +kernel
theorem dL_row_19 : decode cL_row 19 = .ok (.iconst 0, 1) := by decide +kernel
theorem dL_row_20 : decode cL_row 20 = .ok (.ireturn, 1) := by decide +kernel
theorem dL_queue_0 : decode cL_queue 0 = .ok (.aload_n 2, 1) := by decide +kernel
theorem dL_queue_1 : decode cL_queue 1 = .ok (.iconst 0, 1) := by decide +kernel
theorem dL_queue_2 : decode cL_queue 2 = .ok (.aload_n 0, 1) := by decide +kernel
theorem dL_queue_3 : decode cL_queue 3 = .ok (.iload_n 1, 1) := by decide +kernel
theorem dL_queue_4 : decode cL_queue 4 = .ok (.invokevirtual 19, 3) := by decide +kernel
theorem dL_queue_7 : decode cL_queue 7 = .ok (.i2l, 1) := by decide +kernel
theorem dL_queue_8 : decode cL_queue 8 = .ok (.lastore, 1) := by decide +kernel
theorem dL_queue_9 : decode cL_queue 9 = .ok (.goto 6, 3) := by decide +kernel
theorem dL_queue_12 : decode cL_queue 12 = .ok (.astore_n 3, 1) := by decide +kernel
theorem dL_queue_13 : decode cL_queue 13 = .ok (.iconst 1, 1) := by decide +kernel
theorem dL_queue_14 : decode cL_queue 14 = .ok (.ireturn, 1) := by decide +kernel
theorem dL_queue_15 : decode cL_queue 15 = .ok (.iconst 0, 1) := by decide +kernel
theorem dL_queue_16 : decode cL_queue 16 = .ok (.ireturn, 1) := by decide +kernel
theorem dL_loose_0 : decode cL_loose 0 = .ok (.aload 5, 2) := by decide +kernel
theorem dL_loose_2 : decode cL_loose 2 = .ok (.iconst 0, 1) := by decide +kernel
theorem dL_loose_3 : decode cL_loose 3 = .ok (.aload_n 0, 1) := by decide +kernel
theorem dL_loose_4 : decode cL_loose 4 = .ok (.iload_n 1, 1) := by decide +kernel
theorem dL_loose_5 : decode cL_loose 5 = .ok (.iload_n 2, 1) := by decide +kernel
theorem dL_loose_6 : decode cL_loose 6 = .ok (.iload_n 3, 1) := by decide +kernel
theorem dL_loose_7 : decode cL_loose 7 = .ok (.iload 4, 2) := by decide +kernel
theorem dL_loose_9 : decode cL_loose 9 = .ok (.invokevirtual 23, 3) := by decide +kernel
theorem dL_loose_12 : decode cL_loose 12 = .ok (.i2l, 1) := by decide +kernel
theorem dL_loose_13 : decode cL_loose 13 = .ok (.lastore, 1) := by decide +kernel
theorem dL_loose_14 : decode cL_loose 14 = .ok (.goto 11, 3) := by decide +kernel
theorem dL_loose_17 : decode cL_loose 17 = .ok (.astore 6, 2) := by decide +kernel
theorem dL_loose_19 : decode cL_loose 19 = .ok (.iconst 1, 1) := by decide +kernel
theorem dL_loose_20 : decode cL_loose 20 = .ok (.ireturn, 1) := by decide +kernel
theorem dL_loose_21 : decode cL_loose 21 = .ok (.astore 6, 2) := by decide +kernel
theorem dL_loose_23 : decode cL_loose 23 = .ok (.iconst 2, 1) := by decide +kernel
theorem dL_loose_24 : decode cL_loose 24 = .ok (.ireturn, 1) := by decide +kernel
theorem dL_loose_25 : decode cL_loose 25 = .ok (.iconst 0, 1) := by decide +kernel
theorem dL_loose_26 : decode cL_loose 26 = .ok (.ireturn, 1) := by decide +kernel
theorem dL_pair_0 : decode cL_pair 0 = .ok (.aload 5, 2) := by decide +kernel
theorem dL_pair_2 : decode cL_pair 2 = .ok (.iconst 0, 1) := by decide +kernel
theorem dL_pair_3 : decode cL_pair 3 = .ok (.aload_n 0, 1) := by decide +kernel
theorem dL_pair_4 : decode cL_pair 4 = .ok (.iload_n 1, 1) := by decide +kernel
theorem dL_pair_5 : decode cL_pair 5 = .ok (.iload_n 2, 1) := by decide +kernel
theorem dL_pair_6 : decode cL_pair 6 = .ok (.iload_n 3, 1) := by decide +kernel
theorem dL_pair_7 : decode cL_pair 7 = .ok (.iload 4, 2) := by decide +kernel
theorem dL_pair_9 : decode cL_pair 9 = .ok (.invokevirtual 29, 3) := by decide +kernel
theorem dL_pair_12 : decode cL_pair 12 = .ok (.i2l, 1) := by decide +kernel
theorem dL_pair_13 : decode cL_pair 13 = .ok (.lastore, 1) := by decide +kernel
theorem dL_pair_14 : decode cL_pair 14 = .ok (.goto 11, 3) := by decide +kernel
theorem dL_pair_17 : decode cL_pair 17 = .ok (.astore 6, 2) := by decide +kernel
theorem dL_pair_19 : decode cL_pair 19 = .ok (.iconst 1, 1) := by decide +kernel
theorem dL_pair_20 : decode cL_pair 20 = .ok (.ireturn, 1) := by decide +kernel
theorem dL_pair_21 : decode cL_pair 21 = .ok (.astore 6, 2) := by decide +kernel
theorem dL_pair_23 : decode cL_pair 23 = .ok (.iconst 2, 1) := by decide +kernel
theorem dL_pair_24 : decode cL_pair 24 = .ok (.ireturn, 1) := by decide +kernel
theorem dL_pair_25 : decode cL_pair 25 = .ok (.iconst 0, 1) := by decide +kernel
theorem dL_pair_26 : decode cL_pair 26 = .ok (.ireturn, 1) := by decide +kernel
theorem dL_copy_0 : decode cL_copy 0 = .ok (.aload_n 3, 1) := by decide +kernel
theorem dL_copy_1 : decode cL_copy 1 = .ok (.iconst 0, 1) := by decide +kernel
theorem dL_copy_2 : decode cL_copy 2 = .ok (.aload_n 0, 1) := by decide +kernel
theorem dL_copy_3 : decode cL_copy 3 = .ok (.iload_n 1, 1) := by decide +kernel
theorem dL_copy_4 : decode cL_copy 4 = .ok (.iload_n 2, 1) := by decide +kernel
theorem dL_copy_5 : decode cL_copy 5 = .ok (.invokevirtual 32, 3) := by decide +kernel
theorem dL_copy_8 : decode cL_copy 8 = .ok (.i2l, 1) := by decide +kernel
theorem dL_copy_9 : decode cL_copy 9 = .ok (.lastore, 1) := by decide +kernel
theorem dL_copy_10 : decode cL_copy 10 = .ok (.goto 7, 3) := by decide +kernel
theorem dL_copy_13 : decode cL_copy 13 = .ok (.astore 4, 2) := by decide +kernel
theorem dL_copy_15 : decode cL_copy 15 = .ok (.iconst 1, 1) := by decide +kernel
theorem dL_copy_16 : decode cL_copy 16 = .ok (.ireturn, 1) := by decide +kernel
theorem dL_copy_17 : decode cL_copy 17 = .ok (.iconst 0, 1) := by decide +kernel
theorem dL_copy_18 : decode cL_copy 18 = .ok (.ireturn, 1) := by decide +kernel
theorem dL_link_0 : decode cL_link 0 = .ok (.aload 4, 2) := by decide +kernel
theorem dL_link_2 : decode cL_link 2 = .ok (.iconst 0, 1) := by decide +kernel
theorem dL_link_3 : decode cL_link 3 = .ok (.aload_n 0, 1) := by decide +kernel
theorem dL_link_4 : decode cL_link 4 = .ok (.iload_n 1, 1) := by decide +kernel
theorem dL_link_5 : decode cL_link 5 = .ok (.iload_n 2, 1) := by decide +kernel
theorem dL_link_6 : decode cL_link 6 = .ok (.iload_n 3, 1) := by decide +kernel
theorem dL_link_7 : decode cL_link 7 = .ok (.invokevirtual 36, 3) := by decide +kernel
theorem dL_link_10 : decode cL_link 10 = .ok (.i2l, 1) := by decide +kernel
theorem dL_link_11 : decode cL_link 11 = .ok (.lastore, 1) := by decide +kernel
theorem dL_link_12 : decode cL_link 12 = .ok (.goto 11, 3) := by decide +kernel
theorem dL_link_15 : decode cL_link 15 = .ok (.astore 5, 2) := by decide +kernel
theorem dL_link_17 : decode cL_link 17 = .ok (.iconst 1, 1) := by decide +kernel
theorem dL_link_18 : decode cL_link 18 = .ok (.ireturn, 1) := by decide +kernel
theorem dL_link_19 : decode cL_link 19 = .ok (.astore 5, 2) := by decide +kernel
theorem dL_link_21 : decode cL_link 21 = .ok (.iconst 2, 1) := by decide +kernel
theorem dL_link_22 : decode cL_link 22 = .ok (.ireturn, 1) := by decide +kernel
theorem dL_link_23 : decode cL_link 23 = .ok (.iconst 0, 1) := by decide +kernel
theorem dL_link_24 : decode cL_link 24 = .ok (.ireturn, 1) := by decide +kernel
theorem dL_fetch_0 : decode cL_fetch 0 = .ok (.aload 4, 2) := by decide +kernel
theorem dL_fetch_2 : decode cL_fetch 2 = .ok (.iconst 0, 1) := by decide +kernel
theorem dL_fetch_3 : decode cL_fetch 3 = .ok (.aload_n 0, 1) := by decide +kernel
theorem dL_fetch_4 : decode cL_fetch 4 = .ok (.iload_n 1, 1) := by decide +kernel
theorem dL_fetch_5 : decode cL_fetch 5 = .ok (.iload_n 2, 1) := by decide +kernel
theorem dL_fetch_6 : decode cL_fetch 6 = .ok (.iload_n 3, 1) := by decide +kernel
theorem dL_fetch_7 : decode cL_fetch 7 = .ok (.invokevirtual 39, 3) := by decide +kernel
theorem dL_fetch_10 : decode cL_fetch 10 = .ok (.i2l, 1) := by decide +kernel
theorem dL_fetch_11 : decode cL_fetch 11 = .ok (.lastore, 1) := by decide +kernel
theorem dL_fetch_12 : decode cL_fetch 12 = .ok (.goto 11, 3) := by decide +kernel
theorem dL_fetch_15 : decode cL_fetch 15 = .ok (.astore 5, 2) := by decide +kernel
theorem dL_fetch_17 : decode cL_fetch 17 = .ok (.iconst 1, 1) := by decide +kernel
theorem dL_fetch_18 : decode cL_fetch 18 = .ok (.ireturn, 1) := by decide +kernel
theorem dL_fetch_19 : decode cL_fetch 19 = .ok (.astore 5, 2) := by decide +kernel
theorem dL_fetch_21 : decode cL_fetch 21 = .ok (.iconst 2, 1) := by decide +kernel
theorem dL_fetch_22 : decode cL_fetch 22 = .ok (.ireturn, 1) := by decide +kernel
theorem dL_fetch_23 : decode cL_fetch 23 = .ok (.iconst 0, 1) := by decide +kernel
theorem dL_fetch_24 : decode cL_fetch 24 = .ok (.ireturn, 1) := by decide +kernel
theorem dL_set_0 : decode cL_set 0 = .ok (.aload 5, 2) := by decide +kernel
theorem dL_set_2 : decode cL_set 2 = .ok (.iconst 0, 1) := by decide +kernel
theorem dL_set_3 : decode cL_set 3 = .ok (.aload_n 0, 1) := by decide +kernel
theorem dL_set_4 : decode cL_set 4 = .ok (.iload_n 1, 1) := by decide +kernel
theorem dL_set_5 : decode cL_set 5 = .ok (.iload_n 2, 1) := by decide +kernel
theorem dL_set_6 : decode cL_set 6 = .ok (.lload_n 3, 1) := by decide +kernel
theorem dL_set_7 : decode cL_set 7 = .ok (.invokevirtual 42, 3) := by decide +kernel
theorem dL_set_10 : decode cL_set 10 = .ok (.lastore, 1) := by decide +kernel
theorem dL_set_11 : decode cL_set 11 = .ok (.goto 11, 3) := by decide +kernel
theorem dL_set_14 : decode cL_set 14 = .ok (.astore 6, 2) := by decide +kernel
theorem dL_set_16 : decode cL_set 16 = .ok (.iconst 1, 1) := by decide +kernel
theorem dL_set_17 : decode cL_set 17 = .ok (.ireturn, 1) := by decide +kernel
theorem dL_set_18 : decode cL_set 18 = .ok (.astore 6, 2) := by decide +kernel
theorem dL_set_20 : decode cL_set 20 = .ok (.iconst 2, 1) := by decide +kernel
theorem dL_set_21 : decode cL_set 21 = .ok (.ireturn, 1) := by decide +kernel
theorem dL_set_22 : decode cL_set 22 = .ok (.iconst 0, 1) := by decide +kernel
theorem dL_set_23 : decode cL_set 23 = .ok (.ireturn, 1) := by decide +kernel
theorem dL_get_0 : decode cL_get 0 = .ok (.aload_n 3, 1) := by decide +kernel
theorem dL_get_1 : decode cL_get 1 = .ok (.iconst 0, 1) := by decide +kernel
theorem dL_get_2 : decode cL_get 2 = .ok (.aload_n 0, 1) := by decide +kernel
theorem dL_get_3 : decode cL_get 3 = .ok (.iload_n 1, 1) := by decide +kernel
theorem dL_get_4 : decode cL_get 4 = .ok (.iload_n 2, 1) := by decide +kernel
theorem dL_get_5 : decode cL_get 5 = .ok (.invokevirtual 46, 3) := by decide +kernel
theorem dL_get_8 : decode cL_get 8 = .ok (.lastore, 1) := by decide +kernel
theorem dL_get_9 : decode cL_get 9 = .ok (.goto 11, 3) := by decide +kernel
theorem dL_get_12 : decode cL_get 12 = .ok (.astore 4, 2) := by decide +kernel
theorem dL_get_14 : decode cL_get 14 = .ok (.iconst 1, 1) := by decide +kernel
theorem dL_get_15 : decode cL_get 15 = .ok (.ireturn, 1) := by decide +kernel
theorem dL_get_16 : decode cL_get 16 = .ok (.astore 4, 2) := by decide +kernel
theorem dL_get_18 : decode cL_get 18 = .ok (.iconst 2, 1) := by decide +kernel
theorem dL_get_19 : decode cL_get 19 = .ok (.ireturn, 1) := by decide +kernel
theorem dL_get_20 : decode cL_get 20 = .ok (.iconst 0, 1) := by decide +kernel
theorem dL_get_21 : decode cL_get 21 = .ok (.ireturn, 1) := by decide +kernel
theorem dL_referent_0 : decode cL_referent 0 = .ok (.aload 4, 2) := by decide +kernel
theorem dL_referent_2 : decode cL_referent 2 = .ok (.iconst 0, 1) := by decide +kernel
theorem dL_referent_3 : decode cL_referent 3 = .ok (.aload_n 0, 1) := by decide +kernel
theorem dL_referent_4 : decode cL_referent 4 = .ok (.iload_n 1, 1) := by decide +kernel
theorem dL_referent_5 : decode cL_referent 5 = .ok (.iload_n 2, 1) := by decide +kernel
theorem dL_referent_6 : decode cL_referent 6 = .ok (.iload_n 3, 1) := by decide +kernel
theorem dL_referent_7 : decode cL_referent 7 = .ok (.invokevirtual 50, 3) := by decide +kernel
theorem dL_referent_10 : decode cL_referent 10 = .ok (.i2l, 1) := by decide +kernel
theorem dL_referent_11 : decode cL_referent 11 = .ok (.lastore, 1) := by decide +kernel
theorem dL_referent_12 : decode cL_referent 12 = .ok (.goto 11, 3) := by decide +kernel
theorem dL_referent_15 : decode cL_referent 15 = .ok (.astore 5, 2) := by decide +kernel
theorem dL_referent_17 : decode cL_referent 17 = .ok (.iconst 1, 1) := by decide +kernel
theorem dL_referent_18 : decode cL_referent 18 = .ok (.ireturn, 1) := by decide +kernel
theorem dL_referent_19 : decode cL_referent 19 = .ok (.astore 5, 2) := by decide +kernel
theorem dL_referent_21 : decode cL_referent 21 = .ok (.iconst 2, 1) := by decide +kernel
theorem dL_referent_22 : decode cL_referent 22 = .ok (.ireturn, 1) := by decide +kernel
theorem dL_referent_23 : decode cL_referent 23 = .ok (.iconst 0, 1) := by decide +kernel
theorem dL_referent_24 : decode cL_referent 24 = .ok (.ireturn, 1) := by decide +kernel
theorem dL_give_0 : decode cL_give 0 = .ok (.aload_n 3, 1) := by decide +kernel
theorem dL_give_1 : decode cL_give 1 = .ok (.iconst 0, 1) := by decide +kernel
theorem dL_give_2 : decode cL_give 2 = .ok (.aload_n 0, 1) := by decide +kernel
theorem dL_give_3 : decode cL_give 3 = .ok (.iload_n 1, 1) := by decide +kernel
theorem dL_give_4 : decode cL_give 4 = .ok (.iload_n 2, 1) := by decide +kernel
theorem dL_give_5 : decode cL_give 5 = .ok (.invokevirtual 53, 3) := by decide +kernel
theorem dL_give_8 : decode cL_give 8 = .ok (.i2l, 1) := by decide +kernel
theorem dL_give_9 : decode cL_give 9 = .ok (.lastore, 1) := by decide +kernel
theorem dL_give_10 : decode cL_give 10 = .ok (.goto 11, 3) := by decide +kernel
theorem dL_give_13 : decode cL_give 13 = .ok (.astore 4, 2) := by decide +kernel
theorem dL_give_15 : decode cL_give 15 = .ok (.iconst 1, 1) := by decide +kernel
theorem dL_give_16 : decode cL_give 16 = .ok (.ireturn, 1) := by decide +kernel
theorem dL_give_17 : decode cL_give 17 = .ok (.astore 4, 2) := by decide +kernel
theorem dL_give_19 : decode cL_give 19 = .ok (.iconst 2, 1) := by decide +kernel
theorem dL_give_20 : decode cL_give 20 = .ok (.ireturn, 1) := by decide +kernel
theorem dL_give_21 : decode cL_give 21 = .ok (.iconst 0, 1) := by decide +kernel
theorem dL_give_22 : decode cL_give 22 = .ok (.ireturn, 1) := by decide +kernel
theorem dL_clear_0 : decode cL_clear 0 = .ok (.aload_n 3, 1) := by decide +kernel
theorem dL_clear_1 : decode cL_clear 1 = .ok (.iconst 0, 1) := by decide +kernel
theorem dL_clear_2 : decode cL_clear 2 = .ok (.aload_n 0, 1) := by decide +kernel
theorem dL_clear_3 : decode cL_clear 3 = .ok (.iload_n 1, 1) := by decide +kernel
theorem dL_clear_4 : decode cL_clear 4 = .ok (.iload_n 2, 1) := by decide +kernel
theorem dL_clear_5 : decode cL_clear 5 = .ok (.invokevirtual 56, 3) := by decide +kernel
theorem dL_clear_8 : decode cL_clear 8 = .ok (.i2l, 1) := by decide +kernel
theorem dL_clear_9 : decode cL_clear 9 = .ok (.lastore, 1) := by decide +kernel
theorem dL_clear_10 : decode cL_clear 10 = .ok (.goto 11, 3) := by decide +kernel
theorem dL_clear_13 : decode cL_clear 13 = .ok (.astore 4, 2) := by decide +kernel
theorem dL_clear_15 : decode cL_clear 15 = .ok (.iconst 1, 1) := by decide +kernel
theorem dL_clear_16 : decode cL_clear 16 = .ok (.ireturn, 1) := by decide +kernel
theorem dL_clear_17 : decode cL_clear 17 = .ok (.astore 4, 2) := by decide +kernel
theorem dL_clear_19 : decode cL_clear 19 = .ok (.iconst 2, 1) := by decide +kernel
theorem dL_clear_20 : decode cL_clear 20 = .ok (.ireturn, 1) := by decide +kernel
theorem dL_clear_21 : decode cL_clear 21 = .ok (.iconst 0, 1) := by decide +kernel
theorem dL_clear_22 : decode cL_clear 22 = .ok (.ireturn, 1) := by decide +kernel
theorem dL_poll_0 : decode cL_poll 0 = .ok (.aload_n 3, 1) := by decide +kernel
theorem dL_poll_1 : decode cL_poll 1 = .ok (.iconst 0, 1) := by decide +kernel
theorem dL_poll_2 : decode cL_poll 2 = .ok (.aload_n 0, 1) := by decide +kernel
theorem dL_poll_3 : decode cL_poll 3 = .ok (.iload_n 1, 1) := by decide +kernel
theorem dL_poll_4 : decode cL_poll 4 = .ok (.iload_n 2, 1) := by decide +kernel
theorem dL_poll_5 : decode cL_poll 5 = .ok (.invokevirtual 60, 3) := by decide +kernel
theorem dL_poll_8 : decode cL_poll 8 = .ok (.i2l, 1) := by decide +kernel
theorem dL_poll_9 : decode cL_poll 9 = .ok (.lastore, 1) := by decide +kernel
theorem dL_poll_10 : decode cL_poll 10 = .ok (.goto 11, 3) := by decide +kernel
theorem dL_poll_13 : decode cL_poll 13 = .ok (.astore 4, 2) := by decide +kernel
theorem dL_poll_15 : decode cL_poll 15 = .ok (.iconst 1, 1) := by decide +kernel
theorem dL_poll_16 : decode cL_poll 16 = .ok (.ireturn, 1) := by decide +kernel
theorem dL_poll_17 : decode cL_poll 17 = .ok (.astore 4, 2) := by decide +kernel
theorem dL_poll_19 : decode cL_poll 19 = .ok (.iconst 2, 1) := by decide +kernel
theorem dL_poll_20 : decode cL_poll 20 = .ok (.ireturn, 1) := by decide +kernel
theorem dL_poll_21 : decode cL_poll 21 = .ok (.iconst 0, 1) := by decide +kernel
theorem dL_poll_22 : decode cL_poll 22 = .ok (.ireturn, 1) := by decide +kernel
theorem dL_waiting_0 : decode cL_waiting 0 = .ok (.aload_n 2, 1) := by decide +kernel
theorem dL_waiting_1 : decode cL_waiting 1 = .ok (.iconst 0, 1) := by decide +kernel
theorem dL_waiting_2 : decode cL_waiting 2 = .ok (.aload_n 0, 1) := by decide +kernel
theorem dL_waiting_3 : decode cL_waiting 3 = .ok (.iload_n 1, 1) := by decide +kernel
theorem dL_waiting_4 : decode cL_waiting 4 = .ok (.invokevirtual 63, 3) := by decide +kernel
theorem dL_waiting_7 : decode cL_waiting 7 = .ok (.i2l, 1) := by decide +kernel
theorem dL_waiting_8 : decode cL_waiting 8 = .ok (.lastore, 1) := by decide +kernel
theorem dL_waiting_9 : decode cL_waiting 9 = .ok (.goto 9, 3) := by decide +kernel
theorem dL_waiting_12 : decode cL_waiting 12 = .ok (.astore_n 3, 1) := by decide +kernel
theorem dL_waiting_13 : decode cL_waiting 13 = .ok (.iconst 1, 1) := by decide +kernel
theorem dL_waiting_14 : decode cL_waiting 14 = .ok (.ireturn, 1) := by decide +kernel
theorem dL_waiting_15 : decode cL_waiting 15 = .ok (.astore_n 3, 1) := by decide +kernel
theorem dL_waiting_16 : decode cL_waiting 16 = .ok (.iconst 2, 1) := by decide +kernel
theorem dL_waiting_17 : decode cL_waiting 17 = .ok (.ireturn, 1) := by decide +kernel
theorem dL_waiting_18 : decode cL_waiting 18 = .ok (.iconst 0, 1) := by decide +kernel
theorem dL_waiting_19 : decode cL_waiting 19 = .ok (.ireturn, 1) := by decide +kernel
theorem dL_kind_0 : decode cL_kind 0 = .ok (.aload_n 2, 1) := by decide +kernel
theorem dL_kind_1 : decode cL_kind 1 = .ok (.iconst 0, 1) := by decide +kernel
theorem dL_kind_2 : decode cL_kind 2 = .ok (.aload_n 0, 1) := by decide +kernel
theorem dL_kind_3 : decode cL_kind 3 = .ok (.iload_n 1, 1) := by decide +kernel
theorem dL_kind_4 : decode cL_kind 4 = .ok (.invokevirtual 66, 3) := by decide +kernel
theorem dL_kind_7 : decode cL_kind 7 = .ok (.i2l, 1) := by decide +kernel
theorem dL_kind_8 : decode cL_kind 8 = .ok (.lastore, 1) := by decide +kernel
theorem dL_kind_9 : decode cL_kind 9 = .ok (.goto 6, 3) := by decide +kernel
theorem dL_kind_12 : decode cL_kind 12 = .ok (.astore_n 3, 1) := by decide +kernel
theorem dL_kind_13 : decode cL_kind 13 = .ok (.iconst 1, 1) := by decide +kernel
theorem dL_kind_14 : decode cL_kind 14 = .ok (.ireturn, 1) := by decide +kernel
theorem dL_kind_15 : decode cL_kind 15 = .ok (.iconst 0, 1) := by decide +kernel
theorem dL_kind_16 : decode cL_kind 16 = .ok (.ireturn, 1) := by decide +kernel
theorem dL_hash_0 : decode cL_hash 0 = .ok (.aload_n 2, 1) := by decide +kernel
theorem dL_hash_1 : decode cL_hash 1 = .ok (.iconst 0, 1) := by decide +kernel
theorem dL_hash_2 : decode cL_hash 2 = .ok (.aload_n 0, 1) := by decide +kernel
theorem dL_hash_3 : decode cL_hash 3 = .ok (.iload_n 1, 1) := by decide +kernel
theorem dL_hash_4 : decode cL_hash 4 = .ok (.invokevirtual 69, 3) := by decide +kernel
theorem dL_hash_7 : decode cL_hash 7 = .ok (.i2l, 1) := by decide +kernel
theorem dL_hash_8 : decode cL_hash 8 = .ok (.lastore, 1) := by decide +kernel
theorem dL_hash_9 : decode cL_hash 9 = .ok (.goto 6, 3) := by decide +kernel
theorem dL_hash_12 : decode cL_hash 12 = .ok (.astore_n 3, 1) := by decide +kernel
theorem dL_hash_13 : decode cL_hash 13 = .ok (.iconst 1, 1) := by decide +kernel
theorem dL_hash_14 : decode cL_hash 14 = .ok (.ireturn, 1) := by decide +kernel
theorem dL_hash_15 : decode cL_hash 15 = .ok (.iconst 0, 1) := by decide +kernel
theorem dL_hash_16 : decode cL_hash 16 = .ok (.ireturn, 1) := by decide +kernel
theorem dL_same_0 : decode cL_same 0 = .ok (.aload_n 3, 1) := by decide +kernel
theorem dL_same_1 : decode cL_same 1 = .ok (.iconst 0, 1) := by decide +kernel
theorem dL_same_2 : decode cL_same 2 = .ok (.aload_n 0, 1) := by decide +kernel
theorem dL_same_3 : decode cL_same 3 = .ok (.iload_n 1, 1) := by decide +kernel
theorem dL_same_4 : decode cL_same 4 = .ok (.iload_n 2, 1) := by decide +kernel
theorem dL_same_5 : decode cL_same 5 = .ok (.invokevirtual 72, 3) := by decide +kernel
theorem dL_same_8 : decode cL_same 8 = .ok (.ifCond .eq 7, 3) := by decide +kernel
theorem dL_same_11 : decode cL_same 11 = .ok (.lconst 1, 1) := by decide +kernel
theorem dL_same_12 : decode cL_same 12 = .ok (.goto 4, 3) := by decide +kernel
theorem dL_same_15 : decode cL_same 15 = .ok (.lconst 0, 1) := by decide +kernel
theorem dL_same_16 : decode cL_same 16 = .ok (.lastore, 1) := by decide +kernel
theorem dL_same_17 : decode cL_same 17 = .ok (.goto 7, 3) := by decide +kernel
theorem dL_same_20 : decode cL_same 20 = .ok (.astore 4, 2) := by decide +kernel
theorem dL_same_22 : decode cL_same 22 = .ok (.iconst 1, 1) := by decide +kernel
theorem dL_same_23 : decode cL_same 23 = .ok (.ireturn, 1) := by decide +kernel
theorem dL_same_24 : decode cL_same 24 = .ok (.iconst 0, 1) := by decide +kernel
theorem dL_same_25 : decode cL_same 25 = .ok (.ireturn, 1) := by decide +kernel
theorem dL_open_0 : decode cL_open 0 = .ok (.aload_n 2, 1) := by decide +kernel
theorem dL_open_1 : decode cL_open 1 = .ok (.iconst 0, 1) := by decide +kernel
theorem dL_open_2 : decode cL_open 2 = .ok (.aload_n 0, 1) := by decide +kernel
theorem dL_open_3 : decode cL_open 3 = .ok (.iload_n 1, 1) := by decide +kernel
theorem dL_open_4 : decode cL_open 4 = .ok (.invokevirtual 76, 3) := by decide +kernel
theorem dL_open_7 : decode cL_open 7 = .ok (.i2l, 1) := by decide +kernel
theorem dL_open_8 : decode cL_open 8 = .ok (.lastore, 1) := by decide +kernel
theorem dL_open_9 : decode cL_open 9 = .ok (.goto 9, 3) := by decide +kernel
theorem dL_open_12 : decode cL_open 12 = .ok (.astore_n 3, 1) := by decide +kernel
theorem dL_open_13 : decode cL_open 13 = .ok (.iconst 1, 1) := by decide +kernel
theorem dL_open_14 : decode cL_open 14 = .ok (.ireturn, 1) := by decide +kernel
theorem dL_open_15 : decode cL_open 15 = .ok (.astore_n 3, 1) := by decide +kernel
theorem dL_open_16 : decode cL_open 16 = .ok (.iconst 2, 1) := by decide +kernel
theorem dL_open_17 : decode cL_open 17 = .ok (.ireturn, 1) := by decide +kernel
theorem dL_open_18 : decode cL_open 18 = .ok (.iconst 0, 1) := by decide +kernel
theorem dL_open_19 : decode cL_open 19 = .ok (.ireturn, 1) := by decide +kernel
theorem dL_close_0 : decode cL_close 0 = .ok (.aload_n 1, 1) := by decide +kernel
theorem dL_close_1 : decode cL_close 1 = .ok (.iconst 0, 1) := by decide +kernel
theorem dL_close_2 : decode cL_close 2 = .ok (.aload_n 0, 1) := by decide +kernel
theorem dL_close_3 : decode cL_close 3 = .ok (.invokevirtual 79, 3) := by decide +kernel
theorem dL_close_6 : decode cL_close 6 = .ok (.i2l, 1) := by decide +kernel
theorem dL_close_7 : decode cL_close 7 = .ok (.lastore, 1) := by decide +kernel
theorem dL_close_8 : decode cL_close 8 = .ok (.goto 6, 3) := by decide +kernel
theorem dL_close_11 : decode cL_close 11 = .ok (.astore_n 2, 1) := by decide +kernel
theorem dL_close_12 : decode cL_close 12 = .ok (.iconst 1, 1) := by decide +kernel
theorem dL_close_13 : decode cL_close 13 = .ok (.ireturn, 1) := by decide +kernel
theorem dL_close_14 : decode cL_close 14 = .ok (.iconst 0, 1) := by decide +kernel
theorem dL_close_15 : decode cL_close 15 = .ok (.ireturn, 1) := by decide +kernel
theorem dL_every_0 : decode cL_every 0 = .ok (.aload_n 2, 1) := by decide +kernel
theorem dL_every_1 : decode cL_every 1 = .ok (.iconst 0, 1) := by decide +kernel
theorem dL_every_2 : decode cL_every 2 = .ok (.aload_n 0, 1) := by decide +kernel
theorem dL_every_3 : decode cL_every 3 = .ok (.iload_n 1, 1) := by decide +kernel
theorem dL_every_4 : decode cL_every 4 = .ok (.invokevirtual 83, 3) := by decide +kernel
theorem dL_every_7 : decode cL_every 7 = .ok (.i2l, 1) := by decide +kernel
theorem dL_every_8 : decode cL_every 8 = .ok (.lastore, 1) := by decide +kernel
theorem dL_every_9 : decode cL_every 9 = .ok (.goto 6, 3) := by decide +kernel
theorem dL_every_12 : decode cL_every 12 = .ok (.astore_n 3, 1) := by decide +kernel
theorem dL_every_13 : decode cL_every 13 = .ok (.iconst 1, 1) := by decide +kernel
theorem dL_every_14 : decode cL_every 14 = .ok (.ireturn, 1) := by decide +kernel
theorem dL_every_15 : decode cL_every 15 = .ok (.iconst 0, 1) := by decide +kernel
theorem dL_every_16 : decode cL_every 16 = .ok (.ireturn, 1) := by decide +kernel
theorem dL_count_0 : decode cL_count 0 = .ok (.aload_n 2, 1) := by decide +kernel
theorem dL_count_1 : decode cL_count 1 = .ok (.iconst 0, 1) := by decide +kernel
theorem dL_count_2 : decode cL_count 2 = .ok (.aload_n 0, 1) := by decide +kernel
theorem dL_count_3 : decode cL_count 3 = .ok (.iload_n 1, 1) := by decide +kernel
theorem dL_count_4 : decode cL_count 4 = .ok (.invokevirtual 86, 3) := by decide +kernel
theorem dL_count_7 : decode cL_count 7 = .ok (.i2l, 1) := by decide +kernel
theorem dL_count_8 : decode cL_count 8 = .ok (.lastore, 1) := by decide +kernel
theorem dL_count_9 : decode cL_count 9 = .ok (.goto 6, 3) := by decide +kernel
theorem dL_count_12 : decode cL_count 12 = .ok (.astore_n 3, 1) := by decide +kernel
theorem dL_count_13 : decode cL_count 13 = .ok (.iconst 1, 1) := by decide +kernel
theorem dL_count_14 : decode cL_count 14 = .ok (.ireturn, 1) := by decide +kernel
theorem dL_count_15 : decode cL_count 15 = .ok (.iconst 0, 1) := by decide +kernel
theorem dL_count_16 : decode cL_count 16 = .ok (.ireturn, 1) := by decide +kernel
theorem dL_digest_0 : decode cL_digest 0 = .ok (.aload_n 2, 1) := by decide +kernel
theorem dL_digest_1 : decode cL_digest 1 = .ok (.iconst 0, 1) := by decide +kernel
theorem dL_digest_2 : decode cL_digest 2 = .ok (.aload_n 0, 1) := by decide +kernel
theorem dL_digest_3 : decode cL_digest 3 = .ok (.iload_n 1, 1) := by decide +kernel
theorem dL_digest_4 : decode cL_digest 4 = .ok (.invokevirtual 89, 3) := by decide +kernel
theorem dL_digest_7 : decode cL_digest 7 = .ok (.lastore, 1) := by decide +kernel
theorem dL_digest_8 : decode cL_digest 8 = .ok (.goto 6, 3) := by decide +kernel
theorem dL_digest_11 : decode cL_digest 11 = .ok (.astore_n 3, 1) := by decide +kernel
theorem dL_digest_12 : decode cL_digest 12 = .ok (.iconst 1, 1) := by decide +kernel
theorem dL_digest_13 : decode cL_digest 13 = .ok (.ireturn, 1) := by decide +kernel
theorem dL_digest_14 : decode cL_digest 14 = .ok (.iconst 0, 1) := by decide +kernel
theorem dL_digest_15 : decode cL_digest 15 = .ok (.ireturn, 1) := by decide +kernel
theorem dL_law_0 : decode cL_law 0 = .ok (.new 8, 3) := by decide +kernel
theorem dL_law_3 : decode cL_law 3 = .ok (.dup, 1) := by decide +kernel
theorem dL_law_4 : decode cL_law 4 = .ok (.aload_n 0, 1) := by decide +kernel
theorem dL_law_5 : decode cL_law 5 = .ok (.iconst 0, 1) := by decide +kernel
theorem dL_law_6 : decode cL_law 6 = .ok (.invokestatic 93, 3) := by decide +kernel
theorem dL_law_9 : decode cL_law 9 = .ok (.aload_n 0, 1) := by decide +kernel
theorem dL_law_10 : decode cL_law 10 = .ok (.iconst 1, 1) := by decide +kernel
theorem dL_law_11 : decode cL_law 11 = .ok (.invokestatic 93, 3) := by decide +kernel
theorem dL_law_14 : decode cL_law 14 = .ok (.invokespecial 99, 3) := by decide +kernel
theorem dL_law_17 : decode cL_law 17 = .ok (.astore_n 1, 1) := by decide +kernel
theorem dL_law_18 : decode cL_law 18 = .ok (.new 102, 3) := by decide +kernel
theorem dL_law_21 : decode cL_law 21 = .ok (.dup, 1) := by decide +kernel
theorem dL_law_22 : decode cL_law 22 = .ok (.aload_n 0, 1) := by decide +kernel
theorem dL_law_23 : decode cL_law 23 = .ok (.iconst 0, 1) := by decide +kernel
theorem dL_law_24 : decode cL_law 24 = .ok (.invokestatic 93, 3) := by decide +kernel
theorem dL_law_27 : decode cL_law 27 = .ok (.aload_n 0, 1) := by decide +kernel
theorem dL_law_28 : decode cL_law 28 = .ok (.iconst 1, 1) := by decide +kernel
theorem dL_law_29 : decode cL_law 29 = .ok (.invokestatic 93, 3) := by decide +kernel
theorem dL_law_32 : decode cL_law 32 = .ok (.invokespecial 104, 3) := by decide +kernel
theorem dL_law_35 : decode cL_law 35 = .ok (.astore_n 2, 1) := by decide +kernel
theorem dL_law_36 : decode cL_law 36 = .ok (.iconst 1, 1) := by decide +kernel
theorem dL_law_37 : decode cL_law 37 = .ok (.newarray .long, 2) := by decide +kernel
theorem dL_law_39 : decode cL_law 39 = .ok (.astore_n 3, 1) := by decide +kernel
theorem dL_law_40 : decode cL_law 40 = .ok (.iconst 2, 1) := by decide +kernel
theorem dL_law_41 : decode cL_law 41 = .ok (.istore 4, 2) := by decide +kernel
theorem dL_law_43 : decode cL_law 43 = .ok (.iload 4, 2) := by decide +kernel
theorem dL_law_45 : decode cL_law 45 = .ok (.aload_n 0, 1) := by decide +kernel
theorem dL_law_46 : decode cL_law 46 = .ok (.arraylength, 1) := by decide +kernel
theorem dL_law_47 : decode cL_law 47 = .ok (.iconst 5, 1) := by decide +kernel
theorem dL_law_48 : decode cL_law 48 = .ok (.isub, 1) := by decide +kernel
theorem dL_law_49 : decode cL_law 49 = .ok (.if_icmp .gt 1814, 3) := by decide +kernel
theorem dL_law_52 : decode cL_law 52 = .ok (.aload_n 0, 1) := by decide +kernel
theorem dL_law_53 : decode cL_law 53 = .ok (.iload 4, 2) := by decide +kernel
theorem dL_law_55 : decode cL_law 55 = .ok (.iaload, 1) := by decide +kernel
theorem dL_law_56 : decode cL_law 56 = .ok (.bipush 31, 2) := by decide +kernel
theorem dL_law_58 : decode cL_law 58 = .ok (.iand, 1) := by decide +kernel
theorem dL_law_59 : decode cL_law 59 = .ok (.tableswitch 1798 0 23 #[109, 189, 285, 341, 433, 525, 593, 673, 753, 864, 931, 1027, 1095, 1179, 1247, 1303, 1359, 1415, 1490, 1546, 1590, 1631, 1687, 1743], 109) := by decide +kernel
theorem dL_law_168 : decode cL_law 168 = .ok (.aload_n 1, 1) := by decide +kernel
theorem dL_law_169 : decode cL_law 169 = .ok (.aload_n 0, 1) := by decide +kernel
theorem dL_law_170 : decode cL_law 170 = .ok (.iload 4, 2) := by decide +kernel
theorem dL_law_172 : decode cL_law 172 = .ok (.iconst 1, 1) := by decide +kernel
theorem dL_law_173 : decode cL_law 173 = .ok (.iadd, 1) := by decide +kernel
theorem dL_law_174 : decode cL_law 174 = .ok (.iaload, 1) := by decide +kernel
theorem dL_law_175 : decode cL_law 175 = .ok (.aload_n 0, 1) := by decide +kernel
theorem dL_law_176 : decode cL_law 176 = .ok (.iload 4, 2) := by decide +kernel
theorem dL_law_178 : decode cL_law 178 = .ok (.iconst 2, 1) := by decide +kernel
theorem dL_law_179 : decode cL_law 179 = .ok (.iadd, 1) := by decide +kernel
theorem dL_law_180 : decode cL_law 180 = .ok (.iaload, 1) := by decide +kernel
theorem dL_law_181 : decode cL_law 181 = .ok (.aload_n 0, 1) := by decide +kernel
theorem dL_law_182 : decode cL_law 182 = .ok (.iload 4, 2) := by decide +kernel
theorem dL_law_184 : decode cL_law 184 = .ok (.iconst 3, 1) := by decide +kernel
theorem dL_law_185 : decode cL_law 185 = .ok (.iadd, 1) := by decide +kernel
theorem dL_law_186 : decode cL_law 186 = .ok (.iaload, 1) := by decide +kernel
theorem dL_law_187 : decode cL_law 187 = .ok (.aload_n 3, 1) := by decide +kernel
theorem dL_law_188 : decode cL_law 188 = .ok (.invokestatic 105, 3) := by decide +kernel
theorem dL_law_191 : decode cL_law 191 = .ok (.istore 5, 2) := by decide +kernel
theorem dL_law_193 : decode cL_law 193 = .ok (.aload_n 2, 1) := by decide +kernel
theorem dL_law_194 : decode cL_law 194 = .ok (.aload_n 0, 1) := by decide +kernel
theorem dL_law_195 : decode cL_law 195 = .ok (.iload 4, 2) := by decide +kernel
theorem dL_law_197 : decode cL_law 197 = .ok (.iconst 1, 1) := by decide +kernel
theorem dL_law_198 : decode cL_law 198 = .ok (.iadd, 1) := by decide +kernel
theorem dL_law_199 : decode cL_law 199 = .ok (.iaload, 1) := by decide +kernel
theorem dL_law_200 : decode cL_law 200 = .ok (.aload_n 0, 1) := by decide +kernel
theorem dL_law_201 : decode cL_law 201 = .ok (.iload 4, 2) := by decide +kernel
theorem dL_law_203 : decode cL_law 203 = .ok (.iconst 2, 1) := by decide +kernel
theorem dL_law_204 : decode cL_law 204 = .ok (.iadd, 1) := by decide +kernel
theorem dL_law_205 : decode cL_law 205 = .ok (.iaload, 1) := by decide +kernel
theorem dL_law_206 : decode cL_law 206 = .ok (.aload_n 0, 1) := by decide +kernel
theorem dL_law_207 : decode cL_law 207 = .ok (.iload 4, 2) := by decide +kernel
theorem dL_law_209 : decode cL_law 209 = .ok (.iconst 3, 1) := by decide +kernel
theorem dL_law_210 : decode cL_law 210 = .ok (.iadd, 1) := by decide +kernel
theorem dL_law_211 : decode cL_law 211 = .ok (.iaload, 1) := by decide +kernel
theorem dL_law_212 : decode cL_law 212 = .ok (.invokevirtual 108, 3) := by decide +kernel
theorem dL_law_215 : decode cL_law 215 = .ok (.istore 6, 2) := by decide +kernel
theorem dL_law_217 : decode cL_law 217 = .ok (.aload_n 2, 1) := by decide +kernel
theorem dL_law_218 : decode cL_law 218 = .ok (.invokevirtual 109, 3) := by decide +kernel
theorem dL_law_221 : decode cL_law 221 = .ok (.iload 5, 2) := by decide +kernel
theorem dL_law_223 : decode cL_law 223 = .ok (.if_icmp .eq 5, 3) := by decide +kernel
theorem dL_law_226 : decode cL_law 226 = .ok (.iconst 0, 1) := by decide +kernel
theorem dL_law_227 : decode cL_law 227 = .ok (.ireturn, 1) := by decide +kernel
theorem dL_law_228 : decode cL_law 228 = .ok (.iload 5, 2) := by decide +kernel
theorem dL_law_230 : decode cL_law 230 = .ok (.ifCond .ne 15, 3) := by decide +kernel
theorem dL_law_233 : decode cL_law 233 = .ok (.aload_n 3, 1) := by decide +kernel
theorem dL_law_234 : decode cL_law 234 = .ok (.iconst 0, 1) := by decide +kernel
theorem dL_law_235 : decode cL_law 235 = .ok (.laload, 1) := by decide +kernel
theorem dL_law_236 : decode cL_law 236 = .ok (.iload 6, 2) := by decide +kernel
theorem dL_law_238 : decode cL_law 238 = .ok (.i2l, 1) := by decide +kernel
theorem dL_law_239 : decode cL_law 239 = .ok (.lcmp, 1) := by decide +kernel
theorem dL_law_240 : decode cL_law 240 = .ok (.ifCond .eq 5, 3) := by decide +kernel
theorem dL_law_243 : decode cL_law 243 = .ok (.iconst 0, 1) := by decide +kernel
theorem dL_law_244 : decode cL_law 244 = .ok (.ireturn, 1) := by decide +kernel
theorem dL_law_245 : decode cL_law 245 = .ok (.goto 1612, 3) := by decide +kernel
theorem dL_law_248 : decode cL_law 248 = .ok (.aload_n 1, 1) := by decide +kernel
theorem dL_law_249 : decode cL_law 249 = .ok (.aload_n 0, 1) := by decide +kernel
theorem dL_law_250 : decode cL_law 250 = .ok (.iload 4, 2) := by decide +kernel
theorem dL_law_252 : decode cL_law 252 = .ok (.iconst 1, 1) := by decide +kernel
theorem dL_law_253 : decode cL_law 253 = .ok (.iadd, 1) := by decide +kernel
theorem dL_law_254 : decode cL_law 254 = .ok (.iaload, 1) := by decide +kernel
theorem dL_law_255 : decode cL_law 255 = .ok (.aload_n 0, 1) := by decide +kernel
theorem dL_law_256 : decode cL_law 256 = .ok (.iload 4, 2) := by decide +kernel
theorem dL_law_258 : decode cL_law 258 = .ok (.iconst 2, 1) := by decide +kernel
theorem dL_law_259 : decode cL_law 259 = .ok (.iadd, 1) := by decide +kernel
theorem dL_law_260 : decode cL_law 260 = .ok (.iaload, 1) := by decide +kernel
theorem dL_law_261 : decode cL_law 261 = .ok (.aload_n 0, 1) := by decide +kernel
theorem dL_law_262 : decode cL_law 262 = .ok (.iload 4, 2) := by decide +kernel
theorem dL_law_264 : decode cL_law 264 = .ok (.iconst 3, 1) := by decide +kernel
theorem dL_law_265 : decode cL_law 265 = .ok (.iadd, 1) := by decide +kernel
theorem dL_law_266 : decode cL_law 266 = .ok (.iaload, 1) := by decide +kernel
theorem dL_law_267 : decode cL_law 267 = .ok (.ifCond .eq 7, 3) := by decide +kernel
