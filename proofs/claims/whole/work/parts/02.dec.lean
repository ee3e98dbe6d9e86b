theorem dX0_init_0 : decode cX0_init 0 = .ok (.aload_n 0, 1) := by decide +kernel
theorem dX0_init_1 : decode cX0_init 1 = .ok (.invokespecial 3, 3) := by decide +kernel
theorem dX0_init_4 : decode cX0_init 4 = .ok (.aload_n 0, 1) := by decide +kernel
theorem dX0_init_5 : decode cX0_init 5 = .ok (.iconst 0, 1) := by decide +kernel
theorem dX0_init_6 : decode cX0_init 6 = .ok (.putfield 9, 3) := by decide +kernel
theorem dX0_init_9 : decode cX0_init 9 = .ok (.aload_n 0, 1) := by decide +kernel
theorem dX0_init_10 : decode cX0_init 10 = .ok (.bipush 7, 2) := by decide +kernel
theorem dX0_init_12 : decode cX0_init 12 = .ok (.newarray .int, 2) := by decide +kernel
theorem dX0_init_14 : decode cX0_init 14 = .ok (.putfield 15, 3) := by decide +kernel
theorem dX0_init_17 : decode cX0_init 17 = .ok (.aload_n 0, 1) := by decide +kernel
theorem dX0_init_18 : decode cX0_init 18 = .ok (.bipush 7, 2) := by decide +kernel
theorem dX0_init_20 : decode cX0_init 20 = .ok (.newarray .int, 2) := by decide +kernel
theorem dX0_init_22 : decode cX0_init 22 = .ok (.putfield 19, 3) := by decide +kernel
theorem dX0_init_25 : decode cX0_init 25 = .ok (.aload_n 0, 1) := by decide +kernel
theorem dX0_init_26 : decode cX0_init 26 = .ok (.bipush 7, 2) := by decide +kernel
theorem dX0_init_28 : decode cX0_init 28 = .ok (.newarray .int, 2) := by decide +kernel
theorem dX0_init_30 : decode cX0_init 30 = .ok (.putfield 22, 3) := by decide +kernel
theorem dX0_init_33 : decode cX0_init 33 = .ok (.aload_n 0, 1) := by decide +kernel
theorem dX0_init_34 : decode cX0_init 34 = .ok (.bipush 7, 2) := by decide +kernel
theorem dX0_init_36 : decode cX0_init 36 = .ok (.newarray .int, 2) := by decide +kernel
theorem dX0_init_38 : decode cX0_init 38 = .ok (.putfield 25, 3) := by decide +kernel
theorem dX0_init_41 : decode cX0_init 41 = .ok (.aload_n 0, 1) := by decide +kernel
theorem dX0_init_42 : decode cX0_init 42 = .ok (.bipush 7, 2) := by decide +kernel
theorem dX0_init_44 : decode cX0_init 44 = .ok (.newarray .int, 2) := by decide +kernel
theorem dX0_init_46 : decode cX0_init 46 = .ok (.putfield 28, 3) := by decide +kernel
theorem dX0_init_49 : decode cX0_init 49 = .ok (.aload_n 0, 1) := by decide +kernel
theorem dX0_init_50 : decode cX0_init 50 = .ok (.bipush 7, 2) := by decide +kernel
theorem dX0_init_52 : decode cX0_init 52 = .ok (.newarray .int, 2) := by decide +kernel
theorem dX0_init_54 : decode cX0_init 54 = .ok (.putfield 31, 3) := by decide +kernel
theorem dX0_init_57 : decode cX0_init 57 = .ok (.aload_n 0, 1) := by decide +kernel
theorem dX0_init_58 : decode cX0_init 58 = .ok (.bipush 7, 2) := by decide +kernel
theorem dX0_init_60 : decode cX0_init 60 = .ok (.newarray .int, 2) := by decide +kernel
theorem dX0_init_62 : decode cX0_init 62 = .ok (.putfield 34, 3) := by decide +kernel
theorem dX0_init_65 : decode cX0_init 65 = .ok (.aload_n 0, 1) := by decide +kernel
theorem dX0_init_66 : decode cX0_init 66 = .ok (.bipush 7, 2) := by decide +kernel
theorem dX0_init_68 : decode cX0_init 68 = .ok (.newarray .int, 2) := by decide +kernel
theorem dX0_init_70 : decode cX0_init 70 = .ok (.putfield 37, 3) := by decide +kernel
theorem dX0_init_73 : decode cX0_init 73 = .ok (.aload_n 0, 1) := by decide +kernel
theorem dX0_init_74 : decode cX0_init 74 = .ok (.bipush 7, 2) := by decide +kernel
theorem dX0_init_76 : decode cX0_init 76 = .ok (.newarray .int, 2) := by decide +kernel
theorem dX0_init_78 : decode cX0_init 78 = .ok (.putfield 40, 3) := by decide +kernel
theorem dX0_init_81 : decode cX0_init 81 = .ok (.aload_n 0, 1) := by decide +kernel
theorem dX0_init_82 : decode cX0_init 82 = .ok (.bipush 7, 2) := by decide +kernel
theorem dX0_init_84 : decode cX0_init 84 = .ok (.newarray .int, 2) := by decide +kernel
theorem dX0_init_86 : decode cX0_init 86 = .ok (.putfield 43, 3) := by decide +kernel
theorem dX0_init_89 : decode cX0_init 89 = .ok (.aload_n 0, 1) := by decide +kernel
theorem dX0_init_90 : decode cX0_init 90 = .ok (.getfield 40, 3) := by decide +kernel
theorem dX0_init_93 : decode cX0_init 93 = .ok (.iconst (-1), 1) := by decide +kernel
theorem dX0_init_94 : decode cX0_init 94 = .ok (.invokestatic 46, 3) := by decide +kernel
theorem dX0_init_97 : decode cX0_init 97 = .ok (.aload_n 0, 1) := by decide +kernel
theorem dX0_init_98 : decode cX0_init 98 = .ok (.getfield 43, 3) := by decide +kernel
theorem dX0_init_101 : decode cX0_init 101 = .ok (.iconst (-1), 1) := by decide +kernel
theorem dX0_init_102 : decode cX0_init 102 = .ok (.invokestatic 46, 3) := by decide +kernel
theorem dX0_init_105 : decode cX0_init 105 = .ok (.return_, 1) := by decide +kernel
theorem dX0_has_0 : decode cX0_has 0 = .ok (.iload_n 1, 1) := by decide +kernel
theorem dX0_has_1 : decode cX0_has 1 = .ok (.ifCond .lt 15, 3) := by decide +kernel
theorem dX0_has_4 : decode cX0_has 4 = .ok (.iload_n 1, 1) := by decide +kernel
theorem dX0_has_5 : decode cX0_has 5 = .ok (.aload_n 0, 1) := by decide +kernel
theorem dX0_has_6 : decode cX0_has 6 = .ok (.getfield 9, 3) := by decide +kernel
theorem dX0_has_9 : decode cX0_has 9 = .ok (.if_icmp .ge 7, 3) := by decide +kernel
theorem dX0_has_12 : decode cX0_has 12 = .ok (.iconst 1, 1) := by decide +kernel
theorem dX0_has_13 : decode cX0_has 13 = .ok (.goto 4, 3) := by decide +kernel
theorem dX0_has_16 : decode cX0_has 16 = .ok (.iconst 0, 1) := by decide +kernel
theorem dX0_has_17 : decode cX0_has 17 = .ok (.ireturn, 1) := by decide +kernel
theorem dX0_all_0 : decode cX0_all 0 = .ok (.iconst 1, 1) := by decide +kernel
theorem dX0_all_1 : decode cX0_all 1 = .ok (.aload_n 0, 1) := by decide +kernel
theorem dX0_all_2 : decode cX0_all 2 = .ok (.getfield 9, 3) := by decide +kernel
theorem dX0_all_5 : decode cX0_all 5 = .ok (.ishl, 1) := by decide +kernel
theorem dX0_all_6 : decode cX0_all 6 = .ok (.iconst 1, 1) := by decide +kernel
theorem dX0_all_7 : decode cX0_all 7 = .ok (.isub, 1) := by decide +kernel
theorem dX0_all_8 : decode cX0_all 8 = .ok (.ireturn, 1) := by decide +kernel
theorem dX0_isBerthed_0 : decode cX0_isBerthed 0 = .ok (.aload_n 0, 1) := by decide +kernel
theorem dX0_isBerthed_1 : decode cX0_isBerthed 1 = .ok (.getfield 40, 3) := by decide +kernel
theorem dX0_isBerthed_4 : decode cX0_isBerthed 4 = .ok (.iload_n 1, 1) := by decide +kernel
theorem dX0_isBerthed_5 : decode cX0_isBerthed 5 = .ok (.iaload, 1) := by decide +kernel
theorem dX0_isBerthed_6 : decode cX0_isBerthed 6 = .ok (.iconst (-1), 1) := by decide +kernel
theorem dX0_isBerthed_7 : decode cX0_isBerthed 7 = .ok (.if_icmp .eq 7, 3) := by decide +kernel
theorem dX0_isBerthed_10 : decode cX0_isBerthed 10 = .ok (.iconst 1, 1) := by decide +kernel
theorem dX0_isBerthed_11 : decode cX0_isBerthed 11 = .ok (.goto 4, 3) := by decide +kernel
theorem dX0_isBerthed_14 : decode cX0_isBerthed 14 = .ok (.iconst 0, 1) := by decide +kernel
theorem dX0_isBerthed_15 : decode cX0_isBerthed 15 = .ok (.ireturn, 1) := by decide +kernel
theorem dX0_berthed_0 : decode cX0_berthed 0 = .ok (.iconst 0, 1) := by decide +kernel
theorem dX0_berthed_1 : decode cX0_berthed 1 = .ok (.istore_n 1, 1) := by decide +kernel
theorem dX0_berthed_2 : decode cX0_berthed 2 = .ok (.iconst 0, 1) := by decide +kernel
theorem dX0_berthed_3 : decode cX0_berthed 3 = .ok (.istore_n 2, 1) := by decide +kernel
theorem dX0_berthed_4 : decode cX0_berthed 4 = .ok (.iload_n 2, 1) := by decide +kernel
theorem dX0_berthed_5 : decode cX0_berthed 5 = .ok (.aload_n 0, 1) := by decide +kernel
theorem dX0_berthed_6 : decode cX0_berthed 6 = .ok (.getfield 9, 3) := by decide +kernel
theorem dX0_berthed_9 : decode cX0_berthed 9 = .ok (.if_icmp .ge 23, 3) := by decide +kernel
theorem dX0_berthed_12 : decode cX0_berthed 12 = .ok (.aload_n 0, 1) := by decide +kernel
theorem dX0_berthed_13 : decode cX0_berthed 13 = .ok (.iload_n 2, 1) := by decide +kernel
theorem dX0_berthed_14 : decode cX0_berthed 14 = .ok (.invokevirtual 52, 3) := by decide +kernel
theorem dX0_berthed_17 : decode cX0_berthed 17 = .ok (.ifCond .eq 9, 3) := by decide +kernel
theorem dX0_berthed_20 : decode cX0_berthed 20 = .ok (.iload_n 1, 1) := by decide +kernel
theorem dX0_berthed_21 : decode cX0_berthed 21 = .ok (.iconst 1, 1) := by decide +kernel
theorem dX0_berthed_22 : decode cX0_berthed 22 = .ok (.iload_n 2, 1) := by decide +kernel
theorem dX0_berthed_23 : decode cX0_berthed 23 = .ok (.ishl, 1) := by decide +kernel
theorem dX0_berthed_24 : decode cX0_berthed 24 = .ok (.ior, 1) := by decide +kernel
theorem dX0_berthed_25 : decode cX0_berthed 25 = .ok (.istore_n 1, 1) := by decide +kernel
theorem dX0_berthed_26 : decode cX0_berthed 26 = .ok (.iinc 2 1, 3) := by decide +kernel
theorem dX0_berthed_29 : decode cX0_berthed 29 = .ok (.goto (-25), 3) := by decide +kernel
theorem dX0_berthed_32 : decode cX0_berthed 32 = .ok (.iload_n 1, 1) := by decide +kernel
theorem dX0_berthed_33 : decode cX0_berthed 33 = .ok (.ireturn, 1) := by decide +kernel
theorem dX0_berthedAt_0 : decode cX0_berthedAt 0 = .ok (.iconst 0, 1) := by decide +kernel
theorem dX0_berthedAt_1 : decode cX0_berthedAt 1 = .ok (.istore_n 2, 1) := by decide +kernel
theorem dX0_berthedAt_2 : decode cX0_berthedAt 2 = .ok (.iconst 0, 1) := by decide +kernel
theorem dX0_berthedAt_3 : decode cX0_berthedAt 3 = .ok (.istore_n 3, 1) := by decide +kernel
theorem dX0_berthedAt_4 : decode cX0_berthedAt 4 = .ok (.iload_n 3, 1) := by decide +kernel
theorem dX0_berthedAt_5 : decode cX0_berthedAt 5 = .ok (.aload_n 0, 1) := by decide +kernel
theorem dX0_berthedAt_6 : decode cX0_berthedAt 6 = .ok (.getfield 9, 3) := by decide +kernel
theorem dX0_berthedAt_9 : decode cX0_berthedAt 9 = .ok (.if_icmp .ge 25, 3) := by decide +kernel
theorem dX0_berthedAt_12 : decode cX0_berthedAt 12 = .ok (.aload_n 0, 1) := by decide +kernel
theorem dX0_berthedAt_13 : decode cX0_berthedAt 13 = .ok (.getfield 40, 3) := by decide +kernel
theorem dX0_berthedAt_16 : decode cX0_berthedAt 16 = .ok (.iload_n 3, 1) := by decide +kernel
theorem dX0_berthedAt_17 : decode cX0_berthedAt 17 = .ok (.iaload, 1) := by decide +kernel
theorem dX0_berthedAt_18 : decode cX0_berthedAt 18 = .ok (.iload_n 1, 1) := by decide +kernel
theorem dX0_berthedAt_19 : decode cX0_berthedAt 19 = .ok (.if_icmp .ne 9, 3) := by decide +kernel
theorem dX0_berthedAt_22 : decode cX0_berthedAt 22 = .ok (.iload_n 2, 1) := by decide +kernel
theorem dX0_berthedAt_23 : decode cX0_berthedAt 23 = .ok (.iconst 1, 1) := by decide +kernel
theorem dX0_berthedAt_24 : decode cX0_berthedAt 24 = .ok (.iload_n 3, 1) := by decide +kernel
theorem dX0_berthedAt_25 : decode cX0_berthedAt 25 = .ok (.ishl, 1) := by decide +kernel
theorem dX0_berthedAt_26 : decode cX0_berthedAt 26 = .ok (.ior, 1) := by decide +kernel
theorem dX0_berthedAt_27 : decode cX0_berthedAt 27 = .ok (.istore_n 2, 1) := by decide +kernel
theorem dX0_berthedAt_28 : decode cX0_berthedAt 28 = .ok (.iinc 3 1, 3) := by decide +kernel
theorem dX0_berthedAt_31 : decode cX0_berthedAt 31 = .ok (.goto (-27), 3) := by decide +kernel
theorem dX0_berthedAt_34 : decode cX0_berthedAt 34 = .ok (.iload_n 2, 1) := by decide +kernel
theorem dX0_berthedAt_35 : decode cX0_berthedAt 35 = .ok (.ireturn, 1) := by decide +kernel
theorem dX0_aheadOf_0 : decode cX0_aheadOf 0 = .ok (.iconst 0, 1) := by decide +kernel
theorem dX0_aheadOf_1 : decode cX0_aheadOf 1 = .ok (.istore_n 2, 1) := by decide +kernel
theorem dX0_aheadOf_2 : decode cX0_aheadOf 2 = .ok (.iconst 0, 1) := by decide +kernel
theorem dX0_aheadOf_3 : decode cX0_aheadOf 3 = .ok (.istore_n 3, 1) := by decide +kernel
theorem dX0_aheadOf_4 : decode cX0_aheadOf 4 = .ok (.iload_n 3, 1) := by decide +kernel
theorem dX0_aheadOf_5 : decode cX0_aheadOf 5 = .ok (.aload_n 0, 1) := by decide +kernel
theorem dX0_aheadOf_6 : decode cX0_aheadOf 6 = .ok (.getfield 9, 3) := by decide +kernel
theorem dX0_aheadOf_9 : decode cX0_aheadOf 9 = .ok (.if_icmp .ge 67, 3) := by decide +kernel
theorem dX0_aheadOf_12 : decode cX0_aheadOf 12 = .ok (.aload_n 0, 1) := by decide +kernel
theorem dX0_aheadOf_13 : decode cX0_aheadOf 13 = .ok (.getfield 25, 3) := by decide +kernel
theorem dX0_aheadOf_16 : decode cX0_aheadOf 16 = .ok (.iload_n 3, 1) := by decide +kernel
theorem dX0_aheadOf_17 : decode cX0_aheadOf 17 = .ok (.iaload, 1) := by decide +kernel
theorem dX0_aheadOf_18 : decode cX0_aheadOf 18 = .ok (.aload_n 0, 1) := by decide +kernel
theorem dX0_aheadOf_19 : decode cX0_aheadOf 19 = .ok (.getfield 25, 3) := by decide +kernel
theorem dX0_aheadOf_22 : decode cX0_aheadOf 22 = .ok (.iload_n 1, 1) := by decide +kernel
theorem dX0_aheadOf_23 : decode cX0_aheadOf 23 = .ok (.iaload, 1) := by decide +kernel
theorem dX0_aheadOf_24 : decode cX0_aheadOf 24 = .ok (.if_icmp .gt 23, 3) := by decide +kernel
theorem dX0_aheadOf_27 : decode cX0_aheadOf 27 = .ok (.aload_n 0, 1) := by decide +kernel
theorem dX0_aheadOf_28 : decode cX0_aheadOf 28 = .ok (.getfield 25, 3) := by decide +kernel
theorem dX0_aheadOf_31 : decode cX0_aheadOf 31 = .ok (.iload_n 3, 1) := by decide +kernel
theorem dX0_aheadOf_32 : decode cX0_aheadOf 32 = .ok (.iaload, 1) := by decide +kernel
theorem dX0_aheadOf_33 : decode cX0_aheadOf 33 = .ok (.aload_n 0, 1) := by decide +kernel
theorem dX0_aheadOf_34 : decode cX0_aheadOf 34 = .ok (.getfield 25, 3) := by decide +kernel
theorem dX0_aheadOf_37 : decode cX0_aheadOf 37 = .ok (.iload_n 1, 1) := by decide +kernel
theorem dX0_aheadOf_38 : decode cX0_aheadOf 38 = .ok (.iaload, 1) := by decide +kernel
theorem dX0_aheadOf_39 : decode cX0_aheadOf 39 = .ok (.if_icmp .ne 12, 3) := by decide +kernel
theorem dX0_aheadOf_42 : decode cX0_aheadOf 42 = .ok (.iload_n 3, 1) := by decide +kernel
theorem dX0_aheadOf_43 : decode cX0_aheadOf 43 = .ok (.iload_n 1, 1) := by decide +kernel
theorem dX0_aheadOf_44 : decode cX0_aheadOf 44 = .ok (.if_icmp .ge 7, 3) := by decide +kernel
theorem dX0_aheadOf_47 : decode cX0_aheadOf 47 = .ok (.iconst 1, 1) := by decide +kernel
theorem dX0_aheadOf_48 : decode cX0_aheadOf 48 = .ok (.goto 4, 3) := by decide +kernel
theorem dX0_aheadOf_51 : decode cX0_aheadOf 51 = .ok (.iconst 0, 1) := by decide +kernel
theorem dX0_aheadOf_52 : decode cX0_aheadOf 52 = .ok (.istore 4, 2) := by decide +kernel
theorem dX0_aheadOf_54 : decode cX0_aheadOf 54 = .ok (.aload_n 0, 1) := by decide +kernel
theorem dX0_aheadOf_55 : decode cX0_aheadOf 55 = .ok (.iload_n 3, 1) := by decide +kernel
theorem dX0_aheadOf_56 : decode cX0_aheadOf 56 = .ok (.invokevirtual 52, 3) := by decide +kernel
theorem dX0_aheadOf_59 : decode cX0_aheadOf 59 = .ok (.ifCond .eq 11, 3) := by decide +kernel
theorem dX0_aheadOf_62 : decode cX0_aheadOf 62 = .ok (.iload 4, 2) := by decide +kernel
theorem dX0_aheadOf_64 : decode cX0_aheadOf 64 = .ok (.ifCond .eq 6, 3) := by decide +kernel
theorem dX0_aheadOf_67 : decode cX0_aheadOf 67 = .ok (.iinc 2 1, 3) := by decide +kernel
theorem dX0_aheadOf_70 : decode cX0_aheadOf 70 = .ok (.iinc 3 1, 3) := by decide +kernel
theorem dX0_aheadOf_73 : decode cX0_aheadOf 73 = .ok (.goto (-69), 3) := by decide +kernel
theorem dX0_aheadOf_76 : decode cX0_aheadOf 76 = .ok (.iload_n 2, 1) := by decide +kernel
theorem dX0_aheadOf_77 : decode cX0_aheadOf 77 = .ok (.ireturn, 1) := by decide +kernel
theorem dX1_init_0 : decode cX1_init 0 = .ok (.aload_n 0, 1) := by decide +kernel
theorem dX1_init_1 : decode cX1_init 1 = .ok (.invokespecial 3, 3) := by decide +kernel
theorem dX1_init_4 : decode cX1_init 4 = .ok (.aload_n 0, 1) := by decide +kernel
theorem dX1_init_5 : decode cX1_init 5 = .ok (.iconst 0, 1) := by decide +kernel
theorem dX1_init_6 : decode cX1_init 6 = .ok (.putfield 9, 3) := by decide +kernel
theorem dX1_init_9 : decode cX1_init 9 = .ok (.aload_n 0, 1) := by decide +kernel
theorem dX1_init_10 : decode cX1_init 10 = .ok (.iconst 4, 1) := by decide +kernel
theorem dX1_init_11 : decode cX1_init 11 = .ok (.newarray .int, 2) := by decide +kernel
theorem dX1_init_13 : decode cX1_init 13 = .ok (.putfield 15, 3) := by decide +kernel
theorem dX1_init_16 : decode cX1_init 16 = .ok (.aload_n 0, 1) := by decide +kernel
theorem dX1_init_17 : decode cX1_init 17 = .ok (.iconst 4, 1) := by decide +kernel
theorem dX1_init_18 : decode cX1_init 18 = .ok (.newarray .int, 2) := by decide +kernel
theorem dX1_init_20 : decode cX1_init 20 = .ok (.putfield 19, 3) := by decide +kernel
theorem dX1_init_23 : decode cX1_init 23 = .ok (.aload_n 0, 1) := by decide +kernel
theorem dX1_init_24 : decode cX1_init 24 = .ok (.iconst 4, 1) := by decide +kernel
theorem dX1_init_25 : decode cX1_init 25 = .ok (.newarray .boolean, 2) := by decide +kernel
theorem dX1_init_27 : decode cX1_init 27 = .ok (.putfield 22, 3) := by decide +kernel
theorem dX1_init_30 : decode cX1_init 30 = .ok (.aload_n 0, 1) := by decide +kernel
theorem dX1_init_31 : decode cX1_init 31 = .ok (.iconst 4, 1) := by decide +kernel
theorem dX1_init_32 : decode cX1_init 32 = .ok (.newarray .int, 2) := by decide +kernel
theorem dX1_init_34 : decode cX1_init 34 = .ok (.putfield 26, 3) := by decide +kernel
theorem dX1_init_37 : decode cX1_init 37 = .ok (.aload_n 0, 1) := by decide +kernel
theorem dX1_init_38 : decode cX1_init 38 = .ok (.iconst 4, 1) := by decide +kernel
theorem dX1_init_39 : decode cX1_init 39 = .ok (.newarray .int, 2) := by decide +kernel
theorem dX1_init_41 : decode cX1_init 41 = .ok (.putfield 29, 3) := by decide +kernel
theorem dX1_init_44 : decode cX1_init 44 = .ok (.return_, 1) := by decide +kernel
theorem dX1_has_0 : decode cX1_has 0 = .ok (.iload_n 1, 1) := by decide +kernel
theorem dX1_has_1 : decode cX1_has 1 = .ok (.ifCond .lt 15, 3) := by decide +kernel
theorem dX1_has_4 : decode cX1_has 4 = .ok (.iload_n 1, 1) := by decide +kernel
theorem dX1_has_5 : decode cX1_has 5 = .ok (.aload_n 0, 1) := by decide +kernel
theorem dX1_has_6 : decode cX1_has 6 = .ok (.getfield 9, 3) := by decide +kernel
theorem dX1_has_9 : decode cX1_has 9 = .ok (.if_icmp .ge 7, 3) := by decide +kernel
theorem dX1_has_12 : decode cX1_has 12 = .ok (.iconst 1, 1) := by decide +kernel
theorem dX1_has_13 : decode cX1_has 13 = .ok (.goto 4, 3) := by decide +kernel
theorem dX1_has_16 : decode cX1_has 16 = .ok (.iconst 0, 1) := by decide +kernel
theorem dX1_has_17 : decode cX1_has 17 = .ok (.ireturn, 1) := by decide +kernel
theorem dX2_init_0 : decode cX2_init 0 = .ok (.aload_n 0, 1) := by decide +kernel
theorem dX2_init_1 : decode cX2_init 1 = .ok (.invokespecial 3, 3) := by decide +kernel
theorem dX2_init_4 : decode cX2_init 4 = .ok (.aload_n 0, 1) := by decide +kernel
theorem dX2_init_5 : decode cX2_init 5 = .ok (.bipush 12, 2) := by decide +kernel
theorem dX2_init_7 : decode cX2_init 7 = .ok (.newarray .int, 2) := by decide +kernel
theorem dX2_init_9 : decode cX2_init 9 = .ok (.putfield 9, 3) := by decide +kernel
theorem dX2_init_12 : decode cX2_init 12 = .ok (.aload_n 0, 1) := by decide +kernel
theorem dX2_init_13 : decode cX2_init 13 = .ok (.bipush 120, 2) := by decide +kernel
theorem dX2_init_15 : decode cX2_init 15 = .ok (.newarray .int, 2) := by decide +kernel
theorem dX2_init_17 : decode cX2_init 17 = .ok (.putfield 15, 3) := by decide +kernel
theorem dX2_init_20 : decode cX2_init 20 = .ok (.aload_n 0, 1) := by decide +kernel
theorem dX2_init_21 : decode cX2_init 21 = .ok (.iconst 5, 1) := by decide +kernel
theorem dX2_init_22 : decode cX2_init 22 = .ok (.newarray .int, 2) := by decide +kernel
theorem dX2_init_24 : decode cX2_init 24 = .ok (.dup, 1) := by decide +kernel
theorem dX2_init_25 : decode cX2_init 25 = .ok (.iconst 0, 1) := by decide +kernel
theorem dX2_init_26 : decode cX2_init 26 = .ok (.bipush 40, 2) := by decide +kernel
theorem dX2_init_28 : decode cX2_init 28 = .ok (.iastore, 1) := by decide +kernel
theorem dX2_init_29 : decode cX2_init 29 = .ok (.dup, 1) := by decide +kernel
theorem dX2_init_30 : decode cX2_init 30 = .ok (.iconst 1, 1) := by decide +kernel
theorem dX2_init_31 : decode cX2_init 31 = .ok (.sipush 500, 3) := by decide +kernel
theorem dX2_init_34 : decode cX2_init 34 = .ok (.iastore, 1) := by decide +kernel
theorem dX2_init_35 : decode cX2_init 35 = .ok (.dup, 1) := by decide +kernel
theorem dX2_init_36 : decode cX2_init 36 = .ok (.iconst 2, 1) := by decide +kernel
theorem dX2_init_37 : decode cX2_init 37 = .ok (.iconst 5, 1) := by decide +kernel
theorem dX2_init_38 : decode cX2_init 38 = .ok (.iastore, 1) := by decide +kernel
theorem dX2_init_39 : decode cX2_init 39 = .ok (.dup, 1) := by decide +kernel
theorem dX2_init_40 : decode cX2_init 40 = .ok (.iconst 3, 1) := by decide +kernel
theorem dX2_init_41 : decode cX2_init 41 = .ok (.bipush 10, 2) := by decide +kernel
theorem dX2_init_43 : decode cX2_init 43 = .ok (.iastore, 1) := by decide +kernel
theorem dX2_init_44 : decode cX2_init 44 = .ok (.dup, 1) := by decide +kernel
theorem dX2_init_45 : decode cX2_init 45 = .ok (.iconst 4, 1) := by decide +kernel
theorem dX2_init_46 : decode cX2_init 46 = .ok (.bipush 40, 2) := by decide +kernel
theorem dX2_init_48 : decode cX2_init 48 = .ok (.iastore, 1) := by decide +kernel
theorem dX2_init_49 : decode cX2_init 49 = .ok (.putfield 18, 3) := by decide +kernel
theorem dX2_init_52 : decode cX2_init 52 = .ok (.aload_n 0, 1) := by decide +kernel
theorem dX2_init_53 : decode cX2_init 53 = .ok (.getfield 15, 3) := by decide +kernel
theorem dX2_init_56 : decode cX2_init 56 = .ok (.iconst 2, 1) := by decide +kernel
theorem dX2_init_57 : decode cX2_init 57 = .ok (.invokestatic 21, 3) := by decide +kernel
theorem dX2_init_60 : decode cX2_init 60 = .ok (.return_, 1) := by decide +kernel
theorem dX2_levelAt_0 : decode cX2_levelAt 0 = .ok (.aload_n 0, 1) := by decide +kernel
theorem dX2_levelAt_1 : decode cX2_levelAt 1 = .ok (.getfield 9, 3) := by decide +kernel
theorem dX2_levelAt_4 : decode cX2_levelAt 4 = .ok (.iload_n 1, 1) := by decide +kernel
theorem dX2_levelAt_5 : decode cX2_levelAt 5 = .ok (.bipush 12, 2) := by decide +kernel
theorem dX2_levelAt_7 : decode cX2_levelAt 7 = .ok (.irem, 1) := by decide +kernel
theorem dX2_levelAt_8 : decode cX2_levelAt 8 = .ok (.iaload, 1) := by decide +kernel
theorem dX2_levelAt_9 : decode cX2_levelAt 9 = .ok (.ireturn, 1) := by decide +kernel
theorem dX2_leastLevel_0 : decode cX2_leastLevel 0 = .ok (.bipush 80, 2) := by decide +kernel
theorem dX2_leastLevel_2 : decode cX2_leastLevel 2 = .ok (.istore_n 1, 1) := by decide +kernel
theorem dX2_leastLevel_3 : decode cX2_leastLevel 3 = .ok (.iconst 0, 1) := by decide +kernel
theorem dX2_leastLevel_4 : decode cX2_leastLevel 4 = .ok (.istore_n 2, 1) := by decide +kernel
theorem dX2_leastLevel_5 : decode cX2_leastLevel 5 = .ok (.iload_n 2, 1) := by decide +kernel
theorem dX2_leastLevel_6 : decode cX2_leastLevel 6 = .ok (.bipush 12, 2) := by decide +kernel
theorem dX2_leastLevel_8 : decode cX2_leastLevel 8 = .ok (.if_icmp .ge 20, 3) := by decide +kernel
theorem dX2_leastLevel_11 : decode cX2_leastLevel 11 = .ok (.iload_n 1, 1) := by decide +kernel
theorem dX2_leastLevel_12 : decode cX2_leastLevel 12 = .ok (.aload_n 0, 1) := by decide +kernel
theorem dX2_leastLevel_13 : decode cX2_leastLevel 13 = .ok (.getfield 9, 3) := by decide +kernel
theorem dX2_leastLevel_16 : decode cX2_leastLevel 16 = .ok (.iload_n 2, 1) := by decide +kernel
theorem dX2_leastLevel_17 : decode cX2_leastLevel 17 = .ok (.iaload, 1) := by decide +kernel
theorem dX2_leastLevel_18 : decode cX2_leastLevel 18 = .ok (.invokestatic 27, 3) := by decide +kernel
theorem dX2_leastLevel_21 : decode cX2_leastLevel 21 = .ok (.istore_n 1, 1) := by decide +kernel
theorem dX2_leastLevel_22 : decode cX2_leastLevel 22 = .ok (.iinc 2 1, 3) := by decide +kernel
theorem dX2_leastLevel_25 : decode cX2_leastLevel 25 = .ok (.goto (-20), 3) := by decide +kernel
theorem dX2_leastLevel_28 : decode cX2_leastLevel 28 = .ok (.iload_n 1, 1) := by decide +kernel
theorem dX2_leastLevel_29 : decode cX2_leastLevel 29 = .ok (.ireturn, 1) := by decide +kernel
theorem dX2_greatestLevel_0 : decode cX2_greatestLevel 0 = .ok (.iconst 0, 1) := by decide +kernel
theorem dX2_greatestLevel_1 : decode cX2_greatestLevel 1 = .ok (.istore_n 1, 1) := by decide +kernel
theorem dX2_greatestLevel_2 : decode cX2_greatestLevel 2 = .ok (.iconst 0, 1) := by decide +kernel
theorem dX2_greatestLevel_3 : decode cX2_greatestLevel 3 = .ok (.istore_n 2, 1) := by decide +kernel
theorem dX2_greatestLevel_4 : decode cX2_greatestLevel 4 = .ok (.iload_n 2, 1) := by decide +kernel
theorem dX2_greatestLevel_5 : decode cX2_greatestLevel 5 = .ok (.bipush 12, 2) := by decide +kernel
theorem dX2_greatestLevel_7 : decode cX2_greatestLevel 7 = .ok (.if_icmp .ge 20, 3) := by decide +kernel
theorem dX2_greatestLevel_10 : decode cX2_greatestLevel 10 = .ok (.iload_n 1, 1) := by decide +kernel
theorem dX2_greatestLevel_11 : decode cX2_greatestLevel 11 = .ok (.aload_n 0, 1) := by decide +kernel
theorem dX2_greatestLevel_12 : decode cX2_greatestLevel 12 = .ok (.getfield 9, 3) := by decide +kernel
theorem dX2_greatestLevel_15 : decode cX2_greatestLevel 15 = .ok (.iload_n 2, 1) := by decide +kernel
theorem dX2_greatestLevel_16 : decode cX2_greatestLevel 16 = .ok (.iaload, 1) := by decide +kernel
theorem dX2_greatestLevel_17 : decode cX2_greatestLevel 17 = .ok (.invokestatic 33, 3) := by decide +kernel
theorem dX2_greatestLevel_20 : decode cX2_greatestLevel 20 = .ok (.istore_n 1, 1) := by decide +kernel
theorem dX2_greatestLevel_21 : decode cX2_greatestLevel 21 = .ok (.iinc 2 1, 3) := by decide +kernel
theorem dX2_greatestLevel_24 : decode cX2_greatestLevel 24 = .ok (.goto (-20), 3) := by decide +kernel
theorem dX2_greatestLevel_27 : decode cX2_greatestLevel 27 = .ok (.iload_n 1, 1) := by decide +kernel
theorem dX2_greatestLevel_28 : decode cX2_greatestLevel 28 = .ok (.ireturn, 1) := by decide +kernel
theorem dX3_init_0 : decode cX3_init 0 = .ok (.aload_n 0, 1) := by decide +kernel
theorem dX3_init_1 : decode cX3_init 1 = .ok (.invokespecial 3, 3) := by decide +kernel
theorem dX3_init_4 : decode cX3_init 4 = .ok (.aload_n 0, 1) := by decide +kernel
theorem dX3_init_5 : decode cX3_init 5 = .ok (.new 9, 3) := by decide +kernel
theorem dX3_init_8 : decode cX3_init 8 = .ok (.dup, 1) := by decide +kernel
theorem dX3_init_9 : decode cX3_init 9 = .ok (.invokespecial 11, 3) := by decide +kernel
theorem dX3_init_12 : decode cX3_init 12 = .ok (.putfield 12, 3) := by decide +kernel
theorem dX3_init_15 : decode cX3_init 15 = .ok (.aload_n 0, 1) := by decide +kernel
theorem dX3_init_16 : decode cX3_init 16 = .ok (.new 16, 3) := by decide +kernel
theorem dX3_init_19 : decode cX3_init 19 = .ok (.dup, 1) := by decide +kernel
theorem dX3_init_20 : decode cX3_init 20 = .ok (.invokespecial 18, 3) := by decide +kernel
theorem dX3_init_23 : decode cX3_init 23 = .ok (.putfield 19, 3) := by decide +kernel
theorem dX3_init_26 : decode cX3_init 26 = .ok (.aload_n 0, 1) := by decide +kernel
theorem dX3_init_27 : decode cX3_init 27 = .ok (.new 23, 3) := by decide +kernel
theorem dX3_init_30 : decode cX3_init 30 = .ok (.dup, 1) := by decide +kernel
theorem dX3_init_31 : decode cX3_init 31 = .ok (.invokespecial 25, 3) := by decide +kernel
theorem dX3_init_34 : decode cX3_init 34 = .ok (.putfield 26, 3) := by decide +kernel
theorem dX3_init_37 : decode cX3_init 37 = .ok (.aload_n 0, 1) := by decide +kernel
theorem dX3_init_38 : decode cX3_init 38 = .ok (.sipush 128, 3) := by decide +kernel
theorem dX3_init_41 : decode cX3_init 41 = .ok (.newarray .long, 2) := by decide +kernel
theorem dX3_init_43 : decode cX3_init 43 = .ok (.putfield 30, 3) := by decide +kernel
theorem dX3_init_46 : decode cX3_init 46 = .ok (.aload_n 0, 1) := by decide +kernel
theorem dX3_init_47 : decode cX3_init 47 = .ok (.sipush 128, 3) := by decide +kernel
theorem dX3_init_50 : decode cX3_init 50 = .ok (.newarray .long, 2) := by decide +kernel
theorem dX3_init_52 : decode cX3_init 52 = .ok (.putfield 34, 3) := by decide +kernel
theorem dX3_init_55 : decode cX3_init 55 = .ok (.aload_n 0, 1) := by decide +kernel
theorem dX3_init_56 : decode cX3_init 56 = .ok (.sipush 128, 3) := by decide +kernel
theorem dX3_init_59 : decode cX3_init 59 = .ok (.newarray .int, 2) := by decide +kernel
theorem dX3_init_61 : decode cX3_init 61 = .ok (.putfield 37, 3) := by decide +kernel
theorem dX3_init_64 : decode cX3_init 64 = .ok (.aload_n 0, 1) := by decide +kernel
theorem dX3_init_65 : decode cX3_init 65 = .ok (.bipush 7, 2) := by decide +kernel
theorem dX3_init_67 : decode cX3_init 67 = .ok (.newarray .int, 2) := by decide +kernel
theorem dX3_init_69 : decode cX3_init 69 = .ok (.putfield 41, 3) := by decide +kernel
theorem dX3_init_72 : decode cX3_init 72 = .ok (.return_, 1) := by decide +kernel
theorem dX3_tide_0 : decode cX3_tide 0 = .ok (.iload_n 1, 1) := by decide +kernel
theorem dX3_tide_1 : decode cX3_tide 1 = .ok (.iconst 0, 1) := by decide +kernel
theorem dX3_tide_2 : decode cX3_tide 2 = .ok (.bipush 11, 2) := by decide +kernel
theorem dX3_tide_4 : decode cX3_tide 4 = .ok (.invokestatic 44, 3) := by decide +kernel
theorem dX3_tide_7 : decode cX3_tide 7 = .ok (.ifCond .eq 13, 3) := by decide +kernel
theorem dX3_tide_10 : decode cX3_tide 10 = .ok (.iload_n 2, 1) := by decide +kernel
theorem dX3_tide_11 : decode cX3_tide 11 = .ok (.iconst 0, 1) := by decide +kernel
theorem dX3_tide_12 : decode cX3_tide 12 = .ok (.bipush 80, 2) := by decide +kernel
theorem dX3_tide_14 : decode cX3_tide 14 = .ok (.invokestatic 44, 3) := by decide +kernel
theorem dX3_tide_17 : decode cX3_tide 17 = .ok (.ifCond .ne 5, 3) := by decide +kernel
theorem dX3_tide_20 : decode cX3_tide 20 = .ok (.iconst 0, 1) := by decide +kernel
theorem dX3_tide_21 : decode cX3_tide 21 = .ok (.ireturn, 1) := by decide +kernel
theorem dX3_tide_22 : decode cX3_tide 22 = .ok (.aload_n 0, 1) := by decide +kernel
theorem dX3_tide_23 : decode cX3_tide 23 = .ok (.getfield 12, 3) := by decide +kernel
theorem dX3_tide_26 : decode cX3_tide 26 = .ok (.getfield 48, 3) := by decide +kernel
theorem dX3_tide_29 : decode cX3_tide 29 = .ok (.iload_n 1, 1) := by decide +kernel
theorem dX3_tide_30 : decode cX3_tide 30 = .ok (.iload_n 2, 1) := by decide +kernel
theorem dX3_tide_31 : decode cX3_tide 31 = .ok (.iastore, 1) := by decide +kernel
theorem dX3_tide_32 : decode cX3_tide 32 = .ok (.iconst 1, 1) := by decide +kernel
theorem dX3_tide_33 : decode cX3_tide 33 = .ok (.ireturn, 1) := by decide +kernel
theorem dX3_set_0 : decode cX3_set 0 = .ok (.iload_n 1, 1) := by decide +kernel
theorem dX3_set_1 : decode cX3_set 1 = .ok (.iconst 0, 1) := by decide +kernel
theorem dX3_set_2 : decode cX3_set 2 = .ok (.iconst 4, 1) := by decide +kernel
theorem dX3_set_3 : decode cX3_set 3 = .ok (.invokestatic 44, 3) := by decide +kernel
theorem dX3_set_6 : decode cX3_set 6 = .ok (.ifCond .eq 16, 3) := by decide +kernel
theorem dX3_set_9 : decode cX3_set 9 = .ok (.iload_n 2, 1) := by decide +kernel
theorem dX3_set_10 : decode cX3_set 10 = .ok (.iconst 0, 1) := by decide +kernel
theorem dX3_set_11 : decode cX3_set 11 = .ok (.getstatic 51, 3) := by decide +kernel
theorem dX3_set_14 : decode cX3_set 14 = .ok (.iload_n 1, 1) := by decide +kernel
theorem dX3_set_15 : decode cX3_set 15 = .ok (.iaload, 1) := by decide +kernel
theorem dX3_set_16 : decode cX3_set 16 = .ok (.invokestatic 44, 3) := by decide +kernel
theorem dX3_set_19 : decode cX3_set 19 = .ok (.ifCond .ne 5, 3) := by decide +kernel
theorem dX3_set_22 : decode cX3_set 22 = .ok (.iconst (-1), 1) := by decide +kernel
theorem dX3_set_23 : decode cX3_set 23 = .ok (.ireturn, 1) := by decide +kernel
theorem dX3_set_24 : decode cX3_set 24 = .ok (.aload_n 0, 1) := by decide +kernel
theorem dX3_set_25 : decode cX3_set 25 = .ok (.getfield 12, 3) := by decide +kernel
theorem dX3_set_28 : decode cX3_set 28 = .ok (.getfield 54, 3) := by decide +kernel
theorem dX3_set_31 : decode cX3_set 31 = .ok (.iload_n 1, 1) := by decide +kernel
theorem dX3_set_32 : decode cX3_set 32 = .ok (.iaload, 1) := by decide +kernel
theorem dX3_set_33 : decode cX3_set 33 = .ok (.istore_n 3, 1) := by decide +kernel
theorem dX3_set_34 : decode cX3_set 34 = .ok (.aload_n 0, 1) := by decide +kernel
theorem dX3_set_35 : decode cX3_set 35 = .ok (.getfield 12, 3) := by decide +kernel
theorem dX3_set_38 : decode cX3_set 38 = .ok (.getfield 54, 3) := by decide +kernel
theorem dX3_set_41 : decode cX3_set 41 = .ok (.iload_n 1, 1) := by decide +kernel
theorem dX3_set_42 : decode cX3_set 42 = .ok (.iload_n 2, 1) := by decide +kernel
theorem dX3_set_43 : decode cX3_set 43 = .ok (.iastore, 1) := by decide +kernel
theorem dX3_set_44 : decode cX3_set 44 = .ok (.iload_n 3, 1) := by decide +kernel
theorem dX3_set_45 : decode cX3_set 45 = .ok (.ireturn, 1) := by decide +kernel
theorem dX3_tugs_0 : decode cX3_tugs 0 = .ok (.iload_n 1, 1) := by decide +kernel
theorem dX3_tugs_1 : decode cX3_tugs 1 = .ok (.iload_n 2, 1) := by decide +kernel
theorem dX3_tugs_2 : decode cX3_tugs 2 = .ok (.invokestatic 57, 3) := by decide +kernel
theorem dX3_tugs_5 : decode cX3_tugs 5 = .ok (.ifCond .eq 13, 3) := by decide +kernel
theorem dX3_tugs_8 : decode cX3_tugs 8 = .ok (.iload_n 3, 1) := by decide +kernel
theorem dX3_tugs_9 : decode cX3_tugs 9 = .ok (.iconst 0, 1) := by decide +kernel
theorem dX3_tugs_10 : decode cX3_tugs 10 = .ok (.bipush 9, 2) := by decide +kernel
theorem dX3_tugs_12 : decode cX3_tugs 12 = .ok (.invokestatic 44, 3) := by decide +kernel
theorem dX3_tugs_15 : decode cX3_tugs 15 = .ok (.ifCond .ne 5, 3) := by decide +kernel
theorem dX3_tugs_18 : decode cX3_tugs 18 = .ok (.iconst 0, 1) := by decide +kernel
theorem dX3_tugs_19 : decode cX3_tugs 19 = .ok (.ireturn, 1) := by decide +kernel
theorem dX3_tugs_20 : decode cX3_tugs 20 = .ok (.iload_n 1, 1) := by decide +kernel
theorem dX3_tugs_21 : decode cX3_tugs 21 = .ok (.istore 4, 2) := by decide +kernel
theorem dX3_tugs_23 : decode cX3_tugs 23 = .ok (.iload 4, 2) := by decide +kernel
theorem dX3_tugs_25 : decode cX3_tugs 25 = .ok (.iload_n 2, 1) := by decide +kernel
theorem dX3_tugs_26 : decode cX3_tugs 26 = .ok (.if_icmp .gt 20, 3) := by decide +kernel
theorem dX3_tugs_29 : decode cX3_tugs 29 = .ok (.aload_n 0, 1) := by decide +kernel
theorem dX3_tugs_30 : decode cX3_tugs 30 = .ok (.getfield 12, 3) := by decide +kernel
theorem dX3_tugs_33 : decode cX3_tugs 33 = .ok (.getfield 61, 3) := by decide +kernel
theorem dX3_tugs_36 : decode cX3_tugs 36 = .ok (.iload 4, 2) := by decide +kernel
theorem dX3_tugs_38 : decode cX3_tugs 38 = .ok (.iload_n 3, 1) := by decide +kernel
theorem dX3_tugs_39 : decode cX3_tugs 39 = .ok (.iastore, 1) := by decide +kernel
theorem dX3_tugs_40 : decode cX3_tugs 40 = .ok (.iinc 4 1, 3) := by decide +kernel
theorem dX3_tugs_43 : decode cX3_tugs 43 = .ok (.goto (-20), 3) := by decide +kernel
theorem dX3_tugs_46 : decode cX3_tugs 46 = .ok (.iconst 1, 1) := by decide +kernel
theorem dX3_tugs_47 : decode cX3_tugs 47 = .ok (.ireturn, 1) := by decide +kernel
theorem dX3_ship_0 : decode cX3_ship 0 = .ok (.iload_n 1, 1) := by decide +kernel
theorem dX3_ship_1 : decode cX3_ship 1 = .ok (.iconst 1, 1) := by decide +kernel
theorem dX3_ship_2 : decode cX3_ship 2 = .ok (.sipush 1200, 3) := by decide +kernel
theorem dX3_ship_5 : decode cX3_ship 5 = .ok (.invokestatic 44, 3) := by decide +kernel
theorem dX3_ship_8 : decode cX3_ship 8 = .ok (.ifCond .eq 28, 3) := by decide +kernel
theorem dX3_ship_11 : decode cX3_ship 11 = .ok (.iload_n 2, 1) := by decide +kernel
theorem dX3_ship_12 : decode cX3_ship 12 = .ok (.iconst 1, 1) := by decide +kernel
theorem dX3_ship_13 : decode cX3_ship 13 = .ok (.bipush 120, 2) := by decide +kernel
theorem dX3_ship_15 : decode cX3_ship 15 = .ok (.invokestatic 44, 3) := by decide +kernel
theorem dX3_ship_18 : decode cX3_ship 18 = .ok (.ifCond .eq 18, 3) := by decide +kernel
theorem dX3_ship_21 : decode cX3_ship 21 = .ok (.iload_n 3, 1) := by decide +kernel
theorem dX3_ship_22 : decode cX3_ship 22 = .ok (.iconst 1, 1) := by decide +kernel
theorem dX3_ship_23 : decode cX3_ship 23 = .ok (.sipush 700, 3) := by decide +kernel
theorem dX3_ship_26 : decode cX3_ship 26 = .ok (.invokestatic 44, 3) := by decide +kernel
theorem dX3_ship_29 : decode cX3_ship 29 = .ok (.ifCond .eq 7, 3) := by decide +kernel
theorem dX3_ship_32 : decode cX3_ship 32 = .ok (.iconst 1, 1) := by decide +kernel
theorem dX3_ship_33 : decode cX3_ship 33 = .ok (.goto 4, 3) := by decide +kernel
theorem dX3_ship_36 : decode cX3_ship 36 = .ok (.iconst 0, 1) := by decide +kernel
theorem dX3_ship_37 : decode cX3_ship 37 = .ok (.istore 8, 2) := by decide +kernel
theorem dX3_ship_39 : decode cX3_ship 39 = .ok (.iload 4, 2) := by decide +kernel
theorem dX3_ship_41 : decode cX3_ship 41 = .ok (.iconst 0, 1) := by decide +kernel
theorem dX3_ship_42 : decode cX3_ship 42 = .ok (.bipush 100, 2) := by decide +kernel
theorem dX3_ship_44 : decode cX3_ship 44 = .ok (.invokestatic 44, 3) := by decide +kernel
theorem dX3_ship_47 : decode cX3_ship 47 = .ok (.ifCond .eq 36, 3) := by decide +kernel
theorem dX3_ship_50 : decode cX3_ship 50 = .ok (.iload 5, 2) := by decide +kernel
theorem dX3_ship_52 : decode cX3_ship 52 = .ok (.iconst 0, 1) := by decide +kernel
theorem dX3_ship_53 : decode cX3_ship 53 = .ok (.iconst 3, 1) := by decide +kernel
theorem dX3_ship_54 : decode cX3_ship 54 = .ok (.invokestatic 44, 3) := by decide +kernel
theorem dX3_ship_57 : decode cX3_ship 57 = .ok (.ifCond .eq 26, 3) := by decide +kernel
theorem dX3_ship_60 : decode cX3_ship 60 = .ok (.iload 6, 2) := by decide +kernel
theorem dX3_ship_62 : decode cX3_ship 62 = .ok (.invokestatic 64, 3) := by decide +kernel
theorem dX3_ship_65 : decode cX3_ship 65 = .ok (.ifCond .eq 18, 3) := by decide +kernel
theorem dX3_ship_68 : decode cX3_ship 68 = .ok (.iload 7, 2) := by decide +kernel
theorem dX3_ship_70 : decode cX3_ship 70 = .ok (.iconst 1, 1) := by decide +kernel
theorem dX3_ship_71 : decode cX3_ship 71 = .ok (.bipush 60, 2) := by decide +kernel
theorem dX3_ship_73 : decode cX3_ship 73 = .ok (.invokestatic 44, 3) := by decide +kernel
theorem dX3_ship_76 : decode cX3_ship 76 = .ok (.ifCond .eq 7, 3) := by decide +kernel
theorem dX3_ship_79 : decode cX3_ship 79 = .ok (.iconst 1, 1) := by decide +kernel
theorem dX3_ship_80 : decode cX3_ship 80 = .ok (.goto 4, 3) := by decide +kernel
theorem dX3_ship_83 : decode cX3_ship 83 = .ok (.iconst 0, 1) := by decide +kernel
theorem dX3_ship_84 : decode cX3_ship 84 = .ok (.istore 9, 2) := by decide +kernel
theorem dX3_ship_86 : decode cX3_ship 86 = .ok (.iload 8, 2) := by decide +kernel
theorem dX3_ship_88 : decode cX3_ship 88 = .ok (.ifCond .eq 20, 3) := by decide +kernel
theorem dX3_ship_91 : decode cX3_ship 91 = .ok (.iload 9, 2) := by decide +kernel
theorem dX3_ship_93 : decode cX3_ship 93 = .ok (.ifCond .eq 15, 3) := by decide +kernel
theorem dX3_ship_96 : decode cX3_ship 96 = .ok (.aload_n 0, 1) := by decide +kernel
theorem dX3_ship_97 : decode cX3_ship 97 = .ok (.getfield 19, 3) := by decide +kernel
theorem dX3_ship_100 : decode cX3_ship 100 = .ok (.getfield 68, 3) := by decide +kernel
theorem dX3_ship_103 : decode cX3_ship 103 = .ok (.bipush 7, 2) := by decide +kernel
theorem dX3_ship_105 : decode cX3_ship 105 = .ok (.if_icmp .lt 5, 3) := by decide +kernel
theorem dX3_ship_108 : decode cX3_ship 108 = .ok (.iconst (-1), 1) := by decide +kernel
theorem dX3_ship_109 : decode cX3_ship 109 = .ok (.ireturn, 1) := by decide +kernel
theorem dX3_ship_110 : decode cX3_ship 110 = .ok (.aload_n 0, 1) := by decide +kernel
theorem dX3_ship_111 : decode cX3_ship 111 = .ok (.getfield 19, 3) := by decide +kernel
theorem dX3_ship_114 : decode cX3_ship 114 = .ok (.getfield 68, 3) := by decide +kernel
theorem dX3_ship_117 : decode cX3_ship 117 = .ok (.istore 10, 2) := by decide +kernel
theorem dX3_ship_119 : decode cX3_ship 119 = .ok (.aload_n 0, 1) := by decide +kernel
theorem dX3_ship_120 : decode cX3_ship 120 = .ok (.getfield 19, 3) := by decide +kernel
theorem dX3_ship_123 : decode cX3_ship 123 = .ok (.getfield 72, 3) := by decide +kernel
theorem dX3_ship_126 : decode cX3_ship 126 = .ok (.iload 10, 2) := by decide +kernel
theorem dX3_ship_128 : decode cX3_ship 128 = .ok (.iload_n 1, 1) := by decide +kernel
theorem dX3_ship_129 : decode cX3_ship 129 = .ok (.iastore, 1) := by decide +kernel
theorem dX3_ship_130 : decode cX3_ship 130 = .ok (.aload_n 0, 1) := by decide +kernel
theorem dX3_ship_131 : decode cX3_ship 131 = .ok (.getfield 19, 3) := by decide +kernel
theorem dX3_ship_134 : decode cX3_ship 134 = .ok (.getfield 75, 3) := by decide +kernel
theorem dX3_ship_137 : decode cX3_ship 137 = .ok (.iload 10, 2) := by decide +kernel
theorem dX3_ship_139 : decode cX3_ship 139 = .ok (.iload_n 2, 1) := by decide +kernel
theorem dX3_ship_140 : decode cX3_ship 140 = .ok (.iastore, 1) := by decide +kernel
theorem dX3_ship_141 : decode cX3_ship 141 = .ok (.aload_n 0, 1) := by decide +kernel
theorem dX3_ship_142 : decode cX3_ship 142 = .ok (.getfield 19, 3) := by decide +kernel
theorem dX3_ship_145 : decode cX3_ship 145 = .ok (.getfield 78, 3) := by decide +kernel
theorem dX3_ship_148 : decode cX3_ship 148 = .ok (.iload 10, 2) := by decide +kernel
theorem dX3_ship_150 : decode cX3_ship 150 = .ok (.iload_n 3, 1) := by decide +kernel
theorem dX3_ship_151 : decode cX3_ship 151 = .ok (.iastore, 1) := by decide +kernel
theorem dX3_ship_152 : decode cX3_ship 152 = .ok (.aload_n 0, 1) := by decide +kernel
theorem dX3_ship_153 : decode cX3_ship 153 = .ok (.getfield 19, 3) := by decide +kernel
theorem dX3_ship_156 : decode cX3_ship 156 = .ok (.getfield 81, 3) := by decide +kernel
theorem dX3_ship_159 : decode cX3_ship 159 = .ok (.iload 10, 2) := by decide +kernel
theorem dX3_ship_161 : decode cX3_ship 161 = .ok (.iload 4, 2) := by decide +kernel
theorem dX3_ship_163 : decode cX3_ship 163 = .ok (.iastore, 1) := by decide +kernel
theorem dX3_ship_164 : decode cX3_ship 164 = .ok (.aload_n 0, 1) := by decide +kernel
theorem dX3_ship_165 : decode cX3_ship 165 = .ok (.getfield 19, 3) := by decide +kernel
theorem dX3_ship_168 : decode cX3_ship 168 = .ok (.getfield 84, 3) := by decide +kernel
theorem dX3_ship_171 : decode cX3_ship 171 = .ok (.iload 10, 2) := by decide +kernel
theorem dX3_ship_173 : decode cX3_ship 173 = .ok (.iload 5, 2) := by decide +kernel
theorem dX3_ship_175 : decode cX3_ship 175 = .ok (.iastore, 1) := by decide +kernel
theorem dX3_ship_176 : decode cX3_ship 176 = .ok (.aload_n 0, 1) := by decide +kernel
theorem dX3_ship_177 : decode cX3_ship 177 = .ok (.getfield 19, 3) := by decide +kernel
theorem dX3_ship_180 : decode cX3_ship 180 = .ok (.getfield 87, 3) := by decide +kernel
theorem dX3_ship_183 : decode cX3_ship 183 = .ok (.iload 10, 2) := by decide +kernel
theorem dX3_ship_185 : decode cX3_ship 185 = .ok (.iload 6, 2) := by decide +kernel
theorem dX3_ship_187 : decode cX3_ship 187 = .ok (.iastore, 1) := by decide +kernel
theorem dX3_ship_188 : decode cX3_ship 188 = .ok (.aload_n 0, 1) := by decide +kernel
theorem dX3_ship_189 : decode cX3_ship 189 = .ok (.getfield 19, 3) := by decide +kernel
theorem dX3_ship_192 : decode cX3_ship 192 = .ok (.getfield 90, 3) := by decide +kernel
theorem dX3_ship_195 : decode cX3_ship 195 = .ok (.iload 10, 2) := by decide +kernel
theorem dX3_ship_197 : decode cX3_ship 197 = .ok (.iload 7, 2) := by decide +kernel
theorem dX3_ship_199 : decode cX3_ship 199 = .ok (.iastore, 1) := by decide +kernel
theorem dX3_ship_200 : decode cX3_ship 200 = .ok (.aload_n 0, 1) := by decide +kernel
theorem dX3_ship_201 : decode cX3_ship 201 = .ok (.getfield 19, 3) := by decide +kernel
theorem dX3_ship_204 : decode cX3_ship 204 = .ok (.iload 10, 2) := by decide +kernel
theorem dX3_ship_206 : decode cX3_ship 206 = .ok (.iconst 1, 1) := by decide +kernel
theorem dX3_ship_207 : decode cX3_ship 207 = .ok (.iadd, 1) := by decide +kernel
theorem dX3_ship_208 : decode cX3_ship 208 = .ok (.putfield 68, 3) := by decide +kernel
theorem dX3_ship_211 : decode cX3_ship 211 = .ok (.iload 10, 2) := by decide +kernel
theorem dX3_ship_213 : decode cX3_ship 213 = .ok (.ireturn, 1) := by decide +kernel
theorem dX3_quay_0 : decode cX3_quay 0 = .ok (.iload_n 1, 1) := by decide +kernel
theorem dX3_quay_1 : decode cX3_quay 1 = .ok (.iconst 1, 1) := by decide +kernel
theorem dX3_quay_2 : decode cX3_quay 2 = .ok (.sipush 4000, 3) := by decide +kernel
theorem dX3_quay_5 : decode cX3_quay 5 = .ok (.invokestatic 44, 3) := by decide +kernel
theorem dX3_quay_8 : decode cX3_quay 8 = .ok (.ifCond .eq 18, 3) := by decide +kernel
theorem dX3_quay_11 : decode cX3_quay 11 = .ok (.iload_n 2, 1) := by decide +kernel
theorem dX3_quay_12 : decode cX3_quay 12 = .ok (.iconst 1, 1) := by decide +kernel
theorem dX3_quay_13 : decode cX3_quay 13 = .ok (.sipush 200, 3) := by decide +kernel
theorem dX3_quay_16 : decode cX3_quay 16 = .ok (.invokestatic 44, 3) := by decide +kernel
theorem dX3_quay_19 : decode cX3_quay 19 = .ok (.ifCond .eq 7, 3) := by decide +kernel
theorem dX3_quay_22 : decode cX3_quay 22 = .ok (.iconst 1, 1) := by decide +kernel
theorem dX3_quay_23 : decode cX3_quay 23 = .ok (.goto 4, 3) := by decide +kernel
theorem dX3_quay_26 : decode cX3_quay 26 = .ok (.iconst 0, 1) := by decide +kernel
theorem dX3_quay_27 : decode cX3_quay 27 = .ok (.istore 6, 2) := by decide +kernel
theorem dX3_quay_29 : decode cX3_quay 29 = .ok (.iload 4, 2) := by decide +kernel
theorem dX3_quay_31 : decode cX3_quay 31 = .ok (.iconst 0, 1) := by decide +kernel
theorem dX3_quay_32 : decode cX3_quay 32 = .ok (.bipush 10, 2) := by decide +kernel
theorem dX3_quay_34 : decode cX3_quay 34 = .ok (.invokestatic 44, 3) := by decide +kernel
theorem dX3_quay_37 : decode cX3_quay 37 = .ok (.ifCond .eq 18, 3) := by decide +kernel
theorem dX3_quay_40 : decode cX3_quay 40 = .ok (.iload 5, 2) := by decide +kernel
theorem dX3_quay_42 : decode cX3_quay 42 = .ok (.iconst 0, 1) := by decide +kernel
theorem dX3_quay_43 : decode cX3_quay 43 = .ok (.bipush 120, 2) := by decide +kernel
theorem dX3_quay_45 : decode cX3_quay 45 = .ok (.invokestatic 44, 3) := by decide +kernel
theorem dX3_quay_48 : decode cX3_quay 48 = .ok (.ifCond .eq 7, 3) := by decide +kernel
theorem dX3_quay_51 : decode cX3_quay 51 = .ok (.iconst 1, 1) := by decide +kernel
theorem dX3_quay_52 : decode cX3_quay 52 = .ok (.goto 4, 3) := by decide +kernel
theorem dX3_quay_55 : decode cX3_quay 55 = .ok (.iconst 0, 1) := by decide +kernel
theorem dX3_quay_56 : decode cX3_quay 56 = .ok (.istore 7, 2) := by decide +kernel
theorem dX3_quay_58 : decode cX3_quay 58 = .ok (.iload 6, 2) := by decide +kernel
theorem dX3_quay_60 : decode cX3_quay 60 = .ok (.ifCond .eq 19, 3) := by decide +kernel
theorem dX3_quay_63 : decode cX3_quay 63 = .ok (.iload 7, 2) := by decide +kernel
theorem dX3_quay_65 : decode cX3_quay 65 = .ok (.ifCond .eq 14, 3) := by decide +kernel
theorem dX3_quay_68 : decode cX3_quay 68 = .ok (.aload_n 0, 1) := by decide +kernel
theorem dX3_quay_69 : decode cX3_quay 69 = .ok (.getfield 26, 3) := by decide +kernel
theorem dX3_quay_72 : decode cX3_quay 72 = .ok (.getfield 93, 3) := by decide +kernel
theorem dX3_quay_75 : decode cX3_quay 75 = .ok (.iconst 4, 1) := by decide +kernel
theorem dX3_quay_76 : decode cX3_quay 76 = .ok (.if_icmp .lt 5, 3) := by decide +kernel
theorem dX3_quay_79 : decode cX3_quay 79 = .ok (.iconst (-1), 1) := by decide +kernel
theorem dX3_quay_80 : decode cX3_quay 80 = .ok (.ireturn, 1) := by decide +kernel
theorem dX3_quay_81 : decode cX3_quay 81 = .ok (.aload_n 0, 1) := by decide +kernel
theorem dX3_quay_82 : decode cX3_quay 82 = .ok (.getfield 26, 3) := by decide +kernel
theorem dX3_quay_85 : decode cX3_quay 85 = .ok (.getfield 93, 3) := by decide +kernel
theorem dX3_quay_88 : decode cX3_quay 88 = .ok (.istore 8, 2) := by decide +kernel
theorem dX3_quay_90 : decode cX3_quay 90 = .ok (.aload_n 0, 1) := by decide +kernel
theorem dX3_quay_91 : decode cX3_quay 91 = .ok (.getfield 26, 3) := by decide +kernel
theorem dX3_quay_94 : decode cX3_quay 94 = .ok (.getfield 94, 3) := by decide +kernel
theorem dX3_quay_97 : decode cX3_quay 97 = .ok (.iload 8, 2) := by decide +kernel
theorem dX3_quay_99 : decode cX3_quay 99 = .ok (.iload_n 1, 1) := by decide +kernel
theorem dX3_quay_100 : decode cX3_quay 100 = .ok (.iastore, 1) := by decide +kernel
theorem dX3_quay_101 : decode cX3_quay 101 = .ok (.aload_n 0, 1) := by decide +kernel
theorem dX3_quay_102 : decode cX3_quay 102 = .ok (.getfield 26, 3) := by decide +kernel
theorem dX3_quay_105 : decode cX3_quay 105 = .ok (.getfield 95, 3) := by decide +kernel
theorem dX3_quay_108 : decode cX3_quay 108 = .ok (.iload 8, 2) := by decide +kernel
theorem dX3_quay_110 : decode cX3_quay 110 = .ok (.iload_n 2, 1) := by decide +kernel
theorem dX3_quay_111 : decode cX3_quay 111 = .ok (.iastore, 1) := by decide +kernel
theorem dX3_quay_112 : decode cX3_quay 112 = .ok (.aload_n 0, 1) := by decide +kernel
theorem dX3_quay_113 : decode cX3_quay 113 = .ok (.getfield 26, 3) := by decide +kernel
theorem dX3_quay_116 : decode cX3_quay 116 = .ok (.getfield 98, 3) := by decide +kernel
theorem dX3_quay_119 : decode cX3_quay 119 = .ok (.iload 8, 2) := by decide +kernel
theorem dX3_quay_121 : decode cX3_quay 121 = .ok (.iload_n 3, 1) := by decide +kernel
theorem dX3_quay_122 : decode cX3_quay 122 = .ok (.bastore, 1) := by decide +kernel
theorem dX3_quay_123 : decode cX3_quay 123 = .ok (.aload_n 0, 1) := by decide +kernel
theorem dX3_quay_124 : decode cX3_quay 124 = .ok (.getfield 26, 3) := by decide +kernel
theorem dX3_quay_127 : decode cX3_quay 127 = .ok (.getfield 102, 3) := by decide +kernel
theorem dX3_quay_130 : decode cX3_quay 130 = .ok (.iload 8, 2) := by decide +kernel
theorem dX3_quay_132 : decode cX3_quay 132 = .ok (.iload 4, 2) := by decide +kernel
theorem dX3_quay_134 : decode cX3_quay 134 = .ok (.iastore, 1) := by decide +kernel
theorem dX3_quay_135 : decode cX3_quay 135 = .ok (.aload_n 0, 1) := by decide +kernel
theorem dX3_quay_136 : decode cX3_quay 136 = .ok (.getfield 26, 3) := by decide +kernel
theorem dX3_quay_139 : decode cX3_quay 139 = .ok (.getfield 105, 3) := by decide +kernel
theorem dX3_quay_142 : decode cX3_quay 142 = .ok (.iload 8, 2) := by decide +kernel
theorem dX3_quay_144 : decode cX3_quay 144 = .ok (.iload 5, 2) := by decide +kernel
theorem dX3_quay_146 : decode cX3_quay 146 = .ok (.iastore, 1) := by decide +kernel
theorem dX3_quay_147 : decode cX3_quay 147 = .ok (.aload_n 0, 1) := by decide +kernel
theorem dX3_quay_148 : decode cX3_quay 148 = .ok (.getfield 26, 3) := by decide +kernel
theorem dX3_quay_151 : decode cX3_quay 151 = .ok (.iload 8, 2) := by decide +kernel
theorem dX3_quay_153 : decode cX3_quay 153 = .ok (.iconst 1, 1) := by decide +kernel
theorem dX3_quay_154 : decode cX3_quay 154 = .ok (.iadd, 1) := by decide +kernel
theorem dX3_quay_155 : decode cX3_quay 155 = .ok (.putfield 93, 3) := by decide +kernel
theorem dX3_quay_158 : decode cX3_quay 158 = .ok (.iload 8, 2) := by decide +kernel
theorem dX3_quay_160 : decode cX3_quay 160 = .ok (.ireturn, 1) := by decide +kernel
theorem dX3_foul_0 : decode cX3_foul 0 = .ok (.aload_n 0, 1) := by decide +kernel
theorem dX3_foul_1 : decode cX3_foul 1 = .ok (.getfield 19, 3) := by decide +kernel
theorem dX3_foul_4 : decode cX3_foul 4 = .ok (.iload_n 1, 1) := by decide +kernel
theorem dX3_foul_5 : decode cX3_foul 5 = .ok (.invokevirtual 108, 3) := by decide +kernel
theorem dX3_foul_8 : decode cX3_foul 8 = .ok (.ifCond .eq 19, 3) := by decide +kernel
theorem dX3_foul_11 : decode cX3_foul 11 = .ok (.aload_n 0, 1) := by decide +kernel
theorem dX3_foul_12 : decode cX3_foul 12 = .ok (.getfield 19, 3) := by decide +kernel
theorem dX3_foul_15 : decode cX3_foul 15 = .ok (.iload_n 2, 1) := by decide +kernel
theorem dX3_foul_16 : decode cX3_foul 16 = .ok (.invokevirtual 108, 3) := by decide +kernel
theorem dX3_foul_19 : decode cX3_foul 19 = .ok (.ifCond .eq 8, 3) := by decide +kernel
theorem dX3_foul_22 : decode cX3_foul 22 = .ok (.iload_n 1, 1) := by decide +kernel
theorem dX3_foul_23 : decode cX3_foul 23 = .ok (.iload_n 2, 1) := by decide +kernel
theorem dX3_foul_24 : decode cX3_foul 24 = .ok (.if_icmp .ne 5, 3) := by decide +kernel
theorem dX3_foul_27 : decode cX3_foul 27 = .ok (.iconst 0, 1) := by decide +kernel
theorem dX3_foul_28 : decode cX3_foul 28 = .ok (.ireturn, 1) := by decide +kernel
theorem dX3_foul_29 : decode cX3_foul 29 = .ok (.iload_n 3, 1) := by decide +kernel
theorem dX3_foul_30 : decode cX3_foul 30 = .ok (.ifCond .eq 36, 3) := by decide +kernel
theorem dX3_foul_33 : decode cX3_foul 33 = .ok (.aload_n 0, 1) := by decide +kernel
theorem dX3_foul_34 : decode cX3_foul 34 = .ok (.getfield 19, 3) := by decide +kernel
theorem dX3_foul_37 : decode cX3_foul 37 = .ok (.getfield 111, 3) := by decide +kernel
theorem dX3_foul_40 : decode cX3_foul 40 = .ok (.iload_n 1, 1) := by decide +kernel
theorem dX3_foul_41 : decode cX3_foul 41 = .ok (.dup2, 1) := by decide +kernel
theorem dX3_foul_42 : decode cX3_foul 42 = .ok (.iaload, 1) := by decide +kernel
theorem dX3_foul_43 : decode cX3_foul 43 = .ok (.iconst 1, 1) := by decide +kernel
theorem dX3_foul_44 : decode cX3_foul 44 = .ok (.iload_n 2, 1) := by decide +kernel
theorem dX3_foul_45 : decode cX3_foul 45 = .ok (.ishl, 1) := by decide +kernel
theorem dX3_foul_46 : decode cX3_foul 46 = .ok (.ior, 1) := by decide +kernel
theorem dX3_foul_47 : decode cX3_foul 47 = .ok (.iastore, 1) := by decide +kernel
theorem dX3_foul_48 : decode cX3_foul 48 = .ok (.aload_n 0, 1) := by decide +kernel
theorem dX3_foul_49 : decode cX3_foul 49 = .ok (.getfield 19, 3) := by decide +kernel
theorem dX3_foul_52 : decode cX3_foul 52 = .ok (.getfield 111, 3) := by decide +kernel
theorem dX3_foul_55 : decode cX3_foul 55 = .ok (.iload_n 2, 1) := by decide +kernel
theorem dX3_foul_56 : decode cX3_foul 56 = .ok (.dup2, 1) := by decide +kernel
theorem dX3_foul_57 : decode cX3_foul 57 = .ok (.iaload, 1) := by decide +kernel
theorem dX3_foul_58 : decode cX3_foul 58 = .ok (.iconst 1, 1) := by decide +kernel
theorem dX3_foul_59 : decode cX3_foul 59 = .ok (.iload_n 1, 1) := by decide +kernel
theorem dX3_foul_60 : decode cX3_foul 60 = .ok (.ishl, 1) := by decide +kernel
theorem dX3_foul_61 : decode cX3_foul 61 = .ok (.ior, 1) := by decide +kernel
theorem dX3_foul_62 : decode cX3_foul 62 = .ok (.iastore, 1) := by decide +kernel
theorem dX3_foul_63 : decode cX3_foul 63 = .ok (.goto 37, 3) := by decide +kernel
theorem dX3_foul_66 : decode cX3_foul 66 = .ok (.aload_n 0, 1) := by decide +kernel
theorem dX3_foul_67 : decode cX3_foul 67 = .ok (.getfield 19, 3) := by decide +kernel
theorem dX3_foul_70 : decode cX3_foul 70 = .ok (.getfield 111, 3) := by decide +kernel
theorem dX3_foul_73 : decode cX3_foul 73 = .ok (.iload_n 1, 1) := by decide +kernel
theorem dX3_foul_74 : decode cX3_foul 74 = .ok (.dup2, 1) := by decide +kernel
theorem dX3_foul_75 : decode cX3_foul 75 = .ok (.iaload, 1) := by decide +kernel
theorem dX3_foul_76 : decode cX3_foul 76 = .ok (.iconst 1, 1) := by decide +kernel
theorem dX3_foul_77 : decode cX3_foul 77 = .ok (.iload_n 2, 1) := by decide +kernel
theorem dX3_foul_78 : decode cX3_foul 78 = .ok (.ishl, 1) := by decide +kernel
theorem dX3_foul_79 : decode cX3_foul 79 = .ok (.iconst (-1), 1) := by decide +kernel
theorem dX3_foul_80 : decode cX3_foul 80 = .ok (.ixor, 1) := by decide +kernel
theorem dX3_foul_81 : decode cX3_foul 81 = .ok (.iand, 1) := by decide +kernel
theorem dX3_foul_82 : decode cX3_foul 82 = .ok (.iastore, 1) := by decide +kernel
theorem dX3_foul_83 : decode cX3_foul 83 = .ok (.aload_n 0, 1) := by decide +kernel
theorem dX3_foul_84 : decode cX3_foul 84 = .ok (.getfield 19, 3) := by decide +kernel
theorem dX3_foul_87 : decode cX3_foul 87 = .ok (.getfield 111, 3) := by decide +kernel
theorem dX3_foul_90 : decode cX3_foul 90 = .ok (.iload_n 2, 1) := by decide +kernel
theorem dX3_foul_91 : decode cX3_foul 91 = .ok (.dup2, 1) := by decide +kernel
theorem dX3_foul_92 : decode cX3_foul 92 = .ok (.iaload, 1) := by decide +kernel
theorem dX3_foul_93 : decode cX3_foul 93 = .ok (.iconst 1, 1) := by decide +kernel
theorem dX3_foul_94 : decode cX3_foul 94 = .ok (.iload_n 1, 1) := by decide +kernel
theorem dX3_foul_95 : decode cX3_foul 95 = .ok (.ishl, 1) := by decide +kernel
theorem dX3_foul_96 : decode cX3_foul 96 = .ok (.iconst (-1), 1) := by decide +kernel
theorem dX3_foul_97 : decode cX3_foul 97 = .ok (.ixor, 1) := by decide +kernel
theorem dX3_foul_98 : decode cX3_foul 98 = .ok (.iand, 1) := by decide +kernel
theorem dX3_foul_99 : decode cX3_foul 99 = .ok (.iastore, 1) := by decide +kernel
theorem dX3_foul_100 : decode cX3_foul 100 = .ok (.iconst 1, 1) := by decide +kernel
theorem dX3_foul_101 : decode cX3_foul 101 = .ok (.ireturn, 1) := by decide +kernel
theorem dX3_arrives_0 : decode cX3_arrives 0 = .ok (.aload_n 0, 1) := by decide +kernel
theorem dX3_arrives_1 : decode cX3_arrives 1 = .ok (.getfield 19, 3) := by decide +kernel
theorem dX3_arrives_4 : decode cX3_arrives 4 = .ok (.iload_n 1, 1) := by decide +kernel
theorem dX3_arrives_5 : decode cX3_arrives 5 = .ok (.invokevirtual 108, 3) := by decide +kernel
theorem dX3_arrives_8 : decode cX3_arrives 8 = .ok (.ifCond .eq 10, 3) := by decide +kernel
theorem dX3_arrives_11 : decode cX3_arrives 11 = .ok (.iload_n 2, 1) := by decide +kernel
theorem dX3_arrives_12 : decode cX3_arrives 12 = .ok (.invokestatic 64, 3) := by decide +kernel
theorem dX3_arrives_15 : decode cX3_arrives 15 = .ok (.ifCond .ne 5, 3) := by decide +kernel
theorem dX3_arrives_18 : decode cX3_arrives 18 = .ok (.iconst (-1), 1) := by decide +kernel
theorem dX3_arrives_19 : decode cX3_arrives 19 = .ok (.ireturn, 1) := by decide +kernel
theorem dX3_arrives_20 : decode cX3_arrives 20 = .ok (.aload_n 0, 1) := by decide +kernel
theorem dX3_arrives_21 : decode cX3_arrives 21 = .ok (.getfield 19, 3) := by decide +kernel
theorem dX3_arrives_24 : decode cX3_arrives 24 = .ok (.getfield 87, 3) := by decide +kernel
theorem dX3_arrives_27 : decode cX3_arrives 27 = .ok (.iload_n 1, 1) := by decide +kernel
theorem dX3_arrives_28 : decode cX3_arrives 28 = .ok (.iaload, 1) := by decide +kernel
theorem dX3_arrives_29 : decode cX3_arrives 29 = .ok (.istore_n 3, 1) := by decide +kernel
theorem dX3_arrives_30 : decode cX3_arrives 30 = .ok (.aload_n 0, 1) := by decide +kernel
theorem dX3_arrives_31 : decode cX3_arrives 31 = .ok (.getfield 19, 3) := by decide +kernel
theorem dX3_arrives_34 : decode cX3_arrives 34 = .ok (.getfield 87, 3) := by decide +kernel
theorem dX3_arrives_37 : decode cX3_arrives 37 = .ok (.iload_n 1, 1) := by decide +kernel
theorem dX3_arrives_38 : decode cX3_arrives 38 = .ok (.iload_n 2, 1) := by decide +kernel
theorem dX3_arrives_39 : decode cX3_arrives 39 = .ok (.iastore, 1) := by decide +kernel
theorem dX3_arrives_40 : decode cX3_arrives 40 = .ok (.iload_n 3, 1) := by decide +kernel
theorem dX3_arrives_41 : decode cX3_arrives 41 = .ok (.ireturn, 1) := by decide +kernel
theorem dX3_count_0 : decode cX3_count 0 = .ok (.iload_n 1, 1) := by decide +kernel
theorem dX3_count_1 : decode cX3_count 1 = .ok (.tableswitch 87 0 5 #[39, 47, 55, 66, 71, 79], 39) := by decide +kernel
theorem dX3_count_40 : decode cX3_count 40 = .ok (.aload_n 0, 1) := by decide +kernel
theorem dX3_count_41 : decode cX3_count 41 = .ok (.getfield 19, 3) := by decide +kernel
theorem dX3_count_44 : decode cX3_count 44 = .ok (.getfield 68, 3) := by decide +kernel
theorem dX3_count_47 : decode cX3_count 47 = .ok (.ireturn, 1) := by decide +kernel
theorem dX3_count_48 : decode cX3_count 48 = .ok (.aload_n 0, 1) := by decide +kernel
theorem dX3_count_49 : decode cX3_count 49 = .ok (.getfield 26, 3) := by decide +kernel
theorem dX3_count_52 : decode cX3_count 52 = .ok (.getfield 93, 3) := by decide +kernel
theorem dX3_count_55 : decode cX3_count 55 = .ok (.ireturn, 1) := by decide +kernel
theorem dX3_count_56 : decode cX3_count 56 = .ok (.aload_n 0, 1) := by decide +kernel
theorem dX3_count_57 : decode cX3_count 57 = .ok (.getfield 19, 3) := by decide +kernel
theorem dX3_count_60 : decode cX3_count 60 = .ok (.invokevirtual 114, 3) := by decide +kernel
theorem dX3_count_63 : decode cX3_count 63 = .ok (.invokestatic 118, 3) := by decide +kernel
theorem dX3_count_66 : decode cX3_count 66 = .ok (.ireturn, 1) := by decide +kernel
theorem dX3_count_67 : decode cX3_count 67 = .ok (.aload_n 0, 1) := by decide +kernel
theorem dX3_count_68 : decode cX3_count 68 = .ok (.invokevirtual 124, 3) := by decide +kernel
theorem dX3_count_71 : decode cX3_count 71 = .ok (.ireturn, 1) := by decide +kernel
theorem dX3_count_72 : decode cX3_count 72 = .ok (.aload_n 0, 1) := by decide +kernel
theorem dX3_count_73 : decode cX3_count 73 = .ok (.getfield 12, 3) := by decide +kernel
theorem dX3_count_76 : decode cX3_count 76 = .ok (.invokevirtual 127, 3) := by decide +kernel
theorem dX3_count_79 : decode cX3_count 79 = .ok (.ireturn, 1) := by decide +kernel
theorem dX3_count_80 : decode cX3_count 80 = .ok (.aload_n 0, 1) := by decide +kernel
theorem dX3_count_81 : decode cX3_count 81 = .ok (.getfield 12, 3) := by decide +kernel
theorem dX3_count_84 : decode cX3_count 84 = .ok (.invokevirtual 130, 3) := by decide +kernel
theorem dX3_count_87 : decode cX3_count 87 = .ok (.ireturn, 1) := by decide +kernel
theorem dX3_count_88 : decode cX3_count 88 = .ok (.iconst (-1), 1) := by decide +kernel
theorem dX3_count_89 : decode cX3_count 89 = .ok (.ireturn, 1) := by decide +kernel
theorem dX3_first_0 : decode cX3_first 0 = .ok (.aload_n 0, 1) := by decide +kernel
theorem dX3_first_1 : decode cX3_first 1 = .ok (.getfield 19, 3) := by decide +kernel
theorem dX3_first_4 : decode cX3_first 4 = .ok (.iload_n 1, 1) := by decide +kernel
theorem dX3_first_5 : decode cX3_first 5 = .ok (.invokevirtual 108, 3) := by decide +kernel
theorem dX3_first_8 : decode cX3_first 8 = .ok (.ifCond .eq 19, 3) := by decide +kernel
theorem dX3_first_11 : decode cX3_first 11 = .ok (.iload_n 2, 1) := by decide +kernel
theorem dX3_first_12 : decode cX3_first 12 = .ok (.invokestatic 64, 3) := by decide +kernel
theorem dX3_first_15 : decode cX3_first 15 = .ok (.ifCond .eq 12, 3) := by decide +kernel
theorem dX3_first_18 : decode cX3_first 18 = .ok (.iload_n 3, 1) := by decide +kernel
theorem dX3_first_19 : decode cX3_first 19 = .ok (.iconst 0, 1) := by decide +kernel
theorem dX3_first_20 : decode cX3_first 20 = .ok (.iconst 1, 1) := by decide +kernel
theorem dX3_first_21 : decode cX3_first 21 = .ok (.invokestatic 44, 3) := by decide +kernel
theorem dX3_first_24 : decode cX3_first 24 = .ok (.ifCond .ne 5, 3) := by decide +kernel
theorem dX3_first_27 : decode cX3_first 27 = .ok (.iconst (-1), 1) := by decide +kernel
theorem dX3_first_28 : decode cX3_first 28 = .ok (.ireturn, 1) := by decide +kernel
theorem dX3_first_29 : decode cX3_first 29 = .ok (.aload_n 0, 1) := by decide +kernel
theorem dX3_first_30 : decode cX3_first 30 = .ok (.iload_n 1, 1) := by decide +kernel
theorem dX3_first_31 : decode cX3_first 31 = .ok (.iload_n 2, 1) := by decide +kernel
theorem dX3_first_32 : decode cX3_first 32 = .ok (.iload_n 3, 1) := by decide +kernel
theorem dX3_first_33 : decode cX3_first 33 = .ok (.iconst 1, 1) := by decide +kernel
theorem dX3_first_34 : decode cX3_first 34 = .ok (.if_icmp .ne 7, 3) := by decide +kernel
theorem dX3_first_37 : decode cX3_first 37 = .ok (.iconst 1, 1) := by decide +kernel
theorem dX3_first_38 : decode cX3_first 38 = .ok (.goto 4, 3) := by decide +kernel
theorem dX3_first_41 : decode cX3_first 41 = .ok (.iconst 0, 1) := by decide +kernel
theorem dX3_first_42 : decode cX3_first 42 = .ok (.invokevirtual 133, 3) := by decide +kernel
theorem dX3_first_45 : decode cX3_first 45 = .ok (.ireturn, 1) := by decide +kernel
theorem dX3_may_0 : decode cX3_may 0 = .ok (.aload_n 0, 1) := by decide +kernel
theorem dX3_may_1 : decode cX3_may 1 = .ok (.getfield 19, 3) := by decide +kernel
theorem dX3_may_4 : decode cX3_may 4 = .ok (.iload_n 1, 1) := by decide +kernel
theorem dX3_may_5 : decode cX3_may 5 = .ok (.invokevirtual 108, 3) := by decide +kernel
theorem dX3_may_8 : decode cX3_may 8 = .ok (.ifCond .eq 14, 3) := by decide +kernel
theorem dX3_may_11 : decode cX3_may 11 = .ok (.aload_n 0, 1) := by decide +kernel
theorem dX3_may_12 : decode cX3_may 12 = .ok (.getfield 26, 3) := by decide +kernel
theorem dX3_may_15 : decode cX3_may 15 = .ok (.iload_n 2, 1) := by decide +kernel
theorem dX3_may_16 : decode cX3_may 16 = .ok (.invokevirtual 137, 3) := by decide +kernel
theorem dX3_may_19 : decode cX3_may 19 = .ok (.ifCond .ne 5, 3) := by decide +kernel
theorem dX3_may_22 : decode cX3_may 22 = .ok (.iconst (-1), 1) := by decide +kernel
theorem dX3_may_23 : decode cX3_may 23 = .ok (.ireturn, 1) := by decide +kernel
theorem dX3_may_24 : decode cX3_may 24 = .ok (.aload_n 0, 1) := by decide +kernel
theorem dX3_may_25 : decode cX3_may 25 = .ok (.iload_n 1, 1) := by decide +kernel
theorem dX3_may_26 : decode cX3_may 26 = .ok (.iload_n 2, 1) := by decide +kernel
theorem dX3_may_27 : decode cX3_may 27 = .ok (.invokevirtual 138, 3) := by decide +kernel
theorem dX3_may_30 : decode cX3_may 30 = .ok (.ireturn, 1) := by decide +kernel
theorem dX3_put_0 : decode cX3_put 0 = .ok (.aload_n 0, 1) := by decide +kernel
theorem dX3_put_1 : decode cX3_put 1 = .ok (.getfield 19, 3) := by decide +kernel
theorem dX3_put_4 : decode cX3_put 4 = .ok (.iload_n 1, 1) := by decide +kernel
theorem dX3_put_5 : decode cX3_put 5 = .ok (.invokevirtual 108, 3) := by decide +kernel
theorem dX3_put_8 : decode cX3_put 8 = .ok (.ifCond .eq 19, 3) := by decide +kernel
theorem dX3_put_11 : decode cX3_put 11 = .ok (.iload_n 2, 1) := by decide +kernel
theorem dX3_put_12 : decode cX3_put 12 = .ok (.iconst (-1), 1) := by decide +kernel
theorem dX3_put_13 : decode cX3_put 13 = .ok (.if_icmp .eq 16, 3) := by decide +kernel
theorem dX3_put_16 : decode cX3_put 16 = .ok (.aload_n 0, 1) := by decide +kernel
theorem dX3_put_17 : decode cX3_put 17 = .ok (.getfield 26, 3) := by decide +kernel
theorem dX3_put_20 : decode cX3_put 20 = .ok (.iload_n 2, 1) := by decide +kernel
theorem dX3_put_21 : decode cX3_put 21 = .ok (.invokevirtual 137, 3) := by decide +kernel
theorem dX3_put_24 : decode cX3_put 24 = .ok (.ifCond .ne 5, 3) := by decide +kernel
theorem dX3_put_27 : decode cX3_put 27 = .ok (.iconst 0, 1) := by decide +kernel
theorem dX3_put_28 : decode cX3_put 28 = .ok (.ireturn, 1) := by decide +kernel
theorem dX3_put_29 : decode cX3_put 29 = .ok (.aload_n 0, 1) := by decide +kernel
theorem dX3_put_30 : decode cX3_put 30 = .ok (.getfield 19, 3) := by decide +kernel
theorem dX3_put_33 : decode cX3_put 33 = .ok (.getfield 142, 3) := by decide +kernel
theorem dX3_put_36 : decode cX3_put 36 = .ok (.iload_n 1, 1) := by decide +kernel
theorem dX3_put_37 : decode cX3_put 37 = .ok (.iload_n 2, 1) := by decide +kernel
theorem dX3_put_38 : decode cX3_put 38 = .ok (.iastore, 1) := by decide +kernel
theorem dX3_put_39 : decode cX3_put 39 = .ok (.iconst 1, 1) := by decide +kernel
theorem dX3_put_40 : decode cX3_put 40 = .ok (.ireturn, 1) := by decide +kernel
theorem dX3_at_0 : decode cX3_at 0 = .ok (.aload_n 0, 1) := by decide +kernel
theorem dX3_at_1 : decode cX3_at 1 = .ok (.getfield 19, 3) := by decide +kernel
theorem dX3_at_4 : decode cX3_at 4 = .ok (.iload_n 1, 1) := by decide +kernel
theorem dX3_at_5 : decode cX3_at 5 = .ok (.invokevirtual 108, 3) := by decide +kernel
theorem dX3_at_8 : decode cX3_at 8 = .ok (.ifCond .ne 13, 3) := by decide +kernel
theorem dX3_at_11 : decode cX3_at 11 = .ok (.new 145, 3) := by decide +kernel
theorem dX3_at_14 : decode cX3_at 14 = .ok (.dup, 1) := by decide +kernel
theorem dX3_at_15 : decode cX3_at 15 = .ok (.ldc 147, 2) := by decide +kernel
theorem dX3_at_17 : decode cX3_at 17 = .ok (.invokespecial 149, 3) := by decide +kernel
theorem dX3_at_20 : decode cX3_at 20 = .ok (.athrow, 1) := by decide +kernel
theorem dX3_at_21 : decode cX3_at 21 = .ok (.aload_n 0, 1) := by decide +kernel
theorem dX3_at_22 : decode cX3_at 22 = .ok (.getfield 19, 3) := by decide +kernel
theorem dX3_at_25 : decode cX3_at 25 = .ok (.getfield 142, 3) := by decide +kernel
theorem dX3_at_28 : decode cX3_at 28 = .ok (.iload_n 1, 1) := by decide +kernel
theorem dX3_at_29 : decode cX3_at 29 = .ok (.iaload, 1) := by decide +kernel
theorem dX3_at_30 : decode cX3_at 30 = .ok (.ireturn, 1) := by decide +kernel
theorem dX3_wrong_0 : decode cX3_wrong 0 = .ok (.aload_n 0, 1) := by decide +kernel
theorem dX3_wrong_1 : decode cX3_wrong 1 = .ok (.invokevirtual 152, 3) := by decide +kernel
theorem dX3_wrong_4 : decode cX3_wrong 4 = .ok (.istore_n 1, 1) := by decide +kernel
theorem dX3_wrong_5 : decode cX3_wrong 5 = .ok (.iload_n 1, 1) := by decide +kernel
theorem dX3_wrong_6 : decode cX3_wrong 6 = .ok (.iconst (-1), 1) := by decide +kernel
theorem dX3_wrong_7 : decode cX3_wrong 7 = .ok (.if_icmp .eq 8, 3) := by decide +kernel
theorem dX3_wrong_10 : decode cX3_wrong 10 = .ok (.bipush 10, 2) := by decide +kernel
theorem dX3_wrong_12 : decode cX3_wrong 12 = .ok (.iload_n 1, 1) := by decide +kernel
theorem dX3_wrong_13 : decode cX3_wrong 13 = .ok (.iadd, 1) := by decide +kernel
theorem dX3_wrong_14 : decode cX3_wrong 14 = .ok (.ireturn, 1) := by decide +kernel
theorem dX3_wrong_15 : decode cX3_wrong 15 = .ok (.aload_n 0, 1) := by decide +kernel
theorem dX3_wrong_16 : decode cX3_wrong 16 = .ok (.invokevirtual 155, 3) := by decide +kernel
theorem dX3_wrong_19 : decode cX3_wrong 19 = .ok (.istore_n 2, 1) := by decide +kernel
theorem dX3_wrong_20 : decode cX3_wrong 20 = .ok (.iload_n 2, 1) := by decide +kernel
theorem dX3_wrong_21 : decode cX3_wrong 21 = .ok (.iconst (-1), 1) := by decide +kernel
theorem dX3_wrong_22 : decode cX3_wrong 22 = .ok (.if_icmp .eq 8, 3) := by decide +kernel
theorem dX3_wrong_25 : decode cX3_wrong 25 = .ok (.bipush 20, 2) := by decide +kernel
theorem dX3_wrong_27 : decode cX3_wrong 27 = .ok (.iload_n 2, 1) := by decide +kernel
theorem dX3_wrong_28 : decode cX3_wrong 28 = .ok (.iadd, 1) := by decide +kernel
theorem dX3_wrong_29 : decode cX3_wrong 29 = .ok (.ireturn, 1) := by decide +kernel
theorem dX3_wrong_30 : decode cX3_wrong 30 = .ok (.aload_n 0, 1) := by decide +kernel
theorem dX3_wrong_31 : decode cX3_wrong 31 = .ok (.invokevirtual 158, 3) := by decide +kernel
theorem dX3_wrong_34 : decode cX3_wrong 34 = .ok (.istore_n 3, 1) := by decide +kernel
theorem dX3_wrong_35 : decode cX3_wrong 35 = .ok (.iload_n 3, 1) := by decide +kernel
theorem dX3_wrong_36 : decode cX3_wrong 36 = .ok (.iconst (-1), 1) := by decide +kernel
theorem dX3_wrong_37 : decode cX3_wrong 37 = .ok (.if_icmp .ne 7, 3) := by decide +kernel
theorem dX3_wrong_40 : decode cX3_wrong 40 = .ok (.iconst 0, 1) := by decide +kernel
theorem dX3_wrong_41 : decode cX3_wrong 41 = .ok (.goto 7, 3) := by decide +kernel
theorem dX3_wrong_44 : decode cX3_wrong 44 = .ok (.bipush 30, 2) := by decide +kernel
theorem dX3_wrong_46 : decode cX3_wrong 46 = .ok (.iload_n 3, 1) := by decide +kernel
theorem dX3_wrong_47 : decode cX3_wrong 47 = .ok (.iadd, 1) := by decide +kernel
theorem dX3_wrong_48 : decode cX3_wrong 48 = .ok (.ireturn, 1) := by decide +kernel
theorem dX3_best_0 : decode cX3_best 0 = .ok (.aload_n 0, 1) := by decide +kernel
theorem dX3_best_1 : decode cX3_best 1 = .ok (.aload_n 0, 1) := by decide +kernel
theorem dX3_best_2 : decode cX3_best 2 = .ok (.iconst 0, 1) := by decide +kernel
theorem dX3_best_3 : decode cX3_best 3 = .ok (.invokevirtual 161, 3) := by decide +kernel
theorem dX3_best_6 : decode cX3_best 6 = .ok (.invokevirtual 165, 3) := by decide +kernel
theorem dX3_best_9 : decode cX3_best 9 = .ok (.pop, 1) := by decide +kernel
theorem dX3_best_10 : decode cX3_best 10 = .ok (.aload_n 0, 1) := by decide +kernel
theorem dX3_best_11 : decode cX3_best 11 = .ok (.getfield 19, 3) := by decide +kernel
theorem dX3_best_14 : decode cX3_best 14 = .ok (.invokevirtual 114, 3) := by decide +kernel
theorem dX3_best_17 : decode cX3_best 17 = .ok (.invokestatic 118, 3) := by decide +kernel
theorem dX3_best_20 : decode cX3_best 20 = .ok (.ireturn, 1) := by decide +kernel
theorem dX3_mend_0 : decode cX3_mend 0 = .ok (.aload_n 0, 1) := by decide +kernel
theorem dX3_mend_1 : decode cX3_mend 1 = .ok (.aload_n 0, 1) := by decide +kernel
theorem dX3_mend_2 : decode cX3_mend 2 = .ok (.iconst 1, 1) := by decide +kernel
theorem dX3_mend_3 : decode cX3_mend 3 = .ok (.invokevirtual 161, 3) := by decide +kernel
theorem dX3_mend_6 : decode cX3_mend 6 = .ok (.invokevirtual 165, 3) := by decide +kernel
theorem dX3_mend_9 : decode cX3_mend 9 = .ok (.ireturn, 1) := by decide +kernel
theorem dX3_left_0 : decode cX3_left 0 = .ok (.aload_n 0, 1) := by decide +kernel
theorem dX3_left_1 : decode cX3_left 1 = .ok (.getfield 26, 3) := by decide +kernel
theorem dX3_left_4 : decode cX3_left 4 = .ok (.iload_n 1, 1) := by decide +kernel
theorem dX3_left_5 : decode cX3_left 5 = .ok (.invokevirtual 137, 3) := by decide +kernel
theorem dX3_left_8 : decode cX3_left 8 = .ok (.ifCond .ne 7, 3) := by decide +kernel
theorem dX3_left_11 : decode cX3_left 11 = .ok (.sipush (-9999), 3) := by decide +kernel
theorem dX3_left_14 : decode cX3_left 14 = .ok (.ireturn, 1) := by decide +kernel
theorem dX3_left_15 : decode cX3_left 15 = .ok (.aload_n 0, 1) := by decide +kernel
theorem dX3_left_16 : decode cX3_left 16 = .ok (.iload_n 1, 1) := by decide +kernel
theorem dX3_left_17 : decode cX3_left 17 = .ok (.invokevirtual 169, 3) := by decide +kernel
theorem dX3_left_20 : decode cX3_left 20 = .ok (.ireturn, 1) := by decide +kernel
theorem dX3_plan_0 : decode cX3_plan 0 = .ok (.aload_n 0, 1) := by decide +kernel
theorem dX3_plan_1 : decode cX3_plan 1 = .ok (.getfield 19, 3) := by decide +kernel
theorem dX3_plan_4 : decode cX3_plan 4 = .ok (.invokevirtual 114, 3) := by decide +kernel
theorem dX3_plan_7 : decode cX3_plan 7 = .ok (.istore_n 1, 1) := by decide +kernel
theorem dX3_plan_8 : decode cX3_plan 8 = .ok (.aload_n 0, 1) := by decide +kernel
theorem dX3_plan_9 : decode cX3_plan 9 = .ok (.iload_n 1, 1) := by decide +kernel
theorem dX3_plan_10 : decode cX3_plan 10 = .ok (.invokevirtual 172, 3) := by decide +kernel
theorem dX3_plan_13 : decode cX3_plan 13 = .ok (.lstore_n 2, 1) := by decide +kernel
theorem dX3_plan_14 : decode cX3_plan 14 = .ok (.lload_n 2, 1) := by decide +kernel
theorem dX3_plan_15 : decode cX3_plan 15 = .ok (.ldc2_w 176, 3) := by decide +kernel
theorem dX3_plan_18 : decode cX3_plan 18 = .ok (.lcmp, 1) := by decide +kernel
theorem dX3_plan_19 : decode cX3_plan 19 = .ok (.ifCond .ne 5, 3) := by decide +kernel
theorem dX3_plan_22 : decode cX3_plan 22 = .ok (.iconst (-1), 1) := by decide +kernel
theorem dX3_plan_23 : decode cX3_plan 23 = .ok (.ireturn, 1) := by decide +kernel
theorem dX3_plan_24 : decode cX3_plan 24 = .ok (.aload_n 0, 1) := by decide +kernel
theorem dX3_plan_25 : decode cX3_plan 25 = .ok (.iload_n 1, 1) := by decide +kernel
theorem dX3_plan_26 : decode cX3_plan 26 = .ok (.lload_n 2, 1) := by decide +kernel
theorem dX3_plan_27 : decode cX3_plan 27 = .ok (.invokevirtual 178, 3) := by decide +kernel
theorem dX3_plan_30 : decode cX3_plan 30 = .ok (.lload_n 2, 1) := by decide +kernel
theorem dX3_plan_31 : decode cX3_plan 31 = .ok (.bipush 49, 2) := by decide +kernel
theorem dX3_plan_33 : decode cX3_plan 33 = .ok (.lshr, 1) := by decide +kernel
theorem dX3_plan_34 : decode cX3_plan 34 = .ok (.l2i, 1) := by decide +kernel
theorem dX3_plan_35 : decode cX3_plan 35 = .ok (.ireturn, 1) := by decide +kernel
theorem dX3_in_0 : decode cX3_in 0 = .ok (.aload_n 0, 1) := by decide +kernel
theorem dX3_in_1 : decode cX3_in 1 = .ok (.getfield 19, 3) := by decide +kernel
theorem dX3_in_4 : decode cX3_in 4 = .ok (.iload_n 1, 1) := by decide +kernel
theorem dX3_in_5 : decode cX3_in 5 = .ok (.invokevirtual 108, 3) := by decide +kernel
theorem dX3_in_8 : decode cX3_in 8 = .ok (.ifCond .eq 15, 3) := by decide +kernel
theorem dX3_in_11 : decode cX3_in 11 = .ok (.aload_n 0, 1) := by decide +kernel
theorem dX3_in_12 : decode cX3_in 12 = .ok (.getfield 19, 3) := by decide +kernel
theorem dX3_in_15 : decode cX3_in 15 = .ok (.getfield 182, 3) := by decide +kernel
theorem dX3_in_18 : decode cX3_in 18 = .ok (.iload_n 1, 1) := by decide +kernel
theorem dX3_in_19 : decode cX3_in 19 = .ok (.iaload, 1) := by decide +kernel
theorem dX3_in_20 : decode cX3_in 20 = .ok (.goto 4, 3) := by decide +kernel
theorem dX3_in_23 : decode cX3_in 23 = .ok (.iconst (-1), 1) := by decide +kernel
theorem dX3_in_24 : decode cX3_in 24 = .ok (.ireturn, 1) := by decide +kernel
theorem dX3_parade_0 : decode cX3_parade 0 = .ok (.iconst 0, 1) := by decide +kernel
theorem dX3_parade_1 : decode cX3_parade 1 = .ok (.istore_n 2, 1) := by decide +kernel
theorem dX3_parade_2 : decode cX3_parade 2 = .ok (.iload_n 2, 1) := by decide +kernel
theorem dX3_parade_3 : decode cX3_parade 3 = .ok (.aload_n 0, 1) := by decide +kernel
theorem dX3_parade_4 : decode cX3_parade 4 = .ok (.getfield 19, 3) := by decide +kernel
theorem dX3_parade_7 : decode cX3_parade 7 = .ok (.getfield 68, 3) := by decide +kernel
theorem dX3_parade_10 : decode cX3_parade 10 = .ok (.if_icmp .ge 34, 3) := by decide +kernel
theorem dX3_parade_13 : decode cX3_parade 13 = .ok (.aload_n 0, 1) := by decide +kernel
theorem dX3_parade_14 : decode cX3_parade 14 = .ok (.getfield 19, 3) := by decide +kernel
theorem dX3_parade_17 : decode cX3_parade 17 = .ok (.iload_n 2, 1) := by decide +kernel
theorem dX3_parade_18 : decode cX3_parade 18 = .ok (.invokevirtual 185, 3) := by decide +kernel
theorem dX3_parade_21 : decode cX3_parade 21 = .ok (.ifCond .eq 17, 3) := by decide +kernel
theorem dX3_parade_24 : decode cX3_parade 24 = .ok (.aload_n 0, 1) := by decide +kernel
theorem dX3_parade_25 : decode cX3_parade 25 = .ok (.getfield 19, 3) := by decide +kernel
theorem dX3_parade_28 : decode cX3_parade 28 = .ok (.iload_n 2, 1) := by decide +kernel
theorem dX3_parade_29 : decode cX3_parade 29 = .ok (.invokevirtual 188, 3) := by decide +kernel
theorem dX3_parade_32 : decode cX3_parade 32 = .ok (.iload_n 1, 1) := by decide +kernel
theorem dX3_parade_33 : decode cX3_parade 33 = .ok (.if_icmp .ne 5, 3) := by decide +kernel
theorem dX3_parade_36 : decode cX3_parade 36 = .ok (.iload_n 2, 1) := by decide +kernel
theorem dX3_parade_37 : decode cX3_parade 37 = .ok (.ireturn, 1) := by decide +kernel
theorem dX3_parade_38 : decode cX3_parade 38 = .ok (.iinc 2 1, 3) := by decide +kernel
theorem dX3_parade_41 : decode cX3_parade 41 = .ok (.goto (-39), 3) := by decide +kernel
theorem dX3_parade_44 : decode cX3_parade 44 = .ok (.iconst (-1), 1) := by decide +kernel
theorem dX3_parade_45 : decode cX3_parade 45 = .ok (.ireturn, 1) := by decide +kernel
theorem dX3_minutes_0 : decode cX3_minutes 0 = .ok (.iconst 0, 1) := by decide +kernel
theorem dX3_minutes_1 : decode cX3_minutes 1 = .ok (.istore_n 1, 1) := by decide +kernel
theorem dX3_minutes_2 : decode cX3_minutes 2 = .ok (.aload_n 0, 1) := by decide +kernel
theorem dX3_minutes_3 : decode cX3_minutes 3 = .ok (.iconst 0, 1) := by decide +kernel
theorem dX3_minutes_4 : decode cX3_minutes 4 = .ok (.invokevirtual 191, 3) := by decide +kernel
theorem dX3_minutes_7 : decode cX3_minutes 7 = .ok (.istore_n 2, 1) := by decide +kernel
theorem dX3_minutes_8 : decode cX3_minutes 8 = .ok (.iconst 1, 1) := by decide +kernel
theorem dX3_minutes_9 : decode cX3_minutes 9 = .ok (.istore_n 3, 1) := by decide +kernel
theorem dX3_minutes_10 : decode cX3_minutes 10 = .ok (.iload_n 3, 1) := by decide +kernel
theorem dX3_minutes_11 : decode cX3_minutes 11 = .ok (.bipush 7, 2) := by decide +kernel
theorem dX3_minutes_13 : decode cX3_minutes 13 = .ok (.if_icmp .ge 69, 3) := by decide +kernel
theorem dX3_minutes_16 : decode cX3_minutes 16 = .ok (.aload_n 0, 1) := by decide +kernel
theorem dX3_minutes_17 : decode cX3_minutes 17 = .ok (.iload_n 3, 1) := by decide +kernel
theorem dX3_minutes_18 : decode cX3_minutes 18 = .ok (.invokevirtual 191, 3) := by decide +kernel
theorem dX3_minutes_21 : decode cX3_minutes 21 = .ok (.istore 4, 2) := by decide +kernel
theorem dX3_minutes_23 : decode cX3_minutes 23 = .ok (.aload_n 0, 1) := by decide +kernel
theorem dX3_minutes_24 : decode cX3_minutes 24 = .ok (.getfield 19, 3) := by decide +kernel
theorem dX3_minutes_27 : decode cX3_minutes 27 = .ok (.iload_n 2, 1) := by decide +kernel
theorem dX3_minutes_28 : decode cX3_minutes 28 = .ok (.invokevirtual 108, 3) := by decide +kernel
theorem dX3_minutes_31 : decode cX3_minutes 31 = .ok (.ifCond .eq 15, 3) := by decide +kernel
theorem dX3_minutes_34 : decode cX3_minutes 34 = .ok (.aload_n 0, 1) := by decide +kernel
theorem dX3_minutes_35 : decode cX3_minutes 35 = .ok (.getfield 19, 3) := by decide +kernel
theorem dX3_minutes_38 : decode cX3_minutes 38 = .ok (.iload 4, 2) := by decide +kernel
theorem dX3_minutes_40 : decode cX3_minutes 40 = .ok (.invokevirtual 108, 3) := by decide +kernel
theorem dX3_minutes_43 : decode cX3_minutes 43 = .ok (.ifCond .ne 5, 3) := by decide +kernel
theorem dX3_minutes_46 : decode cX3_minutes 46 = .ok (.iload_n 1, 1) := by decide +kernel
theorem dX3_minutes_47 : decode cX3_minutes 47 = .ok (.ireturn, 1) := by decide +kernel
theorem dX3_minutes_48 : decode cX3_minutes 48 = .ok (.iload_n 1, 1) := by decide +kernel
theorem dX3_minutes_49 : decode cX3_minutes 49 = .ok (.aload_n 0, 1) := by decide +kernel
theorem dX3_minutes_50 : decode cX3_minutes 50 = .ok (.getfield 19, 3) := by decide +kernel
theorem dX3_minutes_53 : decode cX3_minutes 53 = .ok (.getfield 90, 3) := by decide +kernel
theorem dX3_minutes_56 : decode cX3_minutes 56 = .ok (.iload_n 2, 1) := by decide +kernel
theorem dX3_minutes_57 : decode cX3_minutes 57 = .ok (.iaload, 1) := by decide +kernel
theorem dX3_minutes_58 : decode cX3_minutes 58 = .ok (.aload_n 0, 1) := by decide +kernel
theorem dX3_minutes_59 : decode cX3_minutes 59 = .ok (.getfield 19, 3) := by decide +kernel
theorem dX3_minutes_62 : decode cX3_minutes 62 = .ok (.getfield 90, 3) := by decide +kernel
theorem dX3_minutes_65 : decode cX3_minutes 65 = .ok (.iload 4, 2) := by decide +kernel
theorem dX3_minutes_67 : decode cX3_minutes 67 = .ok (.iaload, 1) := by decide +kernel
theorem dX3_minutes_68 : decode cX3_minutes 68 = .ok (.invokestatic 194, 3) := by decide +kernel
theorem dX3_minutes_71 : decode cX3_minutes 71 = .ok (.iadd, 1) := by decide +kernel
theorem dX3_minutes_72 : decode cX3_minutes 72 = .ok (.istore_n 1, 1) := by decide +kernel
theorem dX3_minutes_73 : decode cX3_minutes 73 = .ok (.iload 4, 2) := by decide +kernel
theorem dX3_minutes_75 : decode cX3_minutes 75 = .ok (.istore_n 2, 1) := by decide +kernel
theorem dX3_minutes_76 : decode cX3_minutes 76 = .ok (.iinc 3 1, 3) := by decide +kernel
theorem dX3_minutes_79 : decode cX3_minutes 79 = .ok (.goto (-69), 3) := by decide +kernel
theorem dX3_minutes_82 : decode cX3_minutes 82 = .ok (.iload_n 1, 1) := by decide +kernel
theorem dX3_minutes_83 : decode cX3_minutes 83 = .ok (.ireturn, 1) := by decide +kernel
theorem dX3_open_0 : decode cX3_open 0 = .ok (.aload_n 0, 1) := by decide +kernel
theorem dX3_open_1 : decode cX3_open 1 = .ok (.getfield 19, 3) := by decide +kernel
theorem dX3_open_4 : decode cX3_open 4 = .ok (.iload_n 1, 1) := by decide +kernel
theorem dX3_open_5 : decode cX3_open 5 = .ok (.invokevirtual 108, 3) := by decide +kernel
theorem dX3_open_8 : decode cX3_open 8 = .ok (.ifCond .eq 30, 3) := by decide +kernel
theorem dX3_open_11 : decode cX3_open 11 = .ok (.iload_n 2, 1) := by decide +kernel
theorem dX3_open_12 : decode cX3_open 12 = .ok (.iload_n 3, 1) := by decide +kernel
theorem dX3_open_13 : decode cX3_open 13 = .ok (.invokestatic 57, 3) := by decide +kernel
theorem dX3_open_16 : decode cX3_open 16 = .ok (.ifCond .eq 22, 3) := by decide +kernel
theorem dX3_open_19 : decode cX3_open 19 = .ok (.aload_n 0, 1) := by decide +kernel
theorem dX3_open_20 : decode cX3_open 20 = .ok (.getfield 26, 3) := by decide +kernel
theorem dX3_open_23 : decode cX3_open 23 = .ok (.aload_n 0, 1) := by decide +kernel
theorem dX3_open_24 : decode cX3_open 24 = .ok (.getfield 19, 3) := by decide +kernel
theorem dX3_open_27 : decode cX3_open 27 = .ok (.getfield 142, 3) := by decide +kernel
theorem dX3_open_30 : decode cX3_open 30 = .ok (.iload_n 1, 1) := by decide +kernel
theorem dX3_open_31 : decode cX3_open 31 = .ok (.iaload, 1) := by decide +kernel
theorem dX3_open_32 : decode cX3_open 32 = .ok (.invokevirtual 137, 3) := by decide +kernel
theorem dX3_open_35 : decode cX3_open 35 = .ok (.ifCond .ne 5, 3) := by decide +kernel
theorem dX3_open_38 : decode cX3_open 38 = .ok (.iconst (-1), 1) := by decide +kernel
theorem dX3_open_39 : decode cX3_open 39 = .ok (.ireturn, 1) := by decide +kernel
theorem dX3_open_40 : decode cX3_open 40 = .ok (.iconst 0, 1) := by decide +kernel
theorem dX3_open_41 : decode cX3_open 41 = .ok (.istore 4, 2) := by decide +kernel
theorem dX3_open_43 : decode cX3_open 43 = .ok (.iload_n 2, 1) := by decide +kernel
theorem dX3_open_44 : decode cX3_open 44 = .ok (.istore 5, 2) := by decide +kernel
theorem dX3_open_46 : decode cX3_open 46 = .ok (.iload 5, 2) := by decide +kernel
theorem dX3_open_48 : decode cX3_open 48 = .ok (.iload_n 3, 1) := by decide +kernel
theorem dX3_open_49 : decode cX3_open 49 = .ok (.if_icmp .gt 30, 3) := by decide +kernel
theorem dX3_open_52 : decode cX3_open 52 = .ok (.aload_n 0, 1) := by decide +kernel
theorem dX3_open_53 : decode cX3_open 53 = .ok (.aload_n 0, 1) := by decide +kernel
theorem dX3_open_54 : decode cX3_open 54 = .ok (.getfield 19, 3) := by decide +kernel
theorem dX3_open_57 : decode cX3_open 57 = .ok (.getfield 142, 3) := by decide +kernel
theorem dX3_open_60 : decode cX3_open 60 = .ok (.iload_n 1, 1) := by decide +kernel
theorem dX3_open_61 : decode cX3_open 61 = .ok (.iaload, 1) := by decide +kernel
theorem dX3_open_62 : decode cX3_open 62 = .ok (.iload 5, 2) := by decide +kernel
theorem dX3_open_64 : decode cX3_open 64 = .ok (.invokevirtual 199, 3) := by decide +kernel
theorem dX3_open_67 : decode cX3_open 67 = .ok (.ifCond .ne 6, 3) := by decide +kernel
theorem dX3_open_70 : decode cX3_open 70 = .ok (.iinc 4 1, 3) := by decide +kernel
theorem dX3_open_73 : decode cX3_open 73 = .ok (.iinc 5 1, 3) := by decide +kernel
theorem dX3_open_76 : decode cX3_open 76 = .ok (.goto (-30), 3) := by decide +kernel
theorem dX3_open_79 : decode cX3_open 79 = .ok (.iload 4, 2) := by decide +kernel
theorem dX3_open_81 : decode cX3_open 81 = .ok (.ireturn, 1) := by decide +kernel
theorem dX3_within_0 : decode cX3_within 0 = .ok (.iload_n 0, 1) := by decide +kernel
theorem dX3_within_1 : decode cX3_within 1 = .ok (.iload_n 1, 1) := by decide +kernel
theorem dX3_within_2 : decode cX3_within 2 = .ok (.if_icmp .lt 12, 3) := by decide +kernel
theorem dX3_within_5 : decode cX3_within 5 = .ok (.iload_n 0, 1) := by decide +kernel
theorem dX3_within_6 : decode cX3_within 6 = .ok (.iload_n 2, 1) := by decide +kernel
theorem dX3_within_7 : decode cX3_within 7 = .ok (.if_icmp .gt 7, 3) := by decide +kernel
theorem dX3_within_10 : decode cX3_within 10 = .ok (.iconst 1, 1) := by decide +kernel
theorem dX3_within_11 : decode cX3_within 11 = .ok (.goto 4, 3) := by decide +kernel
theorem dX3_within_14 : decode cX3_within 14 = .ok (.iconst 0, 1) := by decide +kernel
theorem dX3_within_15 : decode cX3_within 15 = .ok (.ireturn, 1) := by decide +kernel
theorem dX3_isHour_0 : decode cX3_isHour 0 = .ok (.iload_n 0, 1) := by decide +kernel
theorem dX3_isHour_1 : decode cX3_isHour 1 = .ok (.iconst 0, 1) := by decide +kernel
theorem dX3_isHour_2 : decode cX3_isHour 2 = .ok (.bipush 119, 2) := by decide +kernel
theorem dX3_isHour_4 : decode cX3_isHour 4 = .ok (.invokestatic 44, 3) := by decide +kernel
theorem dX3_isHour_7 : decode cX3_isHour 7 = .ok (.ireturn, 1) := by decide +kernel
theorem dX3_areHours_0 : decode cX3_areHours 0 = .ok (.iload_n 0, 1) := by decide +kernel
theorem dX3_areHours_1 : decode cX3_areHours 1 = .ok (.invokestatic 64, 3) := by decide +kernel
theorem dX3_areHours_4 : decode cX3_areHours 4 = .ok (.ifCond .eq 19, 3) := by decide +kernel
theorem dX3_areHours_7 : decode cX3_areHours 7 = .ok (.iload_n 1, 1) := by decide +kernel
theorem dX3_areHours_8 : decode cX3_areHours 8 = .ok (.invokestatic 64, 3) := by decide +kernel
theorem dX3_areHours_11 : decode cX3_areHours 11 = .ok (.ifCond .eq 12, 3) := by decide +kernel
theorem dX3_areHours_14 : decode cX3_areHours 14 = .ok (.iload_n 0, 1) := by decide +kernel
theorem dX3_areHours_15 : decode cX3_areHours 15 = .ok (.iload_n 1, 1) := by decide +kernel
theorem dX3_areHours_16 : decode cX3_areHours 16 = .ok (.if_icmp .gt 7, 3) := by decide +kernel
theorem dX3_areHours_19 : decode cX3_areHours 19 = .ok (.iconst 1, 1) := by decide +kernel
theorem dX3_areHours_20 : decode cX3_areHours 20 = .ok (.goto 4, 3) := by decide +kernel
theorem dX3_areHours_23 : decode cX3_areHours 23 = .ok (.iconst 0, 1) := by decide +kernel
theorem dX3_areHours_24 : decode cX3_areHours 24 = .ok (.ireturn, 1) := by decide +kernel
theorem dX3_canCross_0 : decode cX3_canCross 0 = .ok (.aload_n 0, 1) := by decide +kernel
theorem dX3_canCross_1 : decode cX3_canCross 1 = .ok (.getfield 19, 3) := by decide +kernel
theorem dX3_canCross_4 : decode cX3_canCross 4 = .ok (.getfield 75, 3) := by decide +kernel
theorem dX3_canCross_7 : decode cX3_canCross 7 = .ok (.iload_n 1, 1) := by decide +kernel
theorem dX3_canCross_8 : decode cX3_canCross 8 = .ok (.iaload, 1) := by decide +kernel
theorem dX3_canCross_9 : decode cX3_canCross 9 = .ok (.aload_n 0, 1) := by decide +kernel
theorem dX3_canCross_10 : decode cX3_canCross 10 = .ok (.getfield 12, 3) := by decide +kernel
theorem dX3_canCross_13 : decode cX3_canCross 13 = .ok (.getfield 54, 3) := by decide +kernel
theorem dX3_canCross_16 : decode cX3_canCross 16 = .ok (.iconst 2, 1) := by decide +kernel
theorem dX3_canCross_17 : decode cX3_canCross 17 = .ok (.iaload, 1) := by decide +kernel
theorem dX3_canCross_18 : decode cX3_canCross 18 = .ok (.iadd, 1) := by decide +kernel
theorem dX3_canCross_19 : decode cX3_canCross 19 = .ok (.istore_n 3, 1) := by decide +kernel
theorem dX3_canCross_20 : decode cX3_canCross 20 = .ok (.aload_n 0, 1) := by decide +kernel
theorem dX3_canCross_21 : decode cX3_canCross 21 = .ok (.getfield 12, 3) := by decide +kernel
theorem dX3_canCross_24 : decode cX3_canCross 24 = .ok (.getfield 54, 3) := by decide +kernel
theorem dX3_canCross_27 : decode cX3_canCross 27 = .ok (.iconst 0, 1) := by decide +kernel
theorem dX3_canCross_28 : decode cX3_canCross 28 = .ok (.iaload, 1) := by decide +kernel
theorem dX3_canCross_29 : decode cX3_canCross 29 = .ok (.iload_n 2, 1) := by decide +kernel
theorem dX3_canCross_30 : decode cX3_canCross 30 = .ok (.iadd, 1) := by decide +kernel
theorem dX3_canCross_31 : decode cX3_canCross 31 = .ok (.iload_n 3, 1) := by decide +kernel
theorem dX3_canCross_32 : decode cX3_canCross 32 = .ok (.if_icmp .lt 7, 3) := by decide +kernel
theorem dX3_canCross_35 : decode cX3_canCross 35 = .ok (.iconst 1, 1) := by decide +kernel
theorem dX3_canCross_36 : decode cX3_canCross 36 = .ok (.goto 4, 3) := by decide +kernel
theorem dX3_canCross_39 : decode cX3_canCross 39 = .ok (.iconst 0, 1) := by decide +kernel
theorem dX3_canCross_40 : decode cX3_canCross 40 = .ok (.ireturn, 1) := by decide +kernel
theorem dX3_clearsBridge_0 : decode cX3_clearsBridge 0 = .ok (.aload_n 0, 1) := by decide +kernel
theorem dX3_clearsBridge_1 : decode cX3_clearsBridge 1 = .ok (.getfield 19, 3) := by decide +kernel
theorem dX3_clearsBridge_4 : decode cX3_clearsBridge 4 = .ok (.getfield 78, 3) := by decide +kernel
theorem dX3_clearsBridge_7 : decode cX3_clearsBridge 7 = .ok (.iload_n 1, 1) := by decide +kernel
theorem dX3_clearsBridge_8 : decode cX3_clearsBridge 8 = .ok (.iaload, 1) := by decide +kernel
theorem dX3_clearsBridge_9 : decode cX3_clearsBridge 9 = .ok (.iload_n 2, 1) := by decide +kernel
theorem dX3_clearsBridge_10 : decode cX3_clearsBridge 10 = .ok (.iadd, 1) := by decide +kernel
theorem dX3_clearsBridge_11 : decode cX3_clearsBridge 11 = .ok (.aload_n 0, 1) := by decide +kernel
theorem dX3_clearsBridge_12 : decode cX3_clearsBridge 12 = .ok (.getfield 12, 3) := by decide +kernel
theorem dX3_clearsBridge_15 : decode cX3_clearsBridge 15 = .ok (.getfield 54, 3) := by decide +kernel
theorem dX3_clearsBridge_18 : decode cX3_clearsBridge 18 = .ok (.iconst 2, 1) := by decide +kernel
theorem dX3_clearsBridge_19 : decode cX3_clearsBridge 19 = .ok (.iaload, 1) := by decide +kernel
theorem dX3_clearsBridge_20 : decode cX3_clearsBridge 20 = .ok (.iadd, 1) := by decide +kernel
theorem dX3_clearsBridge_21 : decode cX3_clearsBridge 21 = .ok (.istore_n 3, 1) := by decide +kernel
theorem dX3_clearsBridge_22 : decode cX3_clearsBridge 22 = .ok (.iload_n 3, 1) := by decide +kernel
theorem dX3_clearsBridge_23 : decode cX3_clearsBridge 23 = .ok (.aload_n 0, 1) := by decide +kernel
theorem dX3_clearsBridge_24 : decode cX3_clearsBridge 24 = .ok (.getfield 12, 3) := by decide +kernel
theorem dX3_clearsBridge_27 : decode cX3_clearsBridge 27 = .ok (.getfield 54, 3) := by decide +kernel
theorem dX3_clearsBridge_30 : decode cX3_clearsBridge 30 = .ok (.iconst 1, 1) := by decide +kernel
theorem dX3_clearsBridge_31 : decode cX3_clearsBridge 31 = .ok (.iaload, 1) := by decide +kernel
theorem dX3_clearsBridge_32 : decode cX3_clearsBridge 32 = .ok (.if_icmp .gt 7, 3) := by decide +kernel
theorem dX3_clearsBridge_35 : decode cX3_clearsBridge 35 = .ok (.iconst 1, 1) := by decide +kernel
theorem dX3_clearsBridge_36 : decode cX3_clearsBridge 36 = .ok (.goto 4, 3) := by decide +kernel
theorem dX3_clearsBridge_39 : decode cX3_clearsBridge 39 = .ok (.iconst 0, 1) := by decide +kernel
theorem dX3_clearsBridge_40 : decode cX3_clearsBridge 40 = .ok (.ireturn, 1) := by decide +kernel
theorem dX3_hasWayIn_0 : decode cX3_hasWayIn 0 = .ok (.aload_n 0, 1) := by decide +kernel
theorem dX3_hasWayIn_1 : decode cX3_hasWayIn 1 = .ok (.getfield 12, 3) := by decide +kernel
theorem dX3_hasWayIn_4 : decode cX3_hasWayIn 4 = .ok (.iload_n 2, 1) := by decide +kernel
theorem dX3_hasWayIn_5 : decode cX3_hasWayIn 5 = .ok (.invokevirtual 202, 3) := by decide +kernel
theorem dX3_hasWayIn_8 : decode cX3_hasWayIn 8 = .ok (.istore 4, 2) := by decide +kernel
theorem dX3_hasWayIn_10 : decode cX3_hasWayIn 10 = .ok (.aload_n 0, 1) := by decide +kernel
theorem dX3_hasWayIn_11 : decode cX3_hasWayIn 11 = .ok (.iload_n 1, 1) := by decide +kernel
theorem dX3_hasWayIn_12 : decode cX3_hasWayIn 12 = .ok (.iload 4, 2) := by decide +kernel
theorem dX3_hasWayIn_14 : decode cX3_hasWayIn 14 = .ok (.invokevirtual 205, 3) := by decide +kernel
theorem dX3_hasWayIn_17 : decode cX3_hasWayIn 17 = .ok (.ifCond .eq 21, 3) := by decide +kernel
theorem dX3_hasWayIn_20 : decode cX3_hasWayIn 20 = .ok (.iload_n 3, 1) := by decide +kernel
theorem dX3_hasWayIn_21 : decode cX3_hasWayIn 21 = .ok (.ifCond .eq 13, 3) := by decide +kernel
theorem dX3_hasWayIn_24 : decode cX3_hasWayIn 24 = .ok (.aload_n 0, 1) := by decide +kernel
theorem dX3_hasWayIn_25 : decode cX3_hasWayIn 25 = .ok (.iload_n 1, 1) := by decide +kernel
theorem dX3_hasWayIn_26 : decode cX3_hasWayIn 26 = .ok (.iload 4, 2) := by decide +kernel
theorem dX3_hasWayIn_28 : decode cX3_hasWayIn 28 = .ok (.invokevirtual 208, 3) := by decide +kernel
theorem dX3_hasWayIn_31 : decode cX3_hasWayIn 31 = .ok (.ifCond .eq 7, 3) := by decide +kernel
theorem dX3_hasWayIn_34 : decode cX3_hasWayIn 34 = .ok (.iconst 1, 1) := by decide +kernel
theorem dX3_hasWayIn_35 : decode cX3_hasWayIn 35 = .ok (.goto 4, 3) := by decide +kernel
theorem dX3_hasWayIn_38 : decode cX3_hasWayIn 38 = .ok (.iconst 0, 1) := by decide +kernel
theorem dX3_hasWayIn_39 : decode cX3_hasWayIn 39 = .ok (.ireturn, 1) := by decide +kernel
theorem dX3_firstWayIn_0 : decode cX3_firstWayIn 0 = .ok (.iload_n 2, 1) := by decide +kernel
theorem dX3_firstWayIn_1 : decode cX3_firstWayIn 1 = .ok (.istore 4, 2) := by decide +kernel
theorem dX3_firstWayIn_3 : decode cX3_firstWayIn 3 = .ok (.iload 4, 2) := by decide +kernel
theorem dX3_firstWayIn_5 : decode cX3_firstWayIn 5 = .ok (.bipush 120, 2) := by decide +kernel
theorem dX3_firstWayIn_7 : decode cX3_firstWayIn 7 = .ok (.if_icmp .ge 23, 3) := by decide +kernel
theorem dX3_firstWayIn_10 : decode cX3_firstWayIn 10 = .ok (.aload_n 0, 1) := by decide +kernel
theorem dX3_firstWayIn_11 : decode cX3_firstWayIn 11 = .ok (.iload_n 1, 1) := by decide +kernel
theorem dX3_firstWayIn_12 : decode cX3_firstWayIn 12 = .ok (.iload 4, 2) := by decide +kernel
theorem dX3_firstWayIn_14 : decode cX3_firstWayIn 14 = .ok (.iload_n 3, 1) := by decide +kernel
theorem dX3_firstWayIn_15 : decode cX3_firstWayIn 15 = .ok (.invokevirtual 211, 3) := by decide +kernel
theorem dX3_firstWayIn_18 : decode cX3_firstWayIn 18 = .ok (.ifCond .eq 6, 3) := by decide +kernel
theorem dX3_firstWayIn_21 : decode cX3_firstWayIn 21 = .ok (.iload 4, 2) := by decide +kernel
theorem dX3_firstWayIn_23 : decode cX3_firstWayIn 23 = .ok (.ireturn, 1) := by decide +kernel
theorem dX3_firstWayIn_24 : decode cX3_firstWayIn 24 = .ok (.iinc 4 1, 3) := by decide +kernel
theorem dX3_firstWayIn_27 : decode cX3_firstWayIn 27 = .ok (.goto (-24), 3) := by decide +kernel
theorem dX3_firstWayIn_30 : decode cX3_firstWayIn 30 = .ok (.iconst (-1), 1) := by decide +kernel
theorem dX3_firstWayIn_31 : decode cX3_firstWayIn 31 = .ok (.ireturn, 1) := by decide +kernel
theorem dX3_isAfloat_0 : decode cX3_isAfloat 0 = .ok (.aload_n 0, 1) := by decide +kernel
theorem dX3_isAfloat_1 : decode cX3_isAfloat 1 = .ok (.getfield 19, 3) := by decide +kernel
theorem dX3_isAfloat_4 : decode cX3_isAfloat 4 = .ok (.getfield 75, 3) := by decide +kernel
theorem dX3_isAfloat_7 : decode cX3_isAfloat 7 = .ok (.iload_n 1, 1) := by decide +kernel
theorem dX3_isAfloat_8 : decode cX3_isAfloat 8 = .ok (.iaload, 1) := by decide +kernel
theorem dX3_isAfloat_9 : decode cX3_isAfloat 9 = .ok (.aload_n 0, 1) := by decide +kernel
theorem dX3_isAfloat_10 : decode cX3_isAfloat 10 = .ok (.getfield 12, 3) := by decide +kernel
theorem dX3_isAfloat_13 : decode cX3_isAfloat 13 = .ok (.getfield 54, 3) := by decide +kernel
theorem dX3_isAfloat_16 : decode cX3_isAfloat 16 = .ok (.iconst 2, 1) := by decide +kernel
theorem dX3_isAfloat_17 : decode cX3_isAfloat 17 = .ok (.iaload, 1) := by decide +kernel
theorem dX3_isAfloat_18 : decode cX3_isAfloat 18 = .ok (.iadd, 1) := by decide +kernel
theorem dX3_isAfloat_19 : decode cX3_isAfloat 19 = .ok (.istore_n 3, 1) := by decide +kernel
theorem dX3_isAfloat_20 : decode cX3_isAfloat 20 = .ok (.aload_n 0, 1) := by decide +kernel
theorem dX3_isAfloat_21 : decode cX3_isAfloat 21 = .ok (.getfield 26, 3) := by decide +kernel
theorem dX3_isAfloat_24 : decode cX3_isAfloat 24 = .ok (.getfield 95, 3) := by decide +kernel
theorem dX3_isAfloat_27 : decode cX3_isAfloat 27 = .ok (.iload_n 2, 1) := by decide +kernel
theorem dX3_isAfloat_28 : decode cX3_isAfloat 28 = .ok (.iaload, 1) := by decide +kernel
theorem dX3_isAfloat_29 : decode cX3_isAfloat 29 = .ok (.aload_n 0, 1) := by decide +kernel
theorem dX3_isAfloat_30 : decode cX3_isAfloat 30 = .ok (.getfield 12, 3) := by decide +kernel
theorem dX3_isAfloat_33 : decode cX3_isAfloat 33 = .ok (.invokevirtual 127, 3) := by decide +kernel
theorem dX3_isAfloat_36 : decode cX3_isAfloat 36 = .ok (.iadd, 1) := by decide +kernel
theorem dX3_isAfloat_37 : decode cX3_isAfloat 37 = .ok (.iload_n 3, 1) := by decide +kernel
theorem dX3_isAfloat_38 : decode cX3_isAfloat 38 = .ok (.if_icmp .lt 7, 3) := by decide +kernel
theorem dX3_isAfloat_41 : decode cX3_isAfloat 41 = .ok (.iconst 1, 1) := by decide +kernel
theorem dX3_isAfloat_42 : decode cX3_isAfloat 42 = .ok (.goto 4, 3) := by decide +kernel
theorem dX3_isAfloat_45 : decode cX3_isAfloat 45 = .ok (.iconst 0, 1) := by decide +kernel
theorem dX3_isAfloat_46 : decode cX3_isAfloat 46 = .ok (.ireturn, 1) := by decide +kernel
theorem dX3_hindrance_0 : decode cX3_hindrance 0 = .ok (.aload_n 0, 1) := by decide +kernel
theorem dX3_hindrance_1 : decode cX3_hindrance 1 = .ok (.iload_n 1, 1) := by decide +kernel
theorem dX3_hindrance_2 : decode cX3_hindrance 2 = .ok (.iload_n 2, 1) := by decide +kernel
theorem dX3_hindrance_3 : decode cX3_hindrance 3 = .ok (.invokevirtual 215, 3) := by decide +kernel
theorem dX3_hindrance_6 : decode cX3_hindrance 6 = .ok (.ifCond .ne 5, 3) := by decide +kernel
theorem dX3_hindrance_9 : decode cX3_hindrance 9 = .ok (.iconst 1, 1) := by decide +kernel
theorem dX3_hindrance_10 : decode cX3_hindrance 10 = .ok (.ireturn, 1) := by decide +kernel
theorem dX3_hindrance_11 : decode cX3_hindrance 11 = .ok (.aload_n 0, 1) := by decide +kernel
theorem dX3_hindrance_12 : decode cX3_hindrance 12 = .ok (.iload_n 1, 1) := by decide +kernel
theorem dX3_hindrance_13 : decode cX3_hindrance 13 = .ok (.aload_n 0, 1) := by decide +kernel
theorem dX3_hindrance_14 : decode cX3_hindrance 14 = .ok (.getfield 19, 3) := by decide +kernel
theorem dX3_hindrance_17 : decode cX3_hindrance 17 = .ok (.getfield 87, 3) := by decide +kernel
theorem dX3_hindrance_20 : decode cX3_hindrance 20 = .ok (.iload_n 1, 1) := by decide +kernel
theorem dX3_hindrance_21 : decode cX3_hindrance 21 = .ok (.iaload, 1) := by decide +kernel
theorem dX3_hindrance_22 : decode cX3_hindrance 22 = .ok (.aload_n 0, 1) := by decide +kernel
theorem dX3_hindrance_23 : decode cX3_hindrance 23 = .ok (.getfield 26, 3) := by decide +kernel
theorem dX3_hindrance_26 : decode cX3_hindrance 26 = .ok (.getfield 98, 3) := by decide +kernel
theorem dX3_hindrance_29 : decode cX3_hindrance 29 = .ok (.iload_n 2, 1) := by decide +kernel
theorem dX3_hindrance_30 : decode cX3_hindrance 30 = .ok (.baload, 1) := by decide +kernel
theorem dX3_hindrance_31 : decode cX3_hindrance 31 = .ok (.invokevirtual 133, 3) := by decide +kernel
theorem dX3_hindrance_34 : decode cX3_hindrance 34 = .ok (.istore_n 3, 1) := by decide +kernel
theorem dX3_hindrance_35 : decode cX3_hindrance 35 = .ok (.iload_n 3, 1) := by decide +kernel
theorem dX3_hindrance_36 : decode cX3_hindrance 36 = .ok (.iconst (-1), 1) := by decide +kernel
theorem dX3_hindrance_37 : decode cX3_hindrance 37 = .ok (.if_icmp .ne 7, 3) := by decide +kernel
theorem dX3_hindrance_40 : decode cX3_hindrance 40 = .ok (.iconst 2, 1) := by decide +kernel
theorem dX3_hindrance_41 : decode cX3_hindrance 41 = .ok (.goto 4, 3) := by decide +kernel
theorem dX3_hindrance_44 : decode cX3_hindrance 44 = .ok (.iconst 0, 1) := by decide +kernel
theorem dX3_hindrance_45 : decode cX3_hindrance 45 = .ok (.ireturn, 1) := by decide +kernel
theorem dX3_isSteep_0 : decode cX3_isSteep 0 = .ok (.aload_n 0, 1) := by decide +kernel
theorem dX3_isSteep_1 : decode cX3_isSteep 1 = .ok (.getfield 26, 3) := by decide +kernel
theorem dX3_isSteep_4 : decode cX3_isSteep 4 = .ok (.getfield 105, 3) := by decide +kernel
theorem dX3_isSteep_7 : decode cX3_isSteep 7 = .ok (.iload_n 1, 1) := by decide +kernel
theorem dX3_isSteep_8 : decode cX3_isSteep 8 = .ok (.iaload, 1) := by decide +kernel
theorem dX3_isSteep_9 : decode cX3_isSteep 9 = .ok (.aload_n 0, 1) := by decide +kernel
theorem dX3_isSteep_10 : decode cX3_isSteep 10 = .ok (.getfield 12, 3) := by decide +kernel
theorem dX3_isSteep_13 : decode cX3_isSteep 13 = .ok (.iload_n 2, 1) := by decide +kernel
theorem dX3_isSteep_14 : decode cX3_isSteep 14 = .ok (.invokevirtual 202, 3) := by decide +kernel
theorem dX3_isSteep_17 : decode cX3_isSteep 17 = .ok (.bipush 30, 2) := by decide +kernel
theorem dX3_isSteep_19 : decode cX3_isSteep 19 = .ok (.iadd, 1) := by decide +kernel
theorem dX3_isSteep_20 : decode cX3_isSteep 20 = .ok (.isub, 1) := by decide +kernel
theorem dX3_isSteep_21 : decode cX3_isSteep 21 = .ok (.istore_n 3, 1) := by decide +kernel
theorem dX3_isSteep_22 : decode cX3_isSteep 22 = .ok (.iload_n 3, 1) := by decide +kernel
theorem dX3_isSteep_23 : decode cX3_isSteep 23 = .ok (.invokestatic 218, 3) := by decide +kernel
theorem dX3_isSteep_26 : decode cX3_isSteep 26 = .ok (.aload_n 0, 1) := by decide +kernel
theorem dX3_isSteep_27 : decode cX3_isSteep 27 = .ok (.getfield 12, 3) := by decide +kernel
theorem dX3_isSteep_30 : decode cX3_isSteep 30 = .ok (.getfield 54, 3) := by decide +kernel
theorem dX3_isSteep_33 : decode cX3_isSteep 33 = .ok (.iconst 4, 1) := by decide +kernel
theorem dX3_isSteep_34 : decode cX3_isSteep 34 = .ok (.iaload, 1) := by decide +kernel
theorem dX3_isSteep_35 : decode cX3_isSteep 35 = .ok (.if_icmp .le 7, 3) := by decide +kernel
theorem dX3_isSteep_38 : decode cX3_isSteep 38 = .ok (.iconst 1, 1) := by decide +kernel
theorem dX3_isSteep_39 : decode cX3_isSteep 39 = .ok (.goto 4, 3) := by decide +kernel
theorem dX3_isSteep_42 : decode cX3_isSteep 42 = .ok (.iconst 0, 1) := by decide +kernel
theorem dX3_isSteep_43 : decode cX3_isSteep 43 = .ok (.ireturn, 1) := by decide +kernel
theorem dX3_showOfBerths_0 : decode cX3_showOfBerths 0 = .ok (.iconst 0, 1) := by decide +kernel
theorem dX3_showOfBerths_1 : decode cX3_showOfBerths 1 = .ok (.istore_n 1, 1) := by decide +kernel
theorem dX3_showOfBerths_2 : decode cX3_showOfBerths 2 = .ok (.iconst 0, 1) := by decide +kernel
theorem dX3_showOfBerths_3 : decode cX3_showOfBerths 3 = .ok (.istore_n 2, 1) := by decide +kernel
theorem dX3_showOfBerths_4 : decode cX3_showOfBerths 4 = .ok (.iload_n 2, 1) := by decide +kernel
theorem dX3_showOfBerths_5 : decode cX3_showOfBerths 5 = .ok (.aload_n 0, 1) := by decide +kernel
theorem dX3_showOfBerths_6 : decode cX3_showOfBerths 6 = .ok (.getfield 19, 3) := by decide +kernel
theorem dX3_showOfBerths_9 : decode cX3_showOfBerths 9 = .ok (.getfield 68, 3) := by decide +kernel
theorem dX3_showOfBerths_12 : decode cX3_showOfBerths 12 = .ok (.if_icmp .ge 26, 3) := by decide +kernel
theorem dX3_showOfBerths_15 : decode cX3_showOfBerths 15 = .ok (.iload_n 1, 1) := by decide +kernel
theorem dX3_showOfBerths_16 : decode cX3_showOfBerths 16 = .ok (.aload_n 0, 1) := by decide +kernel
theorem dX3_showOfBerths_17 : decode cX3_showOfBerths 17 = .ok (.iload_n 2, 1) := by decide +kernel
theorem dX3_showOfBerths_18 : decode cX3_showOfBerths 18 = .ok (.aload_n 0, 1) := by decide +kernel
theorem dX3_showOfBerths_19 : decode cX3_showOfBerths 19 = .ok (.getfield 19, 3) := by decide +kernel
theorem dX3_showOfBerths_22 : decode cX3_showOfBerths 22 = .ok (.getfield 142, 3) := by decide +kernel
theorem dX3_showOfBerths_25 : decode cX3_showOfBerths 25 = .ok (.iload_n 2, 1) := by decide +kernel
theorem dX3_showOfBerths_26 : decode cX3_showOfBerths 26 = .ok (.iaload, 1) := by decide +kernel
theorem dX3_showOfBerths_27 : decode cX3_showOfBerths 27 = .ok (.invokevirtual 221, 3) := by decide +kernel
theorem dX3_showOfBerths_30 : decode cX3_showOfBerths 30 = .ok (.iadd, 1) := by decide +kernel
theorem dX3_showOfBerths_31 : decode cX3_showOfBerths 31 = .ok (.istore_n 1, 1) := by decide +kernel
theorem dX3_showOfBerths_32 : decode cX3_showOfBerths 32 = .ok (.iinc 2 1, 3) := by decide +kernel
theorem dX3_showOfBerths_35 : decode cX3_showOfBerths 35 = .ok (.goto (-31), 3) := by decide +kernel
theorem dX3_showOfBerths_38 : decode cX3_showOfBerths 38 = .ok (.iload_n 1, 1) := by decide +kernel
theorem dX3_showOfBerths_39 : decode cX3_showOfBerths 39 = .ok (.ireturn, 1) := by decide +kernel
theorem dX3_showAt_0 : decode cX3_showAt 0 = .ok (.aload_n 0, 1) := by decide +kernel
theorem dX3_showAt_1 : decode cX3_showAt 1 = .ok (.getfield 26, 3) := by decide +kernel
theorem dX3_showAt_4 : decode cX3_showAt 4 = .ok (.iload_n 2, 1) := by decide +kernel
theorem dX3_showAt_5 : decode cX3_showAt 5 = .ok (.invokevirtual 137, 3) := by decide +kernel
theorem dX3_showAt_8 : decode cX3_showAt 8 = .ok (.ifCond .eq 25, 3) := by decide +kernel
theorem dX3_showAt_11 : decode cX3_showAt 11 = .ok (.aload_n 0, 1) := by decide +kernel
theorem dX3_showAt_12 : decode cX3_showAt 12 = .ok (.getfield 19, 3) := by decide +kernel
theorem dX3_showAt_15 : decode cX3_showAt 15 = .ok (.getfield 81, 3) := by decide +kernel
theorem dX3_showAt_18 : decode cX3_showAt 18 = .ok (.iload_n 1, 1) := by decide +kernel
theorem dX3_showAt_19 : decode cX3_showAt 19 = .ok (.iaload, 1) := by decide +kernel
theorem dX3_showAt_20 : decode cX3_showAt 20 = .ok (.aload_n 0, 1) := by decide +kernel
theorem dX3_showAt_21 : decode cX3_showAt 21 = .ok (.getfield 26, 3) := by decide +kernel
theorem dX3_showAt_24 : decode cX3_showAt 24 = .ok (.getfield 102, 3) := by decide +kernel
theorem dX3_showAt_27 : decode cX3_showAt 27 = .ok (.iload_n 2, 1) := by decide +kernel
theorem dX3_showAt_28 : decode cX3_showAt 28 = .ok (.iaload, 1) := by decide +kernel
theorem dX3_showAt_29 : decode cX3_showAt 29 = .ok (.imul, 1) := by decide +kernel
theorem dX3_showAt_30 : decode cX3_showAt 30 = .ok (.goto 4, 3) := by decide +kernel
theorem dX3_showAt_33 : decode cX3_showAt 33 = .ok (.iconst 0, 1) := by decide +kernel
theorem dX3_showAt_34 : decode cX3_showAt 34 = .ok (.ireturn, 1) := by decide +kernel
theorem dX3_firstMisplaced_0 : decode cX3_firstMisplaced 0 = .ok (.iconst 0, 1) := by decide +kernel
theorem dX3_firstMisplaced_1 : decode cX3_firstMisplaced 1 = .ok (.istore_n 1, 1) := by decide +kernel
theorem dX3_firstMisplaced_2 : decode cX3_firstMisplaced 2 = .ok (.iload_n 1, 1) := by decide +kernel
theorem dX3_firstMisplaced_3 : decode cX3_firstMisplaced 3 = .ok (.aload_n 0, 1) := by decide +kernel
theorem dX3_firstMisplaced_4 : decode cX3_firstMisplaced 4 = .ok (.getfield 19, 3) := by decide +kernel
theorem dX3_firstMisplaced_7 : decode cX3_firstMisplaced 7 = .ok (.getfield 68, 3) := by decide +kernel
theorem dX3_firstMisplaced_10 : decode cX3_firstMisplaced 10 = .ok (.if_icmp .ge 41, 3) := by decide +kernel
theorem dX3_firstMisplaced_13 : decode cX3_firstMisplaced 13 = .ok (.aload_n 0, 1) := by decide +kernel
theorem dX3_firstMisplaced_14 : decode cX3_firstMisplaced 14 = .ok (.getfield 19, 3) := by decide +kernel
theorem dX3_firstMisplaced_17 : decode cX3_firstMisplaced 17 = .ok (.getfield 142, 3) := by decide +kernel
theorem dX3_firstMisplaced_20 : decode cX3_firstMisplaced 20 = .ok (.iload_n 1, 1) := by decide +kernel
theorem dX3_firstMisplaced_21 : decode cX3_firstMisplaced 21 = .ok (.iaload, 1) := by decide +kernel
theorem dX3_firstMisplaced_22 : decode cX3_firstMisplaced 22 = .ok (.istore_n 2, 1) := by decide +kernel
theorem dX3_firstMisplaced_23 : decode cX3_firstMisplaced 23 = .ok (.aload_n 0, 1) := by decide +kernel
theorem dX3_firstMisplaced_24 : decode cX3_firstMisplaced 24 = .ok (.getfield 26, 3) := by decide +kernel
theorem dX3_firstMisplaced_27 : decode cX3_firstMisplaced 27 = .ok (.iload_n 2, 1) := by decide +kernel
theorem dX3_firstMisplaced_28 : decode cX3_firstMisplaced 28 = .ok (.invokevirtual 137, 3) := by decide +kernel
theorem dX3_firstMisplaced_31 : decode cX3_firstMisplaced 31 = .ok (.ifCond .eq 14, 3) := by decide +kernel
theorem dX3_firstMisplaced_34 : decode cX3_firstMisplaced 34 = .ok (.aload_n 0, 1) := by decide +kernel
theorem dX3_firstMisplaced_35 : decode cX3_firstMisplaced 35 = .ok (.iload_n 1, 1) := by decide +kernel
theorem dX3_firstMisplaced_36 : decode cX3_firstMisplaced 36 = .ok (.iload_n 2, 1) := by decide +kernel
theorem dX3_firstMisplaced_37 : decode cX3_firstMisplaced 37 = .ok (.invokevirtual 138, 3) := by decide +kernel
theorem dX3_firstMisplaced_40 : decode cX3_firstMisplaced 40 = .ok (.ifCond .eq 5, 3) := by decide +kernel
theorem dX3_firstMisplaced_43 : decode cX3_firstMisplaced 43 = .ok (.iload_n 1, 1) := by decide +kernel
theorem dX3_firstMisplaced_44 : decode cX3_firstMisplaced 44 = .ok (.ireturn, 1) := by decide +kernel
theorem dX3_firstMisplaced_45 : decode cX3_firstMisplaced 45 = .ok (.iinc 1 1, 3) := by decide +kernel
theorem dX3_firstMisplaced_48 : decode cX3_firstMisplaced 48 = .ok (.goto (-46), 3) := by decide +kernel
theorem dX3_firstMisplaced_51 : decode cX3_firstMisplaced 51 = .ok (.iconst (-1), 1) := by decide +kernel
theorem dX3_firstMisplaced_52 : decode cX3_firstMisplaced 52 = .ok (.ireturn, 1) := by decide +kernel
theorem dX3_firstFouling_0 : decode cX3_firstFouling 0 = .ok (.iconst 0, 1) := by decide +kernel
theorem dX3_firstFouling_1 : decode cX3_firstFouling 1 = .ok (.istore_n 1, 1) := by decide +kernel
theorem dX3_firstFouling_2 : decode cX3_firstFouling 2 = .ok (.iload_n 1, 1) := by decide +kernel
theorem dX3_firstFouling_3 : decode cX3_firstFouling 3 = .ok (.aload_n 0, 1) := by decide +kernel
theorem dX3_firstFouling_4 : decode cX3_firstFouling 4 = .ok (.getfield 19, 3) := by decide +kernel
theorem dX3_firstFouling_7 : decode cX3_firstFouling 7 = .ok (.getfield 68, 3) := by decide +kernel
theorem dX3_firstFouling_10 : decode cX3_firstFouling 10 = .ok (.if_icmp .ge 53, 3) := by decide +kernel
theorem dX3_firstFouling_13 : decode cX3_firstFouling 13 = .ok (.aload_n 0, 1) := by decide +kernel
theorem dX3_firstFouling_14 : decode cX3_firstFouling 14 = .ok (.getfield 19, 3) := by decide +kernel
theorem dX3_firstFouling_17 : decode cX3_firstFouling 17 = .ok (.getfield 142, 3) := by decide +kernel
theorem dX3_firstFouling_20 : decode cX3_firstFouling 20 = .ok (.iload_n 1, 1) := by decide +kernel
theorem dX3_firstFouling_21 : decode cX3_firstFouling 21 = .ok (.iaload, 1) := by decide +kernel
theorem dX3_firstFouling_22 : decode cX3_firstFouling 22 = .ok (.istore_n 2, 1) := by decide +kernel
theorem dX3_firstFouling_23 : decode cX3_firstFouling 23 = .ok (.aload_n 0, 1) := by decide +kernel
theorem dX3_firstFouling_24 : decode cX3_firstFouling 24 = .ok (.getfield 26, 3) := by decide +kernel
theorem dX3_firstFouling_27 : decode cX3_firstFouling 27 = .ok (.iload_n 2, 1) := by decide +kernel
theorem dX3_firstFouling_28 : decode cX3_firstFouling 28 = .ok (.invokevirtual 137, 3) := by decide +kernel
theorem dX3_firstFouling_31 : decode cX3_firstFouling 31 = .ok (.ifCond .eq 26, 3) := by decide +kernel
theorem dX3_firstFouling_34 : decode cX3_firstFouling 34 = .ok (.aload_n 0, 1) := by decide +kernel
theorem dX3_firstFouling_35 : decode cX3_firstFouling 35 = .ok (.getfield 19, 3) := by decide +kernel
theorem dX3_firstFouling_38 : decode cX3_firstFouling 38 = .ok (.getfield 111, 3) := by decide +kernel
theorem dX3_firstFouling_41 : decode cX3_firstFouling 41 = .ok (.iload_n 1, 1) := by decide +kernel
theorem dX3_firstFouling_42 : decode cX3_firstFouling 42 = .ok (.iaload, 1) := by decide +kernel
theorem dX3_firstFouling_43 : decode cX3_firstFouling 43 = .ok (.aload_n 0, 1) := by decide +kernel
theorem dX3_firstFouling_44 : decode cX3_firstFouling 44 = .ok (.getfield 19, 3) := by decide +kernel
theorem dX3_firstFouling_47 : decode cX3_firstFouling 47 = .ok (.iload_n 2, 1) := by decide +kernel
theorem dX3_firstFouling_48 : decode cX3_firstFouling 48 = .ok (.invokevirtual 224, 3) := by decide +kernel
theorem dX3_firstFouling_51 : decode cX3_firstFouling 51 = .ok (.iand, 1) := by decide +kernel
theorem dX3_firstFouling_52 : decode cX3_firstFouling 52 = .ok (.ifCond .eq 5, 3) := by decide +kernel
theorem dX3_firstFouling_55 : decode cX3_firstFouling 55 = .ok (.iload_n 1, 1) := by decide +kernel
theorem dX3_firstFouling_56 : decode cX3_firstFouling 56 = .ok (.ireturn, 1) := by decide +kernel
theorem dX3_firstFouling_57 : decode cX3_firstFouling 57 = .ok (.iinc 1 1, 3) := by decide +kernel
theorem dX3_firstFouling_60 : decode cX3_firstFouling 60 = .ok (.goto (-58), 3) := by decide +kernel
theorem dX3_firstFouling_63 : decode cX3_firstFouling 63 = .ok (.iconst (-1), 1) := by decide +kernel
theorem dX3_firstFouling_64 : decode cX3_firstFouling 64 = .ok (.ireturn, 1) := by decide +kernel
theorem dX3_firstTooShort_0 : decode cX3_firstTooShort 0 = .ok (.iconst 0, 1) := by decide +kernel
theorem dX3_firstTooShort_1 : decode cX3_firstTooShort 1 = .ok (.istore_n 1, 1) := by decide +kernel
theorem dX3_firstTooShort_2 : decode cX3_firstTooShort 2 = .ok (.iload_n 1, 1) := by decide +kernel
theorem dX3_firstTooShort_3 : decode cX3_firstTooShort 3 = .ok (.aload_n 0, 1) := by decide +kernel
theorem dX3_firstTooShort_4 : decode cX3_firstTooShort 4 = .ok (.getfield 26, 3) := by decide +kernel
theorem dX3_firstTooShort_7 : decode cX3_firstTooShort 7 = .ok (.getfield 93, 3) := by decide +kernel
theorem dX3_firstTooShort_10 : decode cX3_firstTooShort 10 = .ok (.if_icmp .ge 19, 3) := by decide +kernel
theorem dX3_firstTooShort_13 : decode cX3_firstTooShort 13 = .ok (.aload_n 0, 1) := by decide +kernel
theorem dX3_firstTooShort_14 : decode cX3_firstTooShort 14 = .ok (.iload_n 1, 1) := by decide +kernel
theorem dX3_firstTooShort_15 : decode cX3_firstTooShort 15 = .ok (.invokevirtual 169, 3) := by decide +kernel
theorem dX3_firstTooShort_18 : decode cX3_firstTooShort 18 = .ok (.ifCond .ge 5, 3) := by decide +kernel
theorem dX3_firstTooShort_21 : decode cX3_firstTooShort 21 = .ok (.iload_n 1, 1) := by decide +kernel
theorem dX3_firstTooShort_22 : decode cX3_firstTooShort 22 = .ok (.ireturn, 1) := by decide +kernel
theorem dX3_firstTooShort_23 : decode cX3_firstTooShort 23 = .ok (.iinc 1 1, 3) := by decide +kernel
theorem dX3_firstTooShort_26 : decode cX3_firstTooShort 26 = .ok (.goto (-24), 3) := by decide +kernel
theorem dX3_firstTooShort_29 : decode cX3_firstTooShort 29 = .ok (.iconst (-1), 1) := by decide +kernel
theorem dX3_firstTooShort_30 : decode cX3_firstTooShort 30 = .ok (.ireturn, 1) := by decide +kernel
theorem dX3_roomLeft_0 : decode cX3_roomLeft 0 = .ok (.aload_n 0, 1) := by decide +kernel
theorem dX3_roomLeft_1 : decode cX3_roomLeft 1 = .ok (.getfield 26, 3) := by decide +kernel
theorem dX3_roomLeft_4 : decode cX3_roomLeft 4 = .ok (.getfield 94, 3) := by decide +kernel
theorem dX3_roomLeft_7 : decode cX3_roomLeft 7 = .ok (.iload_n 1, 1) := by decide +kernel
theorem dX3_roomLeft_8 : decode cX3_roomLeft 8 = .ok (.iaload, 1) := by decide +kernel
theorem dX3_roomLeft_9 : decode cX3_roomLeft 9 = .ok (.istore_n 2, 1) := by decide +kernel
theorem dX3_roomLeft_10 : decode cX3_roomLeft 10 = .ok (.iconst 0, 1) := by decide +kernel
theorem dX3_roomLeft_11 : decode cX3_roomLeft 11 = .ok (.istore_n 3, 1) := by decide +kernel
theorem dX3_roomLeft_12 : decode cX3_roomLeft 12 = .ok (.iconst 0, 1) := by decide +kernel
theorem dX3_roomLeft_13 : decode cX3_roomLeft 13 = .ok (.istore 4, 2) := by decide +kernel
theorem dX3_roomLeft_15 : decode cX3_roomLeft 15 = .ok (.iload 4, 2) := by decide +kernel
theorem dX3_roomLeft_17 : decode cX3_roomLeft 17 = .ok (.aload_n 0, 1) := by decide +kernel
theorem dX3_roomLeft_18 : decode cX3_roomLeft 18 = .ok (.getfield 19, 3) := by decide +kernel
theorem dX3_roomLeft_21 : decode cX3_roomLeft 21 = .ok (.getfield 68, 3) := by decide +kernel
theorem dX3_roomLeft_24 : decode cX3_roomLeft 24 = .ok (.if_icmp .ge 57, 3) := by decide +kernel
theorem dX3_roomLeft_27 : decode cX3_roomLeft 27 = .ok (.aload_n 0, 1) := by decide +kernel
theorem dX3_roomLeft_28 : decode cX3_roomLeft 28 = .ok (.getfield 19, 3) := by decide +kernel
theorem dX3_roomLeft_31 : decode cX3_roomLeft 31 = .ok (.getfield 142, 3) := by decide +kernel
theorem dX3_roomLeft_34 : decode cX3_roomLeft 34 = .ok (.iload 4, 2) := by decide +kernel
theorem dX3_roomLeft_36 : decode cX3_roomLeft 36 = .ok (.iaload, 1) := by decide +kernel
theorem dX3_roomLeft_37 : decode cX3_roomLeft 37 = .ok (.iload_n 1, 1) := by decide +kernel
theorem dX3_roomLeft_38 : decode cX3_roomLeft 38 = .ok (.if_icmp .ne 37, 3) := by decide +kernel
theorem dX3_roomLeft_41 : decode cX3_roomLeft 41 = .ok (.iload_n 2, 1) := by decide +kernel
theorem dX3_roomLeft_42 : decode cX3_roomLeft 42 = .ok (.aload_n 0, 1) := by decide +kernel
theorem dX3_roomLeft_43 : decode cX3_roomLeft 43 = .ok (.getfield 19, 3) := by decide +kernel
theorem dX3_roomLeft_46 : decode cX3_roomLeft 46 = .ok (.getfield 72, 3) := by decide +kernel
theorem dX3_roomLeft_49 : decode cX3_roomLeft 49 = .ok (.iload 4, 2) := by decide +kernel
theorem dX3_roomLeft_51 : decode cX3_roomLeft 51 = .ok (.iaload, 1) := by decide +kernel
theorem dX3_roomLeft_52 : decode cX3_roomLeft 52 = .ok (.iload_n 3, 1) := by decide +kernel
theorem dX3_roomLeft_53 : decode cX3_roomLeft 53 = .ok (.ifCond .le 15, 3) := by decide +kernel
theorem dX3_roomLeft_56 : decode cX3_roomLeft 56 = .ok (.aload_n 0, 1) := by decide +kernel
theorem dX3_roomLeft_57 : decode cX3_roomLeft 57 = .ok (.getfield 12, 3) := by decide +kernel
theorem dX3_roomLeft_60 : decode cX3_roomLeft 60 = .ok (.getfield 54, 3) := by decide +kernel
theorem dX3_roomLeft_63 : decode cX3_roomLeft 63 = .ok (.iconst 3, 1) := by decide +kernel
theorem dX3_roomLeft_64 : decode cX3_roomLeft 64 = .ok (.iaload, 1) := by decide +kernel
theorem dX3_roomLeft_65 : decode cX3_roomLeft 65 = .ok (.goto 4, 3) := by decide +kernel
theorem dX3_roomLeft_68 : decode cX3_roomLeft 68 = .ok (.iconst 0, 1) := by decide +kernel
theorem dX3_roomLeft_69 : decode cX3_roomLeft 69 = .ok (.iadd, 1) := by decide +kernel
theorem dX3_roomLeft_70 : decode cX3_roomLeft 70 = .ok (.isub, 1) := by decide +kernel
theorem dX3_roomLeft_71 : decode cX3_roomLeft 71 = .ok (.istore_n 2, 1) := by decide +kernel
theorem dX3_roomLeft_72 : decode cX3_roomLeft 72 = .ok (.iinc 3 1, 3) := by decide +kernel
theorem dX3_roomLeft_75 : decode cX3_roomLeft 75 = .ok (.iinc 4 1, 3) := by decide +kernel
theorem dX3_roomLeft_78 : decode cX3_roomLeft 78 = .ok (.goto (-63), 3) := by decide +kernel
theorem dX3_roomLeft_81 : decode cX3_roomLeft 81 = .ok (.iload_n 2, 1) := by decide +kernel
theorem dX3_roomLeft_82 : decode cX3_roomLeft 82 = .ok (.ireturn, 1) := by decide +kernel
theorem dX3_leastBerths_0 : decode cX3_leastBerths 0 = .ok (.aload_n 0, 1) := by decide +kernel
theorem dX3_leastBerths_1 : decode cX3_leastBerths 1 = .ok (.iload_n 1, 1) := by decide +kernel
theorem dX3_leastBerths_2 : decode cX3_leastBerths 2 = .ok (.invokevirtual 227, 3) := by decide +kernel
theorem dX3_leastBerths_5 : decode cX3_leastBerths 5 = .ok (.aload_n 0, 1) := by decide +kernel
theorem dX3_leastBerths_6 : decode cX3_leastBerths 6 = .ok (.invokevirtual 231, 3) := by decide +kernel
theorem dX3_leastBerths_9 : decode cX3_leastBerths 9 = .ok (.iconst 0, 1) := by decide +kernel
theorem dX3_leastBerths_10 : decode cX3_leastBerths 10 = .ok (.istore_n 2, 1) := by decide +kernel
theorem dX3_leastBerths_11 : decode cX3_leastBerths 11 = .ok (.iload_n 2, 1) := by decide +kernel
theorem dX3_leastBerths_12 : decode cX3_leastBerths 12 = .ok (.aload_n 0, 1) := by decide +kernel
theorem dX3_leastBerths_13 : decode cX3_leastBerths 13 = .ok (.getfield 26, 3) := by decide +kernel
theorem dX3_leastBerths_16 : decode cX3_leastBerths 16 = .ok (.getfield 93, 3) := by decide +kernel
theorem dX3_leastBerths_19 : decode cX3_leastBerths 19 = .ok (.if_icmp .ge 19, 3) := by decide +kernel
theorem dX3_leastBerths_22 : decode cX3_leastBerths 22 = .ok (.aload_n 0, 1) := by decide +kernel
theorem dX3_leastBerths_23 : decode cX3_leastBerths 23 = .ok (.iload_n 2, 1) := by decide +kernel
theorem dX3_leastBerths_24 : decode cX3_leastBerths 24 = .ok (.iload_n 1, 1) := by decide +kernel
theorem dX3_leastBerths_25 : decode cX3_leastBerths 25 = .ok (.invokevirtual 234, 3) := by decide +kernel
theorem dX3_leastBerths_28 : decode cX3_leastBerths 28 = .ok (.aload_n 0, 1) := by decide +kernel
theorem dX3_leastBerths_29 : decode cX3_leastBerths 29 = .ok (.invokevirtual 238, 3) := by decide +kernel
theorem dX3_leastBerths_32 : decode cX3_leastBerths 32 = .ok (.iinc 2 1, 3) := by decide +kernel
theorem dX3_leastBerths_35 : decode cX3_leastBerths 35 = .ok (.goto (-24), 3) := by decide +kernel
theorem dX3_leastBerths_38 : decode cX3_leastBerths 38 = .ok (.aload_n 0, 1) := by decide +kernel
theorem dX3_leastBerths_39 : decode cX3_leastBerths 39 = .ok (.getfield 30, 3) := by decide +kernel
theorem dX3_leastBerths_42 : decode cX3_leastBerths 42 = .ok (.aload_n 0, 1) := by decide +kernel
theorem dX3_leastBerths_43 : decode cX3_leastBerths 43 = .ok (.getfield 19, 3) := by decide +kernel
theorem dX3_leastBerths_46 : decode cX3_leastBerths 46 = .ok (.invokevirtual 241, 3) := by decide +kernel
theorem dX3_leastBerths_49 : decode cX3_leastBerths 49 = .ok (.laload, 1) := by decide +kernel
theorem dX3_leastBerths_50 : decode cX3_leastBerths 50 = .ok (.lreturn, 1) := by decide +kernel
theorem dX3_startIdle_0 : decode cX3_startIdle 0 = .ok (.aload_n 0, 1) := by decide +kernel
theorem dX3_startIdle_1 : decode cX3_startIdle 1 = .ok (.getfield 30, 3) := by decide +kernel
theorem dX3_startIdle_4 : decode cX3_startIdle 4 = .ok (.iconst 0, 1) := by decide +kernel
theorem dX3_startIdle_5 : decode cX3_startIdle 5 = .ok (.lconst 0, 1) := by decide +kernel
theorem dX3_startIdle_6 : decode cX3_startIdle 6 = .ok (.lastore, 1) := by decide +kernel
theorem dX3_startIdle_7 : decode cX3_startIdle 7 = .ok (.iconst 0, 1) := by decide +kernel
theorem dX3_startIdle_8 : decode cX3_startIdle 8 = .ok (.istore_n 2, 1) := by decide +kernel
theorem dX3_startIdle_9 : decode cX3_startIdle 9 = .ok (.iload_n 2, 1) := by decide +kernel
theorem dX3_startIdle_10 : decode cX3_startIdle 10 = .ok (.aload_n 0, 1) := by decide +kernel
theorem dX3_startIdle_11 : decode cX3_startIdle 11 = .ok (.getfield 19, 3) := by decide +kernel
theorem dX3_startIdle_14 : decode cX3_startIdle 14 = .ok (.getfield 68, 3) := by decide +kernel
theorem dX3_startIdle_17 : decode cX3_startIdle 17 = .ok (.if_icmp .ge 56, 3) := by decide +kernel
theorem dX3_startIdle_20 : decode cX3_startIdle 20 = .ok (.iconst 1, 1) := by decide +kernel
theorem dX3_startIdle_21 : decode cX3_startIdle 21 = .ok (.iload_n 2, 1) := by decide +kernel
theorem dX3_startIdle_22 : decode cX3_startIdle 22 = .ok (.ishl, 1) := by decide +kernel
theorem dX3_startIdle_23 : decode cX3_startIdle 23 = .ok (.istore_n 3, 1) := by decide +kernel
theorem dX3_startIdle_24 : decode cX3_startIdle 24 = .ok (.aload_n 0, 1) := by decide +kernel
theorem dX3_startIdle_25 : decode cX3_startIdle 25 = .ok (.iload_n 2, 1) := by decide +kernel
theorem dX3_startIdle_26 : decode cX3_startIdle 26 = .ok (.iconst (-1), 1) := by decide +kernel
theorem dX3_startIdle_27 : decode cX3_startIdle 27 = .ok (.iload_n 1, 1) := by decide +kernel
theorem dX3_startIdle_28 : decode cX3_startIdle 28 = .ok (.invokevirtual 244, 3) := by decide +kernel
theorem dX3_startIdle_31 : decode cX3_startIdle 31 = .ok (.lstore 4, 2) := by decide +kernel
theorem dX3_startIdle_33 : decode cX3_startIdle 33 = .ok (.iconst 0, 1) := by decide +kernel
theorem dX3_startIdle_34 : decode cX3_startIdle 34 = .ok (.istore 6, 2) := by decide +kernel
theorem dX3_startIdle_36 : decode cX3_startIdle 36 = .ok (.iload 6, 2) := by decide +kernel
theorem dX3_startIdle_38 : decode cX3_startIdle 38 = .ok (.iload_n 3, 1) := by decide +kernel
theorem dX3_startIdle_39 : decode cX3_startIdle 39 = .ok (.if_icmp .ge 28, 3) := by decide +kernel
theorem dX3_startIdle_42 : decode cX3_startIdle 42 = .ok (.aload_n 0, 1) := by decide +kernel
theorem dX3_startIdle_43 : decode cX3_startIdle 43 = .ok (.getfield 30, 3) := by decide +kernel
theorem dX3_startIdle_46 : decode cX3_startIdle 46 = .ok (.iload_n 3, 1) := by decide +kernel
theorem dX3_startIdle_47 : decode cX3_startIdle 47 = .ok (.iload 6, 2) := by decide +kernel
theorem dX3_startIdle_49 : decode cX3_startIdle 49 = .ok (.ior, 1) := by decide +kernel
theorem dX3_startIdle_50 : decode cX3_startIdle 50 = .ok (.aload_n 0, 1) := by decide +kernel
theorem dX3_startIdle_51 : decode cX3_startIdle 51 = .ok (.getfield 30, 3) := by decide +kernel
theorem dX3_startIdle_54 : decode cX3_startIdle 54 = .ok (.iload 6, 2) := by decide +kernel
theorem dX3_startIdle_56 : decode cX3_startIdle 56 = .ok (.laload, 1) := by decide +kernel
theorem dX3_startIdle_57 : decode cX3_startIdle 57 = .ok (.lload 4, 2) := by decide +kernel
theorem dX3_startIdle_59 : decode cX3_startIdle 59 = .ok (.ladd, 1) := by decide +kernel
theorem dX3_startIdle_60 : decode cX3_startIdle 60 = .ok (.lastore, 1) := by decide +kernel
theorem dX3_startIdle_61 : decode cX3_startIdle 61 = .ok (.iinc 6 1, 3) := by decide +kernel
theorem dX3_startIdle_64 : decode cX3_startIdle 64 = .ok (.goto (-28), 3) := by decide +kernel
theorem dX3_startIdle_67 : decode cX3_startIdle 67 = .ok (.iinc 2 1, 3) := by decide +kernel
theorem dX3_startIdle_70 : decode cX3_startIdle 70 = .ok (.goto (-61), 3) := by decide +kernel
theorem dX3_startIdle_73 : decode cX3_startIdle 73 = .ok (.return_, 1) := by decide +kernel
theorem dX3_measureSpans_0 : decode cX3_measureSpans 0 = .ok (.aload_n 0, 1) := by decide +kernel
theorem dX3_measureSpans_1 : decode cX3_measureSpans 1 = .ok (.getfield 37, 3) := by decide +kernel
theorem dX3_measureSpans_4 : decode cX3_measureSpans 4 = .ok (.iconst 0, 1) := by decide +kernel
theorem dX3_measureSpans_5 : decode cX3_measureSpans 5 = .ok (.iconst 0, 1) := by decide +kernel
theorem dX3_measureSpans_6 : decode cX3_measureSpans 6 = .ok (.iastore, 1) := by decide +kernel
theorem dX3_measureSpans_7 : decode cX3_measureSpans 7 = .ok (.iconst 0, 1) := by decide +kernel
theorem dX3_measureSpans_8 : decode cX3_measureSpans 8 = .ok (.istore_n 1, 1) := by decide +kernel
theorem dX3_measureSpans_9 : decode cX3_measureSpans 9 = .ok (.iload_n 1, 1) := by decide +kernel
theorem dX3_measureSpans_10 : decode cX3_measureSpans 10 = .ok (.aload_n 0, 1) := by decide +kernel
theorem dX3_measureSpans_11 : decode cX3_measureSpans 11 = .ok (.getfield 19, 3) := by decide +kernel
theorem dX3_measureSpans_14 : decode cX3_measureSpans 14 = .ok (.getfield 68, 3) := by decide +kernel
theorem dX3_measureSpans_17 : decode cX3_measureSpans 17 = .ok (.if_icmp .ge 66, 3) := by decide +kernel
theorem dX3_measureSpans_20 : decode cX3_measureSpans 20 = .ok (.iconst 1, 1) := by decide +kernel
theorem dX3_measureSpans_21 : decode cX3_measureSpans 21 = .ok (.iload_n 1, 1) := by decide +kernel
theorem dX3_measureSpans_22 : decode cX3_measureSpans 22 = .ok (.ishl, 1) := by decide +kernel
theorem dX3_measureSpans_23 : decode cX3_measureSpans 23 = .ok (.istore_n 2, 1) := by decide +kernel
theorem dX3_measureSpans_24 : decode cX3_measureSpans 24 = .ok (.aload_n 0, 1) := by decide +kernel
theorem dX3_measureSpans_25 : decode cX3_measureSpans 25 = .ok (.getfield 19, 3) := by decide +kernel
theorem dX3_measureSpans_28 : decode cX3_measureSpans 28 = .ok (.getfield 72, 3) := by decide +kernel
theorem dX3_measureSpans_31 : decode cX3_measureSpans 31 = .ok (.iload_n 1, 1) := by decide +kernel
theorem dX3_measureSpans_32 : decode cX3_measureSpans 32 = .ok (.iaload, 1) := by decide +kernel
theorem dX3_measureSpans_33 : decode cX3_measureSpans 33 = .ok (.aload_n 0, 1) := by decide +kernel
theorem dX3_measureSpans_34 : decode cX3_measureSpans 34 = .ok (.getfield 12, 3) := by decide +kernel
theorem dX3_measureSpans_37 : decode cX3_measureSpans 37 = .ok (.getfield 54, 3) := by decide +kernel
theorem dX3_measureSpans_40 : decode cX3_measureSpans 40 = .ok (.iconst 3, 1) := by decide +kernel
theorem dX3_measureSpans_41 : decode cX3_measureSpans 41 = .ok (.iaload, 1) := by decide +kernel
theorem dX3_measureSpans_42 : decode cX3_measureSpans 42 = .ok (.iadd, 1) := by decide +kernel
theorem dX3_measureSpans_43 : decode cX3_measureSpans 43 = .ok (.istore_n 3, 1) := by decide +kernel
theorem dX3_measureSpans_44 : decode cX3_measureSpans 44 = .ok (.iconst 0, 1) := by decide +kernel
theorem dX3_measureSpans_45 : decode cX3_measureSpans 45 = .ok (.istore 4, 2) := by decide +kernel
theorem dX3_measureSpans_47 : decode cX3_measureSpans 47 = .ok (.iload 4, 2) := by decide +kernel
theorem dX3_measureSpans_49 : decode cX3_measureSpans 49 = .ok (.iload_n 2, 1) := by decide +kernel
theorem dX3_measureSpans_50 : decode cX3_measureSpans 50 = .ok (.if_icmp .ge 27, 3) := by decide +kernel
theorem dX3_measureSpans_53 : decode cX3_measureSpans 53 = .ok (.aload_n 0, 1) := by decide +kernel
theorem dX3_measureSpans_54 : decode cX3_measureSpans 54 = .ok (.getfield 37, 3) := by decide +kernel
theorem dX3_measureSpans_57 : decode cX3_measureSpans 57 = .ok (.iload_n 2, 1) := by decide +kernel
theorem dX3_measureSpans_58 : decode cX3_measureSpans 58 = .ok (.iload 4, 2) := by decide +kernel
theorem dX3_measureSpans_60 : decode cX3_measureSpans 60 = .ok (.ior, 1) := by decide +kernel
theorem dX3_measureSpans_61 : decode cX3_measureSpans 61 = .ok (.aload_n 0, 1) := by decide +kernel
theorem dX3_measureSpans_62 : decode cX3_measureSpans 62 = .ok (.getfield 37, 3) := by decide +kernel
theorem dX3_measureSpans_65 : decode cX3_measureSpans 65 = .ok (.iload 4, 2) := by decide +kernel
theorem dX3_measureSpans_67 : decode cX3_measureSpans 67 = .ok (.iaload, 1) := by decide +kernel
theorem dX3_measureSpans_68 : decode cX3_measureSpans 68 = .ok (.iload_n 3, 1) := by decide +kernel
theorem dX3_measureSpans_69 : decode cX3_measureSpans 69 = .ok (.iadd, 1) := by decide +kernel
theorem dX3_measureSpans_70 : decode cX3_measureSpans 70 = .ok (.iastore, 1) := by decide +kernel
theorem dX3_measureSpans_71 : decode cX3_measureSpans 71 = .ok (.iinc 4 1, 3) := by decide +kernel
theorem dX3_measureSpans_74 : decode cX3_measureSpans 74 = .ok (.goto (-27), 3) := by decide +kernel
theorem dX3_measureSpans_77 : decode cX3_measureSpans 77 = .ok (.iinc 1 1, 3) := by decide +kernel
theorem dX3_measureSpans_80 : decode cX3_measureSpans 80 = .ok (.goto (-71), 3) := by decide +kernel
theorem dX3_measureSpans_83 : decode cX3_measureSpans 83 = .ok (.return_, 1) := by decide +kernel
theorem dX3_weighSets_0 : decode cX3_weighSets 0 = .ok (.aload_n 0, 1) := by decide +kernel
theorem dX3_weighSets_1 : decode cX3_weighSets 1 = .ok (.getfield 26, 3) := by decide +kernel
theorem dX3_weighSets_4 : decode cX3_weighSets 4 = .ok (.getfield 94, 3) := by decide +kernel
theorem dX3_weighSets_7 : decode cX3_weighSets 7 = .ok (.iload_n 1, 1) := by decide +kernel
theorem dX3_weighSets_8 : decode cX3_weighSets 8 = .ok (.iaload, 1) := by decide +kernel
theorem dX3_weighSets_9 : decode cX3_weighSets 9 = .ok (.aload_n 0, 1) := by decide +kernel
theorem dX3_weighSets_10 : decode cX3_weighSets 10 = .ok (.getfield 12, 3) := by decide +kernel
theorem dX3_weighSets_13 : decode cX3_weighSets 13 = .ok (.getfield 54, 3) := by decide +kernel
theorem dX3_weighSets_16 : decode cX3_weighSets 16 = .ok (.iconst 3, 1) := by decide +kernel
theorem dX3_weighSets_17 : decode cX3_weighSets 17 = .ok (.iaload, 1) := by decide +kernel
theorem dX3_weighSets_18 : decode cX3_weighSets 18 = .ok (.iadd, 1) := by decide +kernel
theorem dX3_weighSets_19 : decode cX3_weighSets 19 = .ok (.istore_n 3, 1) := by decide +kernel
theorem dX3_weighSets_20 : decode cX3_weighSets 20 = .ok (.aload_n 0, 1) := by decide +kernel
theorem dX3_weighSets_21 : decode cX3_weighSets 21 = .ok (.getfield 34, 3) := by decide +kernel
theorem dX3_weighSets_24 : decode cX3_weighSets 24 = .ok (.iconst 0, 1) := by decide +kernel
theorem dX3_weighSets_25 : decode cX3_weighSets 25 = .ok (.lconst 0, 1) := by decide +kernel
theorem dX3_weighSets_26 : decode cX3_weighSets 26 = .ok (.lastore, 1) := by decide +kernel
theorem dX3_weighSets_27 : decode cX3_weighSets 27 = .ok (.iconst 0, 1) := by decide +kernel
theorem dX3_weighSets_28 : decode cX3_weighSets 28 = .ok (.istore 4, 2) := by decide +kernel
theorem dX3_weighSets_30 : decode cX3_weighSets 30 = .ok (.iload 4, 2) := by decide +kernel
theorem dX3_weighSets_32 : decode cX3_weighSets 32 = .ok (.aload_n 0, 1) := by decide +kernel
theorem dX3_weighSets_33 : decode cX3_weighSets 33 = .ok (.getfield 19, 3) := by decide +kernel
theorem dX3_weighSets_36 : decode cX3_weighSets 36 = .ok (.getfield 68, 3) := by decide +kernel
theorem dX3_weighSets_39 : decode cX3_weighSets 39 = .ok (.if_icmp .ge 145, 3) := by decide +kernel
theorem dX3_weighSets_42 : decode cX3_weighSets 42 = .ok (.iconst 1, 1) := by decide +kernel
theorem dX3_weighSets_43 : decode cX3_weighSets 43 = .ok (.iload 4, 2) := by decide +kernel
theorem dX3_weighSets_45 : decode cX3_weighSets 45 = .ok (.ishl, 1) := by decide +kernel
theorem dX3_weighSets_46 : decode cX3_weighSets 46 = .ok (.istore 5, 2) := by decide +kernel
theorem dX3_weighSets_48 : decode cX3_weighSets 48 = .ok (.aload_n 0, 1) := by decide +kernel
theorem dX3_weighSets_49 : decode cX3_weighSets 49 = .ok (.iload 4, 2) := by decide +kernel
theorem dX3_weighSets_51 : decode cX3_weighSets 51 = .ok (.iload_n 1, 1) := by decide +kernel
theorem dX3_weighSets_52 : decode cX3_weighSets 52 = .ok (.invokevirtual 138, 3) := by decide +kernel
theorem dX3_weighSets_55 : decode cX3_weighSets 55 = .ok (.ifCond .ne 7, 3) := by decide +kernel
theorem dX3_weighSets_58 : decode cX3_weighSets 58 = .ok (.iconst 1, 1) := by decide +kernel
theorem dX3_weighSets_59 : decode cX3_weighSets 59 = .ok (.goto 4, 3) := by decide +kernel
theorem dX3_weighSets_62 : decode cX3_weighSets 62 = .ok (.iconst 0, 1) := by decide +kernel
theorem dX3_weighSets_63 : decode cX3_weighSets 63 = .ok (.istore 6, 2) := by decide +kernel
theorem dX3_weighSets_65 : decode cX3_weighSets 65 = .ok (.aload_n 0, 1) := by decide +kernel
theorem dX3_weighSets_66 : decode cX3_weighSets 66 = .ok (.iload 4, 2) := by decide +kernel
theorem dX3_weighSets_68 : decode cX3_weighSets 68 = .ok (.iload_n 1, 1) := by decide +kernel
theorem dX3_weighSets_69 : decode cX3_weighSets 69 = .ok (.iload_n 2, 1) := by decide +kernel
theorem dX3_weighSets_70 : decode cX3_weighSets 70 = .ok (.invokevirtual 244, 3) := by decide +kernel
theorem dX3_weighSets_73 : decode cX3_weighSets 73 = .ok (.lstore 7, 2) := by decide +kernel
theorem dX3_weighSets_75 : decode cX3_weighSets 75 = .ok (.iconst 0, 1) := by decide +kernel
theorem dX3_weighSets_76 : decode cX3_weighSets 76 = .ok (.istore 9, 2) := by decide +kernel
theorem dX3_weighSets_78 : decode cX3_weighSets 78 = .ok (.iload 9, 2) := by decide +kernel
theorem dX3_weighSets_80 : decode cX3_weighSets 80 = .ok (.iload 5, 2) := by decide +kernel
theorem dX3_weighSets_82 : decode cX3_weighSets 82 = .ok (.if_icmp .ge 96, 3) := by decide +kernel
theorem dX3_weighSets_85 : decode cX3_weighSets 85 = .ok (.iload 6, 2) := by decide +kernel
theorem dX3_weighSets_87 : decode cX3_weighSets 87 = .ok (.ifCond .eq 51, 3) := by decide +kernel
theorem dX3_weighSets_90 : decode cX3_weighSets 90 = .ok (.aload_n 0, 1) := by decide +kernel
theorem dX3_weighSets_91 : decode cX3_weighSets 91 = .ok (.getfield 34, 3) := by decide +kernel
theorem dX3_weighSets_94 : decode cX3_weighSets 94 = .ok (.iload 9, 2) := by decide +kernel
theorem dX3_weighSets_96 : decode cX3_weighSets 96 = .ok (.laload, 1) := by decide +kernel
theorem dX3_weighSets_97 : decode cX3_weighSets 97 = .ok (.ldc2_w 176, 3) := by decide +kernel
theorem dX3_weighSets_100 : decode cX3_weighSets 100 = .ok (.lcmp, 1) := by decide +kernel
theorem dX3_weighSets_101 : decode cX3_weighSets 101 = .ok (.ifCond .eq 37, 3) := by decide +kernel
theorem dX3_weighSets_104 : decode cX3_weighSets 104 = .ok (.aload_n 0, 1) := by decide +kernel
theorem dX3_weighSets_105 : decode cX3_weighSets 105 = .ok (.getfield 19, 3) := by decide +kernel
theorem dX3_weighSets_108 : decode cX3_weighSets 108 = .ok (.getfield 111, 3) := by decide +kernel
theorem dX3_weighSets_111 : decode cX3_weighSets 111 = .ok (.iload 4, 2) := by decide +kernel
theorem dX3_weighSets_113 : decode cX3_weighSets 113 = .ok (.iaload, 1) := by decide +kernel
theorem dX3_weighSets_114 : decode cX3_weighSets 114 = .ok (.iload 9, 2) := by decide +kernel
theorem dX3_weighSets_116 : decode cX3_weighSets 116 = .ok (.iand, 1) := by decide +kernel
theorem dX3_weighSets_117 : decode cX3_weighSets 117 = .ok (.ifCond .ne 21, 3) := by decide +kernel
theorem dX3_weighSets_120 : decode cX3_weighSets 120 = .ok (.aload_n 0, 1) := by decide +kernel
theorem dX3_weighSets_121 : decode cX3_weighSets 121 = .ok (.getfield 37, 3) := by decide +kernel
theorem dX3_weighSets_124 : decode cX3_weighSets 124 = .ok (.iload 5, 2) := by decide +kernel
theorem dX3_weighSets_126 : decode cX3_weighSets 126 = .ok (.iload 9, 2) := by decide +kernel
theorem dX3_weighSets_128 : decode cX3_weighSets 128 = .ok (.ior, 1) := by decide +kernel
theorem dX3_weighSets_129 : decode cX3_weighSets 129 = .ok (.iaload, 1) := by decide +kernel
theorem dX3_weighSets_130 : decode cX3_weighSets 130 = .ok (.iload_n 3, 1) := by decide +kernel
theorem dX3_weighSets_131 : decode cX3_weighSets 131 = .ok (.if_icmp .gt 7, 3) := by decide +kernel
theorem dX3_weighSets_134 : decode cX3_weighSets 134 = .ok (.iconst 1, 1) := by decide +kernel
theorem dX3_weighSets_135 : decode cX3_weighSets 135 = .ok (.goto 4, 3) := by decide +kernel
theorem dX3_weighSets_138 : decode cX3_weighSets 138 = .ok (.iconst 0, 1) := by decide +kernel
theorem dX3_weighSets_139 : decode cX3_weighSets 139 = .ok (.istore 10, 2) := by decide +kernel
theorem dX3_weighSets_141 : decode cX3_weighSets 141 = .ok (.aload_n 0, 1) := by decide +kernel
theorem dX3_weighSets_142 : decode cX3_weighSets 142 = .ok (.getfield 34, 3) := by decide +kernel
theorem dX3_weighSets_145 : decode cX3_weighSets 145 = .ok (.iload 5, 2) := by decide +kernel
theorem dX3_weighSets_147 : decode cX3_weighSets 147 = .ok (.iload 9, 2) := by decide +kernel
theorem dX3_weighSets_149 : decode cX3_weighSets 149 = .ok (.ior, 1) := by decide +kernel
theorem dX3_weighSets_150 : decode cX3_weighSets 150 = .ok (.iload 10, 2) := by decide +kernel
theorem dX3_weighSets_152 : decode cX3_weighSets 152 = .ok (.ifCond .eq 16, 3) := by decide +kernel
theorem dX3_weighSets_155 : decode cX3_weighSets 155 = .ok (.aload_n 0, 1) := by decide +kernel
theorem dX3_weighSets_156 : decode cX3_weighSets 156 = .ok (.getfield 34, 3) := by decide +kernel
theorem dX3_weighSets_159 : decode cX3_weighSets 159 = .ok (.iload 9, 2) := by decide +kernel
theorem dX3_weighSets_161 : decode cX3_weighSets 161 = .ok (.laload, 1) := by decide +kernel
theorem dX3_weighSets_162 : decode cX3_weighSets 162 = .ok (.lload 7, 2) := by decide +kernel
theorem dX3_weighSets_164 : decode cX3_weighSets 164 = .ok (.ladd, 1) := by decide +kernel
theorem dX3_weighSets_165 : decode cX3_weighSets 165 = .ok (.goto 6, 3) := by decide +kernel
theorem dX3_weighSets_168 : decode cX3_weighSets 168 = .ok (.ldc2_w 176, 3) := by decide +kernel
theorem dX3_weighSets_171 : decode cX3_weighSets 171 = .ok (.lastore, 1) := by decide +kernel
theorem dX3_weighSets_172 : decode cX3_weighSets 172 = .ok (.iinc 9 1, 3) := by decide +kernel
theorem dX3_weighSets_175 : decode cX3_weighSets 175 = .ok (.goto (-97), 3) := by decide +kernel
theorem dX3_weighSets_178 : decode cX3_weighSets 178 = .ok (.iinc 4 1, 3) := by decide +kernel
theorem dX3_weighSets_181 : decode cX3_weighSets 181 = .ok (.goto (-151), 3) := by decide +kernel
theorem dX3_weighSets_184 : decode cX3_weighSets 184 = .ok (.return_, 1) := by decide +kernel
theorem dX3_offerQuay_0 : decode cX3_offerQuay 0 = .ok (.aload_n 0, 1) := by decide +kernel
theorem dX3_offerQuay_1 : decode cX3_offerQuay 1 = .ok (.getfield 19, 3) := by decide +kernel
theorem dX3_offerQuay_4 : decode cX3_offerQuay 4 = .ok (.invokevirtual 241, 3) := by decide +kernel
theorem dX3_offerQuay_7 : decode cX3_offerQuay 7 = .ok (.istore_n 1, 1) := by decide +kernel
theorem dX3_offerQuay_8 : decode cX3_offerQuay 8 = .ok (.iload_n 1, 1) := by decide +kernel
theorem dX3_offerQuay_9 : decode cX3_offerQuay 9 = .ok (.ifCond .le 78, 3) := by decide +kernel
theorem dX3_offerQuay_12 : decode cX3_offerQuay 12 = .ok (.aload_n 0, 1) := by decide +kernel
theorem dX3_offerQuay_13 : decode cX3_offerQuay 13 = .ok (.getfield 30, 3) := by decide +kernel
theorem dX3_offerQuay_16 : decode cX3_offerQuay 16 = .ok (.iload_n 1, 1) := by decide +kernel
theorem dX3_offerQuay_17 : decode cX3_offerQuay 17 = .ok (.laload, 1) := by decide +kernel
theorem dX3_offerQuay_18 : decode cX3_offerQuay 18 = .ok (.lstore_n 2, 1) := by decide +kernel
theorem dX3_offerQuay_19 : decode cX3_offerQuay 19 = .ok (.iload_n 1, 1) := by decide +kernel
theorem dX3_offerQuay_20 : decode cX3_offerQuay 20 = .ok (.istore 4, 2) := by decide +kernel
theorem dX3_offerQuay_22 : decode cX3_offerQuay 22 = .ok (.iload 4, 2) := by decide +kernel
theorem dX3_offerQuay_24 : decode cX3_offerQuay 24 = .ok (.ifCond .le 50, 3) := by decide +kernel
theorem dX3_offerQuay_27 : decode cX3_offerQuay 27 = .ok (.aload_n 0, 1) := by decide +kernel
theorem dX3_offerQuay_28 : decode cX3_offerQuay 28 = .ok (.getfield 34, 3) := by decide +kernel
theorem dX3_offerQuay_31 : decode cX3_offerQuay 31 = .ok (.iload 4, 2) := by decide +kernel
theorem dX3_offerQuay_33 : decode cX3_offerQuay 33 = .ok (.laload, 1) := by decide +kernel
theorem dX3_offerQuay_34 : decode cX3_offerQuay 34 = .ok (.ldc2_w 176, 3) := by decide +kernel
theorem dX3_offerQuay_37 : decode cX3_offerQuay 37 = .ok (.lcmp, 1) := by decide +kernel
theorem dX3_offerQuay_38 : decode cX3_offerQuay 38 = .ok (.ifCond .eq 25, 3) := by decide +kernel
theorem dX3_offerQuay_41 : decode cX3_offerQuay 41 = .ok (.lload_n 2, 1) := by decide +kernel
theorem dX3_offerQuay_42 : decode cX3_offerQuay 42 = .ok (.aload_n 0, 1) := by decide +kernel
theorem dX3_offerQuay_43 : decode cX3_offerQuay 43 = .ok (.getfield 34, 3) := by decide +kernel
theorem dX3_offerQuay_46 : decode cX3_offerQuay 46 = .ok (.iload 4, 2) := by decide +kernel
theorem dX3_offerQuay_48 : decode cX3_offerQuay 48 = .ok (.laload, 1) := by decide +kernel
theorem dX3_offerQuay_49 : decode cX3_offerQuay 49 = .ok (.aload_n 0, 1) := by decide +kernel
theorem dX3_offerQuay_50 : decode cX3_offerQuay 50 = .ok (.getfield 30, 3) := by decide +kernel
theorem dX3_offerQuay_53 : decode cX3_offerQuay 53 = .ok (.iload_n 1, 1) := by decide +kernel
theorem dX3_offerQuay_54 : decode cX3_offerQuay 54 = .ok (.iload 4, 2) := by decide +kernel
theorem dX3_offerQuay_56 : decode cX3_offerQuay 56 = .ok (.ixor, 1) := by decide +kernel
theorem dX3_offerQuay_57 : decode cX3_offerQuay 57 = .ok (.laload, 1) := by decide +kernel
theorem dX3_offerQuay_58 : decode cX3_offerQuay 58 = .ok (.ladd, 1) := by decide +kernel
theorem dX3_offerQuay_59 : decode cX3_offerQuay 59 = .ok (.invokestatic 248, 3) := by decide +kernel
theorem dX3_offerQuay_62 : decode cX3_offerQuay 62 = .ok (.lstore_n 2, 1) := by decide +kernel
theorem dX3_offerQuay_63 : decode cX3_offerQuay 63 = .ok (.iload 4, 2) := by decide +kernel
theorem dX3_offerQuay_65 : decode cX3_offerQuay 65 = .ok (.iconst 1, 1) := by decide +kernel
theorem dX3_offerQuay_66 : decode cX3_offerQuay 66 = .ok (.isub, 1) := by decide +kernel
theorem dX3_offerQuay_67 : decode cX3_offerQuay 67 = .ok (.iload_n 1, 1) := by decide +kernel
theorem dX3_offerQuay_68 : decode cX3_offerQuay 68 = .ok (.iand, 1) := by decide +kernel
theorem dX3_offerQuay_69 : decode cX3_offerQuay 69 = .ok (.istore 4, 2) := by decide +kernel
theorem dX3_offerQuay_71 : decode cX3_offerQuay 71 = .ok (.goto (-49), 3) := by decide +kernel
theorem dX3_offerQuay_74 : decode cX3_offerQuay 74 = .ok (.aload_n 0, 1) := by decide +kernel
theorem dX3_offerQuay_75 : decode cX3_offerQuay 75 = .ok (.getfield 30, 3) := by decide +kernel
theorem dX3_offerQuay_78 : decode cX3_offerQuay 78 = .ok (.iload_n 1, 1) := by decide +kernel
theorem dX3_offerQuay_79 : decode cX3_offerQuay 79 = .ok (.lload_n 2, 1) := by decide +kernel
theorem dX3_offerQuay_80 : decode cX3_offerQuay 80 = .ok (.lastore, 1) := by decide +kernel
theorem dX3_offerQuay_81 : decode cX3_offerQuay 81 = .ok (.iinc 1 (-1), 3) := by decide +kernel
theorem dX3_offerQuay_84 : decode cX3_offerQuay 84 = .ok (.goto (-76), 3) := by decide +kernel
theorem dX3_offerQuay_87 : decode cX3_offerQuay 87 = .ok (.return_, 1) := by decide +kernel
theorem dX3_berthCost_0 : decode cX3_berthCost 0 = .ok (.iload_n 2, 1) := by decide +kernel
theorem dX3_berthCost_1 : decode cX3_berthCost 1 = .ok (.iconst (-1), 1) := by decide +kernel
theorem dX3_berthCost_2 : decode cX3_berthCost 2 = .ok (.if_icmp .ne 9, 3) := by decide +kernel
theorem dX3_berthCost_5 : decode cX3_berthCost 5 = .ok (.ldc2_w 252, 3) := by decide +kernel
theorem dX3_berthCost_8 : decode cX3_berthCost 8 = .ok (.goto 5, 3) := by decide +kernel
theorem dX3_berthCost_11 : decode cX3_berthCost 11 = .ok (.iload_n 2, 1) := by decide +kernel
theorem dX3_berthCost_12 : decode cX3_berthCost 12 = .ok (.i2l, 1) := by decide +kernel
theorem dX3_berthCost_13 : decode cX3_berthCost 13 = .ok (.lstore 4, 2) := by decide +kernel
theorem dX3_berthCost_15 : decode cX3_berthCost 15 = .ok (.sipush 1000, 3) := by decide +kernel
theorem dX3_berthCost_18 : decode cX3_berthCost 18 = .ok (.aload_n 0, 1) := by decide +kernel
theorem dX3_berthCost_19 : decode cX3_berthCost 19 = .ok (.iload_n 1, 1) := by decide +kernel
theorem dX3_berthCost_20 : decode cX3_berthCost 20 = .ok (.iload_n 2, 1) := by decide +kernel
theorem dX3_berthCost_21 : decode cX3_berthCost 21 = .ok (.invokevirtual 221, 3) := by decide +kernel
theorem dX3_berthCost_24 : decode cX3_berthCost 24 = .ok (.isub, 1) := by decide +kernel
theorem dX3_berthCost_25 : decode cX3_berthCost 25 = .ok (.i2l, 1) := by decide +kernel
theorem dX3_berthCost_26 : decode cX3_berthCost 26 = .ok (.lstore 6, 2) := by decide +kernel
theorem dX3_berthCost_28 : decode cX3_berthCost 28 = .ok (.iload_n 3, 1) := by decide +kernel
theorem dX3_berthCost_29 : decode cX3_berthCost 29 = .ok (.ifCond .eq 20, 3) := by decide +kernel
theorem dX3_berthCost_32 : decode cX3_berthCost 32 = .ok (.iload_n 2, 1) := by decide +kernel
theorem dX3_berthCost_33 : decode cX3_berthCost 33 = .ok (.aload_n 0, 1) := by decide +kernel
theorem dX3_berthCost_34 : decode cX3_berthCost 34 = .ok (.getfield 19, 3) := by decide +kernel
theorem dX3_berthCost_37 : decode cX3_berthCost 37 = .ok (.getfield 142, 3) := by decide +kernel
theorem dX3_berthCost_40 : decode cX3_berthCost 40 = .ok (.iload_n 1, 1) := by decide +kernel
theorem dX3_berthCost_41 : decode cX3_berthCost 41 = .ok (.iaload, 1) := by decide +kernel
theorem dX3_berthCost_42 : decode cX3_berthCost 42 = .ok (.if_icmp .eq 7, 3) := by decide +kernel
theorem dX3_berthCost_45 : decode cX3_berthCost 45 = .ok (.lconst 1, 1) := by decide +kernel
theorem dX3_berthCost_46 : decode cX3_berthCost 46 = .ok (.goto 4, 3) := by decide +kernel
theorem dX3_berthCost_49 : decode cX3_berthCost 49 = .ok (.lconst 0, 1) := by decide +kernel
theorem dX3_berthCost_50 : decode cX3_berthCost 50 = .ok (.lstore 8, 2) := by decide +kernel
theorem dX3_berthCost_52 : decode cX3_berthCost 52 = .ok (.iload_n 2, 1) := by decide +kernel
theorem dX3_berthCost_53 : decode cX3_berthCost 53 = .ok (.iconst (-1), 1) := by decide +kernel
theorem dX3_berthCost_54 : decode cX3_berthCost 54 = .ok (.if_icmp .ne 7, 3) := by decide +kernel
theorem dX3_berthCost_57 : decode cX3_berthCost 57 = .ok (.lconst 1, 1) := by decide +kernel
theorem dX3_berthCost_58 : decode cX3_berthCost 58 = .ok (.goto 4, 3) := by decide +kernel
theorem dX3_berthCost_61 : decode cX3_berthCost 61 = .ok (.lconst 0, 1) := by decide +kernel
theorem dX3_berthCost_62 : decode cX3_berthCost 62 = .ok (.lstore 10, 2) := by decide +kernel
theorem dX3_berthCost_64 : decode cX3_berthCost 64 = .ok (.lload 4, 2) := by decide +kernel
theorem dX3_berthCost_66 : decode cX3_berthCost 66 = .ok (.iload_n 1, 1) := by decide +kernel
theorem dX3_berthCost_67 : decode cX3_berthCost 67 = .ok (.iconst 3, 1) := by decide +kernel
theorem dX3_berthCost_68 : decode cX3_berthCost 68 = .ok (.invokestatic 254, 3) := by decide +kernel
theorem dX3_berthCost_71 : decode cX3_berthCost 71 = .ok (.lshl, 1) := by decide +kernel
theorem dX3_berthCost_72 : decode cX3_berthCost 72 = .ok (.lload 6, 2) := by decide +kernel
theorem dX3_berthCost_74 : decode cX3_berthCost 74 = .ok (.bipush 21, 2) := by decide +kernel
theorem dX3_berthCost_76 : decode cX3_berthCost 76 = .ok (.lshl, 1) := by decide +kernel
theorem dX3_berthCost_77 : decode cX3_berthCost 77 = .ok (.ladd, 1) := by decide +kernel
theorem dX3_berthCost_78 : decode cX3_berthCost 78 = .ok (.lload 8, 2) := by decide +kernel
theorem dX3_berthCost_80 : decode cX3_berthCost 80 = .ok (.bipush 34, 2) := by decide +kernel
theorem dX3_berthCost_82 : decode cX3_berthCost 82 = .ok (.lshl, 1) := by decide +kernel
theorem dX3_berthCost_83 : decode cX3_berthCost 83 = .ok (.ladd, 1) := by decide +kernel
theorem dX3_berthCost_84 : decode cX3_berthCost 84 = .ok (.lload 10, 2) := by decide +kernel
theorem dX3_berthCost_86 : decode cX3_berthCost 86 = .ok (.bipush 37, 2) := by decide +kernel
theorem dX3_berthCost_88 : decode cX3_berthCost 88 = .ok (.lshl, 1) := by decide +kernel
theorem dX3_berthCost_89 : decode cX3_berthCost 89 = .ok (.ladd, 1) := by decide +kernel
theorem dX3_berthCost_90 : decode cX3_berthCost 90 = .ok (.lreturn, 1) := by decide +kernel
theorem dX3_berthAll_0 : decode cX3_berthAll 0 = .ok (.iconst 0, 1) := by decide +kernel
theorem dX3_berthAll_1 : decode cX3_berthAll 1 = .ok (.istore_n 3, 1) := by decide +kernel
theorem dX3_berthAll_2 : decode cX3_berthAll 2 = .ok (.iconst 0, 1) := by decide +kernel
theorem dX3_berthAll_3 : decode cX3_berthAll 3 = .ok (.istore 4, 2) := by decide +kernel
theorem dX3_berthAll_5 : decode cX3_berthAll 5 = .ok (.iload 4, 2) := by decide +kernel
theorem dX3_berthAll_7 : decode cX3_berthAll 7 = .ok (.aload_n 0, 1) := by decide +kernel
theorem dX3_berthAll_8 : decode cX3_berthAll 8 = .ok (.getfield 19, 3) := by decide +kernel
theorem dX3_berthAll_11 : decode cX3_berthAll 11 = .ok (.getfield 68, 3) := by decide +kernel
theorem dX3_berthAll_14 : decode cX3_berthAll 14 = .ok (.if_icmp .ge 68, 3) := by decide +kernel
theorem dX3_berthAll_17 : decode cX3_berthAll 17 = .ok (.lload_n 1, 1) := by decide +kernel
theorem dX3_berthAll_18 : decode cX3_berthAll 18 = .ok (.iload 4, 2) := by decide +kernel
theorem dX3_berthAll_20 : decode cX3_berthAll 20 = .ok (.iconst 3, 1) := by decide +kernel
theorem dX3_berthAll_21 : decode cX3_berthAll 21 = .ok (.invokestatic 257, 3) := by decide +kernel
theorem dX3_berthAll_24 : decode cX3_berthAll 24 = .ok (.istore 5, 2) := by decide +kernel
theorem dX3_berthAll_26 : decode cX3_berthAll 26 = .ok (.aload_n 0, 1) := by decide +kernel
theorem dX3_berthAll_27 : decode cX3_berthAll 27 = .ok (.getfield 26, 3) := by decide +kernel
theorem dX3_berthAll_30 : decode cX3_berthAll 30 = .ok (.iload 5, 2) := by decide +kernel
theorem dX3_berthAll_32 : decode cX3_berthAll 32 = .ok (.invokevirtual 137, 3) := by decide +kernel
theorem dX3_berthAll_35 : decode cX3_berthAll 35 = .ok (.ifCond .eq 8, 3) := by decide +kernel
theorem dX3_berthAll_38 : decode cX3_berthAll 38 = .ok (.iload 5, 2) := by decide +kernel
theorem dX3_berthAll_40 : decode cX3_berthAll 40 = .ok (.goto 4, 3) := by decide +kernel
theorem dX3_berthAll_43 : decode cX3_berthAll 43 = .ok (.iconst (-1), 1) := by decide +kernel
theorem dX3_berthAll_44 : decode cX3_berthAll 44 = .ok (.istore 6, 2) := by decide +kernel
theorem dX3_berthAll_46 : decode cX3_berthAll 46 = .ok (.iload 6, 2) := by decide +kernel
theorem dX3_berthAll_48 : decode cX3_berthAll 48 = .ok (.aload_n 0, 1) := by decide +kernel
theorem dX3_berthAll_49 : decode cX3_berthAll 49 = .ok (.getfield 19, 3) := by decide +kernel
theorem dX3_berthAll_52 : decode cX3_berthAll 52 = .ok (.getfield 142, 3) := by decide +kernel
theorem dX3_berthAll_55 : decode cX3_berthAll 55 = .ok (.iload 4, 2) := by decide +kernel
theorem dX3_berthAll_57 : decode cX3_berthAll 57 = .ok (.iaload, 1) := by decide +kernel
theorem dX3_berthAll_58 : decode cX3_berthAll 58 = .ok (.if_icmp .eq 6, 3) := by decide +kernel
theorem dX3_berthAll_61 : decode cX3_berthAll 61 = .ok (.iinc 3 1, 3) := by decide +kernel
theorem dX3_berthAll_64 : decode cX3_berthAll 64 = .ok (.aload_n 0, 1) := by decide +kernel
theorem dX3_berthAll_65 : decode cX3_berthAll 65 = .ok (.getfield 19, 3) := by decide +kernel
theorem dX3_berthAll_68 : decode cX3_berthAll 68 = .ok (.getfield 142, 3) := by decide +kernel
theorem dX3_berthAll_71 : decode cX3_berthAll 71 = .ok (.iload 4, 2) := by decide +kernel
theorem dX3_berthAll_73 : decode cX3_berthAll 73 = .ok (.iload 6, 2) := by decide +kernel
theorem dX3_berthAll_75 : decode cX3_berthAll 75 = .ok (.iastore, 1) := by decide +kernel
theorem dX3_berthAll_76 : decode cX3_berthAll 76 = .ok (.iinc 4 1, 3) := by decide +kernel
theorem dX3_berthAll_79 : decode cX3_berthAll 79 = .ok (.goto (-74), 3) := by decide +kernel
theorem dX3_berthAll_82 : decode cX3_berthAll 82 = .ok (.iload_n 3, 1) := by decide +kernel
theorem dX3_berthAll_83 : decode cX3_berthAll 83 = .ok (.ireturn, 1) := by decide +kernel
theorem dX3_lowShift_0 : decode cX3_lowShift 0 = .ok (.iload_n 1, 1) := by decide +kernel
theorem dX3_lowShift_1 : decode cX3_lowShift 1 = .ok (.bipush 6, 2) := by decide +kernel
theorem dX3_lowShift_3 : decode cX3_lowShift 3 = .ok (.iload_n 0, 1) := by decide +kernel
theorem dX3_lowShift_4 : decode cX3_lowShift 4 = .ok (.isub, 1) := by decide +kernel
theorem dX3_lowShift_5 : decode cX3_lowShift 5 = .ok (.imul, 1) := by decide +kernel
theorem dX3_lowShift_6 : decode cX3_lowShift 6 = .ok (.ireturn, 1) := by decide +kernel
theorem dX3_lowChoice_0 : decode cX3_lowChoice 0 = .ok (.lload_n 0, 1) := by decide +kernel
theorem dX3_lowChoice_1 : decode cX3_lowChoice 1 = .ok (.iload_n 2, 1) := by decide +kernel
theorem dX3_lowChoice_2 : decode cX3_lowChoice 2 = .ok (.iload_n 3, 1) := by decide +kernel
theorem dX3_lowChoice_3 : decode cX3_lowChoice 3 = .ok (.invokestatic 254, 3) := by decide +kernel
theorem dX3_lowChoice_6 : decode cX3_lowChoice 6 = .ok (.lshr, 1) := by decide +kernel
theorem dX3_lowChoice_7 : decode cX3_lowChoice 7 = .ok (.lconst 1, 1) := by decide +kernel
theorem dX3_lowChoice_8 : decode cX3_lowChoice 8 = .ok (.iload_n 3, 1) := by decide +kernel
theorem dX3_lowChoice_9 : decode cX3_lowChoice 9 = .ok (.lshl, 1) := by decide +kernel
theorem dX3_lowChoice_10 : decode cX3_lowChoice 10 = .ok (.lconst 1, 1) := by decide +kernel
theorem dX3_lowChoice_11 : decode cX3_lowChoice 11 = .ok (.lsub, 1) := by decide +kernel
theorem dX3_lowChoice_12 : decode cX3_lowChoice 12 = .ok (.land, 1) := by decide +kernel
theorem dX3_lowChoice_13 : decode cX3_lowChoice 13 = .ok (.lstore 4, 2) := by decide +kernel
theorem dX3_lowChoice_15 : decode cX3_lowChoice 15 = .ok (.lload 4, 2) := by decide +kernel
theorem dX3_lowChoice_17 : decode cX3_lowChoice 17 = .ok (.l2i, 1) := by decide +kernel
theorem dX3_lowChoice_18 : decode cX3_lowChoice 18 = .ok (.ireturn, 1) := by decide +kernel
theorem dX3_leastPlan_0 : decode cX3_leastPlan 0 = .ok (.aload_n 0, 1) := by decide +kernel
theorem dX3_leastPlan_1 : decode cX3_leastPlan 1 = .ok (.getfield 30, 3) := by decide +kernel
theorem dX3_leastPlan_4 : decode cX3_leastPlan 4 = .ok (.ldc2_w 176, 3) := by decide +kernel
theorem dX3_leastPlan_7 : decode cX3_leastPlan 7 = .ok (.invokestatic 261, 3) := by decide +kernel
theorem dX3_leastPlan_10 : decode cX3_leastPlan 10 = .ok (.aload_n 0, 1) := by decide +kernel
theorem dX3_leastPlan_11 : decode cX3_leastPlan 11 = .ok (.getfield 30, 3) := by decide +kernel
theorem dX3_leastPlan_14 : decode cX3_leastPlan 14 = .ok (.iconst 0, 1) := by decide +kernel
theorem dX3_leastPlan_15 : decode cX3_leastPlan 15 = .ok (.lconst 0, 1) := by decide +kernel
theorem dX3_leastPlan_16 : decode cX3_leastPlan 16 = .ok (.lastore, 1) := by decide +kernel
theorem dX3_leastPlan_17 : decode cX3_leastPlan 17 = .ok (.aload_n 0, 1) := by decide +kernel
theorem dX3_leastPlan_18 : decode cX3_leastPlan 18 = .ok (.getfield 41, 3) := by decide +kernel
theorem dX3_leastPlan_21 : decode cX3_leastPlan 21 = .ok (.iconst 0, 1) := by decide +kernel
theorem dX3_leastPlan_22 : decode cX3_leastPlan 22 = .ok (.invokestatic 267, 3) := by decide +kernel
theorem dX3_leastPlan_25 : decode cX3_leastPlan 25 = .ok (.iconst 0, 1) := by decide +kernel
theorem dX3_leastPlan_26 : decode cX3_leastPlan 26 = .ok (.istore_n 2, 1) := by decide +kernel
theorem dX3_leastPlan_27 : decode cX3_leastPlan 27 = .ok (.iload_n 2, 1) := by decide +kernel
theorem dX3_leastPlan_28 : decode cX3_leastPlan 28 = .ok (.bipush 120, 2) := by decide +kernel
theorem dX3_leastPlan_30 : decode cX3_leastPlan 30 = .ok (.if_icmp .ge 27, 3) := by decide +kernel
theorem dX3_leastPlan_33 : decode cX3_leastPlan 33 = .ok (.aload_n 0, 1) := by decide +kernel
theorem dX3_leastPlan_34 : decode cX3_leastPlan 34 = .ok (.iload_n 2, 1) := by decide +kernel
theorem dX3_leastPlan_35 : decode cX3_leastPlan 35 = .ok (.iload_n 1, 1) := by decide +kernel
theorem dX3_leastPlan_36 : decode cX3_leastPlan 36 = .ok (.invokevirtual 270, 3) := by decide +kernel
theorem dX3_leastPlan_39 : decode cX3_leastPlan 39 = .ok (.istore_n 3, 1) := by decide +kernel
theorem dX3_leastPlan_40 : decode cX3_leastPlan 40 = .ok (.iload_n 3, 1) := by decide +kernel
theorem dX3_leastPlan_41 : decode cX3_leastPlan 41 = .ok (.ifCond .eq 10, 3) := by decide +kernel
theorem dX3_leastPlan_44 : decode cX3_leastPlan 44 = .ok (.aload_n 0, 1) := by decide +kernel
theorem dX3_leastPlan_45 : decode cX3_leastPlan 45 = .ok (.iload_n 2, 1) := by decide +kernel
theorem dX3_leastPlan_46 : decode cX3_leastPlan 46 = .ok (.iload_n 3, 1) := by decide +kernel
theorem dX3_leastPlan_47 : decode cX3_leastPlan 47 = .ok (.iload_n 1, 1) := by decide +kernel
theorem dX3_leastPlan_48 : decode cX3_leastPlan 48 = .ok (.invokevirtual 273, 3) := by decide +kernel
theorem dX3_leastPlan_51 : decode cX3_leastPlan 51 = .ok (.iinc 2 1, 3) := by decide +kernel
theorem dX3_leastPlan_54 : decode cX3_leastPlan 54 = .ok (.goto (-27), 3) := by decide +kernel
theorem dX3_leastPlan_57 : decode cX3_leastPlan 57 = .ok (.aload_n 0, 1) := by decide +kernel
theorem dX3_leastPlan_58 : decode cX3_leastPlan 58 = .ok (.getfield 30, 3) := by decide +kernel
theorem dX3_leastPlan_61 : decode cX3_leastPlan 61 = .ok (.iload_n 1, 1) := by decide +kernel
theorem dX3_leastPlan_62 : decode cX3_leastPlan 62 = .ok (.laload, 1) := by decide +kernel
theorem dX3_leastPlan_63 : decode cX3_leastPlan 63 = .ok (.lreturn, 1) := by decide +kernel
theorem dX3_readyAt_0 : decode cX3_readyAt 0 = .ok (.iload_n 2, 1) := by decide +kernel
theorem dX3_readyAt_1 : decode cX3_readyAt 1 = .ok (.invokestatic 118, 3) := by decide +kernel
theorem dX3_readyAt_4 : decode cX3_readyAt 4 = .ok (.istore_n 3, 1) := by decide +kernel
theorem dX3_readyAt_5 : decode cX3_readyAt 5 = .ok (.iconst 0, 1) := by decide +kernel
theorem dX3_readyAt_6 : decode cX3_readyAt 6 = .ok (.istore 4, 2) := by decide +kernel
theorem dX3_readyAt_8 : decode cX3_readyAt 8 = .ok (.iconst 0, 1) := by decide +kernel
theorem dX3_readyAt_9 : decode cX3_readyAt 9 = .ok (.istore 5, 2) := by decide +kernel
theorem dX3_readyAt_11 : decode cX3_readyAt 11 = .ok (.iload 5, 2) := by decide +kernel
theorem dX3_readyAt_13 : decode cX3_readyAt 13 = .ok (.aload_n 0, 1) := by decide +kernel
theorem dX3_readyAt_14 : decode cX3_readyAt 14 = .ok (.getfield 19, 3) := by decide +kernel
theorem dX3_readyAt_17 : decode cX3_readyAt 17 = .ok (.getfield 68, 3) := by decide +kernel
theorem dX3_readyAt_20 : decode cX3_readyAt 20 = .ok (.if_icmp .ge 71, 3) := by decide +kernel
theorem dX3_readyAt_23 : decode cX3_readyAt 23 = .ok (.iload_n 2, 1) := by decide +kernel
theorem dX3_readyAt_24 : decode cX3_readyAt 24 = .ok (.iconst 1, 1) := by decide +kernel
theorem dX3_readyAt_25 : decode cX3_readyAt 25 = .ok (.iload 5, 2) := by decide +kernel
theorem dX3_readyAt_27 : decode cX3_readyAt 27 = .ok (.ishl, 1) := by decide +kernel
theorem dX3_readyAt_28 : decode cX3_readyAt 28 = .ok (.iand, 1) := by decide +kernel
theorem dX3_readyAt_29 : decode cX3_readyAt 29 = .ok (.ifCond .eq 18, 3) := by decide +kernel
theorem dX3_readyAt_32 : decode cX3_readyAt 32 = .ok (.aload_n 0, 1) := by decide +kernel
theorem dX3_readyAt_33 : decode cX3_readyAt 33 = .ok (.getfield 41, 3) := by decide +kernel
theorem dX3_readyAt_36 : decode cX3_readyAt 36 = .ok (.iload 5, 2) := by decide +kernel
theorem dX3_readyAt_38 : decode cX3_readyAt 38 = .ok (.iaload, 1) := by decide +kernel
theorem dX3_readyAt_39 : decode cX3_readyAt 39 = .ok (.iload_n 3, 1) := by decide +kernel
theorem dX3_readyAt_40 : decode cX3_readyAt 40 = .ok (.if_icmp .ge 7, 3) := by decide +kernel
theorem dX3_readyAt_43 : decode cX3_readyAt 43 = .ok (.iconst 1, 1) := by decide +kernel
theorem dX3_readyAt_44 : decode cX3_readyAt 44 = .ok (.goto 4, 3) := by decide +kernel
theorem dX3_readyAt_47 : decode cX3_readyAt 47 = .ok (.iconst 0, 1) := by decide +kernel
theorem dX3_readyAt_48 : decode cX3_readyAt 48 = .ok (.istore 6, 2) := by decide +kernel
theorem dX3_readyAt_50 : decode cX3_readyAt 50 = .ok (.iload 6, 2) := by decide +kernel
theorem dX3_readyAt_52 : decode cX3_readyAt 52 = .ok (.ifCond .eq 33, 3) := by decide +kernel
theorem dX3_readyAt_55 : decode cX3_readyAt 55 = .ok (.aload_n 0, 1) := by decide +kernel
theorem dX3_readyAt_56 : decode cX3_readyAt 56 = .ok (.iload 5, 2) := by decide +kernel
theorem dX3_readyAt_58 : decode cX3_readyAt 58 = .ok (.iload_n 1, 1) := by decide +kernel
theorem dX3_readyAt_59 : decode cX3_readyAt 59 = .ok (.invokevirtual 277, 3) := by decide +kernel
theorem dX3_readyAt_62 : decode cX3_readyAt 62 = .ok (.ifCond .eq 23, 3) := by decide +kernel
theorem dX3_readyAt_65 : decode cX3_readyAt 65 = .ok (.aload_n 0, 1) := by decide +kernel
theorem dX3_readyAt_66 : decode cX3_readyAt 66 = .ok (.getfield 41, 3) := by decide +kernel
theorem dX3_readyAt_69 : decode cX3_readyAt 69 = .ok (.iload 5, 2) := by decide +kernel
theorem dX3_readyAt_71 : decode cX3_readyAt 71 = .ok (.dup2, 1) := by decide +kernel
theorem dX3_readyAt_72 : decode cX3_readyAt 72 = .ok (.iaload, 1) := by decide +kernel
theorem dX3_readyAt_73 : decode cX3_readyAt 73 = .ok (.iconst 1, 1) := by decide +kernel
theorem dX3_readyAt_74 : decode cX3_readyAt 74 = .ok (.iadd, 1) := by decide +kernel
theorem dX3_readyAt_75 : decode cX3_readyAt 75 = .ok (.iastore, 1) := by decide +kernel
theorem dX3_readyAt_76 : decode cX3_readyAt 76 = .ok (.iload 4, 2) := by decide +kernel
theorem dX3_readyAt_78 : decode cX3_readyAt 78 = .ok (.iconst 1, 1) := by decide +kernel
theorem dX3_readyAt_79 : decode cX3_readyAt 79 = .ok (.iload 5, 2) := by decide +kernel
theorem dX3_readyAt_81 : decode cX3_readyAt 81 = .ok (.ishl, 1) := by decide +kernel
theorem dX3_readyAt_82 : decode cX3_readyAt 82 = .ok (.ior, 1) := by decide +kernel
theorem dX3_readyAt_83 : decode cX3_readyAt 83 = .ok (.istore 4, 2) := by decide +kernel
theorem dX3_readyAt_85 : decode cX3_readyAt 85 = .ok (.iinc 5 1, 3) := by decide +kernel
theorem dX3_readyAt_88 : decode cX3_readyAt 88 = .ok (.goto (-77), 3) := by decide +kernel
theorem dX3_readyAt_91 : decode cX3_readyAt 91 = .ok (.iload 4, 2) := by decide +kernel
theorem dX3_readyAt_93 : decode cX3_readyAt 93 = .ok (.ireturn, 1) := by decide +kernel
theorem dX3_canComeIn_0 : decode cX3_canComeIn 0 = .ok (.aload_n 0, 1) := by decide +kernel
theorem dX3_canComeIn_1 : decode cX3_canComeIn 1 = .ok (.getfield 19, 3) := by decide +kernel
theorem dX3_canComeIn_4 : decode cX3_canComeIn 4 = .ok (.getfield 142, 3) := by decide +kernel
theorem dX3_canComeIn_7 : decode cX3_canComeIn 7 = .ok (.iload_n 1, 1) := by decide +kernel
theorem dX3_canComeIn_8 : decode cX3_canComeIn 8 = .ok (.iaload, 1) := by decide +kernel
theorem dX3_canComeIn_9 : decode cX3_canComeIn 9 = .ok (.istore_n 3, 1) := by decide +kernel
theorem dX3_canComeIn_10 : decode cX3_canComeIn 10 = .ok (.aload_n 0, 1) := by decide +kernel
theorem dX3_canComeIn_11 : decode cX3_canComeIn 11 = .ok (.getfield 26, 3) := by decide +kernel
theorem dX3_canComeIn_14 : decode cX3_canComeIn 14 = .ok (.iload_n 3, 1) := by decide +kernel
theorem dX3_canComeIn_15 : decode cX3_canComeIn 15 = .ok (.invokevirtual 137, 3) := by decide +kernel
theorem dX3_canComeIn_18 : decode cX3_canComeIn 18 = .ok (.ifCond .eq 59, 3) := by decide +kernel
theorem dX3_canComeIn_21 : decode cX3_canComeIn 21 = .ok (.iload_n 2, 1) := by decide +kernel
theorem dX3_canComeIn_22 : decode cX3_canComeIn 22 = .ok (.aload_n 0, 1) := by decide +kernel
theorem dX3_canComeIn_23 : decode cX3_canComeIn 23 = .ok (.getfield 19, 3) := by decide +kernel
theorem dX3_canComeIn_26 : decode cX3_canComeIn 26 = .ok (.getfield 87, 3) := by decide +kernel
theorem dX3_canComeIn_29 : decode cX3_canComeIn 29 = .ok (.iload_n 1, 1) := by decide +kernel
theorem dX3_canComeIn_30 : decode cX3_canComeIn 30 = .ok (.iaload, 1) := by decide +kernel
theorem dX3_canComeIn_31 : decode cX3_canComeIn 31 = .ok (.if_icmp .lt 46, 3) := by decide +kernel
theorem dX3_canComeIn_34 : decode cX3_canComeIn 34 = .ok (.aload_n 0, 1) := by decide +kernel
theorem dX3_canComeIn_35 : decode cX3_canComeIn 35 = .ok (.getfield 19, 3) := by decide +kernel
theorem dX3_canComeIn_38 : decode cX3_canComeIn 38 = .ok (.getfield 84, 3) := by decide +kernel
theorem dX3_canComeIn_41 : decode cX3_canComeIn 41 = .ok (.iload_n 1, 1) := by decide +kernel
theorem dX3_canComeIn_42 : decode cX3_canComeIn 42 = .ok (.iaload, 1) := by decide +kernel
theorem dX3_canComeIn_43 : decode cX3_canComeIn 43 = .ok (.aload_n 0, 1) := by decide +kernel
theorem dX3_canComeIn_44 : decode cX3_canComeIn 44 = .ok (.getfield 12, 3) := by decide +kernel
theorem dX3_canComeIn_47 : decode cX3_canComeIn 47 = .ok (.getfield 61, 3) := by decide +kernel
theorem dX3_canComeIn_50 : decode cX3_canComeIn 50 = .ok (.iload_n 2, 1) := by decide +kernel
theorem dX3_canComeIn_51 : decode cX3_canComeIn 51 = .ok (.iaload, 1) := by decide +kernel
theorem dX3_canComeIn_52 : decode cX3_canComeIn 52 = .ok (.if_icmp .gt 25, 3) := by decide +kernel
theorem dX3_canComeIn_55 : decode cX3_canComeIn 55 = .ok (.aload_n 0, 1) := by decide +kernel
theorem dX3_canComeIn_56 : decode cX3_canComeIn 56 = .ok (.iload_n 1, 1) := by decide +kernel
theorem dX3_canComeIn_57 : decode cX3_canComeIn 57 = .ok (.iload_n 2, 1) := by decide +kernel
theorem dX3_canComeIn_58 : decode cX3_canComeIn 58 = .ok (.aload_n 0, 1) := by decide +kernel
theorem dX3_canComeIn_59 : decode cX3_canComeIn 59 = .ok (.getfield 26, 3) := by decide +kernel
theorem dX3_canComeIn_62 : decode cX3_canComeIn 62 = .ok (.getfield 98, 3) := by decide +kernel
theorem dX3_canComeIn_65 : decode cX3_canComeIn 65 = .ok (.iload_n 3, 1) := by decide +kernel
theorem dX3_canComeIn_66 : decode cX3_canComeIn 66 = .ok (.baload, 1) := by decide +kernel
theorem dX3_canComeIn_67 : decode cX3_canComeIn 67 = .ok (.invokevirtual 211, 3) := by decide +kernel
theorem dX3_canComeIn_70 : decode cX3_canComeIn 70 = .ok (.ifCond .eq 7, 3) := by decide +kernel
theorem dX3_canComeIn_73 : decode cX3_canComeIn 73 = .ok (.iconst 1, 1) := by decide +kernel
theorem dX3_canComeIn_74 : decode cX3_canComeIn 74 = .ok (.goto 4, 3) := by decide +kernel
theorem dX3_canComeIn_77 : decode cX3_canComeIn 77 = .ok (.iconst 0, 1) := by decide +kernel
theorem dX3_canComeIn_78 : decode cX3_canComeIn 78 = .ok (.ireturn, 1) := by decide +kernel
theorem dX3_offerHour_0 : decode cX3_offerHour 0 = .ok (.iload_n 3, 1) := by decide +kernel
theorem dX3_offerHour_1 : decode cX3_offerHour 1 = .ok (.istore 4, 2) := by decide +kernel
theorem dX3_offerHour_3 : decode cX3_offerHour 3 = .ok (.iload 4, 2) := by decide +kernel
theorem dX3_offerHour_5 : decode cX3_offerHour 5 = .ok (.ifCond .le 119, 3) := by decide +kernel
theorem dX3_offerHour_8 : decode cX3_offerHour 8 = .ok (.iconst 0, 1) := by decide +kernel
theorem dX3_offerHour_9 : decode cX3_offerHour 9 = .ok (.istore 5, 2) := by decide +kernel
theorem dX3_offerHour_11 : decode cX3_offerHour 11 = .ok (.iload 5, 2) := by decide +kernel
theorem dX3_offerHour_13 : decode cX3_offerHour 13 = .ok (.aload_n 0, 1) := by decide +kernel
theorem dX3_offerHour_14 : decode cX3_offerHour 14 = .ok (.getfield 19, 3) := by decide +kernel
theorem dX3_offerHour_17 : decode cX3_offerHour 17 = .ok (.getfield 68, 3) := by decide +kernel
theorem dX3_offerHour_20 : decode cX3_offerHour 20 = .ok (.if_icmp .ge 98, 3) := by decide +kernel
theorem dX3_offerHour_23 : decode cX3_offerHour 23 = .ok (.iconst 1, 1) := by decide +kernel
theorem dX3_offerHour_24 : decode cX3_offerHour 24 = .ok (.iload 5, 2) := by decide +kernel
theorem dX3_offerHour_26 : decode cX3_offerHour 26 = .ok (.ishl, 1) := by decide +kernel
theorem dX3_offerHour_27 : decode cX3_offerHour 27 = .ok (.istore 6, 2) := by decide +kernel
theorem dX3_offerHour_29 : decode cX3_offerHour 29 = .ok (.iload 4, 2) := by decide +kernel
theorem dX3_offerHour_31 : decode cX3_offerHour 31 = .ok (.iload_n 2, 1) := by decide +kernel
theorem dX3_offerHour_32 : decode cX3_offerHour 32 = .ok (.iand, 1) := by decide +kernel
theorem dX3_offerHour_33 : decode cX3_offerHour 33 = .ok (.iload 6, 2) := by decide +kernel
theorem dX3_offerHour_35 : decode cX3_offerHour 35 = .ok (.iand, 1) := by decide +kernel
theorem dX3_offerHour_36 : decode cX3_offerHour 36 = .ok (.ifCond .eq 76, 3) := by decide +kernel
theorem dX3_offerHour_39 : decode cX3_offerHour 39 = .ok (.aload_n 0, 1) := by decide +kernel
theorem dX3_offerHour_40 : decode cX3_offerHour 40 = .ok (.getfield 30, 3) := by decide +kernel
theorem dX3_offerHour_43 : decode cX3_offerHour 43 = .ok (.iload 4, 2) := by decide +kernel
theorem dX3_offerHour_45 : decode cX3_offerHour 45 = .ok (.iload 6, 2) := by decide +kernel
theorem dX3_offerHour_47 : decode cX3_offerHour 47 = .ok (.ixor, 1) := by decide +kernel
theorem dX3_offerHour_48 : decode cX3_offerHour 48 = .ok (.laload, 1) := by decide +kernel
theorem dX3_offerHour_49 : decode cX3_offerHour 49 = .ok (.ldc2_w 176, 3) := by decide +kernel
theorem dX3_offerHour_52 : decode cX3_offerHour 52 = .ok (.lcmp, 1) := by decide +kernel
theorem dX3_offerHour_53 : decode cX3_offerHour 53 = .ok (.ifCond .eq 59, 3) := by decide +kernel
theorem dX3_offerHour_56 : decode cX3_offerHour 56 = .ok (.aload_n 0, 1) := by decide +kernel
theorem dX3_offerHour_57 : decode cX3_offerHour 57 = .ok (.getfield 30, 3) := by decide +kernel
theorem dX3_offerHour_60 : decode cX3_offerHour 60 = .ok (.iload 4, 2) := by decide +kernel
theorem dX3_offerHour_62 : decode cX3_offerHour 62 = .ok (.iload 6, 2) := by decide +kernel
theorem dX3_offerHour_64 : decode cX3_offerHour 64 = .ok (.ixor, 1) := by decide +kernel
theorem dX3_offerHour_65 : decode cX3_offerHour 65 = .ok (.laload, 1) := by decide +kernel
theorem dX3_offerHour_66 : decode cX3_offerHour 66 = .ok (.aload_n 0, 1) := by decide +kernel
theorem dX3_offerHour_67 : decode cX3_offerHour 67 = .ok (.iload 5, 2) := by decide +kernel
theorem dX3_offerHour_69 : decode cX3_offerHour 69 = .ok (.iload_n 1, 1) := by decide +kernel
theorem dX3_offerHour_70 : decode cX3_offerHour 70 = .ok (.invokevirtual 280, 3) := by decide +kernel
theorem dX3_offerHour_73 : decode cX3_offerHour 73 = .ok (.ladd, 1) := by decide +kernel
theorem dX3_offerHour_74 : decode cX3_offerHour 74 = .ok (.lstore 7, 2) := by decide +kernel
theorem dX3_offerHour_76 : decode cX3_offerHour 76 = .ok (.aload_n 0, 1) := by decide +kernel
theorem dX3_offerHour_77 : decode cX3_offerHour 77 = .ok (.getfield 30, 3) := by decide +kernel
theorem dX3_offerHour_80 : decode cX3_offerHour 80 = .ok (.iload 4, 2) := by decide +kernel
theorem dX3_offerHour_82 : decode cX3_offerHour 82 = .ok (.laload, 1) := by decide +kernel
theorem dX3_offerHour_83 : decode cX3_offerHour 83 = .ok (.ldc2_w 176, 3) := by decide +kernel
theorem dX3_offerHour_86 : decode cX3_offerHour 86 = .ok (.lcmp, 1) := by decide +kernel
theorem dX3_offerHour_87 : decode cX3_offerHour 87 = .ok (.ifCond .eq 16, 3) := by decide +kernel
theorem dX3_offerHour_90 : decode cX3_offerHour 90 = .ok (.lload 7, 2) := by decide +kernel
theorem dX3_offerHour_92 : decode cX3_offerHour 92 = .ok (.aload_n 0, 1) := by decide +kernel
theorem dX3_offerHour_93 : decode cX3_offerHour 93 = .ok (.getfield 30, 3) := by decide +kernel
theorem dX3_offerHour_96 : decode cX3_offerHour 96 = .ok (.iload 4, 2) := by decide +kernel
theorem dX3_offerHour_98 : decode cX3_offerHour 98 = .ok (.laload, 1) := by decide +kernel
theorem dX3_offerHour_99 : decode cX3_offerHour 99 = .ok (.lcmp, 1) := by decide +kernel
theorem dX3_offerHour_100 : decode cX3_offerHour 100 = .ok (.ifCond .ge 12, 3) := by decide +kernel
theorem dX3_offerHour_103 : decode cX3_offerHour 103 = .ok (.aload_n 0, 1) := by decide +kernel
theorem dX3_offerHour_104 : decode cX3_offerHour 104 = .ok (.getfield 30, 3) := by decide +kernel
theorem dX3_offerHour_107 : decode cX3_offerHour 107 = .ok (.iload 4, 2) := by decide +kernel
theorem dX3_offerHour_109 : decode cX3_offerHour 109 = .ok (.lload 7, 2) := by decide +kernel
theorem dX3_offerHour_111 : decode cX3_offerHour 111 = .ok (.lastore, 1) := by decide +kernel
theorem dX3_offerHour_112 : decode cX3_offerHour 112 = .ok (.iinc 5 1, 3) := by decide +kernel
theorem dX3_offerHour_115 : decode cX3_offerHour 115 = .ok (.goto (-104), 3) := by decide +kernel
theorem dX3_offerHour_118 : decode cX3_offerHour 118 = .ok (.iinc 4 (-1), 3) := by decide +kernel
theorem dX3_offerHour_121 : decode cX3_offerHour 121 = .ok (.goto (-118), 3) := by decide +kernel
theorem dX3_offerHour_124 : decode cX3_offerHour 124 = .ok (.return_, 1) := by decide +kernel
theorem dX3_hourCost_0 : decode cX3_hourCost 0 = .ok (.iload_n 2, 1) := by decide +kernel
theorem dX3_hourCost_1 : decode cX3_hourCost 1 = .ok (.aload_n 0, 1) := by decide +kernel
theorem dX3_hourCost_2 : decode cX3_hourCost 2 = .ok (.getfield 19, 3) := by decide +kernel
theorem dX3_hourCost_5 : decode cX3_hourCost 5 = .ok (.getfield 87, 3) := by decide +kernel
theorem dX3_hourCost_8 : decode cX3_hourCost 8 = .ok (.iload_n 1, 1) := by decide +kernel
theorem dX3_hourCost_9 : decode cX3_hourCost 9 = .ok (.iaload, 1) := by decide +kernel
theorem dX3_hourCost_10 : decode cX3_hourCost 10 = .ok (.isub, 1) := by decide +kernel
theorem dX3_hourCost_11 : decode cX3_hourCost 11 = .ok (.i2l, 1) := by decide +kernel
theorem dX3_hourCost_12 : decode cX3_hourCost 12 = .ok (.lstore_n 3, 1) := by decide +kernel
theorem dX3_hourCost_13 : decode cX3_hourCost 13 = .ok (.lload_n 3, 1) := by decide +kernel
theorem dX3_hourCost_14 : decode cX3_hourCost 14 = .ok (.bipush 49, 2) := by decide +kernel
theorem dX3_hourCost_16 : decode cX3_hourCost 16 = .ok (.lshl, 1) := by decide +kernel
theorem dX3_hourCost_17 : decode cX3_hourCost 17 = .ok (.iload_n 2, 1) := by decide +kernel
theorem dX3_hourCost_18 : decode cX3_hourCost 18 = .ok (.i2l, 1) := by decide +kernel
theorem dX3_hourCost_19 : decode cX3_hourCost 19 = .ok (.iload_n 1, 1) := by decide +kernel
theorem dX3_hourCost_20 : decode cX3_hourCost 20 = .ok (.bipush 7, 2) := by decide +kernel
theorem dX3_hourCost_22 : decode cX3_hourCost 22 = .ok (.invokestatic 254, 3) := by decide +kernel
theorem dX3_hourCost_25 : decode cX3_hourCost 25 = .ok (.lshl, 1) := by decide +kernel
theorem dX3_hourCost_26 : decode cX3_hourCost 26 = .ok (.ladd, 1) := by decide +kernel
theorem dX3_hourCost_27 : decode cX3_hourCost 27 = .ok (.lreturn, 1) := by decide +kernel
theorem dX3_keepPlan_0 : decode cX3_keepPlan 0 = .ok (.iconst 0, 1) := by decide +kernel
theorem dX3_keepPlan_1 : decode cX3_keepPlan 1 = .ok (.istore 4, 2) := by decide +kernel
theorem dX3_keepPlan_3 : decode cX3_keepPlan 3 = .ok (.iload 4, 2) := by decide +kernel
theorem dX3_keepPlan_5 : decode cX3_keepPlan 5 = .ok (.aload_n 0, 1) := by decide +kernel
theorem dX3_keepPlan_6 : decode cX3_keepPlan 6 = .ok (.getfield 19, 3) := by decide +kernel
theorem dX3_keepPlan_9 : decode cX3_keepPlan 9 = .ok (.getfield 68, 3) := by decide +kernel
theorem dX3_keepPlan_12 : decode cX3_keepPlan 12 = .ok (.if_icmp .ge 52, 3) := by decide +kernel
theorem dX3_keepPlan_15 : decode cX3_keepPlan 15 = .ok (.iload_n 1, 1) := by decide +kernel
theorem dX3_keepPlan_16 : decode cX3_keepPlan 16 = .ok (.iconst 1, 1) := by decide +kernel
theorem dX3_keepPlan_17 : decode cX3_keepPlan 17 = .ok (.iload 4, 2) := by decide +kernel
theorem dX3_keepPlan_19 : decode cX3_keepPlan 19 = .ok (.ishl, 1) := by decide +kernel
theorem dX3_keepPlan_20 : decode cX3_keepPlan 20 = .ok (.iand, 1) := by decide +kernel
theorem dX3_keepPlan_21 : decode cX3_keepPlan 21 = .ok (.ifCond .eq 7, 3) := by decide +kernel
theorem dX3_keepPlan_24 : decode cX3_keepPlan 24 = .ok (.iconst 1, 1) := by decide +kernel
theorem dX3_keepPlan_25 : decode cX3_keepPlan 25 = .ok (.goto 4, 3) := by decide +kernel
theorem dX3_keepPlan_28 : decode cX3_keepPlan 28 = .ok (.iconst 0, 1) := by decide +kernel
theorem dX3_keepPlan_29 : decode cX3_keepPlan 29 = .ok (.istore 5, 2) := by decide +kernel
theorem dX3_keepPlan_31 : decode cX3_keepPlan 31 = .ok (.aload_n 0, 1) := by decide +kernel
theorem dX3_keepPlan_32 : decode cX3_keepPlan 32 = .ok (.getfield 19, 3) := by decide +kernel
theorem dX3_keepPlan_35 : decode cX3_keepPlan 35 = .ok (.getfield 182, 3) := by decide +kernel
theorem dX3_keepPlan_38 : decode cX3_keepPlan 38 = .ok (.iload 4, 2) := by decide +kernel
theorem dX3_keepPlan_40 : decode cX3_keepPlan 40 = .ok (.iload 5, 2) := by decide +kernel
theorem dX3_keepPlan_42 : decode cX3_keepPlan 42 = .ok (.ifCond .eq 14, 3) := by decide +kernel
theorem dX3_keepPlan_45 : decode cX3_keepPlan 45 = .ok (.lload_n 2, 1) := by decide +kernel
theorem dX3_keepPlan_46 : decode cX3_keepPlan 46 = .ok (.iload 4, 2) := by decide +kernel
theorem dX3_keepPlan_48 : decode cX3_keepPlan 48 = .ok (.bipush 7, 2) := by decide +kernel
theorem dX3_keepPlan_50 : decode cX3_keepPlan 50 = .ok (.invokestatic 257, 3) := by decide +kernel
theorem dX3_keepPlan_53 : decode cX3_keepPlan 53 = .ok (.goto 4, 3) := by decide +kernel
theorem dX3_keepPlan_56 : decode cX3_keepPlan 56 = .ok (.iconst (-1), 1) := by decide +kernel
theorem dX3_keepPlan_57 : decode cX3_keepPlan 57 = .ok (.iastore, 1) := by decide +kernel
theorem dX3_keepPlan_58 : decode cX3_keepPlan 58 = .ok (.iinc 4 1, 3) := by decide +kernel
theorem dX3_keepPlan_61 : decode cX3_keepPlan 61 = .ok (.goto (-58), 3) := by decide +kernel
theorem dX3_keepPlan_64 : decode cX3_keepPlan 64 = .ok (.return_, 1) := by decide +kernel
theorem dX4_init_0 : decode cX4_init 0 = .ok (.aload_n 0, 1) := by decide +kernel
theorem dX4_init_1 : decode cX4_init 1 = .ok (.invokespecial 1, 3) := by decide +kernel
theorem dX4_init_4 : decode cX4_init 4 = .ok (.aload_n 0, 1) := by decide +kernel
theorem dX4_init_5 : decode cX4_init 5 = .ok (.bipush 12, 2) := by decide +kernel
theorem dX4_init_7 : decode cX4_init 7 = .ok (.newarray .int, 2) := by decide +kernel
theorem dX4_init_9 : decode cX4_init 9 = .ok (.putfield 7, 3) := by decide +kernel
theorem dX4_init_12 : decode cX4_init 12 = .ok (.aload_n 0, 1) := by decide +kernel
theorem dX4_init_13 : decode cX4_init 13 = .ok (.iconst 5, 1) := by decide +kernel
theorem dX4_init_14 : decode cX4_init 14 = .ok (.newarray .int, 2) := by decide +kernel
theorem dX4_init_16 : decode cX4_init 16 = .ok (.dup, 1) := by decide +kernel
theorem dX4_init_17 : decode cX4_init 17 = .ok (.iconst 0, 1) := by decide +kernel
theorem dX4_init_18 : decode cX4_init 18 = .ok (.bipush 40, 2) := by decide +kernel
theorem dX4_init_20 : decode cX4_init 20 = .ok (.iastore, 1) := by decide +kernel
theorem dX4_init_21 : decode cX4_init 21 = .ok (.dup, 1) := by decide +kernel
theorem dX4_init_22 : decode cX4_init 22 = .ok (.iconst 1, 1) := by decide +kernel
theorem dX4_init_23 : decode cX4_init 23 = .ok (.sipush 500, 3) := by decide +kernel
theorem dX4_init_26 : decode cX4_init 26 = .ok (.iastore, 1) := by decide +kernel
theorem dX4_init_27 : decode cX4_init 27 = .ok (.dup, 1) := by decide +kernel
theorem dX4_init_28 : decode cX4_init 28 = .ok (.iconst 2, 1) := by decide +kernel
theorem dX4_init_29 : decode cX4_init 29 = .ok (.iconst 5, 1) := by decide +kernel
theorem dX4_init_30 : decode cX4_init 30 = .ok (.iastore, 1) := by decide +kernel
theorem dX4_init_31 : decode cX4_init 31 = .ok (.dup, 1) := by decide +kernel
theorem dX4_init_32 : decode cX4_init 32 = .ok (.iconst 3, 1) := by decide +kernel
theorem dX4_init_33 : decode cX4_init 33 = .ok (.bipush 10, 2) := by decide +kernel
theorem dX4_init_35 : decode cX4_init 35 = .ok (.iastore, 1) := by decide +kernel
theorem dX4_init_36 : decode cX4_init 36 = .ok (.dup, 1) := by decide +kernel
theorem dX4_init_37 : decode cX4_init 37 = .ok (.iconst 4, 1) := by decide +kernel
theorem dX4_init_38 : decode cX4_init 38 = .ok (.bipush 40, 2) := by decide +kernel
theorem dX4_init_40 : decode cX4_init 40 = .ok (.iastore, 1) := by decide +kernel
theorem dX4_init_41 : decode cX4_init 41 = .ok (.putfield 13, 3) := by decide +kernel
theorem dX4_init_44 : decode cX4_init 44 = .ok (.aload_n 0, 1) := by decide +kernel
theorem dX4_init_45 : decode cX4_init 45 = .ok (.bipush 120, 2) := by decide +kernel
theorem dX4_init_47 : decode cX4_init 47 = .ok (.newarray .int, 2) := by decide +kernel
theorem dX4_init_49 : decode cX4_init 49 = .ok (.putfield 16, 3) := by decide +kernel
theorem dX4_init_52 : decode cX4_init 52 = .ok (.aload_n 0, 1) := by decide +kernel
theorem dX4_init_53 : decode cX4_init 53 = .ok (.bipush 49, 2) := by decide +kernel
theorem dX4_init_55 : decode cX4_init 55 = .ok (.newarray .int, 2) := by decide +kernel
theorem dX4_init_57 : decode cX4_init 57 = .ok (.putfield 19, 3) := by decide +kernel
theorem dX4_init_60 : decode cX4_init 60 = .ok (.aload_n 0, 1) := by decide +kernel
theorem dX4_init_61 : decode cX4_init 61 = .ok (.bipush 20, 2) := by decide +kernel
theorem dX4_init_63 : decode cX4_init 63 = .ok (.newarray .int, 2) := by decide +kernel
theorem dX4_init_65 : decode cX4_init 65 = .ok (.putfield 22, 3) := by decide +kernel
theorem dX4_init_68 : decode cX4_init 68 = .ok (.aload_n 0, 1) := by decide +kernel
theorem dX4_init_69 : decode cX4_init 69 = .ok (.bipush 49, 2) := by decide +kernel
theorem dX4_init_71 : decode cX4_init 71 = .ok (.newarray .boolean, 2) := by decide +kernel
theorem dX4_init_73 : decode cX4_init 73 = .ok (.putfield 25, 3) := by decide +kernel
theorem dX4_init_76 : decode cX4_init 76 = .ok (.aload_n 0, 1) := by decide +kernel
theorem dX4_init_77 : decode cX4_init 77 = .ok (.bipush 7, 2) := by decide +kernel
theorem dX4_init_79 : decode cX4_init 79 = .ok (.newarray .int, 2) := by decide +kernel
theorem dX4_init_81 : decode cX4_init 81 = .ok (.putfield 29, 3) := by decide +kernel
theorem dX4_init_84 : decode cX4_init 84 = .ok (.aload_n 0, 1) := by decide +kernel
theorem dX4_init_85 : decode cX4_init 85 = .ok (.bipush 7, 2) := by decide +kernel
theorem dX4_init_87 : decode cX4_init 87 = .ok (.newarray .int, 2) := by decide +kernel
theorem dX4_init_89 : decode cX4_init 89 = .ok (.putfield 32, 3) := by decide +kernel
theorem dX4_init_92 : decode cX4_init 92 = .ok (.aload_n 0, 1) := by decide +kernel
theorem dX4_init_93 : decode cX4_init 93 = .ok (.bipush 7, 2) := by decide +kernel
theorem dX4_init_95 : decode cX4_init 95 = .ok (.newarray .int, 2) := by decide +kernel
theorem dX4_init_97 : decode cX4_init 97 = .ok (.putfield 35, 3) := by decide +kernel
theorem dX4_init_100 : decode cX4_init 100 = .ok (.aload_n 0, 1) := by decide +kernel
theorem dX4_init_101 : decode cX4_init 101 = .ok (.bipush 7, 2) := by decide +kernel
theorem dX4_init_103 : decode cX4_init 103 = .ok (.newarray .int, 2) := by decide +kernel
theorem dX4_init_105 : decode cX4_init 105 = .ok (.putfield 38, 3) := by decide +kernel
theorem dX4_init_108 : decode cX4_init 108 = .ok (.aload_n 0, 1) := by decide +kernel
theorem dX4_init_109 : decode cX4_init 109 = .ok (.bipush 28, 2) := by decide +kernel
theorem dX4_init_111 : decode cX4_init 111 = .ok (.newarray .boolean, 2) := by decide +kernel
theorem dX4_init_113 : decode cX4_init 113 = .ok (.putfield 41, 3) := by decide +kernel
theorem dX4_init_116 : decode cX4_init 116 = .ok (.aload_n 0, 1) := by decide +kernel
theorem dX4_init_117 : decode cX4_init 117 = .ok (.sipush 15488, 3) := by decide +kernel
theorem dX4_init_120 : decode cX4_init 120 = .ok (.newarray .int, 2) := by decide +kernel
theorem dX4_init_122 : decode cX4_init 122 = .ok (.putfield 44, 3) := by decide +kernel
theorem dX4_init_125 : decode cX4_init 125 = .ok (.aload_n 0, 1) := by decide +kernel
theorem dX4_init_126 : decode cX4_init 126 = .ok (.bipush 7, 2) := by decide +kernel
theorem dX4_init_128 : decode cX4_init 128 = .ok (.newarray .int, 2) := by decide +kernel
theorem dX4_init_130 : decode cX4_init 130 = .ok (.putfield 47, 3) := by decide +kernel
theorem dX4_init_133 : decode cX4_init 133 = .ok (.iconst 0, 1) := by decide +kernel
theorem dX4_init_134 : decode cX4_init 134 = .ok (.istore_n 1, 1) := by decide +kernel
theorem dX4_init_135 : decode cX4_init 135 = .ok (.iload_n 1, 1) := by decide +kernel
theorem dX4_init_136 : decode cX4_init 136 = .ok (.bipush 120, 2) := by decide +kernel
theorem dX4_init_138 : decode cX4_init 138 = .ok (.if_icmp .ge 16, 3) := by decide +kernel
theorem dX4_init_141 : decode cX4_init 141 = .ok (.aload_n 0, 1) := by decide +kernel
theorem dX4_init_142 : decode cX4_init 142 = .ok (.getfield 16, 3) := by decide +kernel
theorem dX4_init_145 : decode cX4_init 145 = .ok (.iload_n 1, 1) := by decide +kernel
theorem dX4_init_146 : decode cX4_init 146 = .ok (.iconst 2, 1) := by decide +kernel
theorem dX4_init_147 : decode cX4_init 147 = .ok (.iastore, 1) := by decide +kernel
theorem dX4_init_148 : decode cX4_init 148 = .ok (.iinc 1 1, 3) := by decide +kernel
theorem dX4_init_151 : decode cX4_init 151 = .ok (.goto (-16), 3) := by decide +kernel
theorem dX4_init_154 : decode cX4_init 154 = .ok (.iconst 0, 1) := by decide +kernel
theorem dX4_init_155 : decode cX4_init 155 = .ok (.istore_n 1, 1) := by decide +kernel
theorem dX4_init_156 : decode cX4_init 156 = .ok (.iload_n 1, 1) := by decide +kernel
theorem dX4_init_157 : decode cX4_init 157 = .ok (.bipush 7, 2) := by decide +kernel
theorem dX4_init_159 : decode cX4_init 159 = .ok (.if_icmp .ge 23, 3) := by decide +kernel
theorem dX4_init_162 : decode cX4_init 162 = .ok (.aload_n 0, 1) := by decide +kernel
theorem dX4_init_163 : decode cX4_init 163 = .ok (.getfield 29, 3) := by decide +kernel
theorem dX4_init_166 : decode cX4_init 166 = .ok (.iload_n 1, 1) := by decide +kernel
theorem dX4_init_167 : decode cX4_init 167 = .ok (.iconst (-1), 1) := by decide +kernel
theorem dX4_init_168 : decode cX4_init 168 = .ok (.iastore, 1) := by decide +kernel
theorem dX4_init_169 : decode cX4_init 169 = .ok (.aload_n 0, 1) := by decide +kernel
theorem dX4_init_170 : decode cX4_init 170 = .ok (.getfield 32, 3) := by decide +kernel
theorem dX4_init_173 : decode cX4_init 173 = .ok (.iload_n 1, 1) := by decide +kernel
theorem dX4_init_174 : decode cX4_init 174 = .ok (.iconst (-1), 1) := by decide +kernel
theorem dX4_init_175 : decode cX4_init 175 = .ok (.iastore, 1) := by decide +kernel
theorem dX4_init_176 : decode cX4_init 176 = .ok (.iinc 1 1, 3) := by decide +kernel
theorem dX4_init_179 : decode cX4_init 179 = .ok (.goto (-23), 3) := by decide +kernel
theorem dX4_init_182 : decode cX4_init 182 = .ok (.return_, 1) := by decide +kernel
theorem dX4_thrown_0 : decode cX4_thrown 0 = .ok (.aload_n 0, 1) := by decide +kernel
theorem dX4_thrown_1 : decode cX4_thrown 1 = .ok (.getfield 50, 3) := by decide +kernel
theorem dX4_thrown_4 : decode cX4_thrown 4 = .ok (.ireturn, 1) := by decide +kernel
theorem dX4_in_0 : decode cX4_in 0 = .ok (.iload_n 0, 1) := by decide +kernel
theorem dX4_in_1 : decode cX4_in 1 = .ok (.iload_n 1, 1) := by decide +kernel
theorem dX4_in_2 : decode cX4_in 2 = .ok (.if_icmp .lt 12, 3) := by decide +kernel
theorem dX4_in_5 : decode cX4_in 5 = .ok (.iload_n 0, 1) := by decide +kernel
theorem dX4_in_6 : decode cX4_in 6 = .ok (.iload_n 2, 1) := by decide +kernel
theorem dX4_in_7 : decode cX4_in 7 = .ok (.if_icmp .gt 7, 3) := by decide +kernel
theorem dX4_in_10 : decode cX4_in 10 = .ok (.iconst 1, 1) := by decide +kernel
theorem dX4_in_11 : decode cX4_in 11 = .ok (.goto 4, 3) := by decide +kernel
theorem dX4_in_14 : decode cX4_in 14 = .ok (.iconst 0, 1) := by decide +kernel
theorem dX4_in_15 : decode cX4_in 15 = .ok (.ireturn, 1) := by decide +kernel
theorem dX4_isShip_0 : decode cX4_isShip 0 = .ok (.iload_n 1, 1) := by decide +kernel
theorem dX4_isShip_1 : decode cX4_isShip 1 = .ok (.iconst 0, 1) := by decide +kernel
theorem dX4_isShip_2 : decode cX4_isShip 2 = .ok (.aload_n 0, 1) := by decide +kernel
theorem dX4_isShip_3 : decode cX4_isShip 3 = .ok (.getfield 54, 3) := by decide +kernel
theorem dX4_isShip_6 : decode cX4_isShip 6 = .ok (.iconst 1, 1) := by decide +kernel
theorem dX4_isShip_7 : decode cX4_isShip 7 = .ok (.isub, 1) := by decide +kernel
theorem dX4_isShip_8 : decode cX4_isShip 8 = .ok (.invokestatic 57, 3) := by decide +kernel
theorem dX4_isShip_11 : decode cX4_isShip 11 = .ok (.ireturn, 1) := by decide +kernel
theorem dX4_isQuay_0 : decode cX4_isQuay 0 = .ok (.iload_n 1, 1) := by decide +kernel
theorem dX4_isQuay_1 : decode cX4_isQuay 1 = .ok (.iconst 0, 1) := by decide +kernel
theorem dX4_isQuay_2 : decode cX4_isQuay 2 = .ok (.aload_n 0, 1) := by decide +kernel
theorem dX4_isQuay_3 : decode cX4_isQuay 3 = .ok (.getfield 61, 3) := by decide +kernel
theorem dX4_isQuay_6 : decode cX4_isQuay 6 = .ok (.iconst 1, 1) := by decide +kernel
theorem dX4_isQuay_7 : decode cX4_isQuay 7 = .ok (.isub, 1) := by decide +kernel
theorem dX4_isQuay_8 : decode cX4_isQuay 8 = .ok (.invokestatic 57, 3) := by decide +kernel
theorem dX4_isQuay_11 : decode cX4_isQuay 11 = .ok (.ireturn, 1) := by decide +kernel
theorem dX4_isHour_0 : decode cX4_isHour 0 = .ok (.iload_n 0, 1) := by decide +kernel
theorem dX4_isHour_1 : decode cX4_isHour 1 = .ok (.iconst 0, 1) := by decide +kernel
theorem dX4_isHour_2 : decode cX4_isHour 2 = .ok (.bipush 119, 2) := by decide +kernel
theorem dX4_isHour_4 : decode cX4_isHour 4 = .ok (.invokestatic 57, 3) := by decide +kernel
theorem dX4_isHour_7 : decode cX4_isHour 7 = .ok (.ireturn, 1) := by decide +kernel
theorem dX4_tide_0 : decode cX4_tide 0 = .ok (.aload_n 0, 1) := by decide +kernel
theorem dX4_tide_1 : decode cX4_tide 1 = .ok (.iconst 0, 1) := by decide +kernel
theorem dX4_tide_2 : decode cX4_tide 2 = .ok (.putfield 50, 3) := by decide +kernel
theorem dX4_tide_5 : decode cX4_tide 5 = .ok (.iload_n 1, 1) := by decide +kernel
theorem dX4_tide_6 : decode cX4_tide 6 = .ok (.iconst 0, 1) := by decide +kernel
theorem dX4_tide_7 : decode cX4_tide 7 = .ok (.bipush 11, 2) := by decide +kernel
theorem dX4_tide_9 : decode cX4_tide 9 = .ok (.invokestatic 57, 3) := by decide +kernel
theorem dX4_tide_12 : decode cX4_tide 12 = .ok (.ifCond .eq 13, 3) := by decide +kernel
theorem dX4_tide_15 : decode cX4_tide 15 = .ok (.iload_n 2, 1) := by decide +kernel
theorem dX4_tide_16 : decode cX4_tide 16 = .ok (.iconst 0, 1) := by decide +kernel
theorem dX4_tide_17 : decode cX4_tide 17 = .ok (.bipush 80, 2) := by decide +kernel
theorem dX4_tide_19 : decode cX4_tide 19 = .ok (.invokestatic 57, 3) := by decide +kernel
theorem dX4_tide_22 : decode cX4_tide 22 = .ok (.ifCond .ne 5, 3) := by decide +kernel
theorem dX4_tide_25 : decode cX4_tide 25 = .ok (.iconst 0, 1) := by decide +kernel
theorem dX4_tide_26 : decode cX4_tide 26 = .ok (.ireturn, 1) := by decide +kernel
theorem dX4_tide_27 : decode cX4_tide 27 = .ok (.aload_n 0, 1) := by decide +kernel
theorem dX4_tide_28 : decode cX4_tide 28 = .ok (.getfield 7, 3) := by decide +kernel
theorem dX4_tide_31 : decode cX4_tide 31 = .ok (.iload_n 1, 1) := by decide +kernel
theorem dX4_tide_32 : decode cX4_tide 32 = .ok (.iload_n 2, 1) := by decide +kernel
theorem dX4_tide_33 : decode cX4_tide 33 = .ok (.iastore, 1) := by decide +kernel
theorem dX4_tide_34 : decode cX4_tide 34 = .ok (.iconst 1, 1) := by decide +kernel
theorem dX4_tide_35 : decode cX4_tide 35 = .ok (.ireturn, 1) := by decide +kernel
theorem dX4_mostOf_0 : decode cX4_mostOf 0 = .ok (.iload_n 0, 1) := by decide +kernel
theorem dX4_mostOf_1 : decode cX4_mostOf 1 = .ok (.ifCond .ne 9, 3) := by decide +kernel
theorem dX4_mostOf_4 : decode cX4_mostOf 4 = .ok (.sipush 200, 3) := by decide +kernel
theorem dX4_mostOf_7 : decode cX4_mostOf 7 = .ok (.goto 26, 3) := by decide +kernel
theorem dX4_mostOf_10 : decode cX4_mostOf 10 = .ok (.iload_n 0, 1) := by decide +kernel
theorem dX4_mostOf_11 : decode cX4_mostOf 11 = .ok (.iconst 1, 1) := by decide +kernel
theorem dX4_mostOf_12 : decode cX4_mostOf 12 = .ok (.if_icmp .ne 9, 3) := by decide +kernel
theorem dX4_mostOf_15 : decode cX4_mostOf 15 = .ok (.sipush 900, 3) := by decide +kernel
theorem dX4_mostOf_18 : decode cX4_mostOf 18 = .ok (.goto 15, 3) := by decide +kernel
theorem dX4_mostOf_21 : decode cX4_mostOf 21 = .ok (.iload_n 0, 1) := by decide +kernel
theorem dX4_mostOf_22 : decode cX4_mostOf 22 = .ok (.iconst 2, 1) := by decide +kernel
theorem dX4_mostOf_23 : decode cX4_mostOf 23 = .ok (.if_icmp .ne 8, 3) := by decide +kernel
theorem dX4_mostOf_26 : decode cX4_mostOf 26 = .ok (.bipush 20, 2) := by decide +kernel
theorem dX4_mostOf_28 : decode cX4_mostOf 28 = .ok (.goto 5, 3) := by decide +kernel
theorem dX4_mostOf_31 : decode cX4_mostOf 31 = .ok (.bipush 100, 2) := by decide +kernel
theorem dX4_mostOf_33 : decode cX4_mostOf 33 = .ok (.ireturn, 1) := by decide +kernel
theorem dX4_set_0 : decode cX4_set 0 = .ok (.aload_n 0, 1) := by decide +kernel
theorem dX4_set_1 : decode cX4_set 1 = .ok (.iconst 0, 1) := by decide +kernel
theorem dX4_set_2 : decode cX4_set 2 = .ok (.putfield 50, 3) := by decide +kernel
theorem dX4_set_5 : decode cX4_set 5 = .ok (.iload_n 1, 1) := by decide +kernel
theorem dX4_set_6 : decode cX4_set 6 = .ok (.iconst 0, 1) := by decide +kernel
theorem dX4_set_7 : decode cX4_set 7 = .ok (.iconst 4, 1) := by decide +kernel
theorem dX4_set_8 : decode cX4_set 8 = .ok (.invokestatic 57, 3) := by decide +kernel
theorem dX4_set_11 : decode cX4_set 11 = .ok (.ifCond .eq 15, 3) := by decide +kernel
theorem dX4_set_14 : decode cX4_set 14 = .ok (.iload_n 2, 1) := by decide +kernel
theorem dX4_set_15 : decode cX4_set 15 = .ok (.iconst 0, 1) := by decide +kernel
theorem dX4_set_16 : decode cX4_set 16 = .ok (.iload_n 1, 1) := by decide +kernel
theorem dX4_set_17 : decode cX4_set 17 = .ok (.invokestatic 64, 3) := by decide +kernel
theorem dX4_set_20 : decode cX4_set 20 = .ok (.invokestatic 57, 3) := by decide +kernel
theorem dX4_set_23 : decode cX4_set 23 = .ok (.ifCond .ne 5, 3) := by decide +kernel
theorem dX4_set_26 : decode cX4_set 26 = .ok (.iconst (-1), 1) := by decide +kernel
theorem dX4_set_27 : decode cX4_set 27 = .ok (.ireturn, 1) := by decide +kernel
theorem dX4_set_28 : decode cX4_set 28 = .ok (.aload_n 0, 1) := by decide +kernel
theorem dX4_set_29 : decode cX4_set 29 = .ok (.getfield 13, 3) := by decide +kernel
theorem dX4_set_32 : decode cX4_set 32 = .ok (.iload_n 1, 1) := by decide +kernel
theorem dX4_set_33 : decode cX4_set 33 = .ok (.iaload, 1) := by decide +kernel
theorem dX4_set_34 : decode cX4_set 34 = .ok (.istore_n 3, 1) := by decide +kernel
theorem dX4_set_35 : decode cX4_set 35 = .ok (.aload_n 0, 1) := by decide +kernel
theorem dX4_set_36 : decode cX4_set 36 = .ok (.getfield 13, 3) := by decide +kernel
theorem dX4_set_39 : decode cX4_set 39 = .ok (.iload_n 1, 1) := by decide +kernel
theorem dX4_set_40 : decode cX4_set 40 = .ok (.iload_n 2, 1) := by decide +kernel
theorem dX4_set_41 : decode cX4_set 41 = .ok (.iastore, 1) := by decide +kernel
theorem dX4_set_42 : decode cX4_set 42 = .ok (.iload_n 3, 1) := by decide +kernel
theorem dX4_set_43 : decode cX4_set 43 = .ok (.ireturn, 1) := by decide +kernel
theorem dX4_tugs_0 : decode cX4_tugs 0 = .ok (.aload_n 0, 1) := by decide +kernel
theorem dX4_tugs_1 : decode cX4_tugs 1 = .ok (.iconst 0, 1) := by decide +kernel
theorem dX4_tugs_2 : decode cX4_tugs 2 = .ok (.putfield 50, 3) := by decide +kernel
theorem dX4_tugs_5 : decode cX4_tugs 5 = .ok (.iload_n 2, 1) := by decide +kernel
theorem dX4_tugs_6 : decode cX4_tugs 6 = .ok (.invokestatic 68, 3) := by decide +kernel
theorem dX4_tugs_9 : decode cX4_tugs 9 = .ok (.ifCond .eq 22, 3) := by decide +kernel
theorem dX4_tugs_12 : decode cX4_tugs 12 = .ok (.iload_n 1, 1) := by decide +kernel
theorem dX4_tugs_13 : decode cX4_tugs 13 = .ok (.iconst 0, 1) := by decide +kernel
theorem dX4_tugs_14 : decode cX4_tugs 14 = .ok (.iload_n 2, 1) := by decide +kernel
theorem dX4_tugs_15 : decode cX4_tugs 15 = .ok (.invokestatic 57, 3) := by decide +kernel
theorem dX4_tugs_18 : decode cX4_tugs 18 = .ok (.ifCond .eq 13, 3) := by decide +kernel
theorem dX4_tugs_21 : decode cX4_tugs 21 = .ok (.iload_n 3, 1) := by decide +kernel
theorem dX4_tugs_22 : decode cX4_tugs 22 = .ok (.iconst 0, 1) := by decide +kernel
theorem dX4_tugs_23 : decode cX4_tugs 23 = .ok (.bipush 9, 2) := by decide +kernel
theorem dX4_tugs_25 : decode cX4_tugs 25 = .ok (.invokestatic 57, 3) := by decide +kernel
theorem dX4_tugs_28 : decode cX4_tugs 28 = .ok (.ifCond .ne 5, 3) := by decide +kernel
theorem dX4_tugs_31 : decode cX4_tugs 31 = .ok (.iconst 0, 1) := by decide +kernel
theorem dX4_tugs_32 : decode cX4_tugs 32 = .ok (.ireturn, 1) := by decide +kernel
theorem dX4_tugs_33 : decode cX4_tugs 33 = .ok (.iload_n 1, 1) := by decide +kernel
theorem dX4_tugs_34 : decode cX4_tugs 34 = .ok (.istore 4, 2) := by decide +kernel
theorem dX4_tugs_36 : decode cX4_tugs 36 = .ok (.iload 4, 2) := by decide +kernel
theorem dX4_tugs_38 : decode cX4_tugs 38 = .ok (.iload_n 2, 1) := by decide +kernel
theorem dX4_tugs_39 : decode cX4_tugs 39 = .ok (.if_icmp .gt 17, 3) := by decide +kernel
theorem dX4_tugs_42 : decode cX4_tugs 42 = .ok (.aload_n 0, 1) := by decide +kernel
theorem dX4_tugs_43 : decode cX4_tugs 43 = .ok (.getfield 16, 3) := by decide +kernel
theorem dX4_tugs_46 : decode cX4_tugs 46 = .ok (.iload 4, 2) := by decide +kernel
theorem dX4_tugs_48 : decode cX4_tugs 48 = .ok (.iload_n 3, 1) := by decide +kernel
theorem dX4_tugs_49 : decode cX4_tugs 49 = .ok (.iastore, 1) := by decide +kernel
theorem dX4_tugs_50 : decode cX4_tugs 50 = .ok (.iinc 4 1, 3) := by decide +kernel
theorem dX4_tugs_53 : decode cX4_tugs 53 = .ok (.goto (-17), 3) := by decide +kernel
theorem dX4_tugs_56 : decode cX4_tugs 56 = .ok (.iconst 1, 1) := by decide +kernel
theorem dX4_tugs_57 : decode cX4_tugs 57 = .ok (.ireturn, 1) := by decide +kernel
theorem dX4_ship_0 : decode cX4_ship 0 = .ok (.aload_n 0, 1) := by decide +kernel
theorem dX4_ship_1 : decode cX4_ship 1 = .ok (.iconst 0, 1) := by decide +kernel
theorem dX4_ship_2 : decode cX4_ship 2 = .ok (.putfield 50, 3) := by decide +kernel
theorem dX4_ship_5 : decode cX4_ship 5 = .ok (.iload_n 1, 1) := by decide +kernel
theorem dX4_ship_6 : decode cX4_ship 6 = .ok (.iconst 1, 1) := by decide +kernel
theorem dX4_ship_7 : decode cX4_ship 7 = .ok (.sipush 1200, 3) := by decide +kernel
theorem dX4_ship_10 : decode cX4_ship 10 = .ok (.invokestatic 57, 3) := by decide +kernel
theorem dX4_ship_13 : decode cX4_ship 13 = .ok (.ifCond .eq 73, 3) := by decide +kernel
theorem dX4_ship_16 : decode cX4_ship 16 = .ok (.iload_n 2, 1) := by decide +kernel
theorem dX4_ship_17 : decode cX4_ship 17 = .ok (.iconst 1, 1) := by decide +kernel
theorem dX4_ship_18 : decode cX4_ship 18 = .ok (.bipush 120, 2) := by decide +kernel
theorem dX4_ship_20 : decode cX4_ship 20 = .ok (.invokestatic 57, 3) := by decide +kernel
theorem dX4_ship_23 : decode cX4_ship 23 = .ok (.ifCond .eq 63, 3) := by decide +kernel
theorem dX4_ship_26 : decode cX4_ship 26 = .ok (.iload_n 3, 1) := by decide +kernel
theorem dX4_ship_27 : decode cX4_ship 27 = .ok (.iconst 1, 1) := by decide +kernel
theorem dX4_ship_28 : decode cX4_ship 28 = .ok (.sipush 700, 3) := by decide +kernel
theorem dX4_ship_31 : decode cX4_ship 31 = .ok (.invokestatic 57, 3) := by decide +kernel
theorem dX4_ship_34 : decode cX4_ship 34 = .ok (.ifCond .eq 52, 3) := by decide +kernel
theorem dX4_ship_37 : decode cX4_ship 37 = .ok (.iload 4, 2) := by decide +kernel
theorem dX4_ship_39 : decode cX4_ship 39 = .ok (.iconst 0, 1) := by decide +kernel
theorem dX4_ship_40 : decode cX4_ship 40 = .ok (.bipush 100, 2) := by decide +kernel
theorem dX4_ship_42 : decode cX4_ship 42 = .ok (.invokestatic 57, 3) := by decide +kernel
theorem dX4_ship_45 : decode cX4_ship 45 = .ok (.ifCond .eq 41, 3) := by decide +kernel
theorem dX4_ship_48 : decode cX4_ship 48 = .ok (.iload 5, 2) := by decide +kernel
theorem dX4_ship_50 : decode cX4_ship 50 = .ok (.iconst 0, 1) := by decide +kernel
theorem dX4_ship_51 : decode cX4_ship 51 = .ok (.iconst 3, 1) := by decide +kernel
theorem dX4_ship_52 : decode cX4_ship 52 = .ok (.invokestatic 57, 3) := by decide +kernel
theorem dX4_ship_55 : decode cX4_ship 55 = .ok (.ifCond .eq 31, 3) := by decide +kernel
theorem dX4_ship_58 : decode cX4_ship 58 = .ok (.iload 6, 2) := by decide +kernel
theorem dX4_ship_60 : decode cX4_ship 60 = .ok (.invokestatic 68, 3) := by decide +kernel
theorem dX4_ship_63 : decode cX4_ship 63 = .ok (.ifCond .eq 23, 3) := by decide +kernel
theorem dX4_ship_66 : decode cX4_ship 66 = .ok (.iload 7, 2) := by decide +kernel
theorem dX4_ship_68 : decode cX4_ship 68 = .ok (.iconst 1, 1) := by decide +kernel
theorem dX4_ship_69 : decode cX4_ship 69 = .ok (.bipush 60, 2) := by decide +kernel
theorem dX4_ship_71 : decode cX4_ship 71 = .ok (.invokestatic 57, 3) := by decide +kernel
theorem dX4_ship_74 : decode cX4_ship 74 = .ok (.ifCond .eq 12, 3) := by decide +kernel
theorem dX4_ship_77 : decode cX4_ship 77 = .ok (.aload_n 0, 1) := by decide +kernel
theorem dX4_ship_78 : decode cX4_ship 78 = .ok (.getfield 54, 3) := by decide +kernel
theorem dX4_ship_81 : decode cX4_ship 81 = .ok (.bipush 7, 2) := by decide +kernel
theorem dX4_ship_83 : decode cX4_ship 83 = .ok (.if_icmp .ne 5, 3) := by decide +kernel
theorem dX4_ship_86 : decode cX4_ship 86 = .ok (.iconst (-1), 1) := by decide +kernel
theorem dX4_ship_87 : decode cX4_ship 87 = .ok (.ireturn, 1) := by decide +kernel
theorem dX4_ship_88 : decode cX4_ship 88 = .ok (.bipush 7, 2) := by decide +kernel
theorem dX4_ship_90 : decode cX4_ship 90 = .ok (.newarray .int, 2) := by decide +kernel
theorem dX4_ship_92 : decode cX4_ship 92 = .ok (.dup, 1) := by decide +kernel
theorem dX4_ship_93 : decode cX4_ship 93 = .ok (.iconst 0, 1) := by decide +kernel
theorem dX4_ship_94 : decode cX4_ship 94 = .ok (.iload_n 1, 1) := by decide +kernel
theorem dX4_ship_95 : decode cX4_ship 95 = .ok (.iastore, 1) := by decide +kernel
theorem dX4_ship_96 : decode cX4_ship 96 = .ok (.dup, 1) := by decide +kernel
theorem dX4_ship_97 : decode cX4_ship 97 = .ok (.iconst 1, 1) := by decide +kernel
theorem dX4_ship_98 : decode cX4_ship 98 = .ok (.iload_n 2, 1) := by decide +kernel
theorem dX4_ship_99 : decode cX4_ship 99 = .ok (.iastore, 1) := by decide +kernel
theorem dX4_ship_100 : decode cX4_ship 100 = .ok (.dup, 1) := by decide +kernel
theorem dX4_ship_101 : decode cX4_ship 101 = .ok (.iconst 2, 1) := by decide +kernel
theorem dX4_ship_102 : decode cX4_ship 102 = .ok (.iload_n 3, 1) := by decide +kernel
theorem dX4_ship_103 : decode cX4_ship 103 = .ok (.iastore, 1) := by decide +kernel
theorem dX4_ship_104 : decode cX4_ship 104 = .ok (.dup, 1) := by decide +kernel
theorem dX4_ship_105 : decode cX4_ship 105 = .ok (.iconst 3, 1) := by decide +kernel
theorem dX4_ship_106 : decode cX4_ship 106 = .ok (.iload 4, 2) := by decide +kernel
theorem dX4_ship_108 : decode cX4_ship 108 = .ok (.iastore, 1) := by decide +kernel
theorem dX4_ship_109 : decode cX4_ship 109 = .ok (.dup, 1) := by decide +kernel
theorem dX4_ship_110 : decode cX4_ship 110 = .ok (.iconst 4, 1) := by decide +kernel
theorem dX4_ship_111 : decode cX4_ship 111 = .ok (.iload 5, 2) := by decide +kernel
theorem dX4_ship_113 : decode cX4_ship 113 = .ok (.iastore, 1) := by decide +kernel
theorem dX4_ship_114 : decode cX4_ship 114 = .ok (.dup, 1) := by decide +kernel
theorem dX4_ship_115 : decode cX4_ship 115 = .ok (.iconst 5, 1) := by decide +kernel
theorem dX4_ship_116 : decode cX4_ship 116 = .ok (.iload 6, 2) := by decide +kernel
theorem dX4_ship_118 : decode cX4_ship 118 = .ok (.iastore, 1) := by decide +kernel
theorem dX4_ship_119 : decode cX4_ship 119 = .ok (.dup, 1) := by decide +kernel
theorem dX4_ship_120 : decode cX4_ship 120 = .ok (.bipush 6, 2) := by decide +kernel
theorem dX4_ship_122 : decode cX4_ship 122 = .ok (.iload 7, 2) := by decide +kernel
theorem dX4_ship_124 : decode cX4_ship 124 = .ok (.iastore, 1) := by decide +kernel
theorem dX4_ship_125 : decode cX4_ship 125 = .ok (.astore 8, 2) := by decide +kernel
theorem dX4_ship_127 : decode cX4_ship 127 = .ok (.iconst 0, 1) := by decide +kernel
theorem dX4_ship_128 : decode cX4_ship 128 = .ok (.istore 9, 2) := by decide +kernel
theorem dX4_ship_130 : decode cX4_ship 130 = .ok (.iload 9, 2) := by decide +kernel
theorem dX4_ship_132 : decode cX4_ship 132 = .ok (.bipush 7, 2) := by decide +kernel
theorem dX4_ship_134 : decode cX4_ship 134 = .ok (.if_icmp .ge 29, 3) := by decide +kernel
theorem dX4_ship_137 : decode cX4_ship 137 = .ok (.aload_n 0, 1) := by decide +kernel
theorem dX4_ship_138 : decode cX4_ship 138 = .ok (.getfield 19, 3) := by decide +kernel
theorem dX4_ship_141 : decode cX4_ship 141 = .ok (.bipush 7, 2) := by decide +kernel
theorem dX4_ship_143 : decode cX4_ship 143 = .ok (.aload_n 0, 1) := by decide +kernel
theorem dX4_ship_144 : decode cX4_ship 144 = .ok (.getfield 54, 3) := by decide +kernel
theorem dX4_ship_147 : decode cX4_ship 147 = .ok (.imul, 1) := by decide +kernel
theorem dX4_ship_148 : decode cX4_ship 148 = .ok (.iload 9, 2) := by decide +kernel
theorem dX4_ship_150 : decode cX4_ship 150 = .ok (.iadd, 1) := by decide +kernel
theorem dX4_ship_151 : decode cX4_ship 151 = .ok (.aload 8, 2) := by decide +kernel
theorem dX4_ship_153 : decode cX4_ship 153 = .ok (.iload 9, 2) := by decide +kernel
theorem dX4_ship_155 : decode cX4_ship 155 = .ok (.iaload, 1) := by decide +kernel
theorem dX4_ship_156 : decode cX4_ship 156 = .ok (.iastore, 1) := by decide +kernel
theorem dX4_ship_157 : decode cX4_ship 157 = .ok (.iinc 9 1, 3) := by decide +kernel
theorem dX4_ship_160 : decode cX4_ship 160 = .ok (.goto (-30), 3) := by decide +kernel
theorem dX4_ship_163 : decode cX4_ship 163 = .ok (.aload_n 0, 1) := by decide +kernel
theorem dX4_ship_164 : decode cX4_ship 164 = .ok (.dup, 1) := by decide +kernel
theorem dX4_ship_165 : decode cX4_ship 165 = .ok (.getfield 54, 3) := by decide +kernel
theorem dX4_ship_168 : decode cX4_ship 168 = .ok (.iconst 1, 1) := by decide +kernel
theorem dX4_ship_169 : decode cX4_ship 169 = .ok (.iadd, 1) := by decide +kernel
theorem dX4_ship_170 : decode cX4_ship 170 = .ok (.putfield 54, 3) := by decide +kernel
theorem dX4_ship_173 : decode cX4_ship 173 = .ok (.aload_n 0, 1) := by decide +kernel
theorem dX4_ship_174 : decode cX4_ship 174 = .ok (.getfield 54, 3) := by decide +kernel
theorem dX4_ship_177 : decode cX4_ship 177 = .ok (.iconst 1, 1) := by decide +kernel
theorem dX4_ship_178 : decode cX4_ship 178 = .ok (.isub, 1) := by decide +kernel
theorem dX4_ship_179 : decode cX4_ship 179 = .ok (.ireturn, 1) := by decide +kernel
theorem dX4_quay_0 : decode cX4_quay 0 = .ok (.aload_n 0, 1) := by decide +kernel
theorem dX4_quay_1 : decode cX4_quay 1 = .ok (.iconst 0, 1) := by decide +kernel
theorem dX4_quay_2 : decode cX4_quay 2 = .ok (.putfield 50, 3) := by decide +kernel
theorem dX4_quay_5 : decode cX4_quay 5 = .ok (.iload_n 1, 1) := by decide +kernel
theorem dX4_quay_6 : decode cX4_quay 6 = .ok (.iconst 1, 1) := by decide +kernel
theorem dX4_quay_7 : decode cX4_quay 7 = .ok (.sipush 4000, 3) := by decide +kernel
theorem dX4_quay_10 : decode cX4_quay 10 = .ok (.invokestatic 57, 3) := by decide +kernel
theorem dX4_quay_13 : decode cX4_quay 13 = .ok (.ifCond .eq 44, 3) := by decide +kernel
theorem dX4_quay_16 : decode cX4_quay 16 = .ok (.iload_n 2, 1) := by decide +kernel
theorem dX4_quay_17 : decode cX4_quay 17 = .ok (.iconst 1, 1) := by decide +kernel
theorem dX4_quay_18 : decode cX4_quay 18 = .ok (.sipush 200, 3) := by decide +kernel
theorem dX4_quay_21 : decode cX4_quay 21 = .ok (.invokestatic 57, 3) := by decide +kernel
theorem dX4_quay_24 : decode cX4_quay 24 = .ok (.ifCond .eq 33, 3) := by decide +kernel
theorem dX4_quay_27 : decode cX4_quay 27 = .ok (.iload 4, 2) := by decide +kernel
theorem dX4_quay_29 : decode cX4_quay 29 = .ok (.iconst 0, 1) := by decide +kernel
theorem dX4_quay_30 : decode cX4_quay 30 = .ok (.bipush 10, 2) := by decide +kernel
theorem dX4_quay_32 : decode cX4_quay 32 = .ok (.invokestatic 57, 3) := by decide +kernel
theorem dX4_quay_35 : decode cX4_quay 35 = .ok (.ifCond .eq 22, 3) := by decide +kernel
theorem dX4_quay_38 : decode cX4_quay 38 = .ok (.iload 5, 2) := by decide +kernel
theorem dX4_quay_40 : decode cX4_quay 40 = .ok (.iconst 0, 1) := by decide +kernel
theorem dX4_quay_41 : decode cX4_quay 41 = .ok (.bipush 120, 2) := by decide +kernel
theorem dX4_quay_43 : decode cX4_quay 43 = .ok (.invokestatic 57, 3) := by decide +kernel
theorem dX4_quay_46 : decode cX4_quay 46 = .ok (.ifCond .eq 11, 3) := by decide +kernel
theorem dX4_quay_49 : decode cX4_quay 49 = .ok (.aload_n 0, 1) := by decide +kernel
theorem dX4_quay_50 : decode cX4_quay 50 = .ok (.getfield 61, 3) := by decide +kernel
theorem dX4_quay_53 : decode cX4_quay 53 = .ok (.iconst 4, 1) := by decide +kernel
theorem dX4_quay_54 : decode cX4_quay 54 = .ok (.if_icmp .ne 5, 3) := by decide +kernel
theorem dX4_quay_57 : decode cX4_quay 57 = .ok (.iconst (-1), 1) := by decide +kernel
theorem dX4_quay_58 : decode cX4_quay 58 = .ok (.ireturn, 1) := by decide +kernel
theorem dX4_quay_59 : decode cX4_quay 59 = .ok (.iconst 5, 1) := by decide +kernel
theorem dX4_quay_60 : decode cX4_quay 60 = .ok (.newarray .int, 2) := by decide +kernel
theorem dX4_quay_62 : decode cX4_quay 62 = .ok (.dup, 1) := by decide +kernel
theorem dX4_quay_63 : decode cX4_quay 63 = .ok (.iconst 0, 1) := by decide +kernel
theorem dX4_quay_64 : decode cX4_quay 64 = .ok (.iload_n 1, 1) := by decide +kernel
theorem dX4_quay_65 : decode cX4_quay 65 = .ok (.iastore, 1) := by decide +kernel
theorem dX4_quay_66 : decode cX4_quay 66 = .ok (.dup, 1) := by decide +kernel
theorem dX4_quay_67 : decode cX4_quay 67 = .ok (.iconst 1, 1) := by decide +kernel
theorem dX4_quay_68 : decode cX4_quay 68 = .ok (.iload_n 2, 1) := by decide +kernel
theorem dX4_quay_69 : decode cX4_quay 69 = .ok (.iastore, 1) := by decide +kernel
theorem dX4_quay_70 : decode cX4_quay 70 = .ok (.dup, 1) := by decide +kernel
theorem dX4_quay_71 : decode cX4_quay 71 = .ok (.iconst 2, 1) := by decide +kernel
theorem dX4_quay_72 : decode cX4_quay 72 = .ok (.iload_n 3, 1) := by decide +kernel
theorem dX4_quay_73 : decode cX4_quay 73 = .ok (.ifCond .eq 7, 3) := by decide +kernel
theorem dX4_quay_76 : decode cX4_quay 76 = .ok (.iconst 1, 1) := by decide +kernel
theorem dX4_quay_77 : decode cX4_quay 77 = .ok (.goto 4, 3) := by decide +kernel
theorem dX4_quay_80 : decode cX4_quay 80 = .ok (.iconst 0, 1) := by decide +kernel
theorem dX4_quay_81 : decode cX4_quay 81 = .ok (.iastore, 1) := by decide +kernel
theorem dX4_quay_82 : decode cX4_quay 82 = .ok (.dup, 1) := by decide +kernel
theorem dX4_quay_83 : decode cX4_quay 83 = .ok (.iconst 3, 1) := by decide +kernel
theorem dX4_quay_84 : decode cX4_quay 84 = .ok (.iload 4, 2) := by decide +kernel
theorem dX4_quay_86 : decode cX4_quay 86 = .ok (.iastore, 1) := by decide +kernel
theorem dX4_quay_87 : decode cX4_quay 87 = .ok (.dup, 1) := by decide +kernel
theorem dX4_quay_88 : decode cX4_quay 88 = .ok (.iconst 4, 1) := by decide +kernel
theorem dX4_quay_89 : decode cX4_quay 89 = .ok (.iload 5, 2) := by decide +kernel
theorem dX4_quay_91 : decode cX4_quay 91 = .ok (.iastore, 1) := by decide +kernel
theorem dX4_quay_92 : decode cX4_quay 92 = .ok (.astore 6, 2) := by decide +kernel
theorem dX4_quay_94 : decode cX4_quay 94 = .ok (.iconst 0, 1) := by decide +kernel
theorem dX4_quay_95 : decode cX4_quay 95 = .ok (.istore 7, 2) := by decide +kernel
theorem dX4_quay_97 : decode cX4_quay 97 = .ok (.iload 7, 2) := by decide +kernel
theorem dX4_quay_99 : decode cX4_quay 99 = .ok (.iconst 5, 1) := by decide +kernel
theorem dX4_quay_100 : decode cX4_quay 100 = .ok (.if_icmp .ge 28, 3) := by decide +kernel
theorem dX4_quay_103 : decode cX4_quay 103 = .ok (.aload_n 0, 1) := by decide +kernel
theorem dX4_quay_104 : decode cX4_quay 104 = .ok (.getfield 22, 3) := by decide +kernel
theorem dX4_quay_107 : decode cX4_quay 107 = .ok (.iconst 5, 1) := by decide +kernel
theorem dX4_quay_108 : decode cX4_quay 108 = .ok (.aload_n 0, 1) := by decide +kernel
theorem dX4_quay_109 : decode cX4_quay 109 = .ok (.getfield 61, 3) := by decide +kernel
theorem dX4_quay_112 : decode cX4_quay 112 = .ok (.imul, 1) := by decide +kernel
theorem dX4_quay_113 : decode cX4_quay 113 = .ok (.iload 7, 2) := by decide +kernel
theorem dX4_quay_115 : decode cX4_quay 115 = .ok (.iadd, 1) := by decide +kernel
theorem dX4_quay_116 : decode cX4_quay 116 = .ok (.aload 6, 2) := by decide +kernel
theorem dX4_quay_118 : decode cX4_quay 118 = .ok (.iload 7, 2) := by decide +kernel
theorem dX4_quay_120 : decode cX4_quay 120 = .ok (.iaload, 1) := by decide +kernel
theorem dX4_quay_121 : decode cX4_quay 121 = .ok (.iastore, 1) := by decide +kernel
theorem dX4_quay_122 : decode cX4_quay 122 = .ok (.iinc 7 1, 3) := by decide +kernel
theorem dX4_quay_125 : decode cX4_quay 125 = .ok (.goto (-28), 3) := by decide +kernel
theorem dX4_quay_128 : decode cX4_quay 128 = .ok (.aload_n 0, 1) := by decide +kernel
theorem dX4_quay_129 : decode cX4_quay 129 = .ok (.dup, 1) := by decide +kernel
theorem dX4_quay_130 : decode cX4_quay 130 = .ok (.getfield 61, 3) := by decide +kernel
theorem dX4_quay_133 : decode cX4_quay 133 = .ok (.iconst 1, 1) := by decide +kernel
theorem dX4_quay_134 : decode cX4_quay 134 = .ok (.iadd, 1) := by decide +kernel
theorem dX4_quay_135 : decode cX4_quay 135 = .ok (.putfield 61, 3) := by decide +kernel
theorem dX4_quay_138 : decode cX4_quay 138 = .ok (.aload_n 0, 1) := by decide +kernel
theorem dX4_quay_139 : decode cX4_quay 139 = .ok (.getfield 61, 3) := by decide +kernel
theorem dX4_quay_142 : decode cX4_quay 142 = .ok (.iconst 1, 1) := by decide +kernel
theorem dX4_quay_143 : decode cX4_quay 143 = .ok (.isub, 1) := by decide +kernel
theorem dX4_quay_144 : decode cX4_quay 144 = .ok (.ireturn, 1) := by decide +kernel
theorem dX4_foul_0 : decode cX4_foul 0 = .ok (.aload_n 0, 1) := by decide +kernel
theorem dX4_foul_1 : decode cX4_foul 1 = .ok (.iconst 0, 1) := by decide +kernel
theorem dX4_foul_2 : decode cX4_foul 2 = .ok (.putfield 50, 3) := by decide +kernel
theorem dX4_foul_5 : decode cX4_foul 5 = .ok (.aload_n 0, 1) := by decide +kernel
theorem dX4_foul_6 : decode cX4_foul 6 = .ok (.iload_n 1, 1) := by decide +kernel
theorem dX4_foul_7 : decode cX4_foul 7 = .ok (.invokevirtual 72, 3) := by decide +kernel
theorem dX4_foul_10 : decode cX4_foul 10 = .ok (.ifCond .eq 16, 3) := by decide +kernel
theorem dX4_foul_13 : decode cX4_foul 13 = .ok (.aload_n 0, 1) := by decide +kernel
theorem dX4_foul_14 : decode cX4_foul 14 = .ok (.iload_n 2, 1) := by decide +kernel
theorem dX4_foul_15 : decode cX4_foul 15 = .ok (.invokevirtual 72, 3) := by decide +kernel
theorem dX4_foul_18 : decode cX4_foul 18 = .ok (.ifCond .eq 8, 3) := by decide +kernel
theorem dX4_foul_21 : decode cX4_foul 21 = .ok (.iload_n 1, 1) := by decide +kernel
theorem dX4_foul_22 : decode cX4_foul 22 = .ok (.iload_n 2, 1) := by decide +kernel
theorem dX4_foul_23 : decode cX4_foul 23 = .ok (.if_icmp .ne 5, 3) := by decide +kernel
theorem dX4_foul_26 : decode cX4_foul 26 = .ok (.iconst 0, 1) := by decide +kernel
theorem dX4_foul_27 : decode cX4_foul 27 = .ok (.ireturn, 1) := by decide +kernel
theorem dX4_foul_28 : decode cX4_foul 28 = .ok (.aload_n 0, 1) := by decide +kernel
theorem dX4_foul_29 : decode cX4_foul 29 = .ok (.getfield 25, 3) := by decide +kernel
theorem dX4_foul_32 : decode cX4_foul 32 = .ok (.bipush 7, 2) := by decide +kernel
theorem dX4_foul_34 : decode cX4_foul 34 = .ok (.iload_n 1, 1) := by decide +kernel
theorem dX4_foul_35 : decode cX4_foul 35 = .ok (.imul, 1) := by decide +kernel
theorem dX4_foul_36 : decode cX4_foul 36 = .ok (.iload_n 2, 1) := by decide +kernel
theorem dX4_foul_37 : decode cX4_foul 37 = .ok (.iadd, 1) := by decide +kernel
theorem dX4_foul_38 : decode cX4_foul 38 = .ok (.iload_n 3, 1) := by decide +kernel
theorem dX4_foul_39 : decode cX4_foul 39 = .ok (.bastore, 1) := by decide +kernel
theorem dX4_foul_40 : decode cX4_foul 40 = .ok (.aload_n 0, 1) := by decide +kernel
theorem dX4_foul_41 : decode cX4_foul 41 = .ok (.getfield 25, 3) := by decide +kernel
theorem dX4_foul_44 : decode cX4_foul 44 = .ok (.bipush 7, 2) := by decide +kernel
theorem dX4_foul_46 : decode cX4_foul 46 = .ok (.iload_n 2, 1) := by decide +kernel
theorem dX4_foul_47 : decode cX4_foul 47 = .ok (.imul, 1) := by decide +kernel
theorem dX4_foul_48 : decode cX4_foul 48 = .ok (.iload_n 1, 1) := by decide +kernel
theorem dX4_foul_49 : decode cX4_foul 49 = .ok (.iadd, 1) := by decide +kernel
theorem dX4_foul_50 : decode cX4_foul 50 = .ok (.iload_n 3, 1) := by decide +kernel
theorem dX4_foul_51 : decode cX4_foul 51 = .ok (.bastore, 1) := by decide +kernel
theorem dX4_foul_52 : decode cX4_foul 52 = .ok (.iconst 1, 1) := by decide +kernel
theorem dX4_foul_53 : decode cX4_foul 53 = .ok (.ireturn, 1) := by decide +kernel
theorem dX4_arrives_0 : decode cX4_arrives 0 = .ok (.aload_n 0, 1) := by decide +kernel
theorem dX4_arrives_1 : decode cX4_arrives 1 = .ok (.iconst 0, 1) := by decide +kernel
theorem dX4_arrives_2 : decode cX4_arrives 2 = .ok (.putfield 50, 3) := by decide +kernel
theorem dX4_arrives_5 : decode cX4_arrives 5 = .ok (.aload_n 0, 1) := by decide +kernel
theorem dX4_arrives_6 : decode cX4_arrives 6 = .ok (.iload_n 1, 1) := by decide +kernel
theorem dX4_arrives_7 : decode cX4_arrives 7 = .ok (.invokevirtual 72, 3) := by decide +kernel
theorem dX4_arrives_10 : decode cX4_arrives 10 = .ok (.ifCond .eq 10, 3) := by decide +kernel
theorem dX4_arrives_13 : decode cX4_arrives 13 = .ok (.iload_n 2, 1) := by decide +kernel
theorem dX4_arrives_14 : decode cX4_arrives 14 = .ok (.invokestatic 68, 3) := by decide +kernel
theorem dX4_arrives_17 : decode cX4_arrives 17 = .ok (.ifCond .ne 5, 3) := by decide +kernel
theorem dX4_arrives_20 : decode cX4_arrives 20 = .ok (.iconst (-1), 1) := by decide +kernel
theorem dX4_arrives_21 : decode cX4_arrives 21 = .ok (.ireturn, 1) := by decide +kernel
theorem dX4_arrives_22 : decode cX4_arrives 22 = .ok (.aload_n 0, 1) := by decide +kernel
theorem dX4_arrives_23 : decode cX4_arrives 23 = .ok (.getfield 19, 3) := by decide +kernel
theorem dX4_arrives_26 : decode cX4_arrives 26 = .ok (.bipush 7, 2) := by decide +kernel
theorem dX4_arrives_28 : decode cX4_arrives 28 = .ok (.iload_n 1, 1) := by decide +kernel
theorem dX4_arrives_29 : decode cX4_arrives 29 = .ok (.imul, 1) := by decide +kernel
theorem dX4_arrives_30 : decode cX4_arrives 30 = .ok (.iconst 5, 1) := by decide +kernel
theorem dX4_arrives_31 : decode cX4_arrives 31 = .ok (.iadd, 1) := by decide +kernel
theorem dX4_arrives_32 : decode cX4_arrives 32 = .ok (.iaload, 1) := by decide +kernel
theorem dX4_arrives_33 : decode cX4_arrives 33 = .ok (.istore_n 3, 1) := by decide +kernel
theorem dX4_arrives_34 : decode cX4_arrives 34 = .ok (.aload_n 0, 1) := by decide +kernel
theorem dX4_arrives_35 : decode cX4_arrives 35 = .ok (.getfield 19, 3) := by decide +kernel
theorem dX4_arrives_38 : decode cX4_arrives 38 = .ok (.bipush 7, 2) := by decide +kernel
theorem dX4_arrives_40 : decode cX4_arrives 40 = .ok (.iload_n 1, 1) := by decide +kernel
theorem dX4_arrives_41 : decode cX4_arrives 41 = .ok (.imul, 1) := by decide +kernel
theorem dX4_arrives_42 : decode cX4_arrives 42 = .ok (.iconst 5, 1) := by decide +kernel
theorem dX4_arrives_43 : decode cX4_arrives 43 = .ok (.iadd, 1) := by decide +kernel
theorem dX4_arrives_44 : decode cX4_arrives 44 = .ok (.iload_n 2, 1) := by decide +kernel
theorem dX4_arrives_45 : decode cX4_arrives 45 = .ok (.iastore, 1) := by decide +kernel
theorem dX4_arrives_46 : decode cX4_arrives 46 = .ok (.iload_n 3, 1) := by decide +kernel
theorem dX4_arrives_47 : decode cX4_arrives 47 = .ok (.ireturn, 1) := by decide +kernel
theorem dX4_least_0 : decode cX4_least 0 = .ok (.aload_n 0, 1) := by decide +kernel
theorem dX4_least_1 : decode cX4_least 1 = .ok (.getfield 7, 3) := by decide +kernel
theorem dX4_least_4 : decode cX4_least 4 = .ok (.iconst 0, 1) := by decide +kernel
theorem dX4_least_5 : decode cX4_least 5 = .ok (.iaload, 1) := by decide +kernel
theorem dX4_least_6 : decode cX4_least 6 = .ok (.istore_n 1, 1) := by decide +kernel
theorem dX4_least_7 : decode cX4_least 7 = .ok (.iconst 1, 1) := by decide +kernel
theorem dX4_least_8 : decode cX4_least 8 = .ok (.istore_n 2, 1) := by decide +kernel
theorem dX4_least_9 : decode cX4_least 9 = .ok (.iload_n 2, 1) := by decide +kernel
theorem dX4_least_10 : decode cX4_least 10 = .ok (.bipush 12, 2) := by decide +kernel
theorem dX4_least_12 : decode cX4_least 12 = .ok (.if_icmp .ge 30, 3) := by decide +kernel
theorem dX4_least_15 : decode cX4_least 15 = .ok (.aload_n 0, 1) := by decide +kernel
theorem dX4_least_16 : decode cX4_least 16 = .ok (.getfield 7, 3) := by decide +kernel
theorem dX4_least_19 : decode cX4_least 19 = .ok (.iload_n 2, 1) := by decide +kernel
theorem dX4_least_20 : decode cX4_least 20 = .ok (.iaload, 1) := by decide +kernel
theorem dX4_least_21 : decode cX4_least 21 = .ok (.iload_n 1, 1) := by decide +kernel
theorem dX4_least_22 : decode cX4_least 22 = .ok (.if_icmp .ge 12, 3) := by decide +kernel
theorem dX4_least_25 : decode cX4_least 25 = .ok (.aload_n 0, 1) := by decide +kernel
theorem dX4_least_26 : decode cX4_least 26 = .ok (.getfield 7, 3) := by decide +kernel
theorem dX4_least_29 : decode cX4_least 29 = .ok (.iload_n 2, 1) := by decide +kernel
theorem dX4_least_30 : decode cX4_least 30 = .ok (.iaload, 1) := by decide +kernel
theorem dX4_least_31 : decode cX4_least 31 = .ok (.goto 4, 3) := by decide +kernel
theorem dX4_least_34 : decode cX4_least 34 = .ok (.iload_n 1, 1) := by decide +kernel
theorem dX4_least_35 : decode cX4_least 35 = .ok (.istore_n 1, 1) := by decide +kernel
theorem dX4_least_36 : decode cX4_least 36 = .ok (.iinc 2 1, 3) := by decide +kernel
theorem dX4_least_39 : decode cX4_least 39 = .ok (.goto (-30), 3) := by decide +kernel
theorem dX4_least_42 : decode cX4_least 42 = .ok (.iload_n 1, 1) := by decide +kernel
theorem dX4_least_43 : decode cX4_least 43 = .ok (.ireturn, 1) := by decide +kernel
theorem dX4_greatest_0 : decode cX4_greatest 0 = .ok (.aload_n 0, 1) := by decide +kernel
theorem dX4_greatest_1 : decode cX4_greatest 1 = .ok (.getfield 7, 3) := by decide +kernel
theorem dX4_greatest_4 : decode cX4_greatest 4 = .ok (.iconst 0, 1) := by decide +kernel
theorem dX4_greatest_5 : decode cX4_greatest 5 = .ok (.iaload, 1) := by decide +kernel
theorem dX4_greatest_6 : decode cX4_greatest 6 = .ok (.istore_n 1, 1) := by decide +kernel
theorem dX4_greatest_7 : decode cX4_greatest 7 = .ok (.iconst 1, 1) := by decide +kernel
theorem dX4_greatest_8 : decode cX4_greatest 8 = .ok (.istore_n 2, 1) := by decide +kernel
theorem dX4_greatest_9 : decode cX4_greatest 9 = .ok (.iload_n 2, 1) := by decide +kernel
theorem dX4_greatest_10 : decode cX4_greatest 10 = .ok (.bipush 12, 2) := by decide +kernel
theorem dX4_greatest_12 : decode cX4_greatest 12 = .ok (.if_icmp .ge 30, 3) := by decide +kernel
theorem dX4_greatest_15 : decode cX4_greatest 15 = .ok (.aload_n 0, 1) := by decide +kernel
theorem dX4_greatest_16 : decode cX4_greatest 16 = .ok (.getfield 7, 3) := by decide +kernel
theorem dX4_greatest_19 : decode cX4_greatest 19 = .ok (.iload_n 2, 1) := by decide +kernel
theorem dX4_greatest_20 : decode cX4_greatest 20 = .ok (.iaload, 1) := by decide +kernel
theorem dX4_greatest_21 : decode cX4_greatest 21 = .ok (.iload_n 1, 1) := by decide +kernel
theorem dX4_greatest_22 : decode cX4_greatest 22 = .ok (.if_icmp .le 12, 3) := by decide +kernel
theorem dX4_greatest_25 : decode cX4_greatest 25 = .ok (.aload_n 0, 1) := by decide +kernel
theorem dX4_greatest_26 : decode cX4_greatest 26 = .ok (.getfield 7, 3) := by decide +kernel
theorem dX4_greatest_29 : decode cX4_greatest 29 = .ok (.iload_n 2, 1) := by decide +kernel
theorem dX4_greatest_30 : decode cX4_greatest 30 = .ok (.iaload, 1) := by decide +kernel
theorem dX4_greatest_31 : decode cX4_greatest 31 = .ok (.goto 4, 3) := by decide +kernel
theorem dX4_greatest_34 : decode cX4_greatest 34 = .ok (.iload_n 1, 1) := by decide +kernel
theorem dX4_greatest_35 : decode cX4_greatest 35 = .ok (.istore_n 1, 1) := by decide +kernel
theorem dX4_greatest_36 : decode cX4_greatest 36 = .ok (.iinc 2 1, 3) := by decide +kernel
theorem dX4_greatest_39 : decode cX4_greatest 39 = .ok (.goto (-30), 3) := by decide +kernel
theorem dX4_greatest_42 : decode cX4_greatest 42 = .ok (.iload_n 1, 1) := by decide +kernel
theorem dX4_greatest_43 : decode cX4_greatest 43 = .ok (.ireturn, 1) := by decide +kernel
theorem dX4_level_0 : decode cX4_level 0 = .ok (.aload_n 0, 1) := by decide +kernel
theorem dX4_level_1 : decode cX4_level 1 = .ok (.getfield 7, 3) := by decide +kernel
theorem dX4_level_4 : decode cX4_level 4 = .ok (.iload_n 1, 1) := by decide +kernel
theorem dX4_level_5 : decode cX4_level 5 = .ok (.bipush 12, 2) := by decide +kernel
theorem dX4_level_7 : decode cX4_level 7 = .ok (.irem, 1) := by decide +kernel
theorem dX4_level_8 : decode cX4_level 8 = .ok (.iaload, 1) := by decide +kernel
theorem dX4_level_9 : decode cX4_level 9 = .ok (.ireturn, 1) := by decide +kernel
theorem dX4_comes_0 : decode cX4_comes 0 = .ok (.aload_n 0, 1) := by decide +kernel
theorem dX4_comes_1 : decode cX4_comes 1 = .ok (.getfield 13, 3) := by decide +kernel
theorem dX4_comes_4 : decode cX4_comes 4 = .ok (.iconst 0, 1) := by decide +kernel
theorem dX4_comes_5 : decode cX4_comes 5 = .ok (.iaload, 1) := by decide +kernel
theorem dX4_comes_6 : decode cX4_comes 6 = .ok (.aload_n 0, 1) := by decide +kernel
theorem dX4_comes_7 : decode cX4_comes 7 = .ok (.iload_n 2, 1) := by decide +kernel
theorem dX4_comes_8 : decode cX4_comes 8 = .ok (.invokevirtual 75, 3) := by decide +kernel
theorem dX4_comes_11 : decode cX4_comes 11 = .ok (.iadd, 1) := by decide +kernel
theorem dX4_comes_12 : decode cX4_comes 12 = .ok (.aload_n 0, 1) := by decide +kernel
theorem dX4_comes_13 : decode cX4_comes 13 = .ok (.getfield 19, 3) := by decide +kernel
theorem dX4_comes_16 : decode cX4_comes 16 = .ok (.bipush 7, 2) := by decide +kernel
theorem dX4_comes_18 : decode cX4_comes 18 = .ok (.iload_n 1, 1) := by decide +kernel
theorem dX4_comes_19 : decode cX4_comes 19 = .ok (.imul, 1) := by decide +kernel
theorem dX4_comes_20 : decode cX4_comes 20 = .ok (.iconst 1, 1) := by decide +kernel
theorem dX4_comes_21 : decode cX4_comes 21 = .ok (.iadd, 1) := by decide +kernel
theorem dX4_comes_22 : decode cX4_comes 22 = .ok (.iaload, 1) := by decide +kernel
theorem dX4_comes_23 : decode cX4_comes 23 = .ok (.aload_n 0, 1) := by decide +kernel
theorem dX4_comes_24 : decode cX4_comes 24 = .ok (.getfield 13, 3) := by decide +kernel
theorem dX4_comes_27 : decode cX4_comes 27 = .ok (.iconst 2, 1) := by decide +kernel
theorem dX4_comes_28 : decode cX4_comes 28 = .ok (.iaload, 1) := by decide +kernel
theorem dX4_comes_29 : decode cX4_comes 29 = .ok (.iadd, 1) := by decide +kernel
theorem dX4_comes_30 : decode cX4_comes 30 = .ok (.if_icmp .ge 5, 3) := by decide +kernel
theorem dX4_comes_33 : decode cX4_comes 33 = .ok (.iconst 0, 1) := by decide +kernel
theorem dX4_comes_34 : decode cX4_comes 34 = .ok (.ireturn, 1) := by decide +kernel
theorem dX4_comes_35 : decode cX4_comes 35 = .ok (.iload_n 3, 1) := by decide +kernel
theorem dX4_comes_36 : decode cX4_comes 36 = .ok (.ifCond .eq 36, 3) := by decide +kernel
theorem dX4_comes_39 : decode cX4_comes 39 = .ok (.aload_n 0, 1) := by decide +kernel
theorem dX4_comes_40 : decode cX4_comes 40 = .ok (.getfield 19, 3) := by decide +kernel
theorem dX4_comes_43 : decode cX4_comes 43 = .ok (.bipush 7, 2) := by decide +kernel
theorem dX4_comes_45 : decode cX4_comes 45 = .ok (.iload_n 1, 1) := by decide +kernel
theorem dX4_comes_46 : decode cX4_comes 46 = .ok (.imul, 1) := by decide +kernel
theorem dX4_comes_47 : decode cX4_comes 47 = .ok (.iconst 2, 1) := by decide +kernel
theorem dX4_comes_48 : decode cX4_comes 48 = .ok (.iadd, 1) := by decide +kernel
theorem dX4_comes_49 : decode cX4_comes 49 = .ok (.iaload, 1) := by decide +kernel
theorem dX4_comes_50 : decode cX4_comes 50 = .ok (.aload_n 0, 1) := by decide +kernel
theorem dX4_comes_51 : decode cX4_comes 51 = .ok (.iload_n 2, 1) := by decide +kernel
theorem dX4_comes_52 : decode cX4_comes 52 = .ok (.invokevirtual 75, 3) := by decide +kernel
theorem dX4_comes_55 : decode cX4_comes 55 = .ok (.iadd, 1) := by decide +kernel
theorem dX4_comes_56 : decode cX4_comes 56 = .ok (.aload_n 0, 1) := by decide +kernel
theorem dX4_comes_57 : decode cX4_comes 57 = .ok (.getfield 13, 3) := by decide +kernel
theorem dX4_comes_60 : decode cX4_comes 60 = .ok (.iconst 2, 1) := by decide +kernel
theorem dX4_comes_61 : decode cX4_comes 61 = .ok (.iaload, 1) := by decide +kernel
theorem dX4_comes_62 : decode cX4_comes 62 = .ok (.iadd, 1) := by decide +kernel
theorem dX4_comes_63 : decode cX4_comes 63 = .ok (.aload_n 0, 1) := by decide +kernel
theorem dX4_comes_64 : decode cX4_comes 64 = .ok (.getfield 13, 3) := by decide +kernel
theorem dX4_comes_67 : decode cX4_comes 67 = .ok (.iconst 1, 1) := by decide +kernel
theorem dX4_comes_68 : decode cX4_comes 68 = .ok (.iaload, 1) := by decide +kernel
theorem dX4_comes_69 : decode cX4_comes 69 = .ok (.if_icmp .gt 7, 3) := by decide +kernel
theorem dX4_comes_72 : decode cX4_comes 72 = .ok (.iconst 1, 1) := by decide +kernel
theorem dX4_comes_73 : decode cX4_comes 73 = .ok (.goto 4, 3) := by decide +kernel
theorem dX4_comes_76 : decode cX4_comes 76 = .ok (.iconst 0, 1) := by decide +kernel
theorem dX4_comes_77 : decode cX4_comes 77 = .ok (.ireturn, 1) := by decide +kernel
theorem dX4_firstFor_0 : decode cX4_firstFor 0 = .ok (.iload_n 2, 1) := by decide +kernel
theorem dX4_firstFor_1 : decode cX4_firstFor 1 = .ok (.istore 4, 2) := by decide +kernel
theorem dX4_firstFor_3 : decode cX4_firstFor 3 = .ok (.iload 4, 2) := by decide +kernel
theorem dX4_firstFor_5 : decode cX4_firstFor 5 = .ok (.bipush 120, 2) := by decide +kernel
theorem dX4_firstFor_7 : decode cX4_firstFor 7 = .ok (.if_icmp .ge 23, 3) := by decide +kernel
theorem dX4_firstFor_10 : decode cX4_firstFor 10 = .ok (.aload_n 0, 1) := by decide +kernel
theorem dX4_firstFor_11 : decode cX4_firstFor 11 = .ok (.iload_n 1, 1) := by decide +kernel
theorem dX4_firstFor_12 : decode cX4_firstFor 12 = .ok (.iload 4, 2) := by decide +kernel
theorem dX4_firstFor_14 : decode cX4_firstFor 14 = .ok (.iload_n 3, 1) := by decide +kernel
theorem dX4_firstFor_15 : decode cX4_firstFor 15 = .ok (.invokevirtual 78, 3) := by decide +kernel
theorem dX4_firstFor_18 : decode cX4_firstFor 18 = .ok (.ifCond .eq 6, 3) := by decide +kernel
theorem dX4_firstFor_21 : decode cX4_firstFor 21 = .ok (.iload 4, 2) := by decide +kernel
theorem dX4_firstFor_23 : decode cX4_firstFor 23 = .ok (.ireturn, 1) := by decide +kernel
theorem dX4_firstFor_24 : decode cX4_firstFor 24 = .ok (.iinc 4 1, 3) := by decide +kernel
theorem dX4_firstFor_27 : decode cX4_firstFor 27 = .ok (.goto (-24), 3) := by decide +kernel
theorem dX4_firstFor_30 : decode cX4_firstFor 30 = .ok (.iconst (-1), 1) := by decide +kernel
theorem dX4_firstFor_31 : decode cX4_firstFor 31 = .ok (.ireturn, 1) := by decide +kernel
theorem dX4_first_0 : decode cX4_first 0 = .ok (.aload_n 0, 1) := by decide +kernel
theorem dX4_first_1 : decode cX4_first 1 = .ok (.iconst 0, 1) := by decide +kernel
theorem dX4_first_2 : decode cX4_first 2 = .ok (.putfield 50, 3) := by decide +kernel
theorem dX4_first_5 : decode cX4_first 5 = .ok (.aload_n 0, 1) := by decide +kernel
theorem dX4_first_6 : decode cX4_first 6 = .ok (.iload_n 1, 1) := by decide +kernel
theorem dX4_first_7 : decode cX4_first 7 = .ok (.invokevirtual 72, 3) := by decide +kernel
theorem dX4_first_10 : decode cX4_first 10 = .ok (.ifCond .eq 38, 3) := by decide +kernel
theorem dX4_first_13 : decode cX4_first 13 = .ok (.iload_n 2, 1) := by decide +kernel
theorem dX4_first_14 : decode cX4_first 14 = .ok (.invokestatic 68, 3) := by decide +kernel
theorem dX4_first_17 : decode cX4_first 17 = .ok (.ifCond .eq 31, 3) := by decide +kernel
theorem dX4_first_20 : decode cX4_first 20 = .ok (.iload_n 3, 1) := by decide +kernel
theorem dX4_first_21 : decode cX4_first 21 = .ok (.iconst 0, 1) := by decide +kernel
theorem dX4_first_22 : decode cX4_first 22 = .ok (.iconst 1, 1) := by decide +kernel
theorem dX4_first_23 : decode cX4_first 23 = .ok (.invokestatic 57, 3) := by decide +kernel
theorem dX4_first_26 : decode cX4_first 26 = .ok (.ifCond .eq 22, 3) := by decide +kernel
theorem dX4_first_29 : decode cX4_first 29 = .ok (.aload_n 0, 1) := by decide +kernel
theorem dX4_first_30 : decode cX4_first 30 = .ok (.iload_n 1, 1) := by decide +kernel
theorem dX4_first_31 : decode cX4_first 31 = .ok (.iload_n 2, 1) := by decide +kernel
theorem dX4_first_32 : decode cX4_first 32 = .ok (.iload_n 3, 1) := by decide +kernel
theorem dX4_first_33 : decode cX4_first 33 = .ok (.iconst 1, 1) := by decide +kernel
theorem dX4_first_34 : decode cX4_first 34 = .ok (.if_icmp .ne 7, 3) := by decide +kernel
theorem dX4_first_37 : decode cX4_first 37 = .ok (.iconst 1, 1) := by decide +kernel
theorem dX4_first_38 : decode cX4_first 38 = .ok (.goto 4, 3) := by decide +kernel
theorem dX4_first_41 : decode cX4_first 41 = .ok (.iconst 0, 1) := by decide +kernel
theorem dX4_first_42 : decode cX4_first 42 = .ok (.invokevirtual 82, 3) := by decide +kernel
theorem dX4_first_45 : decode cX4_first 45 = .ok (.goto 4, 3) := by decide +kernel
theorem dX4_first_48 : decode cX4_first 48 = .ok (.iconst (-1), 1) := by decide +kernel
theorem dX4_first_49 : decode cX4_first 49 = .ok (.ireturn, 1) := by decide +kernel
theorem dX4_isAbove_0 : decode cX4_isAbove 0 = .ok (.aload_n 0, 1) := by decide +kernel
theorem dX4_isAbove_1 : decode cX4_isAbove 1 = .ok (.getfield 22, 3) := by decide +kernel
theorem dX4_isAbove_4 : decode cX4_isAbove 4 = .ok (.iconst 5, 1) := by decide +kernel
theorem dX4_isAbove_5 : decode cX4_isAbove 5 = .ok (.iload_n 1, 1) := by decide +kernel
theorem dX4_isAbove_6 : decode cX4_isAbove 6 = .ok (.imul, 1) := by decide +kernel
theorem dX4_isAbove_7 : decode cX4_isAbove 7 = .ok (.iconst 2, 1) := by decide +kernel
theorem dX4_isAbove_8 : decode cX4_isAbove 8 = .ok (.iadd, 1) := by decide +kernel
theorem dX4_isAbove_9 : decode cX4_isAbove 9 = .ok (.iaload, 1) := by decide +kernel
theorem dX4_isAbove_10 : decode cX4_isAbove 10 = .ok (.iconst 1, 1) := by decide +kernel
theorem dX4_isAbove_11 : decode cX4_isAbove 11 = .ok (.if_icmp .ne 7, 3) := by decide +kernel
theorem dX4_isAbove_14 : decode cX4_isAbove 14 = .ok (.iconst 1, 1) := by decide +kernel
theorem dX4_isAbove_15 : decode cX4_isAbove 15 = .ok (.goto 4, 3) := by decide +kernel
theorem dX4_isAbove_18 : decode cX4_isAbove 18 = .ok (.iconst 0, 1) := by decide +kernel
theorem dX4_isAbove_19 : decode cX4_isAbove 19 = .ok (.ireturn, 1) := by decide +kernel
theorem dX4_whyNot_0 : decode cX4_whyNot 0 = .ok (.aload_n 0, 1) := by decide +kernel
theorem dX4_whyNot_1 : decode cX4_whyNot 1 = .ok (.getfield 22, 3) := by decide +kernel
theorem dX4_whyNot_4 : decode cX4_whyNot 4 = .ok (.iconst 5, 1) := by decide +kernel
theorem dX4_whyNot_5 : decode cX4_whyNot 5 = .ok (.iload_n 2, 1) := by decide +kernel
theorem dX4_whyNot_6 : decode cX4_whyNot 6 = .ok (.imul, 1) := by decide +kernel
theorem dX4_whyNot_7 : decode cX4_whyNot 7 = .ok (.iconst 1, 1) := by decide +kernel
theorem dX4_whyNot_8 : decode cX4_whyNot 8 = .ok (.iadd, 1) := by decide +kernel
theorem dX4_whyNot_9 : decode cX4_whyNot 9 = .ok (.iaload, 1) := by decide +kernel
theorem dX4_whyNot_10 : decode cX4_whyNot 10 = .ok (.aload_n 0, 1) := by decide +kernel
theorem dX4_whyNot_11 : decode cX4_whyNot 11 = .ok (.invokevirtual 86, 3) := by decide +kernel
theorem dX4_whyNot_14 : decode cX4_whyNot 14 = .ok (.iadd, 1) := by decide +kernel
theorem dX4_whyNot_15 : decode cX4_whyNot 15 = .ok (.aload_n 0, 1) := by decide +kernel
theorem dX4_whyNot_16 : decode cX4_whyNot 16 = .ok (.getfield 19, 3) := by decide +kernel
theorem dX4_whyNot_19 : decode cX4_whyNot 19 = .ok (.bipush 7, 2) := by decide +kernel
theorem dX4_whyNot_21 : decode cX4_whyNot 21 = .ok (.iload_n 1, 1) := by decide +kernel
theorem dX4_whyNot_22 : decode cX4_whyNot 22 = .ok (.imul, 1) := by decide +kernel
theorem dX4_whyNot_23 : decode cX4_whyNot 23 = .ok (.iconst 1, 1) := by decide +kernel
theorem dX4_whyNot_24 : decode cX4_whyNot 24 = .ok (.iadd, 1) := by decide +kernel
theorem dX4_whyNot_25 : decode cX4_whyNot 25 = .ok (.iaload, 1) := by decide +kernel
theorem dX4_whyNot_26 : decode cX4_whyNot 26 = .ok (.aload_n 0, 1) := by decide +kernel
theorem dX4_whyNot_27 : decode cX4_whyNot 27 = .ok (.getfield 13, 3) := by decide +kernel
theorem dX4_whyNot_30 : decode cX4_whyNot 30 = .ok (.iconst 2, 1) := by decide +kernel
theorem dX4_whyNot_31 : decode cX4_whyNot 31 = .ok (.iaload, 1) := by decide +kernel
theorem dX4_whyNot_32 : decode cX4_whyNot 32 = .ok (.iadd, 1) := by decide +kernel
theorem dX4_whyNot_33 : decode cX4_whyNot 33 = .ok (.if_icmp .ge 5, 3) := by decide +kernel
theorem dX4_whyNot_36 : decode cX4_whyNot 36 = .ok (.iconst 1, 1) := by decide +kernel
theorem dX4_whyNot_37 : decode cX4_whyNot 37 = .ok (.ireturn, 1) := by decide +kernel
theorem dX4_whyNot_38 : decode cX4_whyNot 38 = .ok (.aload_n 0, 1) := by decide +kernel
theorem dX4_whyNot_39 : decode cX4_whyNot 39 = .ok (.iload_n 1, 1) := by decide +kernel
theorem dX4_whyNot_40 : decode cX4_whyNot 40 = .ok (.aload_n 0, 1) := by decide +kernel
theorem dX4_whyNot_41 : decode cX4_whyNot 41 = .ok (.getfield 19, 3) := by decide +kernel
theorem dX4_whyNot_44 : decode cX4_whyNot 44 = .ok (.bipush 7, 2) := by decide +kernel
theorem dX4_whyNot_46 : decode cX4_whyNot 46 = .ok (.iload_n 1, 1) := by decide +kernel
theorem dX4_whyNot_47 : decode cX4_whyNot 47 = .ok (.imul, 1) := by decide +kernel
theorem dX4_whyNot_48 : decode cX4_whyNot 48 = .ok (.iconst 5, 1) := by decide +kernel
theorem dX4_whyNot_49 : decode cX4_whyNot 49 = .ok (.iadd, 1) := by decide +kernel
theorem dX4_whyNot_50 : decode cX4_whyNot 50 = .ok (.iaload, 1) := by decide +kernel
theorem dX4_whyNot_51 : decode cX4_whyNot 51 = .ok (.aload_n 0, 1) := by decide +kernel
theorem dX4_whyNot_52 : decode cX4_whyNot 52 = .ok (.iload_n 2, 1) := by decide +kernel
theorem dX4_whyNot_53 : decode cX4_whyNot 53 = .ok (.invokevirtual 90, 3) := by decide +kernel
theorem dX4_whyNot_56 : decode cX4_whyNot 56 = .ok (.invokevirtual 82, 3) := by decide +kernel
theorem dX4_whyNot_59 : decode cX4_whyNot 59 = .ok (.iconst (-1), 1) := by decide +kernel
theorem dX4_whyNot_60 : decode cX4_whyNot 60 = .ok (.if_icmp .ne 7, 3) := by decide +kernel
theorem dX4_whyNot_63 : decode cX4_whyNot 63 = .ok (.iconst 2, 1) := by decide +kernel
theorem dX4_whyNot_64 : decode cX4_whyNot 64 = .ok (.goto 4, 3) := by decide +kernel
theorem dX4_whyNot_67 : decode cX4_whyNot 67 = .ok (.iconst 0, 1) := by decide +kernel
theorem dX4_whyNot_68 : decode cX4_whyNot 68 = .ok (.ireturn, 1) := by decide +kernel
theorem dX4_may_0 : decode cX4_may 0 = .ok (.aload_n 0, 1) := by decide +kernel
theorem dX4_may_1 : decode cX4_may 1 = .ok (.iconst 0, 1) := by decide +kernel
theorem dX4_may_2 : decode cX4_may 2 = .ok (.putfield 50, 3) := by decide +kernel
theorem dX4_may_5 : decode cX4_may 5 = .ok (.aload_n 0, 1) := by decide +kernel
theorem dX4_may_6 : decode cX4_may 6 = .ok (.iload_n 1, 1) := by decide +kernel
theorem dX4_may_7 : decode cX4_may 7 = .ok (.invokevirtual 72, 3) := by decide +kernel
theorem dX4_may_10 : decode cX4_may 10 = .ok (.ifCond .eq 20, 3) := by decide +kernel
theorem dX4_may_13 : decode cX4_may 13 = .ok (.aload_n 0, 1) := by decide +kernel
theorem dX4_may_14 : decode cX4_may 14 = .ok (.iload_n 2, 1) := by decide +kernel
theorem dX4_may_15 : decode cX4_may 15 = .ok (.invokevirtual 93, 3) := by decide +kernel
theorem dX4_may_18 : decode cX4_may 18 = .ok (.ifCond .eq 12, 3) := by decide +kernel
theorem dX4_may_21 : decode cX4_may 21 = .ok (.aload_n 0, 1) := by decide +kernel
theorem dX4_may_22 : decode cX4_may 22 = .ok (.iload_n 1, 1) := by decide +kernel
theorem dX4_may_23 : decode cX4_may 23 = .ok (.iload_n 2, 1) := by decide +kernel
theorem dX4_may_24 : decode cX4_may 24 = .ok (.invokevirtual 96, 3) := by decide +kernel
theorem dX4_may_27 : decode cX4_may 27 = .ok (.goto 4, 3) := by decide +kernel
theorem dX4_may_30 : decode cX4_may 30 = .ok (.iconst (-1), 1) := by decide +kernel
theorem dX4_may_31 : decode cX4_may 31 = .ok (.ireturn, 1) := by decide +kernel
theorem dX4_show_0 : decode cX4_show 0 = .ok (.iconst 0, 1) := by decide +kernel
theorem dX4_show_1 : decode cX4_show 1 = .ok (.istore 4, 2) := by decide +kernel
theorem dX4_show_3 : decode cX4_show 3 = .ok (.iconst 0, 1) := by decide +kernel
theorem dX4_show_4 : decode cX4_show 4 = .ok (.istore 5, 2) := by decide +kernel
theorem dX4_show_6 : decode cX4_show 6 = .ok (.iload 5, 2) := by decide +kernel
theorem dX4_show_8 : decode cX4_show 8 = .ok (.iload_n 3, 1) := by decide +kernel
theorem dX4_show_9 : decode cX4_show 9 = .ok (.if_icmp .ge 42, 3) := by decide +kernel
theorem dX4_show_12 : decode cX4_show 12 = .ok (.aload_n 2, 1) := by decide +kernel
theorem dX4_show_13 : decode cX4_show 13 = .ok (.iload 5, 2) := by decide +kernel
theorem dX4_show_15 : decode cX4_show 15 = .ok (.iaload, 1) := by decide +kernel
theorem dX4_show_16 : decode cX4_show 16 = .ok (.iconst (-1), 1) := by decide +kernel
theorem dX4_show_17 : decode cX4_show 17 = .ok (.if_icmp .eq 28, 3) := by decide +kernel
theorem dX4_show_20 : decode cX4_show 20 = .ok (.iload 4, 2) := by decide +kernel
theorem dX4_show_22 : decode cX4_show 22 = .ok (.aload_n 0, 1) := by decide +kernel
theorem dX4_show_23 : decode cX4_show 23 = .ok (.bipush 7, 2) := by decide +kernel
theorem dX4_show_25 : decode cX4_show 25 = .ok (.iload 5, 2) := by decide +kernel
theorem dX4_show_27 : decode cX4_show 27 = .ok (.imul, 1) := by decide +kernel
theorem dX4_show_28 : decode cX4_show 28 = .ok (.iconst 3, 1) := by decide +kernel
theorem dX4_show_29 : decode cX4_show 29 = .ok (.iadd, 1) := by decide +kernel
theorem dX4_show_30 : decode cX4_show 30 = .ok (.iaload, 1) := by decide +kernel
theorem dX4_show_31 : decode cX4_show 31 = .ok (.aload_n 1, 1) := by decide +kernel
theorem dX4_show_32 : decode cX4_show 32 = .ok (.iconst 5, 1) := by decide +kernel
theorem dX4_show_33 : decode cX4_show 33 = .ok (.aload_n 2, 1) := by decide +kernel
theorem dX4_show_34 : decode cX4_show 34 = .ok (.iload 5, 2) := by decide +kernel
theorem dX4_show_36 : decode cX4_show 36 = .ok (.iaload, 1) := by decide +kernel
theorem dX4_show_37 : decode cX4_show 37 = .ok (.imul, 1) := by decide +kernel
theorem dX4_show_38 : decode cX4_show 38 = .ok (.iconst 3, 1) := by decide +kernel
theorem dX4_show_39 : decode cX4_show 39 = .ok (.iadd, 1) := by decide +kernel
theorem dX4_show_40 : decode cX4_show 40 = .ok (.iaload, 1) := by decide +kernel
theorem dX4_show_41 : decode cX4_show 41 = .ok (.imul, 1) := by decide +kernel
theorem dX4_show_42 : decode cX4_show 42 = .ok (.iadd, 1) := by decide +kernel
theorem dX4_show_43 : decode cX4_show 43 = .ok (.istore 4, 2) := by decide +kernel
theorem dX4_show_45 : decode cX4_show 45 = .ok (.iinc 5 1, 3) := by decide +kernel
theorem dX4_show_48 : decode cX4_show 48 = .ok (.goto (-42), 3) := by decide +kernel
theorem dX4_show_51 : decode cX4_show 51 = .ok (.iload 4, 2) := by decide +kernel
theorem dX4_show_53 : decode cX4_show 53 = .ok (.ireturn, 1) := by decide +kernel
theorem dX4_berthed_0 : decode cX4_berthed 0 = .ok (.iconst 0, 1) := by decide +kernel
theorem dX4_berthed_1 : decode cX4_berthed 1 = .ok (.istore_n 2, 1) := by decide +kernel
theorem dX4_berthed_2 : decode cX4_berthed 2 = .ok (.iconst 0, 1) := by decide +kernel
theorem dX4_berthed_3 : decode cX4_berthed 3 = .ok (.istore_n 3, 1) := by decide +kernel
theorem dX4_berthed_4 : decode cX4_berthed 4 = .ok (.iload_n 3, 1) := by decide +kernel
theorem dX4_berthed_5 : decode cX4_berthed 5 = .ok (.aload_n 0, 1) := by decide +kernel
theorem dX4_berthed_6 : decode cX4_berthed 6 = .ok (.getfield 54, 3) := by decide +kernel
theorem dX4_berthed_9 : decode cX4_berthed 9 = .ok (.if_icmp .ge 19, 3) := by decide +kernel
theorem dX4_berthed_12 : decode cX4_berthed 12 = .ok (.aload_n 1, 1) := by decide +kernel
theorem dX4_berthed_13 : decode cX4_berthed 13 = .ok (.iload_n 3, 1) := by decide +kernel
theorem dX4_berthed_14 : decode cX4_berthed 14 = .ok (.iaload, 1) := by decide +kernel
theorem dX4_berthed_15 : decode cX4_berthed 15 = .ok (.iconst (-1), 1) := by decide +kernel
theorem dX4_berthed_16 : decode cX4_berthed 16 = .ok (.if_icmp .eq 6, 3) := by decide +kernel
theorem dX4_berthed_19 : decode cX4_berthed 19 = .ok (.iinc 2 1, 3) := by decide +kernel
theorem dX4_berthed_22 : decode cX4_berthed 22 = .ok (.iinc 3 1, 3) := by decide +kernel
theorem dX4_berthed_25 : decode cX4_berthed 25 = .ok (.goto (-21), 3) := by decide +kernel
theorem dX4_berthed_28 : decode cX4_berthed 28 = .ok (.iload_n 2, 1) := by decide +kernel
theorem dX4_berthed_29 : decode cX4_berthed 29 = .ok (.ireturn, 1) := by decide +kernel
theorem dX4_count_0 : decode cX4_count 0 = .ok (.aload_n 0, 1) := by decide +kernel
theorem dX4_count_1 : decode cX4_count 1 = .ok (.iconst 0, 1) := by decide +kernel
theorem dX4_count_2 : decode cX4_count 2 = .ok (.putfield 50, 3) := by decide +kernel
theorem dX4_count_5 : decode cX4_count 5 = .ok (.iload_n 1, 1) := by decide +kernel
theorem dX4_count_6 : decode cX4_count 6 = .ok (.tableswitch 87 0 5 #[38, 43, 48, 57, 77, 82], 38) := by decide +kernel
theorem dX4_count_44 : decode cX4_count 44 = .ok (.aload_n 0, 1) := by decide +kernel
theorem dX4_count_45 : decode cX4_count 45 = .ok (.getfield 54, 3) := by decide +kernel
theorem dX4_count_48 : decode cX4_count 48 = .ok (.ireturn, 1) := by decide +kernel
theorem dX4_count_49 : decode cX4_count 49 = .ok (.aload_n 0, 1) := by decide +kernel
theorem dX4_count_50 : decode cX4_count 50 = .ok (.getfield 61, 3) := by decide +kernel
theorem dX4_count_53 : decode cX4_count 53 = .ok (.ireturn, 1) := by decide +kernel
theorem dX4_count_54 : decode cX4_count 54 = .ok (.aload_n 0, 1) := by decide +kernel
theorem dX4_count_55 : decode cX4_count 55 = .ok (.aload_n 0, 1) := by decide +kernel
theorem dX4_count_56 : decode cX4_count 56 = .ok (.getfield 29, 3) := by decide +kernel
theorem dX4_count_59 : decode cX4_count 59 = .ok (.invokevirtual 100, 3) := by decide +kernel
theorem dX4_count_62 : decode cX4_count 62 = .ok (.ireturn, 1) := by decide +kernel
theorem dX4_count_63 : decode cX4_count 63 = .ok (.aload_n 0, 1) := by decide +kernel
theorem dX4_count_64 : decode cX4_count 64 = .ok (.getfield 19, 3) := by decide +kernel
theorem dX4_count_67 : decode cX4_count 67 = .ok (.aload_n 0, 1) := by decide +kernel
theorem dX4_count_68 : decode cX4_count 68 = .ok (.getfield 22, 3) := by decide +kernel
theorem dX4_count_71 : decode cX4_count 71 = .ok (.aload_n 0, 1) := by decide +kernel
theorem dX4_count_72 : decode cX4_count 72 = .ok (.getfield 29, 3) := by decide +kernel
theorem dX4_count_75 : decode cX4_count 75 = .ok (.aload_n 0, 1) := by decide +kernel
theorem dX4_count_76 : decode cX4_count 76 = .ok (.getfield 54, 3) := by decide +kernel
theorem dX4_count_79 : decode cX4_count 79 = .ok (.invokestatic 104, 3) := by decide +kernel
theorem dX4_count_82 : decode cX4_count 82 = .ok (.ireturn, 1) := by decide +kernel
theorem dX4_count_83 : decode cX4_count 83 = .ok (.aload_n 0, 1) := by decide +kernel
theorem dX4_count_84 : decode cX4_count 84 = .ok (.invokevirtual 86, 3) := by decide +kernel
theorem dX4_count_87 : decode cX4_count 87 = .ok (.ireturn, 1) := by decide +kernel
theorem dX4_count_88 : decode cX4_count 88 = .ok (.aload_n 0, 1) := by decide +kernel
theorem dX4_count_89 : decode cX4_count 89 = .ok (.invokevirtual 108, 3) := by decide +kernel
theorem dX4_count_92 : decode cX4_count 92 = .ok (.ireturn, 1) := by decide +kernel
theorem dX4_count_93 : decode cX4_count 93 = .ok (.iconst (-1), 1) := by decide +kernel
theorem dX4_count_94 : decode cX4_count 94 = .ok (.ireturn, 1) := by decide +kernel
theorem dX4_put_0 : decode cX4_put 0 = .ok (.aload_n 0, 1) := by decide +kernel
theorem dX4_put_1 : decode cX4_put 1 = .ok (.iconst 0, 1) := by decide +kernel
theorem dX4_put_2 : decode cX4_put 2 = .ok (.putfield 50, 3) := by decide +kernel
theorem dX4_put_5 : decode cX4_put 5 = .ok (.aload_n 0, 1) := by decide +kernel
theorem dX4_put_6 : decode cX4_put 6 = .ok (.iload_n 1, 1) := by decide +kernel
theorem dX4_put_7 : decode cX4_put 7 = .ok (.invokevirtual 72, 3) := by decide +kernel
theorem dX4_put_10 : decode cX4_put 10 = .ok (.ifCond .eq 16, 3) := by decide +kernel
theorem dX4_put_13 : decode cX4_put 13 = .ok (.iload_n 2, 1) := by decide +kernel
theorem dX4_put_14 : decode cX4_put 14 = .ok (.iconst (-1), 1) := by decide +kernel
theorem dX4_put_15 : decode cX4_put 15 = .ok (.if_icmp .eq 13, 3) := by decide +kernel
theorem dX4_put_18 : decode cX4_put 18 = .ok (.aload_n 0, 1) := by decide +kernel
theorem dX4_put_19 : decode cX4_put 19 = .ok (.iload_n 2, 1) := by decide +kernel
theorem dX4_put_20 : decode cX4_put 20 = .ok (.invokevirtual 93, 3) := by decide +kernel
theorem dX4_put_23 : decode cX4_put 23 = .ok (.ifCond .ne 5, 3) := by decide +kernel
theorem dX4_put_26 : decode cX4_put 26 = .ok (.iconst 0, 1) := by decide +kernel
theorem dX4_put_27 : decode cX4_put 27 = .ok (.ireturn, 1) := by decide +kernel
theorem dX4_put_28 : decode cX4_put 28 = .ok (.aload_n 0, 1) := by decide +kernel
theorem dX4_put_29 : decode cX4_put 29 = .ok (.getfield 29, 3) := by decide +kernel
theorem dX4_put_32 : decode cX4_put 32 = .ok (.iload_n 1, 1) := by decide +kernel
theorem dX4_put_33 : decode cX4_put 33 = .ok (.iload_n 2, 1) := by decide +kernel
theorem dX4_put_34 : decode cX4_put 34 = .ok (.iastore, 1) := by decide +kernel
theorem dX4_put_35 : decode cX4_put 35 = .ok (.iconst 1, 1) := by decide +kernel
theorem dX4_put_36 : decode cX4_put 36 = .ok (.ireturn, 1) := by decide +kernel
theorem dX4_at_0 : decode cX4_at 0 = .ok (.aload_n 0, 1) := by decide +kernel
theorem dX4_at_1 : decode cX4_at 1 = .ok (.iconst 0, 1) := by decide +kernel
theorem dX4_at_2 : decode cX4_at 2 = .ok (.putfield 50, 3) := by decide +kernel
theorem dX4_at_5 : decode cX4_at 5 = .ok (.aload_n 0, 1) := by decide +kernel
theorem dX4_at_6 : decode cX4_at 6 = .ok (.iload_n 1, 1) := by decide +kernel
theorem dX4_at_7 : decode cX4_at 7 = .ok (.invokevirtual 72, 3) := by decide +kernel
theorem dX4_at_10 : decode cX4_at 10 = .ok (.ifCond .ne 10, 3) := by decide +kernel
theorem dX4_at_13 : decode cX4_at 13 = .ok (.aload_n 0, 1) := by decide +kernel
theorem dX4_at_14 : decode cX4_at 14 = .ok (.iconst 1, 1) := by decide +kernel
theorem dX4_at_15 : decode cX4_at 15 = .ok (.putfield 50, 3) := by decide +kernel
theorem dX4_at_18 : decode cX4_at 18 = .ok (.iconst 0, 1) := by decide +kernel
theorem dX4_at_19 : decode cX4_at 19 = .ok (.ireturn, 1) := by decide +kernel
theorem dX4_at_20 : decode cX4_at 20 = .ok (.aload_n 0, 1) := by decide +kernel
theorem dX4_at_21 : decode cX4_at 21 = .ok (.getfield 29, 3) := by decide +kernel
theorem dX4_at_24 : decode cX4_at 24 = .ok (.iload_n 1, 1) := by decide +kernel
theorem dX4_at_25 : decode cX4_at 25 = .ok (.iaload, 1) := by decide +kernel
theorem dX4_at_26 : decode cX4_at 26 = .ok (.ireturn, 1) := by decide +kernel
theorem dX4_room_0 : decode cX4_room 0 = .ok (.aload_n 0, 1) := by decide +kernel
theorem dX4_room_1 : decode cX4_room 1 = .ok (.getfield 22, 3) := by decide +kernel
theorem dX4_room_4 : decode cX4_room 4 = .ok (.iconst 5, 1) := by decide +kernel
theorem dX4_room_5 : decode cX4_room 5 = .ok (.iload_n 2, 1) := by decide +kernel
theorem dX4_room_6 : decode cX4_room 6 = .ok (.imul, 1) := by decide +kernel
theorem dX4_room_7 : decode cX4_room 7 = .ok (.iaload, 1) := by decide +kernel
theorem dX4_room_8 : decode cX4_room 8 = .ok (.istore_n 3, 1) := by decide +kernel
theorem dX4_room_9 : decode cX4_room 9 = .ok (.iconst 0, 1) := by decide +kernel
theorem dX4_room_10 : decode cX4_room 10 = .ok (.istore 4, 2) := by decide +kernel
theorem dX4_room_12 : decode cX4_room 12 = .ok (.iconst 0, 1) := by decide +kernel
theorem dX4_room_13 : decode cX4_room 13 = .ok (.istore 5, 2) := by decide +kernel
theorem dX4_room_15 : decode cX4_room 15 = .ok (.iload 5, 2) := by decide +kernel
theorem dX4_room_17 : decode cX4_room 17 = .ok (.aload_n 0, 1) := by decide +kernel
theorem dX4_room_18 : decode cX4_room 18 = .ok (.getfield 54, 3) := by decide +kernel
theorem dX4_room_21 : decode cX4_room 21 = .ok (.if_icmp .ge 50, 3) := by decide +kernel
theorem dX4_room_24 : decode cX4_room 24 = .ok (.aload_n 1, 1) := by decide +kernel
theorem dX4_room_25 : decode cX4_room 25 = .ok (.iload 5, 2) := by decide +kernel
theorem dX4_room_27 : decode cX4_room 27 = .ok (.iaload, 1) := by decide +kernel
theorem dX4_room_28 : decode cX4_room 28 = .ok (.iload_n 2, 1) := by decide +kernel
theorem dX4_room_29 : decode cX4_room 29 = .ok (.if_icmp .eq 6, 3) := by decide +kernel
theorem dX4_room_32 : decode cX4_room 32 = .ok (.goto 33, 3) := by decide +kernel
theorem dX4_room_35 : decode cX4_room 35 = .ok (.iload_n 3, 1) := by decide +kernel
theorem dX4_room_36 : decode cX4_room 36 = .ok (.aload_n 0, 1) := by decide +kernel
theorem dX4_room_37 : decode cX4_room 37 = .ok (.getfield 19, 3) := by decide +kernel
theorem dX4_room_40 : decode cX4_room 40 = .ok (.bipush 7, 2) := by decide +kernel
theorem dX4_room_42 : decode cX4_room 42 = .ok (.iload 5, 2) := by decide +kernel
theorem dX4_room_44 : decode cX4_room 44 = .ok (.imul, 1) := by decide +kernel
theorem dX4_room_45 : decode cX4_room 45 = .ok (.iaload, 1) := by decide +kernel
theorem dX4_room_46 : decode cX4_room 46 = .ok (.isub, 1) := by decide +kernel
theorem dX4_room_47 : decode cX4_room 47 = .ok (.istore_n 3, 1) := by decide +kernel
theorem dX4_room_48 : decode cX4_room 48 = .ok (.iload 4, 2) := by decide +kernel
theorem dX4_room_50 : decode cX4_room 50 = .ok (.ifCond .le 12, 3) := by decide +kernel
theorem dX4_room_53 : decode cX4_room 53 = .ok (.iload_n 3, 1) := by decide +kernel
theorem dX4_room_54 : decode cX4_room 54 = .ok (.aload_n 0, 1) := by decide +kernel
theorem dX4_room_55 : decode cX4_room 55 = .ok (.getfield 13, 3) := by decide +kernel
theorem dX4_room_58 : decode cX4_room 58 = .ok (.iconst 3, 1) := by decide +kernel
theorem dX4_room_59 : decode cX4_room 59 = .ok (.iaload, 1) := by decide +kernel
theorem dX4_room_60 : decode cX4_room 60 = .ok (.isub, 1) := by decide +kernel
theorem dX4_room_61 : decode cX4_room 61 = .ok (.istore_n 3, 1) := by decide +kernel
theorem dX4_room_62 : decode cX4_room 62 = .ok (.iinc 4 1, 3) := by decide +kernel
theorem dX4_room_65 : decode cX4_room 65 = .ok (.iinc 5 1, 3) := by decide +kernel
theorem dX4_room_68 : decode cX4_room 68 = .ok (.goto (-53), 3) := by decide +kernel
theorem dX4_room_71 : decode cX4_room 71 = .ok (.iload_n 3, 1) := by decide +kernel
theorem dX4_room_72 : decode cX4_room 72 = .ok (.ireturn, 1) := by decide +kernel
theorem dX4_why_0 : decode cX4_why 0 = .ok (.iconst 0, 1) := by decide +kernel
theorem dX4_why_1 : decode cX4_why 1 = .ok (.istore_n 2, 1) := by decide +kernel
theorem dX4_why_2 : decode cX4_why 2 = .ok (.iload_n 2, 1) := by decide +kernel
theorem dX4_why_3 : decode cX4_why 3 = .ok (.aload_n 0, 1) := by decide +kernel
theorem dX4_why_4 : decode cX4_why 4 = .ok (.getfield 54, 3) := by decide +kernel
theorem dX4_why_7 : decode cX4_why 7 = .ok (.if_icmp .ge 32, 3) := by decide +kernel
theorem dX4_why_10 : decode cX4_why 10 = .ok (.aload_n 1, 1) := by decide +kernel
theorem dX4_why_11 : decode cX4_why 11 = .ok (.iload_n 2, 1) := by decide +kernel
theorem dX4_why_12 : decode cX4_why 12 = .ok (.iaload, 1) := by decide +kernel
theorem dX4_why_13 : decode cX4_why 13 = .ok (.iconst (-1), 1) := by decide +kernel
theorem dX4_why_14 : decode cX4_why 14 = .ok (.if_icmp .eq 19, 3) := by decide +kernel
theorem dX4_why_17 : decode cX4_why 17 = .ok (.aload_n 0, 1) := by decide +kernel
theorem dX4_why_18 : decode cX4_why 18 = .ok (.iload_n 2, 1) := by decide +kernel
theorem dX4_why_19 : decode cX4_why 19 = .ok (.aload_n 1, 1) := by decide +kernel
theorem dX4_why_20 : decode cX4_why 20 = .ok (.iload_n 2, 1) := by decide +kernel
theorem dX4_why_21 : decode cX4_why 21 = .ok (.iaload, 1) := by decide +kernel
theorem dX4_why_22 : decode cX4_why 22 = .ok (.invokevirtual 96, 3) := by decide +kernel
theorem dX4_why_25 : decode cX4_why 25 = .ok (.ifCond .le 8, 3) := by decide +kernel
theorem dX4_why_28 : decode cX4_why 28 = .ok (.bipush 10, 2) := by decide +kernel
theorem dX4_why_30 : decode cX4_why 30 = .ok (.iload_n 2, 1) := by decide +kernel
theorem dX4_why_31 : decode cX4_why 31 = .ok (.iadd, 1) := by decide +kernel
theorem dX4_why_32 : decode cX4_why 32 = .ok (.ireturn, 1) := by decide +kernel
theorem dX4_why_33 : decode cX4_why 33 = .ok (.iinc 2 1, 3) := by decide +kernel
theorem dX4_why_36 : decode cX4_why 36 = .ok (.goto (-34), 3) := by decide +kernel
theorem dX4_why_39 : decode cX4_why 39 = .ok (.iconst 0, 1) := by decide +kernel
theorem dX4_why_40 : decode cX4_why 40 = .ok (.istore_n 2, 1) := by decide +kernel
theorem dX4_why_41 : decode cX4_why 41 = .ok (.iload_n 2, 1) := by decide +kernel
theorem dX4_why_42 : decode cX4_why 42 = .ok (.aload_n 0, 1) := by decide +kernel
theorem dX4_why_43 : decode cX4_why 43 = .ok (.getfield 54, 3) := by decide +kernel
theorem dX4_why_46 : decode cX4_why 46 = .ok (.if_icmp .ge 60, 3) := by decide +kernel
theorem dX4_why_49 : decode cX4_why 49 = .ok (.iconst 0, 1) := by decide +kernel
theorem dX4_why_50 : decode cX4_why 50 = .ok (.istore_n 3, 1) := by decide +kernel
theorem dX4_why_51 : decode cX4_why 51 = .ok (.iload_n 3, 1) := by decide +kernel
theorem dX4_why_52 : decode cX4_why 52 = .ok (.aload_n 0, 1) := by decide +kernel
theorem dX4_why_53 : decode cX4_why 53 = .ok (.getfield 54, 3) := by decide +kernel
theorem dX4_why_56 : decode cX4_why 56 = .ok (.if_icmp .ge 44, 3) := by decide +kernel
theorem dX4_why_59 : decode cX4_why 59 = .ok (.aload_n 1, 1) := by decide +kernel
theorem dX4_why_60 : decode cX4_why 60 = .ok (.iload_n 2, 1) := by decide +kernel
theorem dX4_why_61 : decode cX4_why 61 = .ok (.iaload, 1) := by decide +kernel
theorem dX4_why_62 : decode cX4_why 62 = .ok (.iconst (-1), 1) := by decide +kernel
theorem dX4_why_63 : decode cX4_why 63 = .ok (.if_icmp .eq 31, 3) := by decide +kernel
theorem dX4_why_66 : decode cX4_why 66 = .ok (.aload_n 1, 1) := by decide +kernel
theorem dX4_why_67 : decode cX4_why 67 = .ok (.iload_n 3, 1) := by decide +kernel
theorem dX4_why_68 : decode cX4_why 68 = .ok (.iaload, 1) := by decide +kernel
theorem dX4_why_69 : decode cX4_why 69 = .ok (.aload_n 1, 1) := by decide +kernel
theorem dX4_why_70 : decode cX4_why 70 = .ok (.iload_n 2, 1) := by decide +kernel
theorem dX4_why_71 : decode cX4_why 71 = .ok (.iaload, 1) := by decide +kernel
theorem dX4_why_72 : decode cX4_why 72 = .ok (.if_icmp .ne 22, 3) := by decide +kernel
theorem dX4_why_75 : decode cX4_why 75 = .ok (.aload_n 0, 1) := by decide +kernel
theorem dX4_why_76 : decode cX4_why 76 = .ok (.getfield 25, 3) := by decide +kernel
theorem dX4_why_79 : decode cX4_why 79 = .ok (.bipush 7, 2) := by decide +kernel
theorem dX4_why_81 : decode cX4_why 81 = .ok (.iload_n 2, 1) := by decide +kernel
theorem dX4_why_82 : decode cX4_why 82 = .ok (.imul, 1) := by decide +kernel
theorem dX4_why_83 : decode cX4_why 83 = .ok (.iload_n 3, 1) := by decide +kernel
theorem dX4_why_84 : decode cX4_why 84 = .ok (.iadd, 1) := by decide +kernel
theorem dX4_why_85 : decode cX4_why 85 = .ok (.baload, 1) := by decide +kernel
theorem dX4_why_86 : decode cX4_why 86 = .ok (.ifCond .eq 8, 3) := by decide +kernel
theorem dX4_why_89 : decode cX4_why 89 = .ok (.bipush 20, 2) := by decide +kernel
theorem dX4_why_91 : decode cX4_why 91 = .ok (.iload_n 2, 1) := by decide +kernel
theorem dX4_why_92 : decode cX4_why 92 = .ok (.iadd, 1) := by decide +kernel
theorem dX4_why_93 : decode cX4_why 93 = .ok (.ireturn, 1) := by decide +kernel
theorem dX4_why_94 : decode cX4_why 94 = .ok (.iinc 3 1, 3) := by decide +kernel
theorem dX4_why_97 : decode cX4_why 97 = .ok (.goto (-46), 3) := by decide +kernel
theorem dX4_why_100 : decode cX4_why 100 = .ok (.iinc 2 1, 3) := by decide +kernel
theorem dX4_why_103 : decode cX4_why 103 = .ok (.goto (-62), 3) := by decide +kernel
theorem dX4_why_106 : decode cX4_why 106 = .ok (.iconst 0, 1) := by decide +kernel
theorem dX4_why_107 : decode cX4_why 107 = .ok (.istore_n 2, 1) := by decide +kernel
theorem dX4_why_108 : decode cX4_why 108 = .ok (.iload_n 2, 1) := by decide +kernel
theorem dX4_why_109 : decode cX4_why 109 = .ok (.aload_n 0, 1) := by decide +kernel
theorem dX4_why_110 : decode cX4_why 110 = .ok (.getfield 61, 3) := by decide +kernel
theorem dX4_why_113 : decode cX4_why 113 = .ok (.if_icmp .ge 23, 3) := by decide +kernel
theorem dX4_why_116 : decode cX4_why 116 = .ok (.aload_n 0, 1) := by decide +kernel
theorem dX4_why_117 : decode cX4_why 117 = .ok (.aload_n 1, 1) := by decide +kernel
theorem dX4_why_118 : decode cX4_why 118 = .ok (.iload_n 2, 1) := by decide +kernel
theorem dX4_why_119 : decode cX4_why 119 = .ok (.invokevirtual 111, 3) := by decide +kernel
theorem dX4_why_122 : decode cX4_why 122 = .ok (.ifCond .ge 8, 3) := by decide +kernel
theorem dX4_why_125 : decode cX4_why 125 = .ok (.bipush 30, 2) := by decide +kernel
theorem dX4_why_127 : decode cX4_why 127 = .ok (.iload_n 2, 1) := by decide +kernel
theorem dX4_why_128 : decode cX4_why 128 = .ok (.iadd, 1) := by decide +kernel
theorem dX4_why_129 : decode cX4_why 129 = .ok (.ireturn, 1) := by decide +kernel
theorem dX4_why_130 : decode cX4_why 130 = .ok (.iinc 2 1, 3) := by decide +kernel
theorem dX4_why_133 : decode cX4_why 133 = .ok (.goto (-25), 3) := by decide +kernel
theorem dX4_why_136 : decode cX4_why 136 = .ok (.iconst 0, 1) := by decide +kernel
theorem dX4_why_137 : decode cX4_why 137 = .ok (.ireturn, 1) := by decide +kernel
theorem dX4_wrong_0 : decode cX4_wrong 0 = .ok (.aload_n 0, 1) := by decide +kernel
theorem dX4_wrong_1 : decode cX4_wrong 1 = .ok (.iconst 0, 1) := by decide +kernel
theorem dX4_wrong_2 : decode cX4_wrong 2 = .ok (.putfield 50, 3) := by decide +kernel
theorem dX4_wrong_5 : decode cX4_wrong 5 = .ok (.aload_n 0, 1) := by decide +kernel
theorem dX4_wrong_6 : decode cX4_wrong 6 = .ok (.aload_n 0, 1) := by decide +kernel
theorem dX4_wrong_7 : decode cX4_wrong 7 = .ok (.getfield 29, 3) := by decide +kernel
theorem dX4_wrong_10 : decode cX4_wrong 10 = .ok (.invokevirtual 115, 3) := by decide +kernel
theorem dX4_wrong_13 : decode cX4_wrong 13 = .ok (.ireturn, 1) := by decide +kernel
theorem dX4_left_0 : decode cX4_left 0 = .ok (.aload_n 0, 1) := by decide +kernel
theorem dX4_left_1 : decode cX4_left 1 = .ok (.iconst 0, 1) := by decide +kernel
theorem dX4_left_2 : decode cX4_left 2 = .ok (.putfield 50, 3) := by decide +kernel
theorem dX4_left_5 : decode cX4_left 5 = .ok (.aload_n 0, 1) := by decide +kernel
theorem dX4_left_6 : decode cX4_left 6 = .ok (.iload_n 1, 1) := by decide +kernel
theorem dX4_left_7 : decode cX4_left 7 = .ok (.invokevirtual 93, 3) := by decide +kernel
theorem dX4_left_10 : decode cX4_left 10 = .ok (.ifCond .eq 15, 3) := by decide +kernel
theorem dX4_left_13 : decode cX4_left 13 = .ok (.aload_n 0, 1) := by decide +kernel
theorem dX4_left_14 : decode cX4_left 14 = .ok (.aload_n 0, 1) := by decide +kernel
theorem dX4_left_15 : decode cX4_left 15 = .ok (.getfield 29, 3) := by decide +kernel
theorem dX4_left_18 : decode cX4_left 18 = .ok (.iload_n 1, 1) := by decide +kernel
theorem dX4_left_19 : decode cX4_left 19 = .ok (.invokevirtual 111, 3) := by decide +kernel
theorem dX4_left_22 : decode cX4_left 22 = .ok (.goto 6, 3) := by decide +kernel
theorem dX4_left_25 : decode cX4_left 25 = .ok (.sipush (-9999), 3) := by decide +kernel
theorem dX4_left_28 : decode cX4_left 28 = .ok (.ireturn, 1) := by decide +kernel
theorem dX4_moved_0 : decode cX4_moved 0 = .ok (.iconst 0, 1) := by decide +kernel
theorem dX4_moved_1 : decode cX4_moved 1 = .ok (.istore_n 2, 1) := by decide +kernel
theorem dX4_moved_2 : decode cX4_moved 2 = .ok (.iconst 0, 1) := by decide +kernel
theorem dX4_moved_3 : decode cX4_moved 3 = .ok (.istore_n 3, 1) := by decide +kernel
theorem dX4_moved_4 : decode cX4_moved 4 = .ok (.iload_n 3, 1) := by decide +kernel
theorem dX4_moved_5 : decode cX4_moved 5 = .ok (.aload_n 0, 1) := by decide +kernel
theorem dX4_moved_6 : decode cX4_moved 6 = .ok (.getfield 54, 3) := by decide +kernel
theorem dX4_moved_9 : decode cX4_moved 9 = .ok (.if_icmp .ge 24, 3) := by decide +kernel
theorem dX4_moved_12 : decode cX4_moved 12 = .ok (.aload_n 1, 1) := by decide +kernel
theorem dX4_moved_13 : decode cX4_moved 13 = .ok (.iload_n 3, 1) := by decide +kernel
theorem dX4_moved_14 : decode cX4_moved 14 = .ok (.iaload, 1) := by decide +kernel
theorem dX4_moved_15 : decode cX4_moved 15 = .ok (.aload_n 0, 1) := by decide +kernel
theorem dX4_moved_16 : decode cX4_moved 16 = .ok (.getfield 29, 3) := by decide +kernel
theorem dX4_moved_19 : decode cX4_moved 19 = .ok (.iload_n 3, 1) := by decide +kernel
theorem dX4_moved_20 : decode cX4_moved 20 = .ok (.iaload, 1) := by decide +kernel
theorem dX4_moved_21 : decode cX4_moved 21 = .ok (.if_icmp .eq 6, 3) := by decide +kernel
theorem dX4_moved_24 : decode cX4_moved 24 = .ok (.iinc 2 1, 3) := by decide +kernel
theorem dX4_moved_27 : decode cX4_moved 27 = .ok (.iinc 3 1, 3) := by decide +kernel
theorem dX4_moved_30 : decode cX4_moved 30 = .ok (.goto (-26), 3) := by decide +kernel
theorem dX4_moved_33 : decode cX4_moved 33 = .ok (.iload_n 2, 1) := by decide +kernel
theorem dX4_moved_34 : decode cX4_moved 34 = .ok (.ireturn, 1) := by decide +kernel
theorem dX4_isGood_0 : decode cX4_isGood 0 = .ok (.iconst 0, 1) := by decide +kernel
theorem dX4_isGood_1 : decode cX4_isGood 1 = .ok (.istore_n 1, 1) := by decide +kernel
theorem dX4_isGood_2 : decode cX4_isGood 2 = .ok (.iload_n 1, 1) := by decide +kernel
theorem dX4_isGood_3 : decode cX4_isGood 3 = .ok (.aload_n 0, 1) := by decide +kernel
theorem dX4_isGood_4 : decode cX4_isGood 4 = .ok (.getfield 54, 3) := by decide +kernel
theorem dX4_isGood_7 : decode cX4_isGood 7 = .ok (.if_icmp .ge 86, 3) := by decide +kernel
theorem dX4_isGood_10 : decode cX4_isGood 10 = .ok (.aload_n 0, 1) := by decide +kernel
theorem dX4_isGood_11 : decode cX4_isGood 11 = .ok (.getfield 35, 3) := by decide +kernel
theorem dX4_isGood_14 : decode cX4_isGood 14 = .ok (.iload_n 1, 1) := by decide +kernel
theorem dX4_isGood_15 : decode cX4_isGood 15 = .ok (.iaload, 1) := by decide +kernel
theorem dX4_isGood_16 : decode cX4_isGood 16 = .ok (.iconst (-1), 1) := by decide +kernel
theorem dX4_isGood_17 : decode cX4_isGood 17 = .ok (.if_icmp .ne 6, 3) := by decide +kernel
theorem dX4_isGood_20 : decode cX4_isGood 20 = .ok (.goto 67, 3) := by decide +kernel
theorem dX4_isGood_23 : decode cX4_isGood 23 = .ok (.aload_n 0, 1) := by decide +kernel
theorem dX4_isGood_24 : decode cX4_isGood 24 = .ok (.getfield 41, 3) := by decide +kernel
theorem dX4_isGood_27 : decode cX4_isGood 27 = .ok (.iconst 4, 1) := by decide +kernel
theorem dX4_isGood_28 : decode cX4_isGood 28 = .ok (.iload_n 1, 1) := by decide +kernel
theorem dX4_isGood_29 : decode cX4_isGood 29 = .ok (.imul, 1) := by decide +kernel
theorem dX4_isGood_30 : decode cX4_isGood 30 = .ok (.aload_n 0, 1) := by decide +kernel
theorem dX4_isGood_31 : decode cX4_isGood 31 = .ok (.getfield 35, 3) := by decide +kernel
theorem dX4_isGood_34 : decode cX4_isGood 34 = .ok (.iload_n 1, 1) := by decide +kernel
theorem dX4_isGood_35 : decode cX4_isGood 35 = .ok (.iaload, 1) := by decide +kernel
theorem dX4_isGood_36 : decode cX4_isGood 36 = .ok (.iadd, 1) := by decide +kernel
theorem dX4_isGood_37 : decode cX4_isGood 37 = .ok (.baload, 1) := by decide +kernel
theorem dX4_isGood_38 : decode cX4_isGood 38 = .ok (.ifCond .ne 5, 3) := by decide +kernel
theorem dX4_isGood_41 : decode cX4_isGood 41 = .ok (.iconst 0, 1) := by decide +kernel
theorem dX4_isGood_42 : decode cX4_isGood 42 = .ok (.ireturn, 1) := by decide +kernel
theorem dX4_isGood_43 : decode cX4_isGood 43 = .ok (.iconst 0, 1) := by decide +kernel
theorem dX4_isGood_44 : decode cX4_isGood 44 = .ok (.istore_n 2, 1) := by decide +kernel
theorem dX4_isGood_45 : decode cX4_isGood 45 = .ok (.iload_n 2, 1) := by decide +kernel
theorem dX4_isGood_46 : decode cX4_isGood 46 = .ok (.iload_n 1, 1) := by decide +kernel
theorem dX4_isGood_47 : decode cX4_isGood 47 = .ok (.if_icmp .ge 40, 3) := by decide +kernel
theorem dX4_isGood_50 : decode cX4_isGood 50 = .ok (.aload_n 0, 1) := by decide +kernel
theorem dX4_isGood_51 : decode cX4_isGood 51 = .ok (.getfield 35, 3) := by decide +kernel
theorem dX4_isGood_54 : decode cX4_isGood 54 = .ok (.iload_n 2, 1) := by decide +kernel
theorem dX4_isGood_55 : decode cX4_isGood 55 = .ok (.iaload, 1) := by decide +kernel
theorem dX4_isGood_56 : decode cX4_isGood 56 = .ok (.aload_n 0, 1) := by decide +kernel
theorem dX4_isGood_57 : decode cX4_isGood 57 = .ok (.getfield 35, 3) := by decide +kernel
theorem dX4_isGood_60 : decode cX4_isGood 60 = .ok (.iload_n 1, 1) := by decide +kernel
theorem dX4_isGood_61 : decode cX4_isGood 61 = .ok (.iaload, 1) := by decide +kernel
theorem dX4_isGood_62 : decode cX4_isGood 62 = .ok (.if_icmp .ne 19, 3) := by decide +kernel
theorem dX4_isGood_65 : decode cX4_isGood 65 = .ok (.aload_n 0, 1) := by decide +kernel
theorem dX4_isGood_66 : decode cX4_isGood 66 = .ok (.getfield 25, 3) := by decide +kernel
theorem dX4_isGood_69 : decode cX4_isGood 69 = .ok (.bipush 7, 2) := by decide +kernel
theorem dX4_isGood_71 : decode cX4_isGood 71 = .ok (.iload_n 1, 1) := by decide +kernel
theorem dX4_isGood_72 : decode cX4_isGood 72 = .ok (.imul, 1) := by decide +kernel
theorem dX4_isGood_73 : decode cX4_isGood 73 = .ok (.iload_n 2, 1) := by decide +kernel
theorem dX4_isGood_74 : decode cX4_isGood 74 = .ok (.iadd, 1) := by decide +kernel
theorem dX4_isGood_75 : decode cX4_isGood 75 = .ok (.baload, 1) := by decide +kernel
theorem dX4_isGood_76 : decode cX4_isGood 76 = .ok (.ifCond .eq 5, 3) := by decide +kernel
theorem dX4_isGood_79 : decode cX4_isGood 79 = .ok (.iconst 0, 1) := by decide +kernel
theorem dX4_isGood_80 : decode cX4_isGood 80 = .ok (.ireturn, 1) := by decide +kernel
theorem dX4_isGood_81 : decode cX4_isGood 81 = .ok (.iinc 2 1, 3) := by decide +kernel
theorem dX4_isGood_84 : decode cX4_isGood 84 = .ok (.goto (-39), 3) := by decide +kernel
theorem dX4_isGood_87 : decode cX4_isGood 87 = .ok (.iinc 1 1, 3) := by decide +kernel
theorem dX4_isGood_90 : decode cX4_isGood 90 = .ok (.goto (-88), 3) := by decide +kernel
theorem dX4_isGood_93 : decode cX4_isGood 93 = .ok (.iconst 0, 1) := by decide +kernel
theorem dX4_isGood_94 : decode cX4_isGood 94 = .ok (.istore_n 1, 1) := by decide +kernel
theorem dX4_isGood_95 : decode cX4_isGood 95 = .ok (.iload_n 1, 1) := by decide +kernel
theorem dX4_isGood_96 : decode cX4_isGood 96 = .ok (.aload_n 0, 1) := by decide +kernel
theorem dX4_isGood_97 : decode cX4_isGood 97 = .ok (.getfield 61, 3) := by decide +kernel
theorem dX4_isGood_100 : decode cX4_isGood 100 = .ok (.if_icmp .ge 23, 3) := by decide +kernel
theorem dX4_isGood_103 : decode cX4_isGood 103 = .ok (.aload_n 0, 1) := by decide +kernel
theorem dX4_isGood_104 : decode cX4_isGood 104 = .ok (.aload_n 0, 1) := by decide +kernel
theorem dX4_isGood_105 : decode cX4_isGood 105 = .ok (.getfield 35, 3) := by decide +kernel
theorem dX4_isGood_108 : decode cX4_isGood 108 = .ok (.iload_n 1, 1) := by decide +kernel
theorem dX4_isGood_109 : decode cX4_isGood 109 = .ok (.invokevirtual 111, 3) := by decide +kernel
theorem dX4_isGood_112 : decode cX4_isGood 112 = .ok (.ifCond .ge 5, 3) := by decide +kernel
theorem dX4_isGood_115 : decode cX4_isGood 115 = .ok (.iconst 0, 1) := by decide +kernel
theorem dX4_isGood_116 : decode cX4_isGood 116 = .ok (.ireturn, 1) := by decide +kernel
theorem dX4_isGood_117 : decode cX4_isGood 117 = .ok (.iinc 1 1, 3) := by decide +kernel
theorem dX4_isGood_120 : decode cX4_isGood 120 = .ok (.goto (-25), 3) := by decide +kernel
theorem dX4_isGood_123 : decode cX4_isGood 123 = .ok (.iconst 1, 1) := by decide +kernel
theorem dX4_isGood_124 : decode cX4_isGood 124 = .ok (.ireturn, 1) := by decide +kernel
theorem dX4_search_0 : decode cX4_search 0 = .ok (.iconst 0, 1) := by decide +kernel
theorem dX4_search_1 : decode cX4_search 1 = .ok (.istore_n 2, 1) := by decide +kernel
theorem dX4_search_2 : decode cX4_search 2 = .ok (.iload_n 2, 1) := by decide +kernel
theorem dX4_search_3 : decode cX4_search 3 = .ok (.aload_n 0, 1) := by decide +kernel
theorem dX4_search_4 : decode cX4_search 4 = .ok (.getfield 54, 3) := by decide +kernel
theorem dX4_search_7 : decode cX4_search 7 = .ok (.if_icmp .ge 49, 3) := by decide +kernel
theorem dX4_search_10 : decode cX4_search 10 = .ok (.iconst 0, 1) := by decide +kernel
theorem dX4_search_11 : decode cX4_search 11 = .ok (.istore_n 3, 1) := by decide +kernel
theorem dX4_search_12 : decode cX4_search 12 = .ok (.iload_n 3, 1) := by decide +kernel
theorem dX4_search_13 : decode cX4_search 13 = .ok (.aload_n 0, 1) := by decide +kernel
theorem dX4_search_14 : decode cX4_search 14 = .ok (.getfield 61, 3) := by decide +kernel
theorem dX4_search_17 : decode cX4_search 17 = .ok (.if_icmp .ge 33, 3) := by decide +kernel
theorem dX4_search_20 : decode cX4_search 20 = .ok (.aload_n 0, 1) := by decide +kernel
theorem dX4_search_21 : decode cX4_search 21 = .ok (.getfield 41, 3) := by decide +kernel
theorem dX4_search_24 : decode cX4_search 24 = .ok (.iconst 4, 1) := by decide +kernel
theorem dX4_search_25 : decode cX4_search 25 = .ok (.iload_n 2, 1) := by decide +kernel
theorem dX4_search_26 : decode cX4_search 26 = .ok (.imul, 1) := by decide +kernel
theorem dX4_search_27 : decode cX4_search 27 = .ok (.iload_n 3, 1) := by decide +kernel
theorem dX4_search_28 : decode cX4_search 28 = .ok (.iadd, 1) := by decide +kernel
theorem dX4_search_29 : decode cX4_search 29 = .ok (.aload_n 0, 1) := by decide +kernel
theorem dX4_search_30 : decode cX4_search 30 = .ok (.iload_n 2, 1) := by decide +kernel
theorem dX4_search_31 : decode cX4_search 31 = .ok (.iload_n 3, 1) := by decide +kernel
theorem dX4_search_32 : decode cX4_search 32 = .ok (.invokevirtual 96, 3) := by decide +kernel
theorem dX4_search_35 : decode cX4_search 35 = .ok (.ifCond .ne 7, 3) := by decide +kernel
theorem dX4_search_38 : decode cX4_search 38 = .ok (.iconst 1, 1) := by decide +kernel
theorem dX4_search_39 : decode cX4_search 39 = .ok (.goto 4, 3) := by decide +kernel
theorem dX4_search_42 : decode cX4_search 42 = .ok (.iconst 0, 1) := by decide +kernel
theorem dX4_search_43 : decode cX4_search 43 = .ok (.bastore, 1) := by decide +kernel
theorem dX4_search_44 : decode cX4_search 44 = .ok (.iinc 3 1, 3) := by decide +kernel
theorem dX4_search_47 : decode cX4_search 47 = .ok (.goto (-35), 3) := by decide +kernel
theorem dX4_search_50 : decode cX4_search 50 = .ok (.iinc 2 1, 3) := by decide +kernel
theorem dX4_search_53 : decode cX4_search 53 = .ok (.goto (-51), 3) := by decide +kernel
theorem dX4_search_56 : decode cX4_search 56 = .ok (.iconst 1, 1) := by decide +kernel
theorem dX4_search_57 : decode cX4_search 57 = .ok (.istore_n 2, 1) := by decide +kernel
theorem dX4_search_58 : decode cX4_search 58 = .ok (.iconst 0, 1) := by decide +kernel
theorem dX4_search_59 : decode cX4_search 59 = .ok (.istore_n 3, 1) := by decide +kernel
theorem dX4_search_60 : decode cX4_search 60 = .ok (.iload_n 3, 1) := by decide +kernel
theorem dX4_search_61 : decode cX4_search 61 = .ok (.aload_n 0, 1) := by decide +kernel
theorem dX4_search_62 : decode cX4_search 62 = .ok (.getfield 54, 3) := by decide +kernel
theorem dX4_search_65 : decode cX4_search 65 = .ok (.if_icmp .ge 18, 3) := by decide +kernel
theorem dX4_search_68 : decode cX4_search 68 = .ok (.iload_n 2, 1) := by decide +kernel
theorem dX4_search_69 : decode cX4_search 69 = .ok (.aload_n 0, 1) := by decide +kernel
theorem dX4_search_70 : decode cX4_search 70 = .ok (.getfield 61, 3) := by decide +kernel
theorem dX4_search_73 : decode cX4_search 73 = .ok (.iconst 1, 1) := by decide +kernel
theorem dX4_search_74 : decode cX4_search 74 = .ok (.iadd, 1) := by decide +kernel
theorem dX4_search_75 : decode cX4_search 75 = .ok (.imul, 1) := by decide +kernel
theorem dX4_search_76 : decode cX4_search 76 = .ok (.istore_n 2, 1) := by decide +kernel
theorem dX4_search_77 : decode cX4_search 77 = .ok (.iinc 3 1, 3) := by decide +kernel
theorem dX4_search_80 : decode cX4_search 80 = .ok (.goto (-20), 3) := by decide +kernel
theorem dX4_search_83 : decode cX4_search 83 = .ok (.iconst 0, 1) := by decide +kernel
theorem dX4_search_84 : decode cX4_search 84 = .ok (.istore_n 3, 1) := by decide +kernel
theorem dX4_search_85 : decode cX4_search 85 = .ok (.iconst 0, 1) := by decide +kernel
theorem dX4_search_86 : decode cX4_search 86 = .ok (.istore 4, 2) := by decide +kernel
theorem dX4_search_88 : decode cX4_search 88 = .ok (.iconst 0, 1) := by decide +kernel
theorem dX4_search_89 : decode cX4_search 89 = .ok (.istore 5, 2) := by decide +kernel
theorem dX4_search_91 : decode cX4_search 91 = .ok (.iconst 0, 1) := by decide +kernel
theorem dX4_search_92 : decode cX4_search 92 = .ok (.istore 6, 2) := by decide +kernel
theorem dX4_search_94 : decode cX4_search 94 = .ok (.iconst 0, 1) := by decide +kernel
theorem dX4_search_95 : decode cX4_search 95 = .ok (.istore 7, 2) := by decide +kernel
theorem dX4_search_97 : decode cX4_search 97 = .ok (.iload 7, 2) := by decide +kernel
theorem dX4_search_99 : decode cX4_search 99 = .ok (.iload_n 2, 1) := by decide +kernel
theorem dX4_search_100 : decode cX4_search 100 = .ok (.if_icmp .ge 227, 3) := by decide +kernel
theorem dX4_search_103 : decode cX4_search 103 = .ok (.iload 7, 2) := by decide +kernel
theorem dX4_search_105 : decode cX4_search 105 = .ok (.istore 8, 2) := by decide +kernel
theorem dX4_search_107 : decode cX4_search 107 = .ok (.aload_n 0, 1) := by decide +kernel
theorem dX4_search_108 : decode cX4_search 108 = .ok (.getfield 54, 3) := by decide +kernel
theorem dX4_search_111 : decode cX4_search 111 = .ok (.iconst 1, 1) := by decide +kernel
theorem dX4_search_112 : decode cX4_search 112 = .ok (.isub, 1) := by decide +kernel
theorem dX4_search_113 : decode cX4_search 113 = .ok (.istore 9, 2) := by decide +kernel
theorem dX4_search_115 : decode cX4_search 115 = .ok (.iload 9, 2) := by decide +kernel
theorem dX4_search_117 : decode cX4_search 117 = .ok (.ifCond .lt 53, 3) := by decide +kernel
theorem dX4_search_120 : decode cX4_search 120 = .ok (.iload 8, 2) := by decide +kernel
theorem dX4_search_122 : decode cX4_search 122 = .ok (.aload_n 0, 1) := by decide +kernel
theorem dX4_search_123 : decode cX4_search 123 = .ok (.getfield 61, 3) := by decide +kernel
theorem dX4_search_126 : decode cX4_search 126 = .ok (.iconst 1, 1) := by decide +kernel
theorem dX4_search_127 : decode cX4_search 127 = .ok (.iadd, 1) := by decide +kernel
theorem dX4_search_128 : decode cX4_search 128 = .ok (.irem, 1) := by decide +kernel
theorem dX4_search_129 : decode cX4_search 129 = .ok (.istore 10, 2) := by decide +kernel
theorem dX4_search_131 : decode cX4_search 131 = .ok (.aload_n 0, 1) := by decide +kernel
theorem dX4_search_132 : decode cX4_search 132 = .ok (.getfield 35, 3) := by decide +kernel
theorem dX4_search_135 : decode cX4_search 135 = .ok (.iload 9, 2) := by decide +kernel
theorem dX4_search_137 : decode cX4_search 137 = .ok (.iload 10, 2) := by decide +kernel
theorem dX4_search_139 : decode cX4_search 139 = .ok (.aload_n 0, 1) := by decide +kernel
theorem dX4_search_140 : decode cX4_search 140 = .ok (.getfield 61, 3) := by decide +kernel
theorem dX4_search_143 : decode cX4_search 143 = .ok (.if_icmp .ne 7, 3) := by decide +kernel
theorem dX4_search_146 : decode cX4_search 146 = .ok (.iconst (-1), 1) := by decide +kernel
theorem dX4_search_147 : decode cX4_search 147 = .ok (.goto 5, 3) := by decide +kernel
theorem dX4_search_150 : decode cX4_search 150 = .ok (.iload 10, 2) := by decide +kernel
theorem dX4_search_152 : decode cX4_search 152 = .ok (.iastore, 1) := by decide +kernel
theorem dX4_search_153 : decode cX4_search 153 = .ok (.iload 8, 2) := by decide +kernel
theorem dX4_search_155 : decode cX4_search 155 = .ok (.aload_n 0, 1) := by decide +kernel
theorem dX4_search_156 : decode cX4_search 156 = .ok (.getfield 61, 3) := by decide +kernel
theorem dX4_search_159 : decode cX4_search 159 = .ok (.iconst 1, 1) := by decide +kernel
theorem dX4_search_160 : decode cX4_search 160 = .ok (.iadd, 1) := by decide +kernel
theorem dX4_search_161 : decode cX4_search 161 = .ok (.idiv, 1) := by decide +kernel
theorem dX4_search_162 : decode cX4_search 162 = .ok (.istore 8, 2) := by decide +kernel
theorem dX4_search_164 : decode cX4_search 164 = .ok (.iinc 9 (-1), 3) := by decide +kernel
theorem dX4_search_167 : decode cX4_search 167 = .ok (.goto (-52), 3) := by decide +kernel
theorem dX4_search_170 : decode cX4_search 170 = .ok (.aload_n 0, 1) := by decide +kernel
theorem dX4_search_171 : decode cX4_search 171 = .ok (.aload_n 0, 1) := by decide +kernel
theorem dX4_search_172 : decode cX4_search 172 = .ok (.getfield 35, 3) := by decide +kernel
theorem dX4_search_175 : decode cX4_search 175 = .ok (.invokevirtual 100, 3) := by decide +kernel
theorem dX4_search_178 : decode cX4_search 178 = .ok (.istore 9, 2) := by decide +kernel
theorem dX4_search_180 : decode cX4_search 180 = .ok (.iload_n 3, 1) := by decide +kernel
theorem dX4_search_181 : decode cX4_search 181 = .ok (.ifCond .eq 10, 3) := by decide +kernel
theorem dX4_search_184 : decode cX4_search 184 = .ok (.iload 9, 2) := by decide +kernel
theorem dX4_search_186 : decode cX4_search 186 = .ok (.iload 4, 2) := by decide +kernel
theorem dX4_search_188 : decode cX4_search 188 = .ok (.if_icmp .lt 133, 3) := by decide +kernel
theorem dX4_search_191 : decode cX4_search 191 = .ok (.aload_n 0, 1) := by decide +kernel
theorem dX4_search_192 : decode cX4_search 192 = .ok (.invokevirtual 118, 3) := by decide +kernel
theorem dX4_search_195 : decode cX4_search 195 = .ok (.ifCond .ne 6, 3) := by decide +kernel
theorem dX4_search_198 : decode cX4_search 198 = .ok (.goto 123, 3) := by decide +kernel
theorem dX4_search_201 : decode cX4_search 201 = .ok (.iload_n 1, 1) := by decide +kernel
theorem dX4_search_202 : decode cX4_search 202 = .ok (.ifCond .eq 14, 3) := by decide +kernel
theorem dX4_search_205 : decode cX4_search 205 = .ok (.aload_n 0, 1) := by decide +kernel
theorem dX4_search_206 : decode cX4_search 206 = .ok (.aload_n 0, 1) := by decide +kernel
theorem dX4_search_207 : decode cX4_search 207 = .ok (.getfield 35, 3) := by decide +kernel
theorem dX4_search_210 : decode cX4_search 210 = .ok (.invokevirtual 122, 3) := by decide +kernel
theorem dX4_search_213 : decode cX4_search 213 = .ok (.goto 4, 3) := by decide +kernel
theorem dX4_search_216 : decode cX4_search 216 = .ok (.iconst 0, 1) := by decide +kernel
theorem dX4_search_217 : decode cX4_search 217 = .ok (.istore 10, 2) := by decide +kernel
theorem dX4_search_219 : decode cX4_search 219 = .ok (.aload_n 0, 1) := by decide +kernel
theorem dX4_search_220 : decode cX4_search 220 = .ok (.getfield 19, 3) := by decide +kernel
theorem dX4_search_223 : decode cX4_search 223 = .ok (.aload_n 0, 1) := by decide +kernel
theorem dX4_search_224 : decode cX4_search 224 = .ok (.getfield 22, 3) := by decide +kernel
theorem dX4_search_227 : decode cX4_search 227 = .ok (.aload_n 0, 1) := by decide +kernel
theorem dX4_search_228 : decode cX4_search 228 = .ok (.getfield 35, 3) := by decide +kernel
theorem dX4_search_231 : decode cX4_search 231 = .ok (.aload_n 0, 1) := by decide +kernel
theorem dX4_search_232 : decode cX4_search 232 = .ok (.getfield 54, 3) := by decide +kernel
theorem dX4_search_235 : decode cX4_search 235 = .ok (.invokestatic 104, 3) := by decide +kernel
theorem dX4_search_238 : decode cX4_search 238 = .ok (.istore 11, 2) := by decide +kernel
theorem dX4_search_240 : decode cX4_search 240 = .ok (.iload_n 3, 1) := by decide +kernel
theorem dX4_search_241 : decode cX4_search 241 = .ok (.ifCond .eq 34, 3) := by decide +kernel
theorem dX4_search_244 : decode cX4_search 244 = .ok (.iload 9, 2) := by decide +kernel
theorem dX4_search_246 : decode cX4_search 246 = .ok (.iload 4, 2) := by decide +kernel
theorem dX4_search_248 : decode cX4_search 248 = .ok (.if_icmp .ne 27, 3) := by decide +kernel
theorem dX4_search_251 : decode cX4_search 251 = .ok (.iload 10, 2) := by decide +kernel
theorem dX4_search_253 : decode cX4_search 253 = .ok (.iload 5, 2) := by decide +kernel
theorem dX4_search_255 : decode cX4_search 255 = .ok (.if_icmp .gt 66, 3) := by decide +kernel
theorem dX4_search_258 : decode cX4_search 258 = .ok (.iload 10, 2) := by decide +kernel
theorem dX4_search_260 : decode cX4_search 260 = .ok (.iload 5, 2) := by decide +kernel
theorem dX4_search_262 : decode cX4_search 262 = .ok (.if_icmp .ne 13, 3) := by decide +kernel
theorem dX4_search_265 : decode cX4_search 265 = .ok (.iload 11, 2) := by decide +kernel
theorem dX4_search_267 : decode cX4_search 267 = .ok (.iload 6, 2) := by decide +kernel
theorem dX4_search_269 : decode cX4_search 269 = .ok (.if_icmp .gt 6, 3) := by decide +kernel
theorem dX4_search_272 : decode cX4_search 272 = .ok (.goto 49, 3) := by decide +kernel
theorem dX4_search_275 : decode cX4_search 275 = .ok (.iconst 1, 1) := by decide +kernel
theorem dX4_search_276 : decode cX4_search 276 = .ok (.istore_n 3, 1) := by decide +kernel
theorem dX4_search_277 : decode cX4_search 277 = .ok (.iload 9, 2) := by decide +kernel
theorem dX4_search_279 : decode cX4_search 279 = .ok (.istore 4, 2) := by decide +kernel
theorem dX4_search_281 : decode cX4_search 281 = .ok (.iload 10, 2) := by decide +kernel
theorem dX4_search_283 : decode cX4_search 283 = .ok (.istore 5, 2) := by decide +kernel
theorem dX4_search_285 : decode cX4_search 285 = .ok (.iload 11, 2) := by decide +kernel
theorem dX4_search_287 : decode cX4_search 287 = .ok (.istore 6, 2) := by decide +kernel
theorem dX4_search_289 : decode cX4_search 289 = .ok (.iconst 0, 1) := by decide +kernel
theorem dX4_search_290 : decode cX4_search 290 = .ok (.istore 12, 2) := by decide +kernel
theorem dX4_search_292 : decode cX4_search 292 = .ok (.iload 12, 2) := by decide +kernel
theorem dX4_search_294 : decode cX4_search 294 = .ok (.aload_n 0, 1) := by decide +kernel
theorem dX4_search_295 : decode cX4_search 295 = .ok (.getfield 54, 3) := by decide +kernel
theorem dX4_search_298 : decode cX4_search 298 = .ok (.if_icmp .ge 23, 3) := by decide +kernel
theorem dX4_search_301 : decode cX4_search 301 = .ok (.aload_n 0, 1) := by decide +kernel
theorem dX4_search_302 : decode cX4_search 302 = .ok (.getfield 38, 3) := by decide +kernel
theorem dX4_search_305 : decode cX4_search 305 = .ok (.iload 12, 2) := by decide +kernel
theorem dX4_search_307 : decode cX4_search 307 = .ok (.aload_n 0, 1) := by decide +kernel
theorem dX4_search_308 : decode cX4_search 308 = .ok (.getfield 35, 3) := by decide +kernel
theorem dX4_search_311 : decode cX4_search 311 = .ok (.iload 12, 2) := by decide +kernel
theorem dX4_search_313 : decode cX4_search 313 = .ok (.iaload, 1) := by decide +kernel
theorem dX4_search_314 : decode cX4_search 314 = .ok (.iastore, 1) := by decide +kernel
theorem dX4_search_315 : decode cX4_search 315 = .ok (.iinc 12 1, 3) := by decide +kernel
theorem dX4_search_318 : decode cX4_search 318 = .ok (.goto (-26), 3) := by decide +kernel
theorem dX4_search_321 : decode cX4_search 321 = .ok (.iinc 7 1, 3) := by decide +kernel
theorem dX4_search_324 : decode cX4_search 324 = .ok (.goto (-227), 3) := by decide +kernel
theorem dX4_search_327 : decode cX4_search 327 = .ok (.return_, 1) := by decide +kernel
theorem dX4_best_0 : decode cX4_best 0 = .ok (.aload_n 0, 1) := by decide +kernel
theorem dX4_best_1 : decode cX4_best 1 = .ok (.iconst 0, 1) := by decide +kernel
theorem dX4_best_2 : decode cX4_best 2 = .ok (.putfield 50, 3) := by decide +kernel
theorem dX4_best_5 : decode cX4_best 5 = .ok (.aload_n 0, 1) := by decide +kernel
theorem dX4_best_6 : decode cX4_best 6 = .ok (.iconst 0, 1) := by decide +kernel
theorem dX4_best_7 : decode cX4_best 7 = .ok (.invokevirtual 125, 3) := by decide +kernel
theorem dX4_best_10 : decode cX4_best 10 = .ok (.iconst 0, 1) := by decide +kernel
theorem dX4_best_11 : decode cX4_best 11 = .ok (.istore_n 1, 1) := by decide +kernel
theorem dX4_best_12 : decode cX4_best 12 = .ok (.iload_n 1, 1) := by decide +kernel
theorem dX4_best_13 : decode cX4_best 13 = .ok (.aload_n 0, 1) := by decide +kernel
theorem dX4_best_14 : decode cX4_best 14 = .ok (.getfield 54, 3) := by decide +kernel
theorem dX4_best_17 : decode cX4_best 17 = .ok (.if_icmp .ge 21, 3) := by decide +kernel
theorem dX4_best_20 : decode cX4_best 20 = .ok (.aload_n 0, 1) := by decide +kernel
theorem dX4_best_21 : decode cX4_best 21 = .ok (.getfield 29, 3) := by decide +kernel
theorem dX4_best_24 : decode cX4_best 24 = .ok (.iload_n 1, 1) := by decide +kernel
theorem dX4_best_25 : decode cX4_best 25 = .ok (.aload_n 0, 1) := by decide +kernel
theorem dX4_best_26 : decode cX4_best 26 = .ok (.getfield 38, 3) := by decide +kernel
theorem dX4_best_29 : decode cX4_best 29 = .ok (.iload_n 1, 1) := by decide +kernel
theorem dX4_best_30 : decode cX4_best 30 = .ok (.iaload, 1) := by decide +kernel
theorem dX4_best_31 : decode cX4_best 31 = .ok (.iastore, 1) := by decide +kernel
theorem dX4_best_32 : decode cX4_best 32 = .ok (.iinc 1 1, 3) := by decide +kernel
theorem dX4_best_35 : decode cX4_best 35 = .ok (.goto (-23), 3) := by decide +kernel
theorem dX4_best_38 : decode cX4_best 38 = .ok (.aload_n 0, 1) := by decide +kernel
theorem dX4_best_39 : decode cX4_best 39 = .ok (.aload_n 0, 1) := by decide +kernel
theorem dX4_best_40 : decode cX4_best 40 = .ok (.getfield 29, 3) := by decide +kernel
theorem dX4_best_43 : decode cX4_best 43 = .ok (.invokevirtual 100, 3) := by decide +kernel
theorem dX4_best_46 : decode cX4_best 46 = .ok (.ireturn, 1) := by decide +kernel
theorem dX4_mend_0 : decode cX4_mend 0 = .ok (.aload_n 0, 1) := by decide +kernel
theorem dX4_mend_1 : decode cX4_mend 1 = .ok (.iconst 0, 1) := by decide +kernel
theorem dX4_mend_2 : decode cX4_mend 2 = .ok (.putfield 50, 3) := by decide +kernel
theorem dX4_mend_5 : decode cX4_mend 5 = .ok (.aload_n 0, 1) := by decide +kernel
theorem dX4_mend_6 : decode cX4_mend 6 = .ok (.iconst 1, 1) := by decide +kernel
theorem dX4_mend_7 : decode cX4_mend 7 = .ok (.invokevirtual 125, 3) := by decide +kernel
theorem dX4_mend_10 : decode cX4_mend 10 = .ok (.aload_n 0, 1) := by decide +kernel
theorem dX4_mend_11 : decode cX4_mend 11 = .ok (.aload_n 0, 1) := by decide +kernel
theorem dX4_mend_12 : decode cX4_mend 12 = .ok (.getfield 38, 3) := by decide +kernel
theorem dX4_mend_15 : decode cX4_mend 15 = .ok (.invokevirtual 122, 3) := by decide +kernel
theorem dX4_mend_18 : decode cX4_mend 18 = .ok (.istore_n 1, 1) := by decide +kernel
theorem dX4_mend_19 : decode cX4_mend 19 = .ok (.iconst 0, 1) := by decide +kernel
theorem dX4_mend_20 : decode cX4_mend 20 = .ok (.istore_n 2, 1) := by decide +kernel
theorem dX4_mend_21 : decode cX4_mend 21 = .ok (.iload_n 2, 1) := by decide +kernel
theorem dX4_mend_22 : decode cX4_mend 22 = .ok (.aload_n 0, 1) := by decide +kernel
theorem dX4_mend_23 : decode cX4_mend 23 = .ok (.getfield 54, 3) := by decide +kernel
theorem dX4_mend_26 : decode cX4_mend 26 = .ok (.if_icmp .ge 21, 3) := by decide +kernel
theorem dX4_mend_29 : decode cX4_mend 29 = .ok (.aload_n 0, 1) := by decide +kernel
theorem dX4_mend_30 : decode cX4_mend 30 = .ok (.getfield 29, 3) := by decide +kernel
theorem dX4_mend_33 : decode cX4_mend 33 = .ok (.iload_n 2, 1) := by decide +kernel
theorem dX4_mend_34 : decode cX4_mend 34 = .ok (.aload_n 0, 1) := by decide +kernel
theorem dX4_mend_35 : decode cX4_mend 35 = .ok (.getfield 38, 3) := by decide +kernel
theorem dX4_mend_38 : decode cX4_mend 38 = .ok (.iload_n 2, 1) := by decide +kernel
theorem dX4_mend_39 : decode cX4_mend 39 = .ok (.iaload, 1) := by decide +kernel
theorem dX4_mend_40 : decode cX4_mend 40 = .ok (.iastore, 1) := by decide +kernel
theorem dX4_mend_41 : decode cX4_mend 41 = .ok (.iinc 2 1, 3) := by decide +kernel
theorem dX4_mend_44 : decode cX4_mend 44 = .ok (.goto (-23), 3) := by decide +kernel
theorem dX4_mend_47 : decode cX4_mend 47 = .ok (.iload_n 1, 1) := by decide +kernel
theorem dX4_mend_48 : decode cX4_mend 48 = .ok (.ireturn, 1) := by decide +kernel
theorem dX4_sumOf_0 : decode cX4_sumOf 0 = .ok (.iconst 1, 1) := by decide +kernel
theorem dX4_sumOf_1 : decode cX4_sumOf 1 = .ok (.aload_n 0, 1) := by decide +kernel
theorem dX4_sumOf_2 : decode cX4_sumOf 2 = .ok (.getfield 54, 3) := by decide +kernel
theorem dX4_sumOf_5 : decode cX4_sumOf 5 = .ok (.ishl, 1) := by decide +kernel
theorem dX4_sumOf_6 : decode cX4_sumOf 6 = .ok (.istore_n 1, 1) := by decide +kernel
theorem dX4_sumOf_7 : decode cX4_sumOf 7 = .ok (.iconst 0, 1) := by decide +kernel
theorem dX4_sumOf_8 : decode cX4_sumOf 8 = .ok (.istore_n 2, 1) := by decide +kernel
theorem dX4_sumOf_9 : decode cX4_sumOf 9 = .ok (.iconst 0, 1) := by decide +kernel
theorem dX4_sumOf_10 : decode cX4_sumOf 10 = .ok (.istore_n 3, 1) := by decide +kernel
theorem dX4_sumOf_11 : decode cX4_sumOf 11 = .ok (.iload_n 3, 1) := by decide +kernel
theorem dX4_sumOf_12 : decode cX4_sumOf 12 = .ok (.aload_n 0, 1) := by decide +kernel
theorem dX4_sumOf_13 : decode cX4_sumOf 13 = .ok (.getfield 54, 3) := by decide +kernel
theorem dX4_sumOf_16 : decode cX4_sumOf 16 = .ok (.if_icmp .ge 25, 3) := by decide +kernel
theorem dX4_sumOf_19 : decode cX4_sumOf 19 = .ok (.aload_n 0, 1) := by decide +kernel
theorem dX4_sumOf_20 : decode cX4_sumOf 20 = .ok (.getfield 29, 3) := by decide +kernel
theorem dX4_sumOf_23 : decode cX4_sumOf 23 = .ok (.iload_n 3, 1) := by decide +kernel
theorem dX4_sumOf_24 : decode cX4_sumOf 24 = .ok (.iaload, 1) := by decide +kernel
theorem dX4_sumOf_25 : decode cX4_sumOf 25 = .ok (.iconst (-1), 1) := by decide +kernel
theorem dX4_sumOf_26 : decode cX4_sumOf 26 = .ok (.if_icmp .eq 9, 3) := by decide +kernel
theorem dX4_sumOf_29 : decode cX4_sumOf 29 = .ok (.iload_n 2, 1) := by decide +kernel
theorem dX4_sumOf_30 : decode cX4_sumOf 30 = .ok (.iconst 1, 1) := by decide +kernel
theorem dX4_sumOf_31 : decode cX4_sumOf 31 = .ok (.iload_n 3, 1) := by decide +kernel
theorem dX4_sumOf_32 : decode cX4_sumOf 32 = .ok (.ishl, 1) := by decide +kernel
theorem dX4_sumOf_33 : decode cX4_sumOf 33 = .ok (.ior, 1) := by decide +kernel
theorem dX4_sumOf_34 : decode cX4_sumOf 34 = .ok (.istore_n 2, 1) := by decide +kernel
theorem dX4_sumOf_35 : decode cX4_sumOf 35 = .ok (.iinc 3 1, 3) := by decide +kernel
theorem dX4_sumOf_38 : decode cX4_sumOf 38 = .ok (.goto (-27), 3) := by decide +kernel
theorem dX4_sumOf_41 : decode cX4_sumOf 41 = .ok (.iconst 0, 1) := by decide +kernel
theorem dX4_sumOf_42 : decode cX4_sumOf 42 = .ok (.istore_n 3, 1) := by decide +kernel
theorem dX4_sumOf_43 : decode cX4_sumOf 43 = .ok (.iload_n 3, 1) := by decide +kernel
theorem dX4_sumOf_44 : decode cX4_sumOf 44 = .ok (.iload_n 1, 1) := by decide +kernel
theorem dX4_sumOf_45 : decode cX4_sumOf 45 = .ok (.if_icmp .ge 30, 3) := by decide +kernel
theorem dX4_sumOf_48 : decode cX4_sumOf 48 = .ok (.aload_n 0, 1) := by decide +kernel
theorem dX4_sumOf_49 : decode cX4_sumOf 49 = .ok (.getfield 44, 3) := by decide +kernel
theorem dX4_sumOf_52 : decode cX4_sumOf 52 = .ok (.bipush 120, 2) := by decide +kernel
theorem dX4_sumOf_54 : decode cX4_sumOf 54 = .ok (.iload_n 1, 1) := by decide +kernel
theorem dX4_sumOf_55 : decode cX4_sumOf 55 = .ok (.imul, 1) := by decide +kernel
theorem dX4_sumOf_56 : decode cX4_sumOf 56 = .ok (.iload_n 3, 1) := by decide +kernel
theorem dX4_sumOf_57 : decode cX4_sumOf 57 = .ok (.iadd, 1) := by decide +kernel
theorem dX4_sumOf_58 : decode cX4_sumOf 58 = .ok (.iload_n 3, 1) := by decide +kernel
theorem dX4_sumOf_59 : decode cX4_sumOf 59 = .ok (.ifCond .ne 7, 3) := by decide +kernel
theorem dX4_sumOf_62 : decode cX4_sumOf 62 = .ok (.iconst 0, 1) := by decide +kernel
theorem dX4_sumOf_63 : decode cX4_sumOf 63 = .ok (.goto 5, 3) := by decide +kernel
theorem dX4_sumOf_66 : decode cX4_sumOf 66 = .ok (.ldc 129, 2) := by decide +kernel
theorem dX4_sumOf_68 : decode cX4_sumOf 68 = .ok (.iastore, 1) := by decide +kernel
theorem dX4_sumOf_69 : decode cX4_sumOf 69 = .ok (.iinc 3 1, 3) := by decide +kernel
theorem dX4_sumOf_72 : decode cX4_sumOf 72 = .ok (.goto (-29), 3) := by decide +kernel
theorem dX4_sumOf_75 : decode cX4_sumOf 75 = .ok (.bipush 119, 2) := by decide +kernel
theorem dX4_sumOf_77 : decode cX4_sumOf 77 = .ok (.istore_n 3, 1) := by decide +kernel
theorem dX4_sumOf_78 : decode cX4_sumOf 78 = .ok (.iload_n 3, 1) := by decide +kernel
theorem dX4_sumOf_79 : decode cX4_sumOf 79 = .ok (.ifCond .lt 144, 3) := by decide +kernel
theorem dX4_sumOf_82 : decode cX4_sumOf 82 = .ok (.iconst 0, 1) := by decide +kernel
theorem dX4_sumOf_83 : decode cX4_sumOf 83 = .ok (.istore 4, 2) := by decide +kernel
theorem dX4_sumOf_85 : decode cX4_sumOf 85 = .ok (.iload 4, 2) := by decide +kernel
theorem dX4_sumOf_87 : decode cX4_sumOf 87 = .ok (.iload_n 1, 1) := by decide +kernel
theorem dX4_sumOf_88 : decode cX4_sumOf 88 = .ok (.if_icmp .ge 129, 3) := by decide +kernel
theorem dX4_sumOf_91 : decode cX4_sumOf 91 = .ok (.aload_n 0, 1) := by decide +kernel
theorem dX4_sumOf_92 : decode cX4_sumOf 92 = .ok (.getfield 44, 3) := by decide +kernel
theorem dX4_sumOf_95 : decode cX4_sumOf 95 = .ok (.iload_n 3, 1) := by decide +kernel
theorem dX4_sumOf_96 : decode cX4_sumOf 96 = .ok (.iconst 1, 1) := by decide +kernel
theorem dX4_sumOf_97 : decode cX4_sumOf 97 = .ok (.iadd, 1) := by decide +kernel
theorem dX4_sumOf_98 : decode cX4_sumOf 98 = .ok (.iload_n 1, 1) := by decide +kernel
theorem dX4_sumOf_99 : decode cX4_sumOf 99 = .ok (.imul, 1) := by decide +kernel
theorem dX4_sumOf_100 : decode cX4_sumOf 100 = .ok (.iload 4, 2) := by decide +kernel
theorem dX4_sumOf_102 : decode cX4_sumOf 102 = .ok (.iadd, 1) := by decide +kernel
theorem dX4_sumOf_103 : decode cX4_sumOf 103 = .ok (.iaload, 1) := by decide +kernel
theorem dX4_sumOf_104 : decode cX4_sumOf 104 = .ok (.istore 5, 2) := by decide +kernel
theorem dX4_sumOf_106 : decode cX4_sumOf 106 = .ok (.iconst 0, 1) := by decide +kernel
theorem dX4_sumOf_107 : decode cX4_sumOf 107 = .ok (.istore 6, 2) := by decide +kernel
theorem dX4_sumOf_109 : decode cX4_sumOf 109 = .ok (.iload 6, 2) := by decide +kernel
theorem dX4_sumOf_111 : decode cX4_sumOf 111 = .ok (.aload_n 0, 1) := by decide +kernel
theorem dX4_sumOf_112 : decode cX4_sumOf 112 = .ok (.getfield 54, 3) := by decide +kernel
theorem dX4_sumOf_115 : decode cX4_sumOf 115 = .ok (.if_icmp .ge 83, 3) := by decide +kernel
theorem dX4_sumOf_118 : decode cX4_sumOf 118 = .ok (.iload 4, 2) := by decide +kernel
theorem dX4_sumOf_120 : decode cX4_sumOf 120 = .ok (.iload 6, 2) := by decide +kernel
theorem dX4_sumOf_122 : decode cX4_sumOf 122 = .ok (.ishr, 1) := by decide +kernel
theorem dX4_sumOf_123 : decode cX4_sumOf 123 = .ok (.iconst 1, 1) := by decide +kernel
theorem dX4_sumOf_124 : decode cX4_sumOf 124 = .ok (.iand, 1) := by decide +kernel
theorem dX4_sumOf_125 : decode cX4_sumOf 125 = .ok (.ifCond .eq 67, 3) := by decide +kernel
theorem dX4_sumOf_128 : decode cX4_sumOf 128 = .ok (.aload_n 0, 1) := by decide +kernel
theorem dX4_sumOf_129 : decode cX4_sumOf 129 = .ok (.iload 6, 2) := by decide +kernel
theorem dX4_sumOf_131 : decode cX4_sumOf 131 = .ok (.iload_n 3, 1) := by decide +kernel
theorem dX4_sumOf_132 : decode cX4_sumOf 132 = .ok (.invokevirtual 130, 3) := by decide +kernel
theorem dX4_sumOf_135 : decode cX4_sumOf 135 = .ok (.ifCond .ne 6, 3) := by decide +kernel
theorem dX4_sumOf_138 : decode cX4_sumOf 138 = .ok (.goto 54, 3) := by decide +kernel
theorem dX4_sumOf_141 : decode cX4_sumOf 141 = .ok (.iload_n 3, 1) := by decide +kernel
theorem dX4_sumOf_142 : decode cX4_sumOf 142 = .ok (.aload_n 0, 1) := by decide +kernel
theorem dX4_sumOf_143 : decode cX4_sumOf 143 = .ok (.getfield 19, 3) := by decide +kernel
theorem dX4_sumOf_146 : decode cX4_sumOf 146 = .ok (.bipush 7, 2) := by decide +kernel
theorem dX4_sumOf_148 : decode cX4_sumOf 148 = .ok (.iload 6, 2) := by decide +kernel
theorem dX4_sumOf_150 : decode cX4_sumOf 150 = .ok (.imul, 1) := by decide +kernel
theorem dX4_sumOf_151 : decode cX4_sumOf 151 = .ok (.iconst 5, 1) := by decide +kernel
theorem dX4_sumOf_152 : decode cX4_sumOf 152 = .ok (.iadd, 1) := by decide +kernel
theorem dX4_sumOf_153 : decode cX4_sumOf 153 = .ok (.iaload, 1) := by decide +kernel
theorem dX4_sumOf_154 : decode cX4_sumOf 154 = .ok (.isub, 1) := by decide +kernel
theorem dX4_sumOf_155 : decode cX4_sumOf 155 = .ok (.aload_n 0, 1) := by decide +kernel
theorem dX4_sumOf_156 : decode cX4_sumOf 156 = .ok (.getfield 44, 3) := by decide +kernel
theorem dX4_sumOf_159 : decode cX4_sumOf 159 = .ok (.iload_n 3, 1) := by decide +kernel
theorem dX4_sumOf_160 : decode cX4_sumOf 160 = .ok (.iconst 1, 1) := by decide +kernel
theorem dX4_sumOf_161 : decode cX4_sumOf 161 = .ok (.iadd, 1) := by decide +kernel
theorem dX4_sumOf_162 : decode cX4_sumOf 162 = .ok (.iload_n 1, 1) := by decide +kernel
theorem dX4_sumOf_163 : decode cX4_sumOf 163 = .ok (.imul, 1) := by decide +kernel
theorem dX4_sumOf_164 : decode cX4_sumOf 164 = .ok (.iload 4, 2) := by decide +kernel
theorem dX4_sumOf_166 : decode cX4_sumOf 166 = .ok (.iconst 1, 1) := by decide +kernel
theorem dX4_sumOf_167 : decode cX4_sumOf 167 = .ok (.iload 6, 2) := by decide +kernel
theorem dX4_sumOf_169 : decode cX4_sumOf 169 = .ok (.ishl, 1) := by decide +kernel
theorem dX4_sumOf_170 : decode cX4_sumOf 170 = .ok (.ixor, 1) := by decide +kernel
theorem dX4_sumOf_171 : decode cX4_sumOf 171 = .ok (.iadd, 1) := by decide +kernel
theorem dX4_sumOf_172 : decode cX4_sumOf 172 = .ok (.iaload, 1) := by decide +kernel
theorem dX4_sumOf_173 : decode cX4_sumOf 173 = .ok (.iadd, 1) := by decide +kernel
theorem dX4_sumOf_174 : decode cX4_sumOf 174 = .ok (.istore 7, 2) := by decide +kernel
theorem dX4_sumOf_176 : decode cX4_sumOf 176 = .ok (.iload 7, 2) := by decide +kernel
theorem dX4_sumOf_178 : decode cX4_sumOf 178 = .ok (.iload 5, 2) := by decide +kernel
theorem dX4_sumOf_180 : decode cX4_sumOf 180 = .ok (.if_icmp .ge 8, 3) := by decide +kernel
theorem dX4_sumOf_183 : decode cX4_sumOf 183 = .ok (.iload 7, 2) := by decide +kernel
theorem dX4_sumOf_185 : decode cX4_sumOf 185 = .ok (.goto 5, 3) := by decide +kernel
theorem dX4_sumOf_188 : decode cX4_sumOf 188 = .ok (.iload 5, 2) := by decide +kernel
theorem dX4_sumOf_190 : decode cX4_sumOf 190 = .ok (.istore 5, 2) := by decide +kernel
theorem dX4_sumOf_192 : decode cX4_sumOf 192 = .ok (.iinc 6 1, 3) := by decide +kernel
theorem dX4_sumOf_195 : decode cX4_sumOf 195 = .ok (.goto (-86), 3) := by decide +kernel
theorem dX4_sumOf_198 : decode cX4_sumOf 198 = .ok (.aload_n 0, 1) := by decide +kernel
theorem dX4_sumOf_199 : decode cX4_sumOf 199 = .ok (.getfield 44, 3) := by decide +kernel
theorem dX4_sumOf_202 : decode cX4_sumOf 202 = .ok (.iload_n 3, 1) := by decide +kernel
theorem dX4_sumOf_203 : decode cX4_sumOf 203 = .ok (.iload_n 1, 1) := by decide +kernel
theorem dX4_sumOf_204 : decode cX4_sumOf 204 = .ok (.imul, 1) := by decide +kernel
theorem dX4_sumOf_205 : decode cX4_sumOf 205 = .ok (.iload 4, 2) := by decide +kernel
theorem dX4_sumOf_207 : decode cX4_sumOf 207 = .ok (.iadd, 1) := by decide +kernel
theorem dX4_sumOf_208 : decode cX4_sumOf 208 = .ok (.iload 5, 2) := by decide +kernel
theorem dX4_sumOf_210 : decode cX4_sumOf 210 = .ok (.iastore, 1) := by decide +kernel
theorem dX4_sumOf_211 : decode cX4_sumOf 211 = .ok (.iinc 4 1, 3) := by decide +kernel
theorem dX4_sumOf_214 : decode cX4_sumOf 214 = .ok (.goto (-129), 3) := by decide +kernel
theorem dX4_sumOf_217 : decode cX4_sumOf 217 = .ok (.iinc 3 (-1), 3) := by decide +kernel
theorem dX4_sumOf_220 : decode cX4_sumOf 220 = .ok (.goto (-142), 3) := by decide +kernel
theorem dX4_sumOf_223 : decode cX4_sumOf 223 = .ok (.aload_n 0, 1) := by decide +kernel
theorem dX4_sumOf_224 : decode cX4_sumOf 224 = .ok (.getfield 44, 3) := by decide +kernel
theorem dX4_sumOf_227 : decode cX4_sumOf 227 = .ok (.iload_n 2, 1) := by decide +kernel
theorem dX4_sumOf_228 : decode cX4_sumOf 228 = .ok (.iaload, 1) := by decide +kernel
theorem dX4_sumOf_229 : decode cX4_sumOf 229 = .ok (.ireturn, 1) := by decide +kernel
theorem dX4_mayCome_0 : decode cX4_mayCome 0 = .ok (.aload_n 0, 1) := by decide +kernel
theorem dX4_mayCome_1 : decode cX4_mayCome 1 = .ok (.getfield 29, 3) := by decide +kernel
theorem dX4_mayCome_4 : decode cX4_mayCome 4 = .ok (.iload_n 1, 1) := by decide +kernel
theorem dX4_mayCome_5 : decode cX4_mayCome 5 = .ok (.iaload, 1) := by decide +kernel
theorem dX4_mayCome_6 : decode cX4_mayCome 6 = .ok (.iconst (-1), 1) := by decide +kernel
theorem dX4_mayCome_7 : decode cX4_mayCome 7 = .ok (.if_icmp .eq 23, 3) := by decide +kernel
theorem dX4_mayCome_10 : decode cX4_mayCome 10 = .ok (.aload_n 0, 1) := by decide +kernel
theorem dX4_mayCome_11 : decode cX4_mayCome 11 = .ok (.getfield 47, 3) := by decide +kernel
theorem dX4_mayCome_14 : decode cX4_mayCome 14 = .ok (.iload_n 1, 1) := by decide +kernel
theorem dX4_mayCome_15 : decode cX4_mayCome 15 = .ok (.iaload, 1) := by decide +kernel
theorem dX4_mayCome_16 : decode cX4_mayCome 16 = .ok (.iconst (-1), 1) := by decide +kernel
theorem dX4_mayCome_17 : decode cX4_mayCome 17 = .ok (.if_icmp .eq 15, 3) := by decide +kernel
theorem dX4_mayCome_20 : decode cX4_mayCome 20 = .ok (.aload_n 0, 1) := by decide +kernel
theorem dX4_mayCome_21 : decode cX4_mayCome 21 = .ok (.getfield 47, 3) := by decide +kernel
theorem dX4_mayCome_24 : decode cX4_mayCome 24 = .ok (.iload_n 1, 1) := by decide +kernel
theorem dX4_mayCome_25 : decode cX4_mayCome 25 = .ok (.iaload, 1) := by decide +kernel
theorem dX4_mayCome_26 : decode cX4_mayCome 26 = .ok (.iload_n 2, 1) := by decide +kernel
theorem dX4_mayCome_27 : decode cX4_mayCome 27 = .ok (.if_icmp .eq 5, 3) := by decide +kernel
theorem dX4_mayCome_30 : decode cX4_mayCome 30 = .ok (.iconst 0, 1) := by decide +kernel
theorem dX4_mayCome_31 : decode cX4_mayCome 31 = .ok (.ireturn, 1) := by decide +kernel
theorem dX4_mayCome_32 : decode cX4_mayCome 32 = .ok (.iload_n 2, 1) := by decide +kernel
theorem dX4_mayCome_33 : decode cX4_mayCome 33 = .ok (.aload_n 0, 1) := by decide +kernel
theorem dX4_mayCome_34 : decode cX4_mayCome 34 = .ok (.getfield 19, 3) := by decide +kernel
theorem dX4_mayCome_37 : decode cX4_mayCome 37 = .ok (.bipush 7, 2) := by decide +kernel
theorem dX4_mayCome_39 : decode cX4_mayCome 39 = .ok (.iload_n 1, 1) := by decide +kernel
theorem dX4_mayCome_40 : decode cX4_mayCome 40 = .ok (.imul, 1) := by decide +kernel
theorem dX4_mayCome_41 : decode cX4_mayCome 41 = .ok (.iconst 5, 1) := by decide +kernel
theorem dX4_mayCome_42 : decode cX4_mayCome 42 = .ok (.iadd, 1) := by decide +kernel
theorem dX4_mayCome_43 : decode cX4_mayCome 43 = .ok (.iaload, 1) := by decide +kernel
theorem dX4_mayCome_44 : decode cX4_mayCome 44 = .ok (.if_icmp .lt 46, 3) := by decide +kernel
theorem dX4_mayCome_47 : decode cX4_mayCome 47 = .ok (.aload_n 0, 1) := by decide +kernel
theorem dX4_mayCome_48 : decode cX4_mayCome 48 = .ok (.getfield 19, 3) := by decide +kernel
theorem dX4_mayCome_51 : decode cX4_mayCome 51 = .ok (.bipush 7, 2) := by decide +kernel
theorem dX4_mayCome_53 : decode cX4_mayCome 53 = .ok (.iload_n 1, 1) := by decide +kernel
theorem dX4_mayCome_54 : decode cX4_mayCome 54 = .ok (.imul, 1) := by decide +kernel
theorem dX4_mayCome_55 : decode cX4_mayCome 55 = .ok (.iconst 4, 1) := by decide +kernel
theorem dX4_mayCome_56 : decode cX4_mayCome 56 = .ok (.iadd, 1) := by decide +kernel
theorem dX4_mayCome_57 : decode cX4_mayCome 57 = .ok (.iaload, 1) := by decide +kernel
theorem dX4_mayCome_58 : decode cX4_mayCome 58 = .ok (.aload_n 0, 1) := by decide +kernel
theorem dX4_mayCome_59 : decode cX4_mayCome 59 = .ok (.getfield 16, 3) := by decide +kernel
theorem dX4_mayCome_62 : decode cX4_mayCome 62 = .ok (.iload_n 2, 1) := by decide +kernel
theorem dX4_mayCome_63 : decode cX4_mayCome 63 = .ok (.iaload, 1) := by decide +kernel
theorem dX4_mayCome_64 : decode cX4_mayCome 64 = .ok (.if_icmp .gt 26, 3) := by decide +kernel
theorem dX4_mayCome_67 : decode cX4_mayCome 67 = .ok (.aload_n 0, 1) := by decide +kernel
theorem dX4_mayCome_68 : decode cX4_mayCome 68 = .ok (.iload_n 1, 1) := by decide +kernel
theorem dX4_mayCome_69 : decode cX4_mayCome 69 = .ok (.iload_n 2, 1) := by decide +kernel
theorem dX4_mayCome_70 : decode cX4_mayCome 70 = .ok (.aload_n 0, 1) := by decide +kernel
theorem dX4_mayCome_71 : decode cX4_mayCome 71 = .ok (.aload_n 0, 1) := by decide +kernel
theorem dX4_mayCome_72 : decode cX4_mayCome 72 = .ok (.getfield 29, 3) := by decide +kernel
theorem dX4_mayCome_75 : decode cX4_mayCome 75 = .ok (.iload_n 1, 1) := by decide +kernel
theorem dX4_mayCome_76 : decode cX4_mayCome 76 = .ok (.iaload, 1) := by decide +kernel
theorem dX4_mayCome_77 : decode cX4_mayCome 77 = .ok (.invokevirtual 90, 3) := by decide +kernel
theorem dX4_mayCome_80 : decode cX4_mayCome 80 = .ok (.invokevirtual 78, 3) := by decide +kernel
theorem dX4_mayCome_83 : decode cX4_mayCome 83 = .ok (.ifCond .eq 7, 3) := by decide +kernel
theorem dX4_mayCome_86 : decode cX4_mayCome 86 = .ok (.iconst 1, 1) := by decide +kernel
theorem dX4_mayCome_87 : decode cX4_mayCome 87 = .ok (.goto 4, 3) := by decide +kernel
theorem dX4_mayCome_90 : decode cX4_mayCome 90 = .ok (.iconst 0, 1) := by decide +kernel
theorem dX4_mayCome_91 : decode cX4_mayCome 91 = .ok (.ireturn, 1) := by decide +kernel
theorem dX4_plan_0 : decode cX4_plan 0 = .ok (.aload_n 0, 1) := by decide +kernel
theorem dX4_plan_1 : decode cX4_plan 1 = .ok (.iconst 0, 1) := by decide +kernel
theorem dX4_plan_2 : decode cX4_plan 2 = .ok (.putfield 50, 3) := by decide +kernel
theorem dX4_plan_5 : decode cX4_plan 5 = .ok (.iconst 0, 1) := by decide +kernel
theorem dX4_plan_6 : decode cX4_plan 6 = .ok (.istore_n 1, 1) := by decide +kernel
theorem dX4_plan_7 : decode cX4_plan 7 = .ok (.iload_n 1, 1) := by decide +kernel
theorem dX4_plan_8 : decode cX4_plan 8 = .ok (.bipush 7, 2) := by decide +kernel
theorem dX4_plan_10 : decode cX4_plan 10 = .ok (.if_icmp .ge 16, 3) := by decide +kernel
theorem dX4_plan_13 : decode cX4_plan 13 = .ok (.aload_n 0, 1) := by decide +kernel
theorem dX4_plan_14 : decode cX4_plan 14 = .ok (.getfield 47, 3) := by decide +kernel
theorem dX4_plan_17 : decode cX4_plan 17 = .ok (.iload_n 1, 1) := by decide +kernel
theorem dX4_plan_18 : decode cX4_plan 18 = .ok (.iconst (-1), 1) := by decide +kernel
theorem dX4_plan_19 : decode cX4_plan 19 = .ok (.iastore, 1) := by decide +kernel
theorem dX4_plan_20 : decode cX4_plan 20 = .ok (.iinc 1 1, 3) := by decide +kernel
theorem dX4_plan_23 : decode cX4_plan 23 = .ok (.goto (-16), 3) := by decide +kernel
theorem dX4_plan_26 : decode cX4_plan 26 = .ok (.aload_n 0, 1) := by decide +kernel
theorem dX4_plan_27 : decode cX4_plan 27 = .ok (.invokevirtual 134, 3) := by decide +kernel
theorem dX4_plan_30 : decode cX4_plan 30 = .ok (.istore_n 1, 1) := by decide +kernel
theorem dX4_plan_31 : decode cX4_plan 31 = .ok (.iload_n 1, 1) := by decide +kernel
theorem dX4_plan_32 : decode cX4_plan 32 = .ok (.ldc 129, 2) := by decide +kernel
theorem dX4_plan_34 : decode cX4_plan 34 = .ok (.if_icmp .lt 5, 3) := by decide +kernel
theorem dX4_plan_37 : decode cX4_plan 37 = .ok (.iconst (-1), 1) := by decide +kernel
theorem dX4_plan_38 : decode cX4_plan 38 = .ok (.ireturn, 1) := by decide +kernel
theorem dX4_plan_39 : decode cX4_plan 39 = .ok (.iconst 0, 1) := by decide +kernel
theorem dX4_plan_40 : decode cX4_plan 40 = .ok (.istore_n 2, 1) := by decide +kernel
theorem dX4_plan_41 : decode cX4_plan 41 = .ok (.iload_n 2, 1) := by decide +kernel
theorem dX4_plan_42 : decode cX4_plan 42 = .ok (.aload_n 0, 1) := by decide +kernel
theorem dX4_plan_43 : decode cX4_plan 43 = .ok (.getfield 54, 3) := by decide +kernel
theorem dX4_plan_46 : decode cX4_plan 46 = .ok (.if_icmp .ge 86, 3) := by decide +kernel
theorem dX4_plan_49 : decode cX4_plan 49 = .ok (.aload_n 0, 1) := by decide +kernel
theorem dX4_plan_50 : decode cX4_plan 50 = .ok (.getfield 29, 3) := by decide +kernel
theorem dX4_plan_53 : decode cX4_plan 53 = .ok (.iload_n 2, 1) := by decide +kernel
theorem dX4_plan_54 : decode cX4_plan 54 = .ok (.iaload, 1) := by decide +kernel
theorem dX4_plan_55 : decode cX4_plan 55 = .ok (.iconst (-1), 1) := by decide +kernel
theorem dX4_plan_56 : decode cX4_plan 56 = .ok (.if_icmp .ne 6, 3) := by decide +kernel
theorem dX4_plan_59 : decode cX4_plan 59 = .ok (.goto 67, 3) := by decide +kernel
theorem dX4_plan_62 : decode cX4_plan 62 = .ok (.aload_n 0, 1) := by decide +kernel
theorem dX4_plan_63 : decode cX4_plan 63 = .ok (.getfield 19, 3) := by decide +kernel
theorem dX4_plan_66 : decode cX4_plan 66 = .ok (.bipush 7, 2) := by decide +kernel
theorem dX4_plan_68 : decode cX4_plan 68 = .ok (.iload_n 2, 1) := by decide +kernel
theorem dX4_plan_69 : decode cX4_plan 69 = .ok (.imul, 1) := by decide +kernel
theorem dX4_plan_70 : decode cX4_plan 70 = .ok (.iconst 5, 1) := by decide +kernel
theorem dX4_plan_71 : decode cX4_plan 71 = .ok (.iadd, 1) := by decide +kernel
theorem dX4_plan_72 : decode cX4_plan 72 = .ok (.iaload, 1) := by decide +kernel
theorem dX4_plan_73 : decode cX4_plan 73 = .ok (.istore_n 3, 1) := by decide +kernel
theorem dX4_plan_74 : decode cX4_plan 74 = .ok (.iconst 0, 1) := by decide +kernel
theorem dX4_plan_75 : decode cX4_plan 75 = .ok (.istore 4, 2) := by decide +kernel
theorem dX4_plan_77 : decode cX4_plan 77 = .ok (.iload 4, 2) := by decide +kernel
theorem dX4_plan_79 : decode cX4_plan 79 = .ok (.ifCond .ne 47, 3) := by decide +kernel
theorem dX4_plan_82 : decode cX4_plan 82 = .ok (.aload_n 0, 1) := by decide +kernel
theorem dX4_plan_83 : decode cX4_plan 83 = .ok (.getfield 47, 3) := by decide +kernel
theorem dX4_plan_86 : decode cX4_plan 86 = .ok (.iload_n 2, 1) := by decide +kernel
theorem dX4_plan_87 : decode cX4_plan 87 = .ok (.iconst (-1), 1) := by decide +kernel
theorem dX4_plan_88 : decode cX4_plan 88 = .ok (.iastore, 1) := by decide +kernel
theorem dX4_plan_89 : decode cX4_plan 89 = .ok (.aload_n 0, 1) := by decide +kernel
theorem dX4_plan_90 : decode cX4_plan 90 = .ok (.iload_n 2, 1) := by decide +kernel
theorem dX4_plan_91 : decode cX4_plan 91 = .ok (.iload_n 3, 1) := by decide +kernel
theorem dX4_plan_92 : decode cX4_plan 92 = .ok (.invokevirtual 130, 3) := by decide +kernel
theorem dX4_plan_95 : decode cX4_plan 95 = .ok (.ifCond .eq 25, 3) := by decide +kernel
theorem dX4_plan_98 : decode cX4_plan 98 = .ok (.aload_n 0, 1) := by decide +kernel
theorem dX4_plan_99 : decode cX4_plan 99 = .ok (.getfield 47, 3) := by decide +kernel
theorem dX4_plan_102 : decode cX4_plan 102 = .ok (.iload_n 2, 1) := by decide +kernel
theorem dX4_plan_103 : decode cX4_plan 103 = .ok (.iload_n 3, 1) := by decide +kernel
theorem dX4_plan_104 : decode cX4_plan 104 = .ok (.iastore, 1) := by decide +kernel
theorem dX4_plan_105 : decode cX4_plan 105 = .ok (.aload_n 0, 1) := by decide +kernel
theorem dX4_plan_106 : decode cX4_plan 106 = .ok (.invokevirtual 134, 3) := by decide +kernel
theorem dX4_plan_109 : decode cX4_plan 109 = .ok (.iload_n 1, 1) := by decide +kernel
theorem dX4_plan_110 : decode cX4_plan 110 = .ok (.if_icmp .ne 7, 3) := by decide +kernel
theorem dX4_plan_113 : decode cX4_plan 113 = .ok (.iconst 1, 1) := by decide +kernel
theorem dX4_plan_114 : decode cX4_plan 114 = .ok (.goto 4, 3) := by decide +kernel
theorem dX4_plan_117 : decode cX4_plan 117 = .ok (.iconst 0, 1) := by decide +kernel
theorem dX4_plan_118 : decode cX4_plan 118 = .ok (.istore 4, 2) := by decide +kernel
theorem dX4_plan_120 : decode cX4_plan 120 = .ok (.iinc 3 1, 3) := by decide +kernel
theorem dX4_plan_123 : decode cX4_plan 123 = .ok (.goto (-46), 3) := by decide +kernel
theorem dX4_plan_126 : decode cX4_plan 126 = .ok (.iinc 2 1, 3) := by decide +kernel
theorem dX4_plan_129 : decode cX4_plan 129 = .ok (.goto (-88), 3) := by decide +kernel
theorem dX4_plan_132 : decode cX4_plan 132 = .ok (.iconst 0, 1) := by decide +kernel
theorem dX4_plan_133 : decode cX4_plan 133 = .ok (.istore_n 2, 1) := by decide +kernel
theorem dX4_plan_134 : decode cX4_plan 134 = .ok (.iload_n 2, 1) := by decide +kernel
theorem dX4_plan_135 : decode cX4_plan 135 = .ok (.bipush 7, 2) := by decide +kernel
theorem dX4_plan_137 : decode cX4_plan 137 = .ok (.if_icmp .ge 21, 3) := by decide +kernel
theorem dX4_plan_140 : decode cX4_plan 140 = .ok (.aload_n 0, 1) := by decide +kernel
theorem dX4_plan_141 : decode cX4_plan 141 = .ok (.getfield 32, 3) := by decide +kernel
theorem dX4_plan_144 : decode cX4_plan 144 = .ok (.iload_n 2, 1) := by decide +kernel
theorem dX4_plan_145 : decode cX4_plan 145 = .ok (.aload_n 0, 1) := by decide +kernel
theorem dX4_plan_146 : decode cX4_plan 146 = .ok (.getfield 47, 3) := by decide +kernel
theorem dX4_plan_149 : decode cX4_plan 149 = .ok (.iload_n 2, 1) := by decide +kernel
theorem dX4_plan_150 : decode cX4_plan 150 = .ok (.iaload, 1) := by decide +kernel
theorem dX4_plan_151 : decode cX4_plan 151 = .ok (.iastore, 1) := by decide +kernel
theorem dX4_plan_152 : decode cX4_plan 152 = .ok (.iinc 2 1, 3) := by decide +kernel
theorem dX4_plan_155 : decode cX4_plan 155 = .ok (.goto (-21), 3) := by decide +kernel
theorem dX4_plan_158 : decode cX4_plan 158 = .ok (.iload_n 1, 1) := by decide +kernel
theorem dX4_plan_159 : decode cX4_plan 159 = .ok (.ireturn, 1) := by decide +kernel
theorem dX4_in__0 : decode cX4_in_ 0 = .ok (.aload_n 0, 1) := by decide +kernel
theorem dX4_in__1 : decode cX4_in_ 1 = .ok (.iconst 0, 1) := by decide +kernel
theorem dX4_in__2 : decode cX4_in_ 2 = .ok (.putfield 50, 3) := by decide +kernel
theorem dX4_in__5 : decode cX4_in_ 5 = .ok (.aload_n 0, 1) := by decide +kernel
theorem dX4_in__6 : decode cX4_in_ 6 = .ok (.iload_n 1, 1) := by decide +kernel
theorem dX4_in__7 : decode cX4_in_ 7 = .ok (.invokevirtual 72, 3) := by decide +kernel
theorem dX4_in__10 : decode cX4_in_ 10 = .ok (.ifCond .eq 12, 3) := by decide +kernel
theorem dX4_in__13 : decode cX4_in_ 13 = .ok (.aload_n 0, 1) := by decide +kernel
theorem dX4_in__14 : decode cX4_in_ 14 = .ok (.getfield 32, 3) := by decide +kernel
theorem dX4_in__17 : decode cX4_in_ 17 = .ok (.iload_n 1, 1) := by decide +kernel
theorem dX4_in__18 : decode cX4_in_ 18 = .ok (.iaload, 1) := by decide +kernel
theorem dX4_in__19 : decode cX4_in_ 19 = .ok (.goto 4, 3) := by decide +kernel
theorem dX4_in__22 : decode cX4_in_ 22 = .ok (.iconst (-1), 1) := by decide +kernel
theorem dX4_in__23 : decode cX4_in_ 23 = .ok (.ireturn, 1) := by decide +kernel
theorem dX4_isAhead_0 : decode cX4_isAhead 0 = .ok (.aload_n 0, 1) := by decide +kernel
theorem dX4_isAhead_1 : decode cX4_isAhead 1 = .ok (.getfield 19, 3) := by decide +kernel
theorem dX4_isAhead_4 : decode cX4_isAhead 4 = .ok (.bipush 7, 2) := by decide +kernel
theorem dX4_isAhead_6 : decode cX4_isAhead 6 = .ok (.iload_n 1, 1) := by decide +kernel
theorem dX4_isAhead_7 : decode cX4_isAhead 7 = .ok (.imul, 1) := by decide +kernel
theorem dX4_isAhead_8 : decode cX4_isAhead 8 = .ok (.iconst 3, 1) := by decide +kernel
theorem dX4_isAhead_9 : decode cX4_isAhead 9 = .ok (.iadd, 1) := by decide +kernel
theorem dX4_isAhead_10 : decode cX4_isAhead 10 = .ok (.iaload, 1) := by decide +kernel
theorem dX4_isAhead_11 : decode cX4_isAhead 11 = .ok (.istore_n 3, 1) := by decide +kernel
theorem dX4_isAhead_12 : decode cX4_isAhead 12 = .ok (.aload_n 0, 1) := by decide +kernel
theorem dX4_isAhead_13 : decode cX4_isAhead 13 = .ok (.getfield 19, 3) := by decide +kernel
theorem dX4_isAhead_16 : decode cX4_isAhead 16 = .ok (.bipush 7, 2) := by decide +kernel
theorem dX4_isAhead_18 : decode cX4_isAhead 18 = .ok (.iload_n 2, 1) := by decide +kernel
theorem dX4_isAhead_19 : decode cX4_isAhead 19 = .ok (.imul, 1) := by decide +kernel
theorem dX4_isAhead_20 : decode cX4_isAhead 20 = .ok (.iconst 3, 1) := by decide +kernel
theorem dX4_isAhead_21 : decode cX4_isAhead 21 = .ok (.iadd, 1) := by decide +kernel
theorem dX4_isAhead_22 : decode cX4_isAhead 22 = .ok (.iaload, 1) := by decide +kernel
theorem dX4_isAhead_23 : decode cX4_isAhead 23 = .ok (.istore 4, 2) := by decide +kernel
theorem dX4_isAhead_25 : decode cX4_isAhead 25 = .ok (.iload_n 3, 1) := by decide +kernel
theorem dX4_isAhead_26 : decode cX4_isAhead 26 = .ok (.iload 4, 2) := by decide +kernel
theorem dX4_isAhead_28 : decode cX4_isAhead 28 = .ok (.if_icmp .gt 14, 3) := by decide +kernel
theorem dX4_isAhead_31 : decode cX4_isAhead 31 = .ok (.iload_n 3, 1) := by decide +kernel
theorem dX4_isAhead_32 : decode cX4_isAhead 32 = .ok (.iload 4, 2) := by decide +kernel
theorem dX4_isAhead_34 : decode cX4_isAhead 34 = .ok (.if_icmp .ne 12, 3) := by decide +kernel
theorem dX4_isAhead_37 : decode cX4_isAhead 37 = .ok (.iload_n 1, 1) := by decide +kernel
theorem dX4_isAhead_38 : decode cX4_isAhead 38 = .ok (.iload_n 2, 1) := by decide +kernel
theorem dX4_isAhead_39 : decode cX4_isAhead 39 = .ok (.if_icmp .ge 7, 3) := by decide +kernel
theorem dX4_isAhead_42 : decode cX4_isAhead 42 = .ok (.iconst 1, 1) := by decide +kernel
theorem dX4_isAhead_43 : decode cX4_isAhead 43 = .ok (.goto 4, 3) := by decide +kernel
theorem dX4_isAhead_46 : decode cX4_isAhead 46 = .ok (.iconst 0, 1) := by decide +kernel
theorem dX4_isAhead_47 : decode cX4_isAhead 47 = .ok (.ireturn, 1) := by decide +kernel
theorem dX4_paradeAt_0 : decode cX4_paradeAt 0 = .ok (.iconst 0, 1) := by decide +kernel
theorem dX4_paradeAt_1 : decode cX4_paradeAt 1 = .ok (.istore_n 2, 1) := by decide +kernel
theorem dX4_paradeAt_2 : decode cX4_paradeAt 2 = .ok (.iload_n 2, 1) := by decide +kernel
theorem dX4_paradeAt_3 : decode cX4_paradeAt 3 = .ok (.aload_n 0, 1) := by decide +kernel
theorem dX4_paradeAt_4 : decode cX4_paradeAt 4 = .ok (.getfield 54, 3) := by decide +kernel
theorem dX4_paradeAt_7 : decode cX4_paradeAt 7 = .ok (.if_icmp .ge 79, 3) := by decide +kernel
theorem dX4_paradeAt_10 : decode cX4_paradeAt 10 = .ok (.aload_n 0, 1) := by decide +kernel
theorem dX4_paradeAt_11 : decode cX4_paradeAt 11 = .ok (.getfield 29, 3) := by decide +kernel
theorem dX4_paradeAt_14 : decode cX4_paradeAt 14 = .ok (.iload_n 2, 1) := by decide +kernel
theorem dX4_paradeAt_15 : decode cX4_paradeAt 15 = .ok (.iaload, 1) := by decide +kernel
theorem dX4_paradeAt_16 : decode cX4_paradeAt 16 = .ok (.iconst (-1), 1) := by decide +kernel
theorem dX4_paradeAt_17 : decode cX4_paradeAt 17 = .ok (.if_icmp .ne 6, 3) := by decide +kernel
theorem dX4_paradeAt_20 : decode cX4_paradeAt 20 = .ok (.goto 60, 3) := by decide +kernel
theorem dX4_paradeAt_23 : decode cX4_paradeAt 23 = .ok (.iconst 0, 1) := by decide +kernel
theorem dX4_paradeAt_24 : decode cX4_paradeAt 24 = .ok (.istore_n 3, 1) := by decide +kernel
theorem dX4_paradeAt_25 : decode cX4_paradeAt 25 = .ok (.iconst 0, 1) := by decide +kernel
theorem dX4_paradeAt_26 : decode cX4_paradeAt 26 = .ok (.istore 4, 2) := by decide +kernel
theorem dX4_paradeAt_28 : decode cX4_paradeAt 28 = .ok (.iload 4, 2) := by decide +kernel
theorem dX4_paradeAt_30 : decode cX4_paradeAt 30 = .ok (.aload_n 0, 1) := by decide +kernel
theorem dX4_paradeAt_31 : decode cX4_paradeAt 31 = .ok (.getfield 54, 3) := by decide +kernel
theorem dX4_paradeAt_34 : decode cX4_paradeAt 34 = .ok (.if_icmp .ge 39, 3) := by decide +kernel
theorem dX4_paradeAt_37 : decode cX4_paradeAt 37 = .ok (.aload_n 0, 1) := by decide +kernel
theorem dX4_paradeAt_38 : decode cX4_paradeAt 38 = .ok (.getfield 29, 3) := by decide +kernel
theorem dX4_paradeAt_41 : decode cX4_paradeAt 41 = .ok (.iload 4, 2) := by decide +kernel
theorem dX4_paradeAt_43 : decode cX4_paradeAt 43 = .ok (.iaload, 1) := by decide +kernel
theorem dX4_paradeAt_44 : decode cX4_paradeAt 44 = .ok (.iconst (-1), 1) := by decide +kernel
theorem dX4_paradeAt_45 : decode cX4_paradeAt 45 = .ok (.if_icmp .eq 22, 3) := by decide +kernel
theorem dX4_paradeAt_48 : decode cX4_paradeAt 48 = .ok (.iload 4, 2) := by decide +kernel
theorem dX4_paradeAt_50 : decode cX4_paradeAt 50 = .ok (.iload_n 2, 1) := by decide +kernel
theorem dX4_paradeAt_51 : decode cX4_paradeAt 51 = .ok (.if_icmp .eq 16, 3) := by decide +kernel
theorem dX4_paradeAt_54 : decode cX4_paradeAt 54 = .ok (.aload_n 0, 1) := by decide +kernel
theorem dX4_paradeAt_55 : decode cX4_paradeAt 55 = .ok (.iload 4, 2) := by decide +kernel
theorem dX4_paradeAt_57 : decode cX4_paradeAt 57 = .ok (.iload_n 2, 1) := by decide +kernel
theorem dX4_paradeAt_58 : decode cX4_paradeAt 58 = .ok (.invokevirtual 137, 3) := by decide +kernel
theorem dX4_paradeAt_61 : decode cX4_paradeAt 61 = .ok (.ifCond .eq 6, 3) := by decide +kernel
theorem dX4_paradeAt_64 : decode cX4_paradeAt 64 = .ok (.iinc 3 1, 3) := by decide +kernel
theorem dX4_paradeAt_67 : decode cX4_paradeAt 67 = .ok (.iinc 4 1, 3) := by decide +kernel
theorem dX4_paradeAt_70 : decode cX4_paradeAt 70 = .ok (.goto (-42), 3) := by decide +kernel
theorem dX4_paradeAt_73 : decode cX4_paradeAt 73 = .ok (.iload_n 3, 1) := by decide +kernel
theorem dX4_paradeAt_74 : decode cX4_paradeAt 74 = .ok (.iload_n 1, 1) := by decide +kernel
theorem dX4_paradeAt_75 : decode cX4_paradeAt 75 = .ok (.if_icmp .ne 5, 3) := by decide +kernel
theorem dX4_paradeAt_78 : decode cX4_paradeAt 78 = .ok (.iload_n 2, 1) := by decide +kernel
theorem dX4_paradeAt_79 : decode cX4_paradeAt 79 = .ok (.ireturn, 1) := by decide +kernel
theorem dX4_paradeAt_80 : decode cX4_paradeAt 80 = .ok (.iinc 2 1, 3) := by decide +kernel
theorem dX4_paradeAt_83 : decode cX4_paradeAt 83 = .ok (.goto (-81), 3) := by decide +kernel
theorem dX4_paradeAt_86 : decode cX4_paradeAt 86 = .ok (.iconst (-1), 1) := by decide +kernel
theorem dX4_paradeAt_87 : decode cX4_paradeAt 87 = .ok (.ireturn, 1) := by decide +kernel
theorem dX4_parade_0 : decode cX4_parade 0 = .ok (.aload_n 0, 1) := by decide +kernel
theorem dX4_parade_1 : decode cX4_parade 1 = .ok (.iconst 0, 1) := by decide +kernel
theorem dX4_parade_2 : decode cX4_parade 2 = .ok (.putfield 50, 3) := by decide +kernel
theorem dX4_parade_5 : decode cX4_parade 5 = .ok (.aload_n 0, 1) := by decide +kernel
theorem dX4_parade_6 : decode cX4_parade 6 = .ok (.iload_n 1, 1) := by decide +kernel
theorem dX4_parade_7 : decode cX4_parade 7 = .ok (.invokevirtual 140, 3) := by decide +kernel
theorem dX4_parade_10 : decode cX4_parade 10 = .ok (.ireturn, 1) := by decide +kernel
theorem dX4_minutes_0 : decode cX4_minutes 0 = .ok (.aload_n 0, 1) := by decide +kernel
theorem dX4_minutes_1 : decode cX4_minutes 1 = .ok (.iconst 0, 1) := by decide +kernel
theorem dX4_minutes_2 : decode cX4_minutes 2 = .ok (.putfield 50, 3) := by decide +kernel
theorem dX4_minutes_5 : decode cX4_minutes 5 = .ok (.iconst 0, 1) := by decide +kernel
theorem dX4_minutes_6 : decode cX4_minutes 6 = .ok (.istore_n 1, 1) := by decide +kernel
theorem dX4_minutes_7 : decode cX4_minutes 7 = .ok (.iconst 1, 1) := by decide +kernel
theorem dX4_minutes_8 : decode cX4_minutes 8 = .ok (.istore_n 2, 1) := by decide +kernel
theorem dX4_minutes_9 : decode cX4_minutes 9 = .ok (.iload_n 2, 1) := by decide +kernel
theorem dX4_minutes_10 : decode cX4_minutes 10 = .ok (.aload_n 0, 1) := by decide +kernel
theorem dX4_minutes_11 : decode cX4_minutes 11 = .ok (.aload_n 0, 1) := by decide +kernel
theorem dX4_minutes_12 : decode cX4_minutes 12 = .ok (.getfield 29, 3) := by decide +kernel
theorem dX4_minutes_15 : decode cX4_minutes 15 = .ok (.invokevirtual 100, 3) := by decide +kernel
theorem dX4_minutes_18 : decode cX4_minutes 18 = .ok (.if_icmp .ge 61, 3) := by decide +kernel
theorem dX4_minutes_21 : decode cX4_minutes 21 = .ok (.aload_n 0, 1) := by decide +kernel
theorem dX4_minutes_22 : decode cX4_minutes 22 = .ok (.getfield 19, 3) := by decide +kernel
theorem dX4_minutes_25 : decode cX4_minutes 25 = .ok (.bipush 7, 2) := by decide +kernel
theorem dX4_minutes_27 : decode cX4_minutes 27 = .ok (.aload_n 0, 1) := by decide +kernel
theorem dX4_minutes_28 : decode cX4_minutes 28 = .ok (.iload_n 2, 1) := by decide +kernel
theorem dX4_minutes_29 : decode cX4_minutes 29 = .ok (.iconst 1, 1) := by decide +kernel
theorem dX4_minutes_30 : decode cX4_minutes 30 = .ok (.isub, 1) := by decide +kernel
theorem dX4_minutes_31 : decode cX4_minutes 31 = .ok (.invokevirtual 140, 3) := by decide +kernel
theorem dX4_minutes_34 : decode cX4_minutes 34 = .ok (.imul, 1) := by decide +kernel
theorem dX4_minutes_35 : decode cX4_minutes 35 = .ok (.bipush 6, 2) := by decide +kernel
theorem dX4_minutes_37 : decode cX4_minutes 37 = .ok (.iadd, 1) := by decide +kernel
theorem dX4_minutes_38 : decode cX4_minutes 38 = .ok (.iaload, 1) := by decide +kernel
theorem dX4_minutes_39 : decode cX4_minutes 39 = .ok (.istore_n 3, 1) := by decide +kernel
theorem dX4_minutes_40 : decode cX4_minutes 40 = .ok (.aload_n 0, 1) := by decide +kernel
theorem dX4_minutes_41 : decode cX4_minutes 41 = .ok (.getfield 19, 3) := by decide +kernel
theorem dX4_minutes_44 : decode cX4_minutes 44 = .ok (.bipush 7, 2) := by decide +kernel
theorem dX4_minutes_46 : decode cX4_minutes 46 = .ok (.aload_n 0, 1) := by decide +kernel
theorem dX4_minutes_47 : decode cX4_minutes 47 = .ok (.iload_n 2, 1) := by decide +kernel
theorem dX4_minutes_48 : decode cX4_minutes 48 = .ok (.invokevirtual 140, 3) := by decide +kernel
theorem dX4_minutes_51 : decode cX4_minutes 51 = .ok (.imul, 1) := by decide +kernel
theorem dX4_minutes_52 : decode cX4_minutes 52 = .ok (.bipush 6, 2) := by decide +kernel
theorem dX4_minutes_54 : decode cX4_minutes 54 = .ok (.iadd, 1) := by decide +kernel
theorem dX4_minutes_55 : decode cX4_minutes 55 = .ok (.iaload, 1) := by decide +kernel
theorem dX4_minutes_56 : decode cX4_minutes 56 = .ok (.istore 4, 2) := by decide +kernel
theorem dX4_minutes_58 : decode cX4_minutes 58 = .ok (.iload_n 1, 1) := by decide +kernel
theorem dX4_minutes_59 : decode cX4_minutes 59 = .ok (.iload_n 3, 1) := by decide +kernel
theorem dX4_minutes_60 : decode cX4_minutes 60 = .ok (.iload 4, 2) := by decide +kernel
theorem dX4_minutes_62 : decode cX4_minutes 62 = .ok (.if_icmp .le 7, 3) := by decide +kernel
theorem dX4_minutes_65 : decode cX4_minutes 65 = .ok (.iload_n 3, 1) := by decide +kernel
theorem dX4_minutes_66 : decode cX4_minutes 66 = .ok (.goto 5, 3) := by decide +kernel
theorem dX4_minutes_69 : decode cX4_minutes 69 = .ok (.iload 4, 2) := by decide +kernel
theorem dX4_minutes_71 : decode cX4_minutes 71 = .ok (.iadd, 1) := by decide +kernel
theorem dX4_minutes_72 : decode cX4_minutes 72 = .ok (.istore_n 1, 1) := by decide +kernel
theorem dX4_minutes_73 : decode cX4_minutes 73 = .ok (.iinc 2 1, 3) := by decide +kernel
theorem dX4_minutes_76 : decode cX4_minutes 76 = .ok (.goto (-67), 3) := by decide +kernel
theorem dX4_minutes_79 : decode cX4_minutes 79 = .ok (.iload_n 1, 1) := by decide +kernel
theorem dX4_minutes_80 : decode cX4_minutes 80 = .ok (.ireturn, 1) := by decide +kernel
theorem dX4_open_0 : decode cX4_open 0 = .ok (.aload_n 0, 1) := by decide +kernel
theorem dX4_open_1 : decode cX4_open 1 = .ok (.iconst 0, 1) := by decide +kernel
theorem dX4_open_2 : decode cX4_open 2 = .ok (.putfield 50, 3) := by decide +kernel
theorem dX4_open_5 : decode cX4_open 5 = .ok (.aload_n 0, 1) := by decide +kernel
theorem dX4_open_6 : decode cX4_open 6 = .ok (.iload_n 1, 1) := by decide +kernel
theorem dX4_open_7 : decode cX4_open 7 = .ok (.invokevirtual 72, 3) := by decide +kernel
theorem dX4_open_10 : decode cX4_open 10 = .ok (.ifCond .eq 29, 3) := by decide +kernel
theorem dX4_open_13 : decode cX4_open 13 = .ok (.aload_n 0, 1) := by decide +kernel
theorem dX4_open_14 : decode cX4_open 14 = .ok (.getfield 29, 3) := by decide +kernel
theorem dX4_open_17 : decode cX4_open 17 = .ok (.iload_n 1, 1) := by decide +kernel
theorem dX4_open_18 : decode cX4_open 18 = .ok (.iaload, 1) := by decide +kernel
theorem dX4_open_19 : decode cX4_open 19 = .ok (.iconst (-1), 1) := by decide +kernel
theorem dX4_open_20 : decode cX4_open 20 = .ok (.if_icmp .eq 19, 3) := by decide +kernel
theorem dX4_open_23 : decode cX4_open 23 = .ok (.iload_n 3, 1) := by decide +kernel
theorem dX4_open_24 : decode cX4_open 24 = .ok (.invokestatic 68, 3) := by decide +kernel
theorem dX4_open_27 : decode cX4_open 27 = .ok (.ifCond .eq 12, 3) := by decide +kernel
theorem dX4_open_30 : decode cX4_open 30 = .ok (.iload_n 2, 1) := by decide +kernel
theorem dX4_open_31 : decode cX4_open 31 = .ok (.iconst 0, 1) := by decide +kernel
theorem dX4_open_32 : decode cX4_open 32 = .ok (.iload_n 3, 1) := by decide +kernel
theorem dX4_open_33 : decode cX4_open 33 = .ok (.invokestatic 57, 3) := by decide +kernel
theorem dX4_open_36 : decode cX4_open 36 = .ok (.ifCond .ne 5, 3) := by decide +kernel
theorem dX4_open_39 : decode cX4_open 39 = .ok (.iconst (-1), 1) := by decide +kernel
theorem dX4_open_40 : decode cX4_open 40 = .ok (.ireturn, 1) := by decide +kernel
theorem dX4_open_41 : decode cX4_open 41 = .ok (.iconst 0, 1) := by decide +kernel
theorem dX4_open_42 : decode cX4_open 42 = .ok (.istore 4, 2) := by decide +kernel
theorem dX4_open_44 : decode cX4_open 44 = .ok (.iload_n 2, 1) := by decide +kernel
theorem dX4_open_45 : decode cX4_open 45 = .ok (.istore 5, 2) := by decide +kernel
theorem dX4_open_47 : decode cX4_open 47 = .ok (.iload 5, 2) := by decide +kernel
theorem dX4_open_49 : decode cX4_open 49 = .ok (.iload_n 3, 1) := by decide +kernel
theorem dX4_open_50 : decode cX4_open 50 = .ok (.if_icmp .gt 49, 3) := by decide +kernel
theorem dX4_open_53 : decode cX4_open 53 = .ok (.aload_n 0, 1) := by decide +kernel
theorem dX4_open_54 : decode cX4_open 54 = .ok (.getfield 22, 3) := by decide +kernel
theorem dX4_open_57 : decode cX4_open 57 = .ok (.iconst 5, 1) := by decide +kernel
theorem dX4_open_58 : decode cX4_open 58 = .ok (.aload_n 0, 1) := by decide +kernel
theorem dX4_open_59 : decode cX4_open 59 = .ok (.getfield 29, 3) := by decide +kernel
theorem dX4_open_62 : decode cX4_open 62 = .ok (.iload_n 1, 1) := by decide +kernel
theorem dX4_open_63 : decode cX4_open 63 = .ok (.iaload, 1) := by decide +kernel
theorem dX4_open_64 : decode cX4_open 64 = .ok (.imul, 1) := by decide +kernel
theorem dX4_open_65 : decode cX4_open 65 = .ok (.iconst 4, 1) := by decide +kernel
theorem dX4_open_66 : decode cX4_open 66 = .ok (.iadd, 1) := by decide +kernel
theorem dX4_open_67 : decode cX4_open 67 = .ok (.iaload, 1) := by decide +kernel
theorem dX4_open_68 : decode cX4_open 68 = .ok (.aload_n 0, 1) := by decide +kernel
theorem dX4_open_69 : decode cX4_open 69 = .ok (.iload 5, 2) := by decide +kernel
theorem dX4_open_71 : decode cX4_open 71 = .ok (.invokevirtual 75, 3) := by decide +kernel
theorem dX4_open_74 : decode cX4_open 74 = .ok (.isub, 1) := by decide +kernel
theorem dX4_open_75 : decode cX4_open 75 = .ok (.bipush 30, 2) := by decide +kernel
theorem dX4_open_77 : decode cX4_open 77 = .ok (.isub, 1) := by decide +kernel
theorem dX4_open_78 : decode cX4_open 78 = .ok (.invokestatic 143, 3) := by decide +kernel
theorem dX4_open_81 : decode cX4_open 81 = .ok (.aload_n 0, 1) := by decide +kernel
theorem dX4_open_82 : decode cX4_open 82 = .ok (.getfield 13, 3) := by decide +kernel
theorem dX4_open_85 : decode cX4_open 85 = .ok (.iconst 4, 1) := by decide +kernel
theorem dX4_open_86 : decode cX4_open 86 = .ok (.iaload, 1) := by decide +kernel
theorem dX4_open_87 : decode cX4_open 87 = .ok (.if_icmp .gt 6, 3) := by decide +kernel
theorem dX4_open_90 : decode cX4_open 90 = .ok (.iinc 4 1, 3) := by decide +kernel
theorem dX4_open_93 : decode cX4_open 93 = .ok (.iinc 5 1, 3) := by decide +kernel
theorem dX4_open_96 : decode cX4_open 96 = .ok (.goto (-49), 3) := by decide +kernel
theorem dX4_open_99 : decode cX4_open 99 = .ok (.iload 4, 2) := by decide +kernel
theorem dX4_open_101 : decode cX4_open 101 = .ok (.ireturn, 1) := by decide +kernel
theorem dJ6_bitCount_0f7a4_0 : decode cJ6_bitCount_0f7a4 0 = .ok (.iload_n 0, 1) := by decide +kernel
theorem dJ6_bitCount_0f7a4_1 : decode cJ6_bitCount_0f7a4 1 = .ok (.iload_n 0, 1) := by decide +kernel
theorem dJ6_bitCount_0f7a4_2 : decode cJ6_bitCount_0f7a4 2 = .ok (.iconst 1, 1) := by decide +kernel
theorem dJ6_bitCount_0f7a4_3 : decode cJ6_bitCount_0f7a4 3 = .ok (.iushr, 1) := by decide +kernel
theorem dJ6_bitCount_0f7a4_4 : decode cJ6_bitCount_0f7a4 4 = .ok (.ldc_w 265, 3) := by decide +kernel
theorem dJ6_bitCount_0f7a4_7 : decode cJ6_bitCount_0f7a4 7 = .ok (.iand, 1) := by decide +kernel
theorem dJ6_bitCount_0f7a4_8 : decode cJ6_bitCount_0f7a4 8 = .ok (.isub, 1) := by decide +kernel
theorem dJ6_bitCount_0f7a4_9 : decode cJ6_bitCount_0f7a4 9 = .ok (.istore_n 0, 1) := by decide +kernel
theorem dJ6_bitCount_0f7a4_10 : decode cJ6_bitCount_0f7a4 10 = .ok (.iload_n 0, 1) := by decide +kernel
theorem dJ6_bitCount_0f7a4_11 : decode cJ6_bitCount_0f7a4 11 = .ok (.ldc_w 266, 3) := by decide +kernel
theorem dJ6_bitCount_0f7a4_14 : decode cJ6_bitCount_0f7a4 14 = .ok (.iand, 1) := by decide +kernel
theorem dJ6_bitCount_0f7a4_15 : decode cJ6_bitCount_0f7a4 15 = .ok (.iload_n 0, 1) := by decide +kernel
theorem dJ6_bitCount_0f7a4_16 : decode cJ6_bitCount_0f7a4 16 = .ok (.iconst 2, 1) := by decide +kernel
theorem dJ6_bitCount_0f7a4_17 : decode cJ6_bitCount_0f7a4 17 = .ok (.iushr, 1) := by decide +kernel
theorem dJ6_bitCount_0f7a4_18 : decode cJ6_bitCount_0f7a4 18 = .ok (.ldc_w 266, 3) := by decide +kernel
theorem dJ6_bitCount_0f7a4_21 : decode cJ6_bitCount_0f7a4 21 = .ok (.iand, 1) := by decide +kernel
theorem dJ6_bitCount_0f7a4_22 : decode cJ6_bitCount_0f7a4 22 = .ok (.iadd, 1) := by decide +kernel
theorem dJ6_bitCount_0f7a4_23 : decode cJ6_bitCount_0f7a4 23 = .ok (.istore_n 0, 1) := by decide +kernel
theorem dJ6_bitCount_0f7a4_24 : decode cJ6_bitCount_0f7a4 24 = .ok (.iload_n 0, 1) := by decide +kernel
theorem dJ6_bitCount_0f7a4_25 : decode cJ6_bitCount_0f7a4 25 = .ok (.iload_n 0, 1) := by decide +kernel
theorem dJ6_bitCount_0f7a4_26 : decode cJ6_bitCount_0f7a4 26 = .ok (.iconst 4, 1) := by decide +kernel
theorem dJ6_bitCount_0f7a4_27 : decode cJ6_bitCount_0f7a4 27 = .ok (.iushr, 1) := by decide +kernel
theorem dJ6_bitCount_0f7a4_28 : decode cJ6_bitCount_0f7a4 28 = .ok (.iadd, 1) := by decide +kernel
theorem dJ6_bitCount_0f7a4_29 : decode cJ6_bitCount_0f7a4 29 = .ok (.ldc_w 267, 3) := by decide +kernel
theorem dJ6_bitCount_0f7a4_32 : decode cJ6_bitCount_0f7a4 32 = .ok (.iand, 1) := by decide +kernel
theorem dJ6_bitCount_0f7a4_33 : decode cJ6_bitCount_0f7a4 33 = .ok (.istore_n 0, 1) := by decide +kernel
theorem dJ6_bitCount_0f7a4_34 : decode cJ6_bitCount_0f7a4 34 = .ok (.iload_n 0, 1) := by decide +kernel
theorem dJ6_bitCount_0f7a4_35 : decode cJ6_bitCount_0f7a4 35 = .ok (.iload_n 0, 1) := by decide +kernel
theorem dJ6_bitCount_0f7a4_36 : decode cJ6_bitCount_0f7a4 36 = .ok (.bipush 8, 2) := by decide +kernel
theorem dJ6_bitCount_0f7a4_38 : decode cJ6_bitCount_0f7a4 38 = .ok (.iushr, 1) := by decide +kernel
theorem dJ6_bitCount_0f7a4_39 : decode cJ6_bitCount_0f7a4 39 = .ok (.iadd, 1) := by decide +kernel
theorem dJ6_bitCount_0f7a4_40 : decode cJ6_bitCount_0f7a4 40 = .ok (.istore_n 0, 1) := by decide +kernel
theorem dJ6_bitCount_0f7a4_41 : decode cJ6_bitCount_0f7a4 41 = .ok (.iload_n 0, 1) := by decide +kernel
theorem dJ6_bitCount_0f7a4_42 : decode cJ6_bitCount_0f7a4 42 = .ok (.iload_n 0, 1) := by decide +kernel
theorem dJ6_bitCount_0f7a4_43 : decode cJ6_bitCount_0f7a4 43 = .ok (.bipush 16, 2) := by decide +kernel
theorem dJ6_bitCount_0f7a4_45 : decode cJ6_bitCount_0f7a4 45 = .ok (.iushr, 1) := by decide +kernel
theorem dJ6_bitCount_0f7a4_46 : decode cJ6_bitCount_0f7a4 46 = .ok (.iadd, 1) := by decide +kernel
theorem dJ6_bitCount_0f7a4_47 : decode cJ6_bitCount_0f7a4 47 = .ok (.istore_n 0, 1) := by decide +kernel
theorem dJ6_bitCount_0f7a4_48 : decode cJ6_bitCount_0f7a4 48 = .ok (.iload_n 0, 1) := by decide +kernel
theorem dJ6_bitCount_0f7a4_49 : decode cJ6_bitCount_0f7a4 49 = .ok (.bipush 63, 2) := by decide +kernel
theorem dJ6_bitCount_0f7a4_51 : decode cJ6_bitCount_0f7a4 51 = .ok (.iand, 1) := by decide +kernel
theorem dJ6_bitCount_0f7a4_52 : decode cJ6_bitCount_0f7a4 52 = .ok (.ireturn, 1) := by decide +kernel
theorem dJ9_abs_0f7a4_0 : decode cJ9_abs_0f7a4 0 = .ok (.iload_n 0, 1) := by decide +kernel
theorem dJ9_abs_0f7a4_1 : decode cJ9_abs_0f7a4 1 = .ok (.ifCond .ge 8, 3) := by decide +kernel
theorem dJ9_abs_0f7a4_4 : decode cJ9_abs_0f7a4 4 = .ok (.iload_n 0, 1) := by decide +kernel
theorem dJ9_abs_0f7a4_5 : decode cJ9_abs_0f7a4 5 = .ok (.ineg, 1) := by decide +kernel
theorem dJ9_abs_0f7a4_6 : decode cJ9_abs_0f7a4 6 = .ok (.goto 4, 3) := by decide +kernel
theorem dJ9_abs_0f7a4_9 : decode cJ9_abs_0f7a4 9 = .ok (.iload_n 0, 1) := by decide +kernel
theorem dJ9_abs_0f7a4_10 : decode cJ9_abs_0f7a4 10 = .ok (.ireturn, 1) := by decide +kernel
theorem dJ9_max_7cf53_0 : decode cJ9_max_7cf53 0 = .ok (.iload_n 0, 1) := by decide +kernel
theorem dJ9_max_7cf53_1 : decode cJ9_max_7cf53 1 = .ok (.iload_n 1, 1) := by decide +kernel
theorem dJ9_max_7cf53_2 : decode cJ9_max_7cf53 2 = .ok (.if_icmp .lt 7, 3) := by decide +kernel
theorem dJ9_max_7cf53_5 : decode cJ9_max_7cf53 5 = .ok (.iload_n 0, 1) := by decide +kernel
theorem dJ9_max_7cf53_6 : decode cJ9_max_7cf53 6 = .ok (.goto 4, 3) := by decide +kernel
theorem dJ9_max_7cf53_9 : decode cJ9_max_7cf53 9 = .ok (.iload_n 1, 1) := by decide +kernel
theorem dJ9_max_7cf53_10 : decode cJ9_max_7cf53 10 = .ok (.ireturn, 1) := by decide +kernel
theorem dJ9_min_7cf53_0 : decode cJ9_min_7cf53 0 = .ok (.iload_n 0, 1) := by decide +kernel
theorem dJ9_min_7cf53_1 : decode cJ9_min_7cf53 1 = .ok (.iload_n 1, 1) := by decide +kernel
theorem dJ9_min_7cf53_2 : decode cJ9_min_7cf53 2 = .ok (.if_icmp .gt 7, 3) := by decide +kernel
theorem dJ9_min_7cf53_5 : decode cJ9_min_7cf53 5 = .ok (.iload_n 0, 1) := by decide +kernel
theorem dJ9_min_7cf53_6 : decode cJ9_min_7cf53 6 = .ok (.goto 4, 3) := by decide +kernel
theorem dJ9_min_7cf53_9 : decode cJ9_min_7cf53 9 = .ok (.iload_n 1, 1) := by decide +kernel
theorem dJ9_min_7cf53_10 : decode cJ9_min_7cf53 10 = .ok (.ireturn, 1) := by decide +kernel
theorem dJ9_min_f86c9_0 : decode cJ9_min_f86c9 0 = .ok (.lload_n 0, 1) := by decide +kernel
theorem dJ9_min_f86c9_1 : decode cJ9_min_f86c9 1 = .ok (.lload_n 2, 1) := by decide +kernel
theorem dJ9_min_f86c9_2 : decode cJ9_min_f86c9 2 = .ok (.lcmp, 1) := by decide +kernel
theorem dJ9_min_f86c9_3 : decode cJ9_min_f86c9 3 = .ok (.ifCond .gt 7, 3) := by decide +kernel
theorem dJ9_min_f86c9_6 : decode cJ9_min_f86c9 6 = .ok (.lload_n 0, 1) := by decide +kernel
theorem dJ9_min_f86c9_7 : decode cJ9_min_f86c9 7 = .ok (.goto 4, 3) := by decide +kernel
theorem dJ9_min_f86c9_10 : decode cJ9_min_f86c9 10 = .ok (.lload_n 2, 1) := by decide +kernel
theorem dJ9_min_f86c9_11 : decode cJ9_min_f86c9 11 = .ok (.lreturn, 1) := by decide +kernel
theorem dJ7_fill_d0a16_0 : decode cJ7_fill_d0a16 0 = .ok (.iconst 0, 1) := by decide +kernel
theorem dJ7_fill_d0a16_1 : decode cJ7_fill_d0a16 1 = .ok (.istore_n 3, 1) := by decide +kernel
theorem dJ7_fill_d0a16_2 : decode cJ7_fill_d0a16 2 = .ok (.aload_n 0, 1) := by decide +kernel
theorem dJ7_fill_d0a16_3 : decode cJ7_fill_d0a16 3 = .ok (.arraylength, 1) := by decide +kernel
theorem dJ7_fill_d0a16_4 : decode cJ7_fill_d0a16 4 = .ok (.istore 4, 2) := by decide +kernel
theorem dJ7_fill_d0a16_6 : decode cJ7_fill_d0a16 6 = .ok (.iload_n 3, 1) := by decide +kernel
theorem dJ7_fill_d0a16_7 : decode cJ7_fill_d0a16 7 = .ok (.iload 4, 2) := by decide +kernel
theorem dJ7_fill_d0a16_9 : decode cJ7_fill_d0a16 9 = .ok (.if_icmp .ge 13, 3) := by decide +kernel
theorem dJ7_fill_d0a16_12 : decode cJ7_fill_d0a16 12 = .ok (.aload_n 0, 1) := by decide +kernel
theorem dJ7_fill_d0a16_13 : decode cJ7_fill_d0a16 13 = .ok (.iload_n 3, 1) := by decide +kernel
theorem dJ7_fill_d0a16_14 : decode cJ7_fill_d0a16 14 = .ok (.lload_n 1, 1) := by decide +kernel
theorem dJ7_fill_d0a16_15 : decode cJ7_fill_d0a16 15 = .ok (.lastore, 1) := by decide +kernel
theorem dJ7_fill_d0a16_16 : decode cJ7_fill_d0a16 16 = .ok (.iinc 3 1, 3) := by decide +kernel
theorem dJ7_fill_d0a16_19 : decode cJ7_fill_d0a16 19 = .ok (.goto (-13), 3) := by decide +kernel
theorem dJ7_fill_d0a16_22 : decode cJ7_fill_d0a16 22 = .ok (.return_, 1) := by decide +kernel
theorem dJ7_fill_53178_0 : decode cJ7_fill_53178 0 = .ok (.iconst 0, 1) := by decide +kernel
theorem dJ7_fill_53178_1 : decode cJ7_fill_53178 1 = .ok (.istore_n 2, 1) := by decide +kernel
theorem dJ7_fill_53178_2 : decode cJ7_fill_53178 2 = .ok (.aload_n 0, 1) := by decide +kernel
theorem dJ7_fill_53178_3 : decode cJ7_fill_53178 3 = .ok (.arraylength, 1) := by decide +kernel
theorem dJ7_fill_53178_4 : decode cJ7_fill_53178 4 = .ok (.istore_n 3, 1) := by decide +kernel
theorem dJ7_fill_53178_5 : decode cJ7_fill_53178 5 = .ok (.iload_n 2, 1) := by decide +kernel
theorem dJ7_fill_53178_6 : decode cJ7_fill_53178 6 = .ok (.iload_n 3, 1) := by decide +kernel
theorem dJ7_fill_53178_7 : decode cJ7_fill_53178 7 = .ok (.if_icmp .ge 13, 3) := by decide +kernel
theorem dJ7_fill_53178_10 : decode cJ7_fill_53178 10 = .ok (.aload_n 0, 1) := by decide +kernel
theorem dJ7_fill_53178_11 : decode cJ7_fill_53178 11 = .ok (.iload_n 2, 1) := by decide +kernel
theorem dJ7_fill_53178_12 : decode cJ7_fill_53178 12 = .ok (.iload_n 1, 1) := by decide +kernel
theorem dJ7_fill_53178_13 : decode cJ7_fill_53178 13 = .ok (.iastore, 1) := by decide +kernel
theorem dJ7_fill_53178_14 : decode cJ7_fill_53178 14 = .ok (.iinc 2 1, 3) := by decide +kernel
theorem dJ7_fill_53178_17 : decode cJ7_fill_53178 17 = .ok (.goto (-12), 3) := by decide +kernel
theorem dJ7_fill_53178_20 : decode cJ7_fill_53178 20 = .ok (.return_, 1) := by decide +kernel
theorem dL_at_0 : decode cL_at 0 = .ok (.aload_n 2, 1) := by decide +kernel
theorem dL_at_1 : decode cL_at 1 = .ok (.iconst 0, 1) := by decide +kernel
theorem dL_at_2 : decode cL_at 2 = .ok (.aload_n 0, 1) := by decide +kernel
theorem dL_at_3 : decode cL_at 3 = .ok (.iload_n 1, 1) := by decide +kernel
theorem dL_at_4 : decode cL_at 4 = .ok (.invokevirtual 7, 3) := by decide +kernel
theorem dL_at_7 : decode cL_at 7 = .ok (.i2l, 1) := by decide +kernel
theorem dL_at_8 : decode cL_at 8 = .ok (.lastore, 1) := by decide +kernel
theorem dL_at_9 : decode cL_at 9 = .ok (.goto 6, 3) := by decide +kernel
theorem dL_at_12 : decode cL_at 12 = .ok (.astore_n 3, 1) := by decide +kernel
theorem dL_at_13 : decode cL_at 13 = .ok (.iconst 1, 1) := by decide +kernel
theorem dL_at_14 : decode cL_at 14 = .ok (.ireturn, 1) := by decide +kernel
theorem dL_at_15 : decode cL_at 15 = .ok (.iconst 0, 1) := by decide +kernel
theorem dL_at_16 : decode cL_at 16 = .ok (.ireturn, 1) := by decide +kernel
theorem dL_law_0 : decode cL_law 0 = .ok (.new 8, 3) := by decide +kernel
theorem dL_law_3 : decode cL_law 3 = .ok (.dup, 1) := by decide +kernel
theorem dL_law_4 : decode cL_law 4 = .ok (.invokespecial 15, 3) := by decide +kernel
theorem dL_law_7 : decode cL_law 7 = .ok (.astore_n 1, 1) := by decide +kernel
theorem dL_law_8 : decode cL_law 8 = .ok (.new 16, 3) := by decide +kernel
theorem dL_law_11 : decode cL_law 11 = .ok (.dup, 1) := by decide +kernel
theorem dL_law_12 : decode cL_law 12 = .ok (.invokespecial 18, 3) := by decide +kernel
theorem dL_law_15 : decode cL_law 15 = .ok (.astore_n 2, 1) := by decide +kernel
theorem dL_law_16 : decode cL_law 16 = .ok (.iconst 1, 1) := by decide +kernel
theorem dL_law_17 : decode cL_law 17 = .ok (.newarray .long, 2) := by decide +kernel
theorem dL_law_19 : decode cL_law 19 = .ok (.astore_n 3, 1) := by decide +kernel
theorem dL_law_20 : decode cL_law 20 = .ok (.iconst 0, 1) := by decide +kernel
theorem dL_law_21 : decode cL_law 21 = .ok (.istore 4, 2) := by decide +kernel
theorem dL_law_23 : decode cL_law 23 = .ok (.iload 4, 2) := by decide +kernel
theorem dL_law_25 : decode cL_law 25 = .ok (.aload_n 0, 1) := by decide +kernel
theorem dL_law_26 : decode cL_law 26 = .ok (.arraylength, 1) := by decide +kernel
theorem dL_law_27 : decode cL_law 27 = .ok (.bipush 8, 2) := by decide +kernel
theorem dL_law_29 : decode cL_law 29 = .ok (.isub, 1) := by decide +kernel
theorem dL_law_30 : decode cL_law 30 = .ok (.if_icmp .gt 924, 3) := by decide +kernel
theorem dL_law_33 : decode cL_law 33 = .ok (.aload_n 0, 1) := by decide +kernel
theorem dL_law_34 : decode cL_law 34 = .ok (.iload 4, 2) := by decide +kernel
theorem dL_law_36 : decode cL_law 36 = .ok (.iaload, 1) := by decide +kernel
theorem dL_law_37 : decode cL_law 37 = .ok (.bipush 31, 2) := by decide +kernel
theorem dL_law_39 : decode cL_law 39 = .ok (.iand, 1) := by decide +kernel
theorem dL_law_40 : decode cL_law 40 = .ok (.tableswitch 908 0 20 #[100, 137, 174, 223, 324, 413, 478, 515, 540, 589, 626, 663, 719, 732, 745, 758, 783, 796, 821, 846, 859], 100) := by decide +kernel
theorem dL_law_140 : decode cL_law 140 = .ok (.aload_n 1, 1) := by decide +kernel
theorem dL_law_141 : decode cL_law 141 = .ok (.aload_n 0, 1) := by decide +kernel
theorem dL_law_142 : decode cL_law 142 = .ok (.iload 4, 2) := by decide +kernel
theorem dL_law_144 : decode cL_law 144 = .ok (.iconst 1, 1) := by decide +kernel
theorem dL_law_145 : decode cL_law 145 = .ok (.iadd, 1) := by decide +kernel
theorem dL_law_146 : decode cL_law 146 = .ok (.iaload, 1) := by decide +kernel
theorem dL_law_147 : decode cL_law 147 = .ok (.aload_n 0, 1) := by decide +kernel
theorem dL_law_148 : decode cL_law 148 = .ok (.iload 4, 2) := by decide +kernel
theorem dL_law_150 : decode cL_law 150 = .ok (.iconst 2, 1) := by decide +kernel
theorem dL_law_151 : decode cL_law 151 = .ok (.iadd, 1) := by decide +kernel
theorem dL_law_152 : decode cL_law 152 = .ok (.iaload, 1) := by decide +kernel
theorem dL_law_153 : decode cL_law 153 = .ok (.invokevirtual 19, 3) := by decide +kernel
theorem dL_law_156 : decode cL_law 156 = .ok (.aload_n 2, 1) := by decide +kernel
theorem dL_law_157 : decode cL_law 157 = .ok (.aload_n 0, 1) := by decide +kernel
theorem dL_law_158 : decode cL_law 158 = .ok (.iload 4, 2) := by decide +kernel
theorem dL_law_160 : decode cL_law 160 = .ok (.iconst 1, 1) := by decide +kernel
theorem dL_law_161 : decode cL_law 161 = .ok (.iadd, 1) := by decide +kernel
theorem dL_law_162 : decode cL_law 162 = .ok (.iaload, 1) := by decide +kernel
theorem dL_law_163 : decode cL_law 163 = .ok (.aload_n 0, 1) := by decide +kernel
theorem dL_law_164 : decode cL_law 164 = .ok (.iload 4, 2) := by decide +kernel
theorem dL_law_166 : decode cL_law 166 = .ok (.iconst 2, 1) := by decide +kernel
theorem dL_law_167 : decode cL_law 167 = .ok (.iadd, 1) := by decide +kernel
theorem dL_law_168 : decode cL_law 168 = .ok (.iaload, 1) := by decide +kernel
theorem dL_law_169 : decode cL_law 169 = .ok (.invokevirtual 23, 3) := by decide +kernel
theorem dL_law_172 : decode cL_law 172 = .ok (.if_icmp .eq 776, 3) := by decide +kernel
theorem dL_law_175 : decode cL_law 175 = .ok (.iconst 0, 1) := by decide +kernel
theorem dL_law_176 : decode cL_law 176 = .ok (.ireturn, 1) := by decide +kernel
theorem dL_law_177 : decode cL_law 177 = .ok (.aload_n 1, 1) := by decide +kernel
theorem dL_law_178 : decode cL_law 178 = .ok (.aload_n 0, 1) := by decide +kernel
theorem dL_law_179 : decode cL_law 179 = .ok (.iload 4, 2) := by decide +kernel
theorem dL_law_181 : decode cL_law 181 = .ok (.iconst 1, 1) := by decide +kernel
theorem dL_law_182 : decode cL_law 182 = .ok (.iadd, 1) := by decide +kernel
theorem dL_law_183 : decode cL_law 183 = .ok (.iaload, 1) := by decide +kernel
theorem dL_law_184 : decode cL_law 184 = .ok (.aload_n 0, 1) := by decide +kernel
theorem dL_law_185 : decode cL_law 185 = .ok (.iload 4, 2) := by decide +kernel
theorem dL_law_187 : decode cL_law 187 = .ok (.iconst 2, 1) := by decide +kernel
theorem dL_law_188 : decode cL_law 188 = .ok (.iadd, 1) := by decide +kernel
theorem dL_law_189 : decode cL_law 189 = .ok (.iaload, 1) := by decide +kernel
theorem dL_law_190 : decode cL_law 190 = .ok (.invokevirtual 24, 3) := by decide +kernel
theorem dL_law_193 : decode cL_law 193 = .ok (.aload_n 2, 1) := by decide +kernel
theorem dL_law_194 : decode cL_law 194 = .ok (.aload_n 0, 1) := by decide +kernel
theorem dL_law_195 : decode cL_law 195 = .ok (.iload 4, 2) := by decide +kernel
theorem dL_law_197 : decode cL_law 197 = .ok (.iconst 1, 1) := by decide +kernel
theorem dL_law_198 : decode cL_law 198 = .ok (.iadd, 1) := by decide +kernel
theorem dL_law_199 : decode cL_law 199 = .ok (.iaload, 1) := by decide +kernel
theorem dL_law_200 : decode cL_law 200 = .ok (.aload_n 0, 1) := by decide +kernel
theorem dL_law_201 : decode cL_law 201 = .ok (.iload 4, 2) := by decide +kernel
theorem dL_law_203 : decode cL_law 203 = .ok (.iconst 2, 1) := by decide +kernel
theorem dL_law_204 : decode cL_law 204 = .ok (.iadd, 1) := by decide +kernel
theorem dL_law_205 : decode cL_law 205 = .ok (.iaload, 1) := by decide +kernel
theorem dL_law_206 : decode cL_law 206 = .ok (.invokevirtual 28, 3) := by decide +kernel
theorem dL_law_209 : decode cL_law 209 = .ok (.if_icmp .eq 739, 3) := by decide +kernel
theorem dL_law_212 : decode cL_law 212 = .ok (.iconst 0, 1) := by decide +kernel
theorem dL_law_213 : decode cL_law 213 = .ok (.ireturn, 1) := by decide +kernel
theorem dL_law_214 : decode cL_law 214 = .ok (.aload_n 1, 1) := by decide +kernel
theorem dL_law_215 : decode cL_law 215 = .ok (.aload_n 0, 1) := by decide +kernel
theorem dL_law_216 : decode cL_law 216 = .ok (.iload 4, 2) := by decide +kernel
theorem dL_law_218 : decode cL_law 218 = .ok (.iconst 1, 1) := by decide +kernel
theorem dL_law_219 : decode cL_law 219 = .ok (.iadd, 1) := by decide +kernel
theorem dL_law_220 : decode cL_law 220 = .ok (.iaload, 1) := by decide +kernel
theorem dL_law_221 : decode cL_law 221 = .ok (.aload_n 0, 1) := by decide +kernel
theorem dL_law_222 : decode cL_law 222 = .ok (.iload 4, 2) := by decide +kernel
theorem dL_law_224 : decode cL_law 224 = .ok (.iconst 2, 1) := by decide +kernel
theorem dL_law_225 : decode cL_law 225 = .ok (.iadd, 1) := by decide +kernel
theorem dL_law_226 : decode cL_law 226 = .ok (.iaload, 1) := by decide +kernel
theorem dL_law_227 : decode cL_law 227 = .ok (.aload_n 0, 1) := by decide +kernel
theorem dL_law_228 : decode cL_law 228 = .ok (.iload 4, 2) := by decide +kernel
theorem dL_law_230 : decode cL_law 230 = .ok (.iconst 3, 1) := by decide +kernel
theorem dL_law_231 : decode cL_law 231 = .ok (.iadd, 1) := by decide +kernel
theorem dL_law_232 : decode cL_law 232 = .ok (.iaload, 1) := by decide +kernel
theorem dL_law_233 : decode cL_law 233 = .ok (.invokevirtual 29, 3) := by decide +kernel
theorem dL_law_236 : decode cL_law 236 = .ok (.aload_n 2, 1) := by decide +kernel
theorem dL_law_237 : decode cL_law 237 = .ok (.aload_n 0, 1) := by decide +kernel
theorem dL_law_238 : decode cL_law 238 = .ok (.iload 4, 2) := by decide +kernel
theorem dL_law_240 : decode cL_law 240 = .ok (.iconst 1, 1) := by decide +kernel
theorem dL_law_241 : decode cL_law 241 = .ok (.iadd, 1) := by decide +kernel
theorem dL_law_242 : decode cL_law 242 = .ok (.iaload, 1) := by decide +kernel
theorem dL_law_243 : decode cL_law 243 = .ok (.aload_n 0, 1) := by decide +kernel
theorem dL_law_244 : decode cL_law 244 = .ok (.iload 4, 2) := by decide +kernel
theorem dL_law_246 : decode cL_law 246 = .ok (.iconst 2, 1) := by decide +kernel
theorem dL_law_247 : decode cL_law 247 = .ok (.iadd, 1) := by decide +kernel
theorem dL_law_248 : decode cL_law 248 = .ok (.iaload, 1) := by decide +kernel
theorem dL_law_249 : decode cL_law 249 = .ok (.aload_n 0, 1) := by decide +kernel
theorem dL_law_250 : decode cL_law 250 = .ok (.iload 4, 2) := by decide +kernel
theorem dL_law_252 : decode cL_law 252 = .ok (.iconst 3, 1) := by decide +kernel
theorem dL_law_253 : decode cL_law 253 = .ok (.iadd, 1) := by decide +kernel
theorem dL_law_254 : decode cL_law 254 = .ok (.iaload, 1) := by decide +kernel
theorem dL_law_255 : decode cL_law 255 = .ok (.invokevirtual 33, 3) := by decide +kernel
theorem dL_law_258 : decode cL_law 258 = .ok (.if_icmp .eq 690, 3) := by decide +kernel
theorem dL_law_261 : decode cL_law 261 = .ok (.iconst 0, 1) := by decide +kernel
theorem dL_law_262 : decode cL_law 262 = .ok (.ireturn, 1) := by decide +kernel
theorem dL_law_263 : decode cL_law 263 = .ok (.aload_n 1, 1) := by decide +kernel
theorem dL_law_264 : decode cL_law 264 = .ok (.aload_n 0, 1) := by decide +kernel
theorem dL_law_265 : decode cL_law 265 = .ok (.iload 4, 2) := by decide +kernel
theorem dL_law_267 : decode cL_law 267 = .ok (.iconst 1, 1) := by decide +kernel
theorem dL_law_268 : decode cL_law 268 = .ok (.iadd, 1) := by decide +kernel
theorem dL_law_269 : decode cL_law 269 = .ok (.iaload, 1) := by decide +kernel
theorem dL_law_270 : decode cL_law 270 = .ok (.aload_n 0, 1) := by decide +kernel
theorem dL_law_271 : decode cL_law 271 = .ok (.iload 4, 2) := by decide +kernel
theorem dL_law_273 : decode cL_law 273 = .ok (.iconst 2, 1) := by decide +kernel
theorem dL_law_274 : decode cL_law 274 = .ok (.iadd, 1) := by decide +kernel
theorem dL_law_275 : decode cL_law 275 = .ok (.iaload, 1) := by decide +kernel
theorem dL_law_276 : decode cL_law 276 = .ok (.aload_n 0, 1) := by decide +kernel
theorem dL_law_277 : decode cL_law 277 = .ok (.iload 4, 2) := by decide +kernel
theorem dL_law_279 : decode cL_law 279 = .ok (.iconst 3, 1) := by decide +kernel
theorem dL_law_280 : decode cL_law 280 = .ok (.iadd, 1) := by decide +kernel
theorem dL_law_281 : decode cL_law 281 = .ok (.iaload, 1) := by decide +kernel
theorem dL_law_282 : decode cL_law 282 = .ok (.aload_n 0, 1) := by decide +kernel
theorem dL_law_283 : decode cL_law 283 = .ok (.iload 4, 2) := by decide +kernel
theorem dL_law_285 : decode cL_law 285 = .ok (.iconst 4, 1) := by decide +kernel
theorem dL_law_286 : decode cL_law 286 = .ok (.iadd, 1) := by decide +kernel
theorem dL_law_287 : decode cL_law 287 = .ok (.iaload, 1) := by decide +kernel
theorem dL_law_288 : decode cL_law 288 = .ok (.aload_n 0, 1) := by decide +kernel
theorem dL_law_289 : decode cL_law 289 = .ok (.iload 4, 2) := by decide +kernel
theorem dL_law_291 : decode cL_law 291 = .ok (.iconst 5, 1) := by decide +kernel
theorem dL_law_292 : decode cL_law 292 = .ok (.iadd, 1) := by decide +kernel
theorem dL_law_293 : decode cL_law 293 = .ok (.iaload, 1) := by decide +kernel
theorem dL_law_294 : decode cL_law 294 = .ok (.aload_n 0, 1) := by decide +kernel
theorem dL_law_295 : decode cL_law 295 = .ok (.iload 4, 2) := by decide +kernel
theorem dL_law_297 : decode cL_law 297 = .ok (.bipush 6, 2) := by decide +kernel
theorem dL_law_299 : decode cL_law 299 = .ok (.iadd, 1) := by decide +kernel
theorem dL_law_300 : decode cL_law 300 = .ok (.iaload, 1) := by decide +kernel
theorem dL_law_301 : decode cL_law 301 = .ok (.aload_n 0, 1) := by decide +kernel
theorem dL_law_302 : decode cL_law 302 = .ok (.iload 4, 2) := by decide +kernel
theorem dL_law_304 : decode cL_law 304 = .ok (.bipush 7, 2) := by decide +kernel
theorem dL_law_306 : decode cL_law 306 = .ok (.iadd, 1) := by decide +kernel
theorem dL_law_307 : decode cL_law 307 = .ok (.iaload, 1) := by decide +kernel
theorem dL_law_308 : decode cL_law 308 = .ok (.invokevirtual 34, 3) := by decide +kernel
theorem dL_law_311 : decode cL_law 311 = .ok (.aload_n 2, 1) := by decide +kernel
theorem dL_law_312 : decode cL_law 312 = .ok (.aload_n 0, 1) := by decide +kernel
theorem dL_law_313 : decode cL_law 313 = .ok (.iload 4, 2) := by decide +kernel
theorem dL_law_315 : decode cL_law 315 = .ok (.iconst 1, 1) := by decide +kernel
theorem dL_law_316 : decode cL_law 316 = .ok (.iadd, 1) := by decide +kernel
theorem dL_law_317 : decode cL_law 317 = .ok (.iaload, 1) := by decide +kernel
theorem dL_law_318 : decode cL_law 318 = .ok (.aload_n 0, 1) := by decide +kernel
theorem dL_law_319 : decode cL_law 319 = .ok (.iload 4, 2) := by decide +kernel
theorem dL_law_321 : decode cL_law 321 = .ok (.iconst 2, 1) := by decide +kernel
theorem dL_law_322 : decode cL_law 322 = .ok (.iadd, 1) := by decide +kernel
theorem dL_law_323 : decode cL_law 323 = .ok (.iaload, 1) := by decide +kernel
theorem dL_law_324 : decode cL_law 324 = .ok (.aload_n 0, 1) := by decide +kernel
theorem dL_law_325 : decode cL_law 325 = .ok (.iload 4, 2) := by decide +kernel
theorem dL_law_327 : decode cL_law 327 = .ok (.iconst 3, 1) := by decide +kernel
theorem dL_law_328 : decode cL_law 328 = .ok (.iadd, 1) := by decide +kernel
theorem dL_law_329 : decode cL_law 329 = .ok (.iaload, 1) := by decide +kernel
theorem dL_law_330 : decode cL_law 330 = .ok (.aload_n 0, 1) := by decide +kernel
theorem dL_law_331 : decode cL_law 331 = .ok (.iload 4, 2) := by decide +kernel
theorem dL_law_333 : decode cL_law 333 = .ok (.iconst 4, 1) := by decide +kernel
theorem dL_law_334 : decode cL_law 334 = .ok (.iadd, 1) := by decide +kernel
theorem dL_law_335 : decode cL_law 335 = .ok (.iaload, 1) := by decide +kernel
theorem dL_law_336 : decode cL_law 336 = .ok (.aload_n 0, 1) := by decide +kernel
theorem dL_law_337 : decode cL_law 337 = .ok (.iload 4, 2) := by decide +kernel
theorem dL_law_339 : decode cL_law 339 = .ok (.iconst 5, 1) := by decide +kernel
theorem dL_law_340 : decode cL_law 340 = .ok (.iadd, 1) := by decide +kernel
theorem dL_law_341 : decode cL_law 341 = .ok (.iaload, 1) := by decide +kernel
theorem dL_law_342 : decode cL_law 342 = .ok (.aload_n 0, 1) := by decide +kernel
theorem dL_law_343 : decode cL_law 343 = .ok (.iload 4, 2) := by decide +kernel
theorem dL_law_345 : decode cL_law 345 = .ok (.bipush 6, 2) := by decide +kernel
theorem dL_law_347 : decode cL_law 347 = .ok (.iadd, 1) := by decide +kernel
theorem dL_law_348 : decode cL_law 348 = .ok (.iaload, 1) := by decide +kernel
theorem dL_law_349 : decode cL_law 349 = .ok (.aload_n 0, 1) := by decide +kernel
theorem dL_law_350 : decode cL_law 350 = .ok (.iload 4, 2) := by decide +kernel
theorem dL_law_352 : decode cL_law 352 = .ok (.bipush 7, 2) := by decide +kernel
theorem dL_law_354 : decode cL_law 354 = .ok (.iadd, 1) := by decide +kernel
theorem dL_law_355 : decode cL_law 355 = .ok (.iaload, 1) := by decide +kernel
theorem dL_law_356 : decode cL_law 356 = .ok (.invokevirtual 38, 3) := by decide +kernel
theorem dL_law_359 : decode cL_law 359 = .ok (.if_icmp .eq 589, 3) := by decide +kernel
theorem dL_law_362 : decode cL_law 362 = .ok (.iconst 0, 1) := by decide +kernel
theorem dL_law_363 : decode cL_law 363 = .ok (.ireturn, 1) := by decide +kernel
theorem dL_law_364 : decode cL_law 364 = .ok (.aload_n 1, 1) := by decide +kernel
theorem dL_law_365 : decode cL_law 365 = .ok (.aload_n 0, 1) := by decide +kernel
theorem dL_law_366 : decode cL_law 366 = .ok (.iload 4, 2) := by decide +kernel
theorem dL_law_368 : decode cL_law 368 = .ok (.iconst 1, 1) := by decide +kernel
theorem dL_law_369 : decode cL_law 369 = .ok (.iadd, 1) := by decide +kernel
theorem dL_law_370 : decode cL_law 370 = .ok (.iaload, 1) := by decide +kernel
theorem dL_law_371 : decode cL_law 371 = .ok (.aload_n 0, 1) := by decide +kernel
theorem dL_law_372 : decode cL_law 372 = .ok (.iload 4, 2) := by decide +kernel
theorem dL_law_374 : decode cL_law 374 = .ok (.iconst 2, 1) := by decide +kernel
theorem dL_law_375 : decode cL_law 375 = .ok (.iadd, 1) := by decide +kernel
theorem dL_law_376 : decode cL_law 376 = .ok (.iaload, 1) := by decide +kernel
theorem dL_law_377 : decode cL_law 377 = .ok (.aload_n 0, 1) := by decide +kernel
theorem dL_law_378 : decode cL_law 378 = .ok (.iload 4, 2) := by decide +kernel
theorem dL_law_380 : decode cL_law 380 = .ok (.iconst 3, 1) := by decide +kernel
theorem dL_law_381 : decode cL_law 381 = .ok (.iadd, 1) := by decide +kernel
theorem dL_law_382 : decode cL_law 382 = .ok (.iaload, 1) := by decide +kernel
theorem dL_law_383 : decode cL_law 383 = .ok (.ifCond .eq 7, 3) := by decide +kernel
theorem dL_law_386 : decode cL_law 386 = .ok (.iconst 1, 1) := by decide +kernel
theorem dL_law_387 : decode cL_law 387 = .ok (.goto 4, 3) := by decide +kernel
theorem dL_law_390 : decode cL_law 390 = .ok (.iconst 0, 1) := by decide +kernel
theorem dL_law_391 : decode cL_law 391 = .ok (.aload_n 0, 1) := by decide +kernel
theorem dL_law_392 : decode cL_law 392 = .ok (.iload 4, 2) := by decide +kernel
theorem dL_law_394 : decode cL_law 394 = .ok (.iconst 4, 1) := by decide +kernel
theorem dL_law_395 : decode cL_law 395 = .ok (.iadd, 1) := by decide +kernel
theorem dL_law_396 : decode cL_law 396 = .ok (.iaload, 1) := by decide +kernel
theorem dL_law_397 : decode cL_law 397 = .ok (.aload_n 0, 1) := by decide +kernel
theorem dL_law_398 : decode cL_law 398 = .ok (.iload 4, 2) := by decide +kernel
theorem dL_law_400 : decode cL_law 400 = .ok (.iconst 5, 1) := by decide +kernel
theorem dL_law_401 : decode cL_law 401 = .ok (.iadd, 1) := by decide +kernel
theorem dL_law_402 : decode cL_law 402 = .ok (.iaload, 1) := by decide +kernel
theorem dL_law_403 : decode cL_law 403 = .ok (.invokevirtual 39, 3) := by decide +kernel
theorem dL_law_406 : decode cL_law 406 = .ok (.aload_n 2, 1) := by decide +kernel
theorem dL_law_407 : decode cL_law 407 = .ok (.aload_n 0, 1) := by decide +kernel
theorem dL_law_408 : decode cL_law 408 = .ok (.iload 4, 2) := by decide +kernel
theorem dL_law_410 : decode cL_law 410 = .ok (.iconst 1, 1) := by decide +kernel
theorem dL_law_411 : decode cL_law 411 = .ok (.iadd, 1) := by decide +kernel
theorem dL_law_412 : decode cL_law 412 = .ok (.iaload, 1) := by decide +kernel
theorem dL_law_413 : decode cL_law 413 = .ok (.aload_n 0, 1) := by decide +kernel
theorem dL_law_414 : decode cL_law 414 = .ok (.iload 4, 2) := by decide +kernel
theorem dL_law_416 : decode cL_law 416 = .ok (.iconst 2, 1) := by decide +kernel
theorem dL_law_417 : decode cL_law 417 = .ok (.iadd, 1) := by decide +kernel
theorem dL_law_418 : decode cL_law 418 = .ok (.iaload, 1) := by decide +kernel
theorem dL_law_419 : decode cL_law 419 = .ok (.aload_n 0, 1) := by decide +kernel
theorem dL_law_420 : decode cL_law 420 = .ok (.iload 4, 2) := by decide +kernel
theorem dL_law_422 : decode cL_law 422 = .ok (.iconst 3, 1) := by decide +kernel
theorem dL_law_423 : decode cL_law 423 = .ok (.iadd, 1) := by decide +kernel
theorem dL_law_424 : decode cL_law 424 = .ok (.iaload, 1) := by decide +kernel
theorem dL_law_425 : decode cL_law 425 = .ok (.ifCond .eq 7, 3) := by decide +kernel
theorem dL_law_428 : decode cL_law 428 = .ok (.iconst 1, 1) := by decide +kernel
theorem dL_law_429 : decode cL_law 429 = .ok (.goto 4, 3) := by decide +kernel
theorem dL_law_432 : decode cL_law 432 = .ok (.iconst 0, 1) := by decide +kernel
theorem dL_law_433 : decode cL_law 433 = .ok (.aload_n 0, 1) := by decide +kernel
theorem dL_law_434 : decode cL_law 434 = .ok (.iload 4, 2) := by decide +kernel
theorem dL_law_436 : decode cL_law 436 = .ok (.iconst 4, 1) := by decide +kernel
theorem dL_law_437 : decode cL_law 437 = .ok (.iadd, 1) := by decide +kernel
theorem dL_law_438 : decode cL_law 438 = .ok (.iaload, 1) := by decide +kernel
theorem dL_law_439 : decode cL_law 439 = .ok (.aload_n 0, 1) := by decide +kernel
theorem dL_law_440 : decode cL_law 440 = .ok (.iload 4, 2) := by decide +kernel
theorem dL_law_442 : decode cL_law 442 = .ok (.iconst 5, 1) := by decide +kernel
theorem dL_law_443 : decode cL_law 443 = .ok (.iadd, 1) := by decide +kernel
theorem dL_law_444 : decode cL_law 444 = .ok (.iaload, 1) := by decide +kernel
theorem dL_law_445 : decode cL_law 445 = .ok (.invokevirtual 43, 3) := by decide +kernel
theorem dL_law_448 : decode cL_law 448 = .ok (.if_icmp .eq 500, 3) := by decide +kernel
theorem dL_law_451 : decode cL_law 451 = .ok (.iconst 0, 1) := by decide +kernel
theorem dL_law_452 : decode cL_law 452 = .ok (.ireturn, 1) := by decide +kernel
theorem dL_law_453 : decode cL_law 453 = .ok (.aload_n 1, 1) := by decide +kernel
theorem dL_law_454 : decode cL_law 454 = .ok (.aload_n 0, 1) := by decide +kernel
theorem dL_law_455 : decode cL_law 455 = .ok (.iload 4, 2) := by decide +kernel
theorem dL_law_457 : decode cL_law 457 = .ok (.iconst 1, 1) := by decide +kernel
theorem dL_law_458 : decode cL_law 458 = .ok (.iadd, 1) := by decide +kernel
theorem dL_law_459 : decode cL_law 459 = .ok (.iaload, 1) := by decide +kernel
theorem dL_law_460 : decode cL_law 460 = .ok (.aload_n 0, 1) := by decide +kernel
theorem dL_law_461 : decode cL_law 461 = .ok (.iload 4, 2) := by decide +kernel
theorem dL_law_463 : decode cL_law 463 = .ok (.iconst 2, 1) := by decide +kernel
theorem dL_law_464 : decode cL_law 464 = .ok (.iadd, 1) := by decide +kernel
theorem dL_law_465 : decode cL_law 465 = .ok (.iaload, 1) := by decide +kernel
theorem dL_law_466 : decode cL_law 466 = .ok (.aload_n 0, 1) := by decide +kernel
theorem dL_law_467 : decode cL_law 467 = .ok (.iload 4, 2) := by decide +kernel
theorem dL_law_469 : decode cL_law 469 = .ok (.iconst 3, 1) := by decide +kernel
theorem dL_law_470 : decode cL_law 470 = .ok (.iadd, 1) := by decide +kernel
theorem dL_law_471 : decode cL_law 471 = .ok (.iaload, 1) := by decide +kernel
theorem dL_law_472 : decode cL_law 472 = .ok (.ifCond .eq 7, 3) := by decide +kernel
theorem dL_law_475 : decode cL_law 475 = .ok (.iconst 1, 1) := by decide +kernel
theorem dL_law_476 : decode cL_law 476 = .ok (.goto 4, 3) := by decide +kernel
theorem dL_law_479 : decode cL_law 479 = .ok (.iconst 0, 1) := by decide +kernel
theorem dL_law_480 : decode cL_law 480 = .ok (.invokevirtual 44, 3) := by decide +kernel
theorem dL_law_483 : decode cL_law 483 = .ok (.aload_n 2, 1) := by decide +kernel
theorem dL_law_484 : decode cL_law 484 = .ok (.aload_n 0, 1) := by decide +kernel
theorem dL_law_485 : decode cL_law 485 = .ok (.iload 4, 2) := by decide +kernel
theorem dL_law_487 : decode cL_law 487 = .ok (.iconst 1, 1) := by decide +kernel
theorem dL_law_488 : decode cL_law 488 = .ok (.iadd, 1) := by decide +kernel
theorem dL_law_489 : decode cL_law 489 = .ok (.iaload, 1) := by decide +kernel
theorem dL_law_490 : decode cL_law 490 = .ok (.aload_n 0, 1) := by decide +kernel
theorem dL_law_491 : decode cL_law 491 = .ok (.iload 4, 2) := by decide +kernel
theorem dL_law_493 : decode cL_law 493 = .ok (.iconst 2, 1) := by decide +kernel
theorem dL_law_494 : decode cL_law 494 = .ok (.iadd, 1) := by decide +kernel
theorem dL_law_495 : decode cL_law 495 = .ok (.iaload, 1) := by decide +kernel
theorem dL_law_496 : decode cL_law 496 = .ok (.aload_n 0, 1) := by decide +kernel
theorem dL_law_497 : decode cL_law 497 = .ok (.iload 4, 2) := by decide +kernel
theorem dL_law_499 : decode cL_law 499 = .ok (.iconst 3, 1) := by decide +kernel
theorem dL_law_500 : decode cL_law 500 = .ok (.iadd, 1) := by decide +kernel
theorem dL_law_501 : decode cL_law 501 = .ok (.iaload, 1) := by decide +kernel
theorem dL_law_502 : decode cL_law 502 = .ok (.ifCond .eq 7, 3) := by decide +kernel
theorem dL_law_505 : decode cL_law 505 = .ok (.iconst 1, 1) := by decide +kernel
theorem dL_law_506 : decode cL_law 506 = .ok (.goto 4, 3) := by decide +kernel
theorem dL_law_509 : decode cL_law 509 = .ok (.iconst 0, 1) := by decide +kernel
theorem dL_law_510 : decode cL_law 510 = .ok (.invokevirtual 48, 3) := by decide +kernel
theorem dL_law_513 : decode cL_law 513 = .ok (.if_icmp .eq 435, 3) := by decide +kernel
theorem dL_law_516 : decode cL_law 516 = .ok (.iconst 0, 1) := by decide +kernel
theorem dL_law_517 : decode cL_law 517 = .ok (.ireturn, 1) := by decide +kernel
theorem dL_law_518 : decode cL_law 518 = .ok (.aload_n 1, 1) := by decide +kernel
theorem dL_law_519 : decode cL_law 519 = .ok (.aload_n 0, 1) := by decide +kernel
theorem dL_law_520 : decode cL_law 520 = .ok (.iload 4, 2) := by decide +kernel
theorem dL_law_522 : decode cL_law 522 = .ok (.iconst 1, 1) := by decide +kernel
theorem dL_law_523 : decode cL_law 523 = .ok (.iadd, 1) := by decide +kernel
theorem dL_law_524 : decode cL_law 524 = .ok (.iaload, 1) := by decide +kernel
theorem dL_law_525 : decode cL_law 525 = .ok (.aload_n 0, 1) := by decide +kernel
theorem dL_law_526 : decode cL_law 526 = .ok (.iload 4, 2) := by decide +kernel
theorem dL_law_528 : decode cL_law 528 = .ok (.iconst 2, 1) := by decide +kernel
theorem dL_law_529 : decode cL_law 529 = .ok (.iadd, 1) := by decide +kernel
theorem dL_law_530 : decode cL_law 530 = .ok (.iaload, 1) := by decide +kernel
theorem dL_law_531 : decode cL_law 531 = .ok (.invokevirtual 49, 3) := by decide +kernel
theorem dL_law_534 : decode cL_law 534 = .ok (.aload_n 2, 1) := by decide +kernel
theorem dL_law_535 : decode cL_law 535 = .ok (.aload_n 0, 1) := by decide +kernel
theorem dL_law_536 : decode cL_law 536 = .ok (.iload 4, 2) := by decide +kernel
theorem dL_law_538 : decode cL_law 538 = .ok (.iconst 1, 1) := by decide +kernel
theorem dL_law_539 : decode cL_law 539 = .ok (.iadd, 1) := by decide +kernel
theorem dL_law_540 : decode cL_law 540 = .ok (.iaload, 1) := by decide +kernel
theorem dL_law_541 : decode cL_law 541 = .ok (.aload_n 0, 1) := by decide +kernel
theorem dL_law_542 : decode cL_law 542 = .ok (.iload 4, 2) := by decide +kernel
theorem dL_law_544 : decode cL_law 544 = .ok (.iconst 2, 1) := by decide +kernel
theorem dL_law_545 : decode cL_law 545 = .ok (.iadd, 1) := by decide +kernel
theorem dL_law_546 : decode cL_law 546 = .ok (.iaload, 1) := by decide +kernel
theorem dL_law_547 : decode cL_law 547 = .ok (.invokevirtual 52, 3) := by decide +kernel
theorem dL_law_550 : decode cL_law 550 = .ok (.if_icmp .eq 398, 3) := by decide +kernel
theorem dL_law_553 : decode cL_law 553 = .ok (.iconst 0, 1) := by decide +kernel
theorem dL_law_554 : decode cL_law 554 = .ok (.ireturn, 1) := by decide +kernel
theorem dL_law_555 : decode cL_law 555 = .ok (.aload_n 1, 1) := by decide +kernel
theorem dL_law_556 : decode cL_law 556 = .ok (.aload_n 0, 1) := by decide +kernel
theorem dL_law_557 : decode cL_law 557 = .ok (.iload 4, 2) := by decide +kernel
theorem dL_law_559 : decode cL_law 559 = .ok (.iconst 1, 1) := by decide +kernel
theorem dL_law_560 : decode cL_law 560 = .ok (.iadd, 1) := by decide +kernel
theorem dL_law_561 : decode cL_law 561 = .ok (.iaload, 1) := by decide +kernel
theorem dL_law_562 : decode cL_law 562 = .ok (.invokevirtual 53, 3) := by decide +kernel
theorem dL_law_565 : decode cL_law 565 = .ok (.aload_n 2, 1) := by decide +kernel
theorem dL_law_566 : decode cL_law 566 = .ok (.aload_n 0, 1) := by decide +kernel
theorem dL_law_567 : decode cL_law 567 = .ok (.iload 4, 2) := by decide +kernel
theorem dL_law_569 : decode cL_law 569 = .ok (.iconst 1, 1) := by decide +kernel
theorem dL_law_570 : decode cL_law 570 = .ok (.iadd, 1) := by decide +kernel
theorem dL_law_571 : decode cL_law 571 = .ok (.iaload, 1) := by decide +kernel
theorem dL_law_572 : decode cL_law 572 = .ok (.invokevirtual 56, 3) := by decide +kernel
theorem dL_law_575 : decode cL_law 575 = .ok (.if_icmp .eq 373, 3) := by decide +kernel
theorem dL_law_578 : decode cL_law 578 = .ok (.iconst 0, 1) := by decide +kernel
theorem dL_law_579 : decode cL_law 579 = .ok (.ireturn, 1) := by decide +kernel
theorem dL_law_580 : decode cL_law 580 = .ok (.aload_n 1, 1) := by decide +kernel
theorem dL_law_581 : decode cL_law 581 = .ok (.aload_n 0, 1) := by decide +kernel
theorem dL_law_582 : decode cL_law 582 = .ok (.iload 4, 2) := by decide +kernel
theorem dL_law_584 : decode cL_law 584 = .ok (.iconst 1, 1) := by decide +kernel
theorem dL_law_585 : decode cL_law 585 = .ok (.iadd, 1) := by decide +kernel
theorem dL_law_586 : decode cL_law 586 = .ok (.iaload, 1) := by decide +kernel
theorem dL_law_587 : decode cL_law 587 = .ok (.aload_n 0, 1) := by decide +kernel
theorem dL_law_588 : decode cL_law 588 = .ok (.iload 4, 2) := by decide +kernel
theorem dL_law_590 : decode cL_law 590 = .ok (.iconst 2, 1) := by decide +kernel
theorem dL_law_591 : decode cL_law 591 = .ok (.iadd, 1) := by decide +kernel
theorem dL_law_592 : decode cL_law 592 = .ok (.iaload, 1) := by decide +kernel
theorem dL_law_593 : decode cL_law 593 = .ok (.aload_n 0, 1) := by decide +kernel
theorem dL_law_594 : decode cL_law 594 = .ok (.iload 4, 2) := by decide +kernel
theorem dL_law_596 : decode cL_law 596 = .ok (.iconst 3, 1) := by decide +kernel
theorem dL_law_597 : decode cL_law 597 = .ok (.iadd, 1) := by decide +kernel
theorem dL_law_598 : decode cL_law 598 = .ok (.iaload, 1) := by decide +kernel
theorem dL_law_599 : decode cL_law 599 = .ok (.invokevirtual 57, 3) := by decide +kernel
theorem dL_law_602 : decode cL_law 602 = .ok (.aload_n 2, 1) := by decide +kernel
theorem dL_law_603 : decode cL_law 603 = .ok (.aload_n 0, 1) := by decide +kernel
theorem dL_law_604 : decode cL_law 604 = .ok (.iload 4, 2) := by decide +kernel
theorem dL_law_606 : decode cL_law 606 = .ok (.iconst 1, 1) := by decide +kernel
theorem dL_law_607 : decode cL_law 607 = .ok (.iadd, 1) := by decide +kernel
theorem dL_law_608 : decode cL_law 608 = .ok (.iaload, 1) := by decide +kernel
theorem dL_law_609 : decode cL_law 609 = .ok (.aload_n 0, 1) := by decide +kernel
theorem dL_law_610 : decode cL_law 610 = .ok (.iload 4, 2) := by decide +kernel
theorem dL_law_612 : decode cL_law 612 = .ok (.iconst 2, 1) := by decide +kernel
theorem dL_law_613 : decode cL_law 613 = .ok (.iadd, 1) := by decide +kernel
theorem dL_law_614 : decode cL_law 614 = .ok (.iaload, 1) := by decide +kernel
theorem dL_law_615 : decode cL_law 615 = .ok (.aload_n 0, 1) := by decide +kernel
theorem dL_law_616 : decode cL_law 616 = .ok (.iload 4, 2) := by decide +kernel
theorem dL_law_618 : decode cL_law 618 = .ok (.iconst 3, 1) := by decide +kernel
theorem dL_law_619 : decode cL_law 619 = .ok (.iadd, 1) := by decide +kernel
theorem dL_law_620 : decode cL_law 620 = .ok (.iaload, 1) := by decide +kernel
theorem dL_law_621 : decode cL_law 621 = .ok (.invokevirtual 61, 3) := by decide +kernel
theorem dL_law_624 : decode cL_law 624 = .ok (.if_icmp .eq 324, 3) := by decide +kernel
theorem dL_law_627 : decode cL_law 627 = .ok (.iconst 0, 1) := by decide +kernel
theorem dL_law_628 : decode cL_law 628 = .ok (.ireturn, 1) := by decide +kernel
theorem dL_law_629 : decode cL_law 629 = .ok (.aload_n 1, 1) := by decide +kernel
theorem dL_law_630 : decode cL_law 630 = .ok (.aload_n 0, 1) := by decide +kernel
theorem dL_law_631 : decode cL_law 631 = .ok (.iload 4, 2) := by decide +kernel
theorem dL_law_633 : decode cL_law 633 = .ok (.iconst 1, 1) := by decide +kernel
theorem dL_law_634 : decode cL_law 634 = .ok (.iadd, 1) := by decide +kernel
theorem dL_law_635 : decode cL_law 635 = .ok (.iaload, 1) := by decide +kernel
theorem dL_law_636 : decode cL_law 636 = .ok (.aload_n 0, 1) := by decide +kernel
theorem dL_law_637 : decode cL_law 637 = .ok (.iload 4, 2) := by decide +kernel
theorem dL_law_639 : decode cL_law 639 = .ok (.iconst 2, 1) := by decide +kernel
theorem dL_law_640 : decode cL_law 640 = .ok (.iadd, 1) := by decide +kernel
theorem dL_law_641 : decode cL_law 641 = .ok (.iaload, 1) := by decide +kernel
theorem dL_law_642 : decode cL_law 642 = .ok (.invokevirtual 62, 3) := by decide +kernel
theorem dL_law_645 : decode cL_law 645 = .ok (.aload_n 2, 1) := by decide +kernel
theorem dL_law_646 : decode cL_law 646 = .ok (.aload_n 0, 1) := by decide +kernel
theorem dL_law_647 : decode cL_law 647 = .ok (.iload 4, 2) := by decide +kernel
theorem dL_law_649 : decode cL_law 649 = .ok (.iconst 1, 1) := by decide +kernel
theorem dL_law_650 : decode cL_law 650 = .ok (.iadd, 1) := by decide +kernel
theorem dL_law_651 : decode cL_law 651 = .ok (.iaload, 1) := by decide +kernel
theorem dL_law_652 : decode cL_law 652 = .ok (.aload_n 0, 1) := by decide +kernel
theorem dL_law_653 : decode cL_law 653 = .ok (.iload 4, 2) := by decide +kernel
theorem dL_law_655 : decode cL_law 655 = .ok (.iconst 2, 1) := by decide +kernel
theorem dL_law_656 : decode cL_law 656 = .ok (.iadd, 1) := by decide +kernel
theorem dL_law_657 : decode cL_law 657 = .ok (.iaload, 1) := by decide +kernel
theorem dL_law_658 : decode cL_law 658 = .ok (.invokevirtual 65, 3) := by decide +kernel
theorem dL_law_661 : decode cL_law 661 = .ok (.if_icmp .eq 287, 3) := by decide +kernel
theorem dL_law_664 : decode cL_law 664 = .ok (.iconst 0, 1) := by decide +kernel
theorem dL_law_665 : decode cL_law 665 = .ok (.ireturn, 1) := by decide +kernel
theorem dL_law_666 : decode cL_law 666 = .ok (.aload_n 1, 1) := by decide +kernel
theorem dL_law_667 : decode cL_law 667 = .ok (.aload_n 0, 1) := by decide +kernel
theorem dL_law_668 : decode cL_law 668 = .ok (.iload 4, 2) := by decide +kernel
theorem dL_law_670 : decode cL_law 670 = .ok (.iconst 1, 1) := by decide +kernel
theorem dL_law_671 : decode cL_law 671 = .ok (.iadd, 1) := by decide +kernel
theorem dL_law_672 : decode cL_law 672 = .ok (.iaload, 1) := by decide +kernel
theorem dL_law_673 : decode cL_law 673 = .ok (.aload_n 0, 1) := by decide +kernel
theorem dL_law_674 : decode cL_law 674 = .ok (.iload 4, 2) := by decide +kernel
theorem dL_law_676 : decode cL_law 676 = .ok (.iconst 2, 1) := by decide +kernel
theorem dL_law_677 : decode cL_law 677 = .ok (.iadd, 1) := by decide +kernel
theorem dL_law_678 : decode cL_law 678 = .ok (.iaload, 1) := by decide +kernel
theorem dL_law_679 : decode cL_law 679 = .ok (.invokevirtual 66, 3) := by decide +kernel
theorem dL_law_682 : decode cL_law 682 = .ok (.aload_n 2, 1) := by decide +kernel
theorem dL_law_683 : decode cL_law 683 = .ok (.aload_n 0, 1) := by decide +kernel
theorem dL_law_684 : decode cL_law 684 = .ok (.iload 4, 2) := by decide +kernel
theorem dL_law_686 : decode cL_law 686 = .ok (.iconst 1, 1) := by decide +kernel
theorem dL_law_687 : decode cL_law 687 = .ok (.iadd, 1) := by decide +kernel
theorem dL_law_688 : decode cL_law 688 = .ok (.iaload, 1) := by decide +kernel
theorem dL_law_689 : decode cL_law 689 = .ok (.aload_n 0, 1) := by decide +kernel
theorem dL_law_690 : decode cL_law 690 = .ok (.iload 4, 2) := by decide +kernel
theorem dL_law_692 : decode cL_law 692 = .ok (.iconst 2, 1) := by decide +kernel
theorem dL_law_693 : decode cL_law 693 = .ok (.iadd, 1) := by decide +kernel
theorem dL_law_694 : decode cL_law 694 = .ok (.iaload, 1) := by decide +kernel
theorem dL_law_695 : decode cL_law 695 = .ok (.invokevirtual 69, 3) := by decide +kernel
theorem dL_law_698 : decode cL_law 698 = .ok (.if_icmp .eq 250, 3) := by decide +kernel
theorem dL_law_701 : decode cL_law 701 = .ok (.iconst 0, 1) := by decide +kernel
theorem dL_law_702 : decode cL_law 702 = .ok (.ireturn, 1) := by decide +kernel
theorem dL_law_703 : decode cL_law 703 = .ok (.aload_n 1, 1) := by decide +kernel
theorem dL_law_704 : decode cL_law 704 = .ok (.aload_n 0, 1) := by decide +kernel
theorem dL_law_705 : decode cL_law 705 = .ok (.iload 4, 2) := by decide +kernel
theorem dL_law_707 : decode cL_law 707 = .ok (.iconst 1, 1) := by decide +kernel
theorem dL_law_708 : decode cL_law 708 = .ok (.iadd, 1) := by decide +kernel
theorem dL_law_709 : decode cL_law 709 = .ok (.iaload, 1) := by decide +kernel
theorem dL_law_710 : decode cL_law 710 = .ok (.aload_n 3, 1) := by decide +kernel
theorem dL_law_711 : decode cL_law 711 = .ok (.invokestatic 70, 3) := by decide +kernel
theorem dL_law_714 : decode cL_law 714 = .ok (.istore 5, 2) := by decide +kernel
theorem dL_law_716 : decode cL_law 716 = .ok (.aload_n 2, 1) := by decide +kernel
theorem dL_law_717 : decode cL_law 717 = .ok (.aload_n 0, 1) := by decide +kernel
theorem dL_law_718 : decode cL_law 718 = .ok (.iload 4, 2) := by decide +kernel
theorem dL_law_720 : decode cL_law 720 = .ok (.iconst 1, 1) := by decide +kernel
theorem dL_law_721 : decode cL_law 721 = .ok (.iadd, 1) := by decide +kernel
theorem dL_law_722 : decode cL_law 722 = .ok (.iaload, 1) := by decide +kernel
theorem dL_law_723 : decode cL_law 723 = .ok (.invokevirtual 75, 3) := by decide +kernel
theorem dL_law_726 : decode cL_law 726 = .ok (.istore 6, 2) := by decide +kernel
theorem dL_law_728 : decode cL_law 728 = .ok (.aload_n 2, 1) := by decide +kernel
theorem dL_law_729 : decode cL_law 729 = .ok (.invokevirtual 76, 3) := by decide +kernel
theorem dL_law_732 : decode cL_law 732 = .ok (.iload 5, 2) := by decide +kernel
theorem dL_law_734 : decode cL_law 734 = .ok (.if_icmp .eq 5, 3) := by decide +kernel
theorem dL_law_737 : decode cL_law 737 = .ok (.iconst 0, 1) := by decide +kernel
theorem dL_law_738 : decode cL_law 738 = .ok (.ireturn, 1) := by decide +kernel
theorem dL_law_739 : decode cL_law 739 = .ok (.iload 5, 2) := by decide +kernel
theorem dL_law_741 : decode cL_law 741 = .ok (.ifCond .ne 15, 3) := by decide +kernel
theorem dL_law_744 : decode cL_law 744 = .ok (.aload_n 3, 1) := by decide +kernel
theorem dL_law_745 : decode cL_law 745 = .ok (.iconst 0, 1) := by decide +kernel
theorem dL_law_746 : decode cL_law 746 = .ok (.laload, 1) := by decide +kernel
theorem dL_law_747 : decode cL_law 747 = .ok (.iload 6, 2) := by decide +kernel
theorem dL_law_749 : decode cL_law 749 = .ok (.i2l, 1) := by decide +kernel
theorem dL_law_750 : decode cL_law 750 = .ok (.lcmp, 1) := by decide +kernel
theorem dL_law_751 : decode cL_law 751 = .ok (.ifCond .eq 5, 3) := by decide +kernel
theorem dL_law_754 : decode cL_law 754 = .ok (.iconst 0, 1) := by decide +kernel
theorem dL_law_755 : decode cL_law 755 = .ok (.ireturn, 1) := by decide +kernel
theorem dL_law_756 : decode cL_law 756 = .ok (.goto 192, 3) := by decide +kernel
theorem dL_law_759 : decode cL_law 759 = .ok (.aload_n 1, 1) := by decide +kernel
theorem dL_law_760 : decode cL_law 760 = .ok (.invokevirtual 80, 3) := by decide +kernel
theorem dL_law_763 : decode cL_law 763 = .ok (.aload_n 2, 1) := by decide +kernel
theorem dL_law_764 : decode cL_law 764 = .ok (.invokevirtual 83, 3) := by decide +kernel
theorem dL_law_767 : decode cL_law 767 = .ok (.if_icmp .eq 181, 3) := by decide +kernel
theorem dL_law_770 : decode cL_law 770 = .ok (.iconst 0, 1) := by decide +kernel
theorem dL_law_771 : decode cL_law 771 = .ok (.ireturn, 1) := by decide +kernel
theorem dL_law_772 : decode cL_law 772 = .ok (.aload_n 1, 1) := by decide +kernel
theorem dL_law_773 : decode cL_law 773 = .ok (.invokevirtual 84, 3) := by decide +kernel
theorem dL_law_776 : decode cL_law 776 = .ok (.aload_n 2, 1) := by decide +kernel
theorem dL_law_777 : decode cL_law 777 = .ok (.invokevirtual 87, 3) := by decide +kernel
theorem dL_law_780 : decode cL_law 780 = .ok (.if_icmp .eq 168, 3) := by decide +kernel
theorem dL_law_783 : decode cL_law 783 = .ok (.iconst 0, 1) := by decide +kernel
theorem dL_law_784 : decode cL_law 784 = .ok (.ireturn, 1) := by decide +kernel
theorem dL_law_785 : decode cL_law 785 = .ok (.aload_n 1, 1) := by decide +kernel
theorem dL_law_786 : decode cL_law 786 = .ok (.invokevirtual 88, 3) := by decide +kernel
theorem dL_law_789 : decode cL_law 789 = .ok (.aload_n 2, 1) := by decide +kernel
theorem dL_law_790 : decode cL_law 790 = .ok (.invokevirtual 91, 3) := by decide +kernel
theorem dL_law_793 : decode cL_law 793 = .ok (.if_icmp .eq 155, 3) := by decide +kernel
theorem dL_law_796 : decode cL_law 796 = .ok (.iconst 0, 1) := by decide +kernel
theorem dL_law_797 : decode cL_law 797 = .ok (.ireturn, 1) := by decide +kernel
theorem dL_law_798 : decode cL_law 798 = .ok (.aload_n 1, 1) := by decide +kernel
theorem dL_law_799 : decode cL_law 799 = .ok (.aload_n 0, 1) := by decide +kernel
theorem dL_law_800 : decode cL_law 800 = .ok (.iload 4, 2) := by decide +kernel
theorem dL_law_802 : decode cL_law 802 = .ok (.iconst 1, 1) := by decide +kernel
theorem dL_law_803 : decode cL_law 803 = .ok (.iadd, 1) := by decide +kernel
theorem dL_law_804 : decode cL_law 804 = .ok (.iaload, 1) := by decide +kernel
theorem dL_law_805 : decode cL_law 805 = .ok (.invokevirtual 92, 3) := by decide +kernel
theorem dL_law_808 : decode cL_law 808 = .ok (.aload_n 2, 1) := by decide +kernel
theorem dL_law_809 : decode cL_law 809 = .ok (.aload_n 0, 1) := by decide +kernel
theorem dL_law_810 : decode cL_law 810 = .ok (.iload 4, 2) := by decide +kernel
theorem dL_law_812 : decode cL_law 812 = .ok (.iconst 1, 1) := by decide +kernel
theorem dL_law_813 : decode cL_law 813 = .ok (.iadd, 1) := by decide +kernel
theorem dL_law_814 : decode cL_law 814 = .ok (.iaload, 1) := by decide +kernel
theorem dL_law_815 : decode cL_law 815 = .ok (.invokevirtual 95, 3) := by decide +kernel
theorem dL_law_818 : decode cL_law 818 = .ok (.if_icmp .eq 130, 3) := by decide +kernel
theorem dL_law_821 : decode cL_law 821 = .ok (.iconst 0, 1) := by decide +kernel
theorem dL_law_822 : decode cL_law 822 = .ok (.ireturn, 1) := by decide +kernel
theorem dL_law_823 : decode cL_law 823 = .ok (.aload_n 1, 1) := by decide +kernel
theorem dL_law_824 : decode cL_law 824 = .ok (.invokevirtual 96, 3) := by decide +kernel
theorem dL_law_827 : decode cL_law 827 = .ok (.aload_n 2, 1) := by decide +kernel
theorem dL_law_828 : decode cL_law 828 = .ok (.invokevirtual 99, 3) := by decide +kernel
theorem dL_law_831 : decode cL_law 831 = .ok (.if_icmp .eq 117, 3) := by decide +kernel
theorem dL_law_834 : decode cL_law 834 = .ok (.iconst 0, 1) := by decide +kernel
theorem dL_law_835 : decode cL_law 835 = .ok (.ireturn, 1) := by decide +kernel
theorem dL_law_836 : decode cL_law 836 = .ok (.aload_n 1, 1) := by decide +kernel
theorem dL_law_837 : decode cL_law 837 = .ok (.aload_n 0, 1) := by decide +kernel
theorem dL_law_838 : decode cL_law 838 = .ok (.iload 4, 2) := by decide +kernel
theorem dL_law_840 : decode cL_law 840 = .ok (.iconst 1, 1) := by decide +kernel
theorem dL_law_841 : decode cL_law 841 = .ok (.iadd, 1) := by decide +kernel
theorem dL_law_842 : decode cL_law 842 = .ok (.iaload, 1) := by decide +kernel
theorem dL_law_843 : decode cL_law 843 = .ok (.invokevirtual 100, 3) := by decide +kernel
theorem dL_law_846 : decode cL_law 846 = .ok (.aload_n 2, 1) := by decide +kernel
theorem dL_law_847 : decode cL_law 847 = .ok (.aload_n 0, 1) := by decide +kernel
theorem dL_law_848 : decode cL_law 848 = .ok (.iload 4, 2) := by decide +kernel
theorem dL_law_850 : decode cL_law 850 = .ok (.iconst 1, 1) := by decide +kernel
theorem dL_law_851 : decode cL_law 851 = .ok (.iadd, 1) := by decide +kernel
theorem dL_law_852 : decode cL_law 852 = .ok (.iaload, 1) := by decide +kernel
theorem dL_law_853 : decode cL_law 853 = .ok (.invokevirtual 103, 3) := by decide +kernel
theorem dL_law_856 : decode cL_law 856 = .ok (.if_icmp .eq 92, 3) := by decide +kernel
theorem dL_law_859 : decode cL_law 859 = .ok (.iconst 0, 1) := by decide +kernel
theorem dL_law_860 : decode cL_law 860 = .ok (.ireturn, 1) := by decide +kernel
theorem dL_law_861 : decode cL_law 861 = .ok (.aload_n 1, 1) := by decide +kernel
theorem dL_law_862 : decode cL_law 862 = .ok (.aload_n 0, 1) := by decide +kernel
theorem dL_law_863 : decode cL_law 863 = .ok (.iload 4, 2) := by decide +kernel
theorem dL_law_865 : decode cL_law 865 = .ok (.iconst 1, 1) := by decide +kernel
theorem dL_law_866 : decode cL_law 866 = .ok (.iadd, 1) := by decide +kernel
theorem dL_law_867 : decode cL_law 867 = .ok (.iaload, 1) := by decide +kernel
theorem dL_law_868 : decode cL_law 868 = .ok (.invokevirtual 104, 3) := by decide +kernel
theorem dL_law_871 : decode cL_law 871 = .ok (.aload_n 2, 1) := by decide +kernel
theorem dL_law_872 : decode cL_law 872 = .ok (.aload_n 0, 1) := by decide +kernel
theorem dL_law_873 : decode cL_law 873 = .ok (.iload 4, 2) := by decide +kernel
theorem dL_law_875 : decode cL_law 875 = .ok (.iconst 1, 1) := by decide +kernel
theorem dL_law_876 : decode cL_law 876 = .ok (.iadd, 1) := by decide +kernel
theorem dL_law_877 : decode cL_law 877 = .ok (.iaload, 1) := by decide +kernel
theorem dL_law_878 : decode cL_law 878 = .ok (.invokevirtual 107, 3) := by decide +kernel
theorem dL_law_881 : decode cL_law 881 = .ok (.if_icmp .eq 67, 3) := by decide +kernel
theorem dL_law_884 : decode cL_law 884 = .ok (.iconst 0, 1) := by decide +kernel
theorem dL_law_885 : decode cL_law 885 = .ok (.ireturn, 1) := by decide +kernel
theorem dL_law_886 : decode cL_law 886 = .ok (.aload_n 1, 1) := by decide +kernel
theorem dL_law_887 : decode cL_law 887 = .ok (.invokevirtual 108, 3) := by decide +kernel
theorem dL_law_890 : decode cL_law 890 = .ok (.aload_n 2, 1) := by decide +kernel
theorem dL_law_891 : decode cL_law 891 = .ok (.invokevirtual 111, 3) := by decide +kernel
theorem dL_law_894 : decode cL_law 894 = .ok (.if_icmp .eq 54, 3) := by decide +kernel
theorem dL_law_897 : decode cL_law 897 = .ok (.iconst 0, 1) := by decide +kernel
theorem dL_law_898 : decode cL_law 898 = .ok (.ireturn, 1) := by decide +kernel
theorem dL_law_899 : decode cL_law 899 = .ok (.aload_n 1, 1) := by decide +kernel
theorem dL_law_900 : decode cL_law 900 = .ok (.aload_n 0, 1) := by decide +kernel
theorem dL_law_901 : decode cL_law 901 = .ok (.iload 4, 2) := by decide +kernel
theorem dL_law_903 : decode cL_law 903 = .ok (.iconst 1, 1) := by decide +kernel
theorem dL_law_904 : decode cL_law 904 = .ok (.iadd, 1) := by decide +kernel
theorem dL_law_905 : decode cL_law 905 = .ok (.iaload, 1) := by decide +kernel
theorem dL_law_906 : decode cL_law 906 = .ok (.aload_n 0, 1) := by decide +kernel
theorem dL_law_907 : decode cL_law 907 = .ok (.iload 4, 2) := by decide +kernel
theorem dL_law_909 : decode cL_law 909 = .ok (.iconst 2, 1) := by decide +kernel
theorem dL_law_910 : decode cL_law 910 = .ok (.iadd, 1) := by decide +kernel
theorem dL_law_911 : decode cL_law 911 = .ok (.iaload, 1) := by decide +kernel
theorem dL_law_912 : decode cL_law 912 = .ok (.aload_n 0, 1) := by decide +kernel
theorem dL_law_913 : decode cL_law 913 = .ok (.iload 4, 2) := by decide +kernel
theorem dL_law_915 : decode cL_law 915 = .ok (.iconst 3, 1) := by decide +kernel
theorem dL_law_916 : decode cL_law 916 = .ok (.iadd, 1) := by decide +kernel
theorem dL_law_917 : decode cL_law 917 = .ok (.iaload, 1) := by decide +kernel
theorem dL_law_918 : decode cL_law 918 = .ok (.invokevirtual 112, 3) := by decide +kernel
theorem dL_law_921 : decode cL_law 921 = .ok (.aload_n 2, 1) := by decide +kernel
theorem dL_law_922 : decode cL_law 922 = .ok (.aload_n 0, 1) := by decide +kernel
theorem dL_law_923 : decode cL_law 923 = .ok (.iload 4, 2) := by decide +kernel
theorem dL_law_925 : decode cL_law 925 = .ok (.iconst 1, 1) := by decide +kernel
theorem dL_law_926 : decode cL_law 926 = .ok (.iadd, 1) := by decide +kernel
theorem dL_law_927 : decode cL_law 927 = .ok (.iaload, 1) := by decide +kernel
theorem dL_law_928 : decode cL_law 928 = .ok (.aload_n 0, 1) := by decide +kernel
theorem dL_law_929 : decode cL_law 929 = .ok (.iload 4, 2) := by decide +kernel
theorem dL_law_931 : decode cL_law 931 = .ok (.iconst 2, 1) := by decide +kernel
theorem dL_law_932 : decode cL_law 932 = .ok (.iadd, 1) := by decide +kernel
theorem dL_law_933 : decode cL_law 933 = .ok (.iaload, 1) := by decide +kernel
theorem dL_law_934 : decode cL_law 934 = .ok (.aload_n 0, 1) := by decide +kernel
theorem dL_law_935 : decode cL_law 935 = .ok (.iload 4, 2) := by decide +kernel
theorem dL_law_937 : decode cL_law 937 = .ok (.iconst 3, 1) := by decide +kernel
theorem dL_law_938 : decode cL_law 938 = .ok (.iadd, 1) := by decide +kernel
theorem dL_law_939 : decode cL_law 939 = .ok (.iaload, 1) := by decide +kernel
theorem dL_law_940 : decode cL_law 940 = .ok (.invokevirtual 115, 3) := by decide +kernel
theorem dL_law_943 : decode cL_law 943 = .ok (.if_icmp .eq 5, 3) := by decide +kernel
theorem dL_law_946 : decode cL_law 946 = .ok (.iconst 0, 1) := by decide +kernel
theorem dL_law_947 : decode cL_law 947 = .ok (.ireturn, 1) := by decide +kernel
theorem dL_law_948 : decode cL_law 948 = .ok (.iinc 4 8, 3) := by decide +kernel
theorem dL_law_951 : decode cL_law 951 = .ok (.goto (-928), 3) := by decide +kernel
theorem dL_law_954 : decode cL_law 954 = .ok (.iconst 1, 1) := by decide +kernel
theorem dL_law_955 : decode cL_law 955 = .ok (.ireturn, 1) := by decide +kernel
